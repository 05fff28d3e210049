/-! the model: what holds while computing goes on, and at its end -/
def m_mx (f : Nat → Nat) : Nat → Nat
  | 0 => 0
  | n + 1 => max (m_mx f n) (f n)
theorem m_mx_cg {f g : Nat → Nat} : ∀ n, (∀ p, p < n → f p = g p) → m_mx f n = m_mx g n := by
  intro n
  induction n with
  | zero => intro _; rfl
  | succ n ih => intro h; simp only [m_mx]; rw [ih (fun p hp => h p (by omega)), h n (by omega)]
theorem m_mx_le {f : Nat → Nat} : ∀ n p, p < n → f p ≤ m_mx f n := by
  intro n
  induction n with
  | zero => intro p hp; omega
  | succ n ih =>
    intro p hp
    simp only [m_mx]
    by_cases e : p = n
    · subst e; exact Nat.le_max_right _ _
    · exact Nat.le_trans (ih p (by omega)) (Nat.le_max_left _ _)
theorem m_mx_up {f : Nat → Nat} {p v : Nat} (hv : f p ≤ v) : ∀ n, p < n → m_mx (nup f p v) n = max (m_mx f n) v := by
  intro n
  induction n with
  | zero => intro h; omega
  | succ n ih =>
    intro h
    simp only [m_mx]
    by_cases e : p = n
    · subst e
      rw [nup_at, m_mx_cg (g := f) p (fun q hq => nup_ne (by omega))]
      omega
    · rw [nup_ne (by omega), ih (by omega)]
      omega
section MR
variable {T : mTr} {n pc gn us : Nat} {K : Nat → mAc} {G : Nat → mGd}
theorem m_grd_V (hT : mTok T) (hG : ∀ j, j < gn → mGok T (G j)) {p : Nat} {s : mSn} (hs : mVs T n K s) : ∀ (m j : Nat) (C : mC), j + m ≤ gn → mCv T n K C → (m_grd T n G p s m j C).1 = 0 → mCv T n K (m_grd T n G p s m j C).2 := by
  intro m
  induction m with
  | zero => intro j C _ h _; exact h
  | succ m ih =>
    intro j C hj h h0
    simp only [m_grd] at h0 ⊢
    by_cases hh : (G j).1 ≤ p ∧ p < (G j).2.1
    · rw [if_pos hh] at h0 ⊢
      by_cases hr : (m_arr T n (decide ((G j).2.2.1 ≤ p)) (G j).2.2.1 (m_cau s (G j).2.2.2) C).1 = 0
      · rw [if_pos hr] at h0 ⊢
        exact ih (j + 1) _ (by omega) (h.arr hT (hs.cau (hG j (by omega)).2.2.2) hr) h0
      · rw [if_neg hr] at h0; exact absurd h0 hr
    · rw [if_neg hh] at h0 ⊢
      exact ih (j + 1) C (by omega) h h0
theorem m_tg_V (hT : mTok T) {p : Nat} {s : mSn} (hs : mVs T n K s) : ∀ (m j : Nat) (r : Nat × mC), (r.1 = 0 → mCv T n K r.2) → (m_tg T n p s m j r).1 = 0 → mCv T n K (m_tg T n p s m j r).2 := by
  intro m
  induction m with
  | zero => intro j r h h0; exact h h0
  | succ m ih =>
    intro j r h h0
    simp only [m_tg] at h0 ⊢
    by_cases hr : r.1 = 0
    · rw [if_pos hr] at h0 ⊢
      exact ih (j + 1) _ (fun g => (h hr).arr hT hs g) h0
    · rw [if_neg hr] at h0; exact absurd h0 hr
theorem m_work_V (hT : mTok T) (hpc : pc ≤ 8) (hK : ∀ p, p < n → mAok T (K p)) (hG : ∀ j, j < gn → mGok T (G j)) {p : Nat} (hp : p < n) {C : mC} (h : mCv T n K C) (hr : C.1 p = true) (h0 : (m_work T pc n K gn G p C).1 = 0) : mCv T n K (m_work T pc n K gn G p C).2 := by
  have hs := h p hp hr
  unfold m_work at h0 ⊢
  by_cases c1 : (m_wg T n gn G p C).1 = 0
  · rw [if_pos c1] at h0 ⊢
    have hg : mCv T n K (m_wg T n gn G p C).2 := m_grd_V hT hG hs gn 0 (C.1, nup C.2.1 p false, C.2.2) (by omega) h c1
    by_cases c2 : (m_wd T pc n K p (C.2.2 p)).1 = 0
    · rw [if_pos c2] at h0 ⊢
      have hv := mVr.wd hT hpc hp (hK p hp) hs c2
      unfold m_on at h0 ⊢
      refine m_tg_V hT hv _ _ _ (fun g => ?_) h0
      by_cases q : m_goes (K p).1 = true
      · rw [if_pos q] at g ⊢; exact hg.arr hT hv g
      · rw [if_neg q]; exact hg
    · rw [if_neg c2] at h0; exact absurd h0 c2
  · rw [if_neg c1] at h0; exact absurd h0 c1
def mMx (T : mTr) (pc n : Nat) (K : Nat → mAc) (us : Nat) (R : mR) : Prop := ∃ (W : Nat → Bool) (L : Nat → mSn), (∀ p, p < n → W p = true → R.2.2.1 p = true ∧ (m_wd T pc n K p (L p)).1 = 0 ∧ mRl (L p) (R.2.2.2.2 p) ∧ mVs T n K (L p)) ∧ (∀ p, p < n → R.2.2.1 p = true → R.2.2.2.1 p = false → W p = true ∧ mEq (L p) (R.2.2.2.2 p)) ∧ R.1 = m_mx (fun p => if W p = true then max (m_w (L p)) (m_w (m_wd T pc n K p (L p)).2) else 0) n ∧ R.2.1 = max us (m_mx (fun p => if W p = true then m_up (K p) (m_wd T pc n K p (L p)).2 else 0) n)
def mRi (T : mTr) (pc n : Nat) (K : Nat → mAc) (gn : Nat) (G : Nat → mGd) (us : Nat) (R : mR) : Prop := mI n R.2.2 ∧ mCv T n K R.2.2 ∧ (∀ p, p < n → R.2.2.1 p = true → R.2.2.2.1 p = false → mSc n K gn G R.2.2.1 p) ∧ mMx T pc n K us R
theorem mRi.nx (hT : mTok T) (hpc : pc ≤ 8) (hK : ∀ p, p < n → mAok T (K p)) (hG : ∀ j, j < gn → mGok T (G j)) {R : mR} (h : mRi T pc n K gn G us R) {p : Nat} (hp : p < n) (hd : R.2.2.2.1 p = true) (h0 : (m_work T pc n K gn G p R.2.2).1 = 0) : mRi T pc n K gn G us (m_nx T pc n K gn G p R) := by
  obtain ⟨i1, i2, i3, W, L, l1, l2, l3, l4⟩ := h
  have hr : R.2.2.1 p = true := (i1 p hp).1 hd
  have hs := i2 p hp hr
  obtain ⟨ge, sc, wd0⟩ := m_work_ge h0
  have hI := (m_work_ph hT hp i1 hd (m_wd_h i1 hp hr) h0).2
  have hV := m_work_V hT hpc hK hG hp i2 hr h0
  generalize hC' : (m_work T pc n K gn G p R.2.2).2 = C' at ge sc hI hV
  have hnx : m_nx T pc n K gn G p R = (max (max R.1 (m_w (R.2.2.2.2 p))) (m_w (m_wd T pc n K p (R.2.2.2.2 p)).2), max R.2.1 (m_up (K p) (m_wd T pc n K p (R.2.2.2.2 p)).2), C') := by unfold m_nx; rw [hC']
  rw [hnx]
  have rel : ∀ q, R.2.2.1 q = true → C'.1 q = true ∧ mRl (R.2.2.2.2 q) (C'.2.2 q) := fun q hq => ⟨((ge q).1 hq).1, ((ge q).1 hq).2.1⟩
  refine ⟨hI, hV, fun q hq rq dq => ?_, nup W p true, nup L p (R.2.2.2.2 p), fun q hq hw => ?_, fun q hq rq dq => ?_, ?_, ?_⟩
  · by_cases e : q = p
    · subst e; exact sc
    · obtain ⟨d1, d2⟩ := (ge q).2 dq
      have d1' : nup R.2.2.2.1 p false q = false := d1
      rw [nup_ne e] at d1'
      have rq' : R.2.2.1 q = true := by
        have : C'.1 q = R.2.2.1 q := d2
        rw [← this]; exact rq
      obtain ⟨s1, s2, s3⟩ := i3 q hq rq' d1'
      exact ⟨fun g => ⟨(s1 g).1, (rel _ (s1 g).2).1⟩, fun y hy => ⟨(s2 y hy).1, (rel _ (s2 y hy).2).1⟩, fun j hj hh => ⟨(s3 j hj hh).1, (rel _ (s3 j hj hh).2).1⟩⟩
  · show C'.1 q = true ∧ (m_wd T pc n K q (nup L p (R.2.2.2.2 p) q)).1 = 0 ∧ mRl (nup L p (R.2.2.2.2 p) q) (C'.2.2 q) ∧ mVs T n K (nup L p (R.2.2.2.2 p) q)
    by_cases e : q = p
    · subst e
      rw [nup_at]; exact ⟨(rel q hr).1, wd0, (rel q hr).2, hs⟩
    · rw [nup_ne e] at hw ⊢
      obtain ⟨a1, a2, a3, a4⟩ := l1 q hq hw
      exact ⟨(rel q a1).1, a2, a3.tr (rel q a1).2, a4⟩
  · show nup W p true q = true ∧ mEq (nup L p (R.2.2.2.2 p) q) (C'.2.2 q)
    have dq' : C'.2.1 q = false := dq
    by_cases e : q = p
    · subst e
      rw [nup_at, nup_at]; exact ⟨rfl, ((ge q).1 hr).2.2 dq'⟩
    · obtain ⟨d1, d2⟩ := (ge q).2 dq'
      have d1' : nup R.2.2.2.1 p false q = false := d1
      rw [nup_ne e] at d1'
      have rq' : R.2.2.1 q = true := by
        have : C'.1 q = R.2.2.1 q := d2
        rw [← this]; exact rq
      obtain ⟨b1, b2⟩ := l2 q hq rq' d1'
      rw [nup_ne e, nup_ne e]
      exact ⟨b1, b2.tr (((ge q).1 rq').2.2 dq')⟩
  · show max (max R.1 (m_w (R.2.2.2.2 p))) (m_w (m_wd T pc n K p (R.2.2.2.2 p)).2) = _
    have ef : (fun q => if nup W p true q = true then max (m_w (nup L p (R.2.2.2.2 p) q)) (m_w (m_wd T pc n K q (nup L p (R.2.2.2.2 p) q)).2) else 0) = nup (fun q => if W q = true then max (m_w (L q)) (m_w (m_wd T pc n K q (L q)).2) else 0) p (max (m_w (R.2.2.2.2 p)) (m_w (m_wd T pc n K p (R.2.2.2.2 p)).2)) := by
      funext q
      by_cases e : q = p
      · subst e; rw [nup_at, nup_at, nup_at, if_pos rfl]
      · rw [nup_ne e, nup_ne e, nup_ne e]
    rw [ef, m_mx_up _ n hp, ← l3]
    · omega
    · show (if W p = true then max (m_w (L p)) (m_w (m_wd T pc n K p (L p)).2) else 0) ≤ _
      by_cases hw : W p = true
      · obtain ⟨a1, a2, a3, a4⟩ := l1 p hp hw
        rw [if_pos hw, (m_wd_rl hT hpc (hK p hp) a3 a4 hs a2 wd0).1, a3.1.w]
        exact Nat.le_refl _
      · rw [if_neg hw]; omega
  · show max R.2.1 (m_up (K p) (m_wd T pc n K p (R.2.2.2.2 p)).2) = _
    have ef : (fun q => if nup W p true q = true then m_up (K q) (m_wd T pc n K q (nup L p (R.2.2.2.2 p) q)).2 else 0) = nup (fun q => if W q = true then m_up (K q) (m_wd T pc n K q (L q)).2 else 0) p (m_up (K p) (m_wd T pc n K p (R.2.2.2.2 p)).2) := by
      funext q
      by_cases e : q = p
      · subst e; rw [nup_at, nup_at, nup_at, if_pos rfl]
      · rw [nup_ne e, nup_ne e, nup_ne e]
    rw [ef, m_mx_up _ n hp, l4]
    · omega
    · show (if W p = true then m_up (K p) (m_wd T pc n K p (L p)).2 else 0) ≤ _
      by_cases hw : W p = true
      · obtain ⟨a1, a2, a3, a4⟩ := l1 p hp hw
        rw [if_pos hw, (m_wd_rl hT hpc (hK p hp) a3 a4 hs a2 wd0).2]
        exact Nat.le_refl _
      · rw [if_neg hw]; omega
theorem mRi.run (hT : mTok T) (hpc : pc ≤ 8) (hK : ∀ p, p < n → mAok T (K p)) (hG : ∀ j, j < gn → mGok T (G j)) : ∀ (f : Nat) (R : mR) (r : Nat × Nat × mR), mRi T pc n K gn G us R → m_run T pc n K gn G f R = some r → r.1 = 0 → mRi T pc n K gn G us r.2.2 ∧ ∀ p, p < n → r.2.2.2.2.2.1 p = false := by
  intro f
  induction f with
  | zero => intro R r _ h; cases h
  | succ f ih =>
    intro R r hR h h0
    simp only [m_run] at h
    cases hl : m_ld R.2.2.2.1 n 0 with
    | none =>
      rw [hl] at h
      have e : (0, 0, R) = r := Option.some.inj h
      subst e
      exact ⟨hR, fun p hp => m_ld_none n 0 hl p (by omega) (by omega)⟩
    | some p =>
      obtain ⟨_, q1, q2⟩ := m_ld_some n 0 p hl
      rw [hl, ob2_mk rfl] at h
      by_cases hw : (m_work T pc n K gn G p R.2.2).1 = 0
      · rw [if_pos hw] at h
        exact ih _ r (hR.nx hT hpc hK hG (by omega) q2 hw) h h0
      · rw [if_neg hw] at h
        have e := Option.some.inj h
        subst e
        exact absurd h0 hw
/-- at the end: every reached act leads to reached ones; the maxima are those of the states as they are -/
def mFn (T : mTr) (pc n : Nat) (K : Nat → mAc) (gn : Nat) (G : Nat → mGd) (us : Nat) (R : mR) : Prop := mCv T n K R.2.2 ∧ (∀ p, p < n → R.2.2.1 p = true → mSc n K gn G R.2.2.1 p) ∧ ∃ L : Nat → mSn, (∀ p, p < n → R.2.2.1 p = true → (m_wd T pc n K p (L p)).1 = 0 ∧ mEq (L p) (R.2.2.2.2 p) ∧ mVs T n K (L p)) ∧ R.1 = m_mx (fun p => if R.2.2.1 p = true then max (m_w (L p)) (m_w (m_wd T pc n K p (L p)).2) else 0) n ∧ R.2.1 = max us (m_mx (fun p => if R.2.2.1 p = true then m_up (K p) (m_wd T pc n K p (L p)).2 else 0) n)
theorem mRi.fin {R : mR} (h : mRi T pc n K gn G us R) (hd : ∀ p, p < n → R.2.2.2.1 p = false) : mFn T pc n K gn G us R := by
  obtain ⟨i1, i2, i3, W, L, l1, l2, l3, l4⟩ := h
  have ew : ∀ p, p < n → W p = R.2.2.1 p := fun p hp => by
    cases hr : R.2.2.1 p
    · cases hw : W p
      · rfl
      · have := (l1 p hp hw).1
        rw [hr] at this; cases this
    · exact (l2 p hp hr (hd p hp)).1
  refine ⟨i2, fun p hp hr => i3 p hp hr (hd p hp), L, fun p hp hr => ?_, ?_, ?_⟩
  · have hw := (l2 p hp hr (hd p hp))
    obtain ⟨a1, a2, a3, a4⟩ := l1 p hp hw.1
    exact ⟨a2, hw.2, a4⟩
  · rw [l3]
    exact m_mx_cg n (fun p hp => by rw [ew p hp])
  · rw [l4]
    congr 1
    exact m_mx_cg n (fun p hp => by rw [ew p hp])
theorem mRi.c0 {bg : mSn} (hb : mVs T n K bg) : mRi T pc n K gn G us (0, us, m_c0 bg) := by
  have hc : ∀ p, (m_c0 bg).1 p = true → p = 0 := fun p h => by
    by_cases e : p = 0
    · exact e
    · have h' : nup (fun _ => false) 0 true p = true := h
      rw [nup_ne e] at h'; cases h'
  have hst : ∀ p, (m_c0 bg).2.2 p = bg := fun p => by
    show nup (fun _ => bg) 0 bg p = bg
    by_cases e : p = 0
    · subst e; rw [nup_at]
    · rw [nup_ne e]
  refine ⟨m_c0_I hb.h, fun p hp _ => by rw [hst]; exact hb, fun p hp hr hd => ?_, fun _ => false, fun _ => bg, fun p _ hw => absurd hw (show ¬ false = true by decide), fun p hp hr hd => ?_, ?_, ?_⟩
  · have e := hc p hr
    subst e
    have : nup (fun _ => false) 0 true 0 = false := hd
    rw [nup_at] at this; cases this
  · have e := hc p hr
    subst e
    have : nup (fun _ => false) 0 true 0 = false := hd
    rw [nup_at] at this; cases this
  · show 0 = m_mx (fun p => if false = true then _ else 0) n
    have : ∀ n, m_mx (fun _ => 0) n = 0 := by
      intro n
      induction n with
      | zero => rfl
      | succ n ih => simp only [m_mx]; rw [ih]; rfl
    rw [m_mx_cg (g := fun _ => 0) n (fun p _ => by rw [if_neg (by decide)]), this]
  · show us = max us (m_mx (fun p => if false = true then _ else 0) n)
    have : ∀ n, m_mx (fun _ => 0) n = 0 := by
      intro n
      induction n with
      | zero => rfl
      | succ n ih => simp only [m_mx]; rw [ih]; rfl
    rw [m_mx_cg (g := fun _ => 0) n (fun p _ => by rw [if_neg (by decide)]), this]
    omega
end MR
