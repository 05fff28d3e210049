/-! the model: where computing leads to is reached; what was noted stays -/
def mHw (s s' : mSn) : Prop := s.2.1 = s'.2.1 ∧ ∀ j, j < s.2.1 → (s.2.2 j = 2 ↔ s'.2.2 j = 2)
def mRl (s s' : mSn) : Prop := mHw s s' ∧ ∀ x, x < 8 → s'.1 x ≠ 0 → (s.1 x ≠ 0 ∧ (s.1 x = 2 ↔ s'.1 x = 2))
def mEq (s s' : mSn) : Prop := s.2.1 = s'.2.1 ∧ (∀ x, x < 8 → s.1 x = s'.1 x) ∧ ∀ j, j < s.2.1 → s.2.2 j = s'.2.2 j
theorem mHw.rf {s : mSn} : mHw s s := ⟨rfl, fun _ _ => Iff.rfl⟩
theorem mHw.tr {s s1 s2 : mSn} (h : mHw s s1) (g : mHw s1 s2) : mHw s s2 := ⟨h.1.trans g.1, fun j hj => (h.2 j hj).trans (g.2 j (by rw [← h.1]; exact hj))⟩
theorem mRl.rf {s : mSn} : mRl s s := ⟨mHw.rf, fun _ _ h => ⟨h, Iff.rfl⟩⟩
theorem mRl.tr {s s1 s2 : mSn} (h : mRl s s1) (g : mRl s1 s2) : mRl s s2 := ⟨h.1.tr g.1, fun x hx h0 => by
  obtain ⟨a1, a2⟩ := g.2 x hx h0
  obtain ⟨b1, b2⟩ := h.2 x hx a1
  exact ⟨b1, b2.trans a2⟩⟩
theorem mEq.rf {s : mSn} : mEq s s := ⟨rfl, fun _ _ => rfl, fun _ _ => rfl⟩
theorem mEq.tr {s s1 s2 : mSn} (h : mEq s s1) (g : mEq s1 s2) : mEq s s2 := ⟨h.1.trans g.1, fun x hx => (h.2.1 x hx).trans (g.2.1 x hx), fun j hj => (h.2.2 j hj).trans (g.2.2 j (by rw [← h.1]; exact hj))⟩
theorem mHw.w {s s' : mSn} (h : mHw s s') : m_w s = m_w s' := by
  unfold m_w
  rw [← h.1]
  have e : ∀ k, k ≤ s.2.1 → m_wt s.2.2 k = m_wt s'.2.2 k := by
    intro k
    induction k with
    | zero => intro _; rfl
    | succ k ih =>
      intro hk
      simp only [m_wt]
      rw [ih (by omega)]
      congr 1
      unfold m_t
      by_cases g : s.2.2 k = 2
      · rw [if_pos g, if_pos ((h.2 k (by omega)).mp g)]
      · rw [if_neg g, if_neg (fun q => g ((h.2 k (by omega)).mpr q))]
  exact e _ (Nat.le_refl _)
def mHr (r r' : Nat × mSn) : Prop := r.1 = 0 → r'.1 = 0 → mHw r.2 r'.2
theorem mHr.bd {r r' : Nat × mSn} {f f' : mSn → Nat × mSn} (h : mHr r r') (g : ∀ s s', mHw s s' → mHr (f s) (f' s')) : mHr (m_bd r f) (m_bd r' f') := by
  unfold m_bd
  by_cases h1 : r.1 = 0
  · rw [if_pos h1]
    by_cases h2 : r'.1 = 0
    · rw [if_pos h2]; exact g _ _ (h h1 h2)
    · rw [if_neg h2]; exact fun _ q => absurd q h2
  · rw [if_neg h1]; exact fun q => absurd q h1
theorem mHw.dn {s s' : mSn} (h : mHw s s') : mHw (s.1, s.2.1 - 1, s.2.2) (s'.1, s'.2.1 - 1, s'.2.2) := ⟨by show s.2.1 - 1 = s'.2.1 - 1; rw [h.1], fun j hj => h.2 j (Nat.lt_of_lt_of_le hj (Nat.sub_le _ _))⟩
theorem mHr.take {s s' : mSn} (h : mHw s s') (t : Nat) : mHr (m_take s t) (m_take s' t) := by
  unfold m_take
  split
  · exact fun q => absurd q (by show ¬ 1 = 0; omega)
  · split
    · split
      · exact fun _ q => absurd q (by show ¬ 1 = 0; omega)
      · split
        · exact fun _ _ => h.dn
        · exact fun _ q => absurd q (by show ¬ 2 = 0; omega)
    · exact fun q => absurd q (by show ¬ 2 = 0; omega)
theorem mHr.takeO {T : mTr} {s s' : mSn} (h : mHw s s') (t : Nat) : mHr (m_takeO T s t) (m_takeO T s' t) := by
  unfold m_takeO
  split
  · exact fun q => absurd q (by show ¬ 1 = 0; omega)
  · split
    · split
      · exact fun _ q => absurd q (by show ¬ 1 = 0; omega)
      · split
        · exact fun _ _ => h.dn
        · exact fun _ q => absurd q (by show ¬ 2 = 0; omega)
    · exact fun q => absurd q (by show ¬ 2 = 0; omega)
theorem mHr.push {s s' : mSn} (h : mHw s s') {t t' : Nat} (ht : t = 2 ↔ t' = 2) : mHr (m_push s t) (m_push s' t') := by
  unfold m_push
  split
  · exact fun q => absurd q (by show ¬ 3 = 0; omega)
  · split
    · exact fun _ q => absurd q (by show ¬ 3 = 0; omega)
    · refine fun _ _ => ⟨by show s.2.1 + 1 = s'.2.1 + 1; rw [h.1], fun j hj => ?_⟩
      have hj' : j < s.2.1 + 1 := hj
      show nup s.2.2 s.2.1 t j = 2 ↔ nup s'.2.2 s'.2.1 t' j = 2
      rw [← h.1]
      by_cases e : j = s.2.1
      · subst e; rw [nup_at, nup_at]; exact ht
      · rw [nup_ne e, nup_ne e]; exact h.2 j (by omega)
theorem m_sto_a {pl : Nat → Nat} {a t : Nat} : m_sto pl a t a = t := by
  unfold m_sto
  split
  · rename_i h; rw [nup_at, h]
  · rw [nup_at]
section ME
variable {T : mTr} {n pc gn : Nat} {K : Nat → mAc} {G : Nat → mGd}
theorem m_wd_rl {p : Nat} {s s' : mSn} (hT : mTok T) (hpc : pc ≤ 8) (ok : mAok T (K p)) (h : mRl s s') (v : mVs T n K s) (v' : mVs T n K s') (h0 : (m_wd T pc n K p s).1 = 0) (h0' : (m_wd T pc n K p s').1 = 0) : m_w (m_wd T pc n K p s).2 = m_w (m_wd T pc n K p s').2 ∧ m_up (K p) (m_wd T pc n K p s).2 = m_up (K p) (m_wd T pc n K p s').2 := by
  have key : mHw (m_wd T pc n K p s).2 (m_wd T pc n K p s').2 ∧ m_up (K p) (m_wd T pc n K p s).2 = m_up (K p) (m_wd T pc n K p s').2 := by
    obtain ⟨o1, o2, o3, o4⟩ := ok
    unfold m_wd m_up at *
    generalize m_ta (K p) = a at *
    generalize (K p).1 = k at *
    have pop : s.2.1 ≠ 0 → s'.2.1 ≠ 0 → (s.2.2 (s.2.1 - 1) = 2 ↔ s'.2.2 (s'.2.1 - 1) = 2) := fun g _ => by rw [← h.1.1]; exact h.1.2 _ (by omega)
    have un : ¬ (k = 3 ∨ k = 4 ∨ k = 20) → ∀ r r' : mSn, (if k = 3 ∨ k = 4 ∨ k = 20 then a + 1 + (if r.1 a = 2 then 1 else 0) else 0) = (if k = 3 ∨ k = 4 ∨ k = 20 then a + 1 + (if r'.1 a = 2 then 1 else 0) else 0) := fun g r r' => by rw [if_neg g, if_neg g]
    have : k = 0 ∨ k = 1 ∨ k = 2 ∨ k = 3 ∨ k = 4 ∨ k = 5 ∨ k = 6 ∨ k = 7 ∨ k = 8 ∨ k = 9 ∨ k = 10 ∨ k = 11 ∨ k = 12 ∨ k = 13 ∨ k = 14 ∨ k = 15 ∨ k = 16 ∨ k = 17 ∨ k = 18 ∨ k = 19 ∨ k = 20 := by omega
    rcases this with rfl | rfl | rfl | rfl | rfl | rfl | rfl | rfl | rfl | rfl | rfl | rfl | rfl | rfl | rfl | rfl | rfl | rfl | rfl | rfl | rfl
    · exact ⟨mHr.push h.1 Iff.rfl h0 h0', un (by decide) _ _⟩
    · exact ⟨mHr.push h.1 Iff.rfl h0 h0', un (by decide) _ _⟩
    · exact ⟨mHr.push h.1 Iff.rfl h0 h0', un (by decide) _ _⟩
    · have e : ∀ q : mSn, m_do T pc n K 3 a p q = m_load pc a q := fun _ => rfl
      rw [e] at h0 h0' ⊢
      rw [e]
      unfold m_load at h0 h0' ⊢
      by_cases c : ¬ a < pc ∨ s.1 a = 0 ∨ s.1 a = 3
      · rw [if_pos c] at h0; exact absurd h0 (by show ¬ 7 = 0; omega)
      · by_cases c' : ¬ a < pc ∨ s'.1 a = 0 ∨ s'.1 a = 3
        · rw [if_pos c'] at h0'; exact absurd h0' (by show ¬ 7 = 0; omega)
        · rw [if_neg c] at h0 ⊢
          rw [if_neg c'] at h0' ⊢
          have hw := (h.2 a (by omega) (by omega)).2
          refine ⟨mHr.push h.1 hw h0 h0', ?_⟩
          have pl : ∀ (q : mSn) t, (m_push q t).2.1 = q.1 := fun q t => by unfold m_push; split <;> rfl
          rw [pl, pl, if_pos (show 3 = 3 ∨ 3 = 4 ∨ 3 = 20 by decide), if_pos (show 3 = 3 ∨ 3 = 4 ∨ 3 = 20 by decide)]
          by_cases g : s.1 a = 2
          · rw [if_pos g, if_pos (hw.mp g)]
          · rw [if_neg g, if_neg (fun q => g (hw.mpr q))]
    · have e : ∀ q : mSn, m_do T pc n K 4 a p q = m_store pc a q := fun _ => rfl
      rw [e] at h0 h0' ⊢
      rw [e]
      have S : ∀ q : mSn, (m_store pc a q).1 = 0 → q.2.1 ≠ 0 ∧ (m_store pc a q).2 = (m_sto q.1 a (q.2.2 (q.2.1 - 1)), q.2.1 - 1, q.2.2) := fun q g => by
        unfold m_store at g ⊢
        by_cases c1 : ¬ a < pc
        · rw [if_pos c1] at g; exact absurd g (by show ¬ 7 = 0; omega)
        · rw [if_neg c1] at g ⊢
          by_cases c2 : q.2.1 = 0
          · rw [if_pos c2] at g; exact absurd g (by show ¬ 1 = 0; omega)
          · rw [if_neg c2] at g ⊢
            by_cases c3 : q.2.2 (q.2.1 - 1) = 2 ∧ ¬ a + 1 < pc
            · rw [if_pos c3] at g; exact absurd g (by show ¬ 7 = 0; omega)
            · rw [if_neg c3]; exact ⟨c2, rfl⟩
      obtain ⟨a1, a2⟩ := S s h0
      obtain ⟨b1, b2⟩ := S s' h0'
      rw [a2, b2]
      refine ⟨h.1.dn, ?_⟩
      rw [if_pos (show 4 = 3 ∨ 4 = 4 ∨ 4 = 20 by decide), if_pos (show 4 = 3 ∨ 4 = 4 ∨ 4 = 20 by decide)]
      show a + 1 + (if m_sto s.1 a (s.2.2 (s.2.1 - 1)) a = 2 then 1 else 0) = a + 1 + (if m_sto s'.1 a (s'.2.2 (s'.2.1 - 1)) a = 2 then 1 else 0)
      rw [m_sto_a, m_sto_a]
      have hw := pop a1 b1
      by_cases g : s.2.2 (s.2.1 - 1) = 2
      · rw [if_pos g, if_pos (hw.mp g)]
      · rw [if_neg g, if_neg (fun q => g (hw.mpr q))]
    · have e : ∀ q : mSn, m_do T pc n K 5 a p q = if q.2.1 = 0 then (1, q) else (0, q.1, q.2.1 - 1, q.2.2) := fun _ => rfl
      rw [e] at h0 h0' ⊢
      rw [e]
      refine ⟨?_, un (by decide) _ _⟩
      by_cases c : s.2.1 = 0
      · rw [if_pos c] at h0; exact absurd h0 (by show ¬ 1 = 0; omega)
      · rw [if_neg c, if_neg (by rw [← h.1.1]; exact c)]; exact h.1.dn
    · have e : ∀ q : mSn, m_do T pc n K 6 a p q = if q.2.1 = 0 then (1, q) else m_push q (q.2.2 (q.2.1 - 1)) := fun _ => rfl
      rw [e] at h0 h0' ⊢
      rw [e]
      refine ⟨?_, un (by decide) _ _⟩
      by_cases c : s.2.1 = 0
      · rw [if_pos c] at h0; exact absurd h0 (by show ¬ 1 = 0; omega)
      · have c' : ¬ s'.2.1 = 0 := by rw [← h.1.1]; exact c
        rw [if_neg c] at h0 ⊢
        rw [if_neg c'] at h0' ⊢
        exact mHr.push h.1 (pop c c') h0 h0'
    · exact ⟨((mHr.take h.1 1).bd (fun s s' h => (mHr.take h 1).bd (fun s s' h => mHr.push h Iff.rfl))) h0 h0', un (by decide) _ _⟩
    · exact ⟨((mHr.take h.1 2).bd (fun s s' h => (mHr.take h 2).bd (fun s s' h => mHr.push h Iff.rfl))) h0 h0', un (by decide) _ _⟩
    · exact ⟨mHr.push h.1 Iff.rfl h0 h0', un (by decide) _ _⟩
    · have e : ∀ q : mSn, m_do T pc n K 10 a p q = m_make n K a q := fun _ => rfl
      rw [e] at h0 h0' ⊢
      rw [e]
      refine ⟨?_, un (by decide) _ _⟩
      have S : ∀ q : mSn, (m_make n K a q).1 = 0 → 100 ≤ q.2.2 (q.2.1 - 1) ∧ (m_make n K a q).2 = m_rep (q.1, q.2.1 - 1, q.2.2) (q.2.2 (q.2.1 - 1)) (10 + a) := fun q g => by
        unfold m_make at g ⊢
        by_cases c1 : q.2.1 = 0
        · rw [if_pos c1] at g; exact absurd g (by show ¬ 1 = 0; omega)
        · rw [if_neg c1] at g ⊢
          by_cases c2 : m_ump n K (q.2.2 (q.2.1 - 1)) a = true
          · rw [if_pos c2]; exact ⟨(of_decide_eq_true c2).1, rfl⟩
          · rw [if_neg c2] at g; exact absurd g (by show ¬ 2 = 0; omega)
      obtain ⟨a1, a2⟩ := S s h0
      obtain ⟨b1, b2⟩ := S s' h0'
      rw [a2, b2]
      refine ⟨h.1.dn.1, fun j hj => ?_⟩
      show (if s.2.2 j = s.2.2 (s.2.1 - 1) then 10 + a else s.2.2 j) = 2 ↔ (if s'.2.2 j = s'.2.2 (s'.2.1 - 1) then 10 + a else s'.2.2 j) = 2
      have hjj := h.1.dn.2 j hj
      have hjj' : s.2.2 j = 2 ↔ s'.2.2 j = 2 := hjj
      have l : ∀ v t : Nat, 100 ≤ t → ((if v = t then 10 + a else v) = 2 ↔ v = 2) := fun v t ht => by
        by_cases q : v = t
        · rw [if_pos q]; omega
        · rw [if_neg q]
      rw [l _ _ a1, l _ _ b1]; exact hjj'
    · exact ⟨((mHr.takeO h.1 _).bd (fun s s' h => mHr.push h Iff.rfl)) h0 h0', un (by decide) _ _⟩
    · exact ⟨((mHr.take h.1 1).bd (fun s s' h => (mHr.takeO h _).bd (fun s s' h => mHr.push h Iff.rfl))) h0 h0', un (by decide) _ _⟩
    · exact ⟨((mHr.takeO h.1 0).bd (fun s s' h => mHr.push h Iff.rfl)) h0 h0', un (by decide) _ _⟩
    · exact ⟨h.1, un (by decide) _ _⟩
    · exact ⟨mHr.take h.1 1 h0 h0', un (by decide) _ _⟩
    · exact ⟨mHr.take h.1 1 h0 h0', un (by decide) _ _⟩
    · exact ⟨mHr.take h.1 1 h0 h0', un (by decide) _ _⟩
    · exact ⟨mHr.takeO h.1 _ h0 h0', un (by decide) _ _⟩
    · exact ⟨mHr.takeO h.1 _ h0 h0', un (by decide) _ _⟩
    · have e : ∀ q : mSn, m_do T pc n K 20 a p q = m_more pc a q := fun _ => rfl
      rw [e] at h0 h0' ⊢
      rw [e]
      have S : ∀ q : mSn, (m_more pc a q).1 = 0 → q.1 a = 1 ∧ (m_more pc a q).2 = q := fun q g => by
        unfold m_more at g ⊢
        by_cases c : a < pc ∧ q.1 a = 1
        · rw [if_pos c]; exact ⟨c.2, rfl⟩
        · rw [if_neg c] at g; exact absurd g (by show ¬ 7 = 0; omega)
      obtain ⟨a1, a2⟩ := S s h0
      obtain ⟨b1, b2⟩ := S s' h0'
      rw [a2, b2, a1, b1]
      exact ⟨h.1, rfl⟩
  exact ⟨key.1.w, key.2⟩
/-- C' comes out of C by arrivals -/
def mGe (C C' : mC) : Prop := ∀ q, (C.1 q = true → C'.1 q = true ∧ mRl (C.2.2 q) (C'.2.2 q) ∧ (C'.2.1 q = false → mEq (C.2.2 q) (C'.2.2 q))) ∧ (C'.2.1 q = false → C.2.1 q = false ∧ C'.1 q = C.1 q)
theorem mGe.rf {C : mC} : mGe C C := fun q => ⟨fun h => ⟨h, mRl.rf, fun _ => mEq.rf⟩, fun h => ⟨h, rfl⟩⟩
theorem mGe.tr {C C1 C2 : mC} (h : mGe C C1) (g : mGe C1 C2) : mGe C C2 := fun q => ⟨fun r => by
  obtain ⟨a1, a2, a3⟩ := (h q).1 r
  obtain ⟨b1, b2, b3⟩ := (g q).1 a1
  exact ⟨b1, a2.tr b2, fun d => (a3 ((g q).2 d).1).tr (b3 d)⟩, fun d => by
  obtain ⟨b1, b2⟩ := (g q).2 d
  obtain ⟨a1, a2⟩ := (h q).2 b1
  exact ⟨a1, b2.trans a2⟩⟩
theorem m_jn_rl {o s : mSn} (he : o.2.1 = s.2.1) (hb : m_bad T o s = false) : mRl o (m_jn T o s) := by
  have hb' := anyN_f.mp hb
  have hnz : ∀ j, j < s.2.1 → m_join T (o.2.2 j) (s.2.2 j) ≠ 0 := fun j hj => of_decide_eq_false (hb' j hj)
  refine ⟨⟨he, fun j hj => ((m_join_c _ _ (hnz j (by rw [← he]; exact hj))).1).symm⟩, fun x hx h0 => ⟨fun g => h0 ?_, ((m_join_c _ _ h0).1).symm⟩⟩
  show m_join T (o.1 x) (s.1 x) = 0
  rw [g]; unfold m_join
  by_cases e : 0 = s.1 x
  · rw [if_pos e]
  · rw [if_neg e, if_neg (by omega), if_neg (by omega), if_neg (by omega)]
theorem m_jn_eq {o s : mSn} (he : o.2.1 = s.2.1) (hc : m_chg T o s = false) : mEq o (m_jn T o s) := by
  unfold m_chg at hc
  rw [Bool.or_eq_false_iff] at hc
  refine ⟨he, fun x hx => ?_, fun j hj => ?_⟩
  · have := of_decide_eq_false (anyN_f.mp hc.2 x hx)
    exact (Decidable.of_not_not this).symm
  · have := of_decide_eq_false (anyN_f.mp hc.1 j (by rw [← he]; exact hj))
    exact (Decidable.of_not_not this).symm
theorem m_arr_ge {C : mC} {chk : Bool} {a : Nat} {s : mSn} (h0 : (m_arr T n chk a s C).1 = 0) : mGe C (m_arr T n chk a s C).2 ∧ a < n ∧ (m_arr T n chk a s C).2.1 a = true := by
  unfold m_arr at h0 ⊢
  by_cases c1 : ¬ a < n
  · rw [if_pos c1] at h0; exact absurd h0 (by show ¬ 5 = 0; omega)
  · rw [if_neg c1] at h0 ⊢
    by_cases c2 : (chk && m_unm s) = true
    · rw [if_pos c2] at h0; exact absurd h0 (by show ¬ 6 = 0; omega)
    · rw [if_neg c2] at h0 ⊢
      by_cases c3 : C.1 a = false
      · rw [if_pos c3]
        refine ⟨fun q => ⟨fun r => ?_, fun d => ?_⟩, by omega, nup_at _ _ _⟩
        · have hq : q ≠ a := fun e => by rw [e, c3] at r; cases r
          show nup C.1 a true q = true ∧ mRl (C.2.2 q) (nup C.2.2 a s q) ∧ (_ → mEq (C.2.2 q) (nup C.2.2 a s q))
          rw [nup_ne hq, nup_ne hq]; exact ⟨r, mRl.rf, fun _ => mEq.rf⟩
        · have d' : nup C.2.1 a true q = false := d
          have hq : q ≠ a := fun e => by rw [e, nup_at] at d'; cases d'
          rw [nup_ne hq] at d'
          exact ⟨d', nup_ne hq⟩
      · rw [if_neg c3] at h0 ⊢
        have c3' : C.1 a = true := by cases hq : C.1 a; exact absurd hq c3; rfl
        by_cases c4 : (C.2.2 a).2.1 ≠ s.2.1
        · rw [if_pos c4] at h0; exact absurd h0 (by show ¬ 4 = 0; omega)
        · rw [if_neg c4] at h0 ⊢
          by_cases c5 : m_bad T (C.2.2 a) s = true
          · rw [if_pos c5] at h0; exact absurd h0 (by show ¬ 2 = 0; omega)
          · rw [if_neg c5]
            have he := Decidable.of_not_not c4
            have hb : m_bad T (C.2.2 a) s = false := by cases hq : m_bad T (C.2.2 a) s; rfl; exact absurd hq c5
            refine ⟨fun q => ⟨fun r => ?_, fun d => ?_⟩, by omega, c3'⟩
            · show C.1 q = true ∧ mRl (C.2.2 q) (nup C.2.2 a (m_jn T (C.2.2 a) s) q) ∧ (nup C.2.1 a (C.2.1 a || m_chg T (C.2.2 a) s) q = false → mEq (C.2.2 q) (nup C.2.2 a (m_jn T (C.2.2 a) s) q))
              by_cases e : q = a
              · subst e
                rw [nup_at, nup_at]
                exact ⟨r, m_jn_rl he hb, fun g => m_jn_eq he (Bool.or_eq_false_iff.mp g).2⟩
              · rw [nup_ne e]; exact ⟨r, mRl.rf, fun _ => mEq.rf⟩
            · have d' : nup C.2.1 a (C.2.1 a || m_chg T (C.2.2 a) s) q = false := d
              refine ⟨?_, rfl⟩
              by_cases e : q = a
              · subst e; rw [nup_at] at d'; exact (Bool.or_eq_false_iff.mp d').1
              · rw [nup_ne e] at d'; exact d'
theorem m_grd_ge {p : Nat} {s : mSn} : ∀ (m j : Nat) (C : mC), (m_grd T n G p s m j C).1 = 0 → mGe C (m_grd T n G p s m j C).2 ∧ ∀ y, j ≤ y → y < j + m → m_hld G y p = true → (G y).2.2.1 < n ∧ (m_grd T n G p s m j C).2.1 (G y).2.2.1 = true := by
  intro m
  induction m with
  | zero => intro j C _; exact ⟨mGe.rf, fun y h1 h2 => by omega⟩
  | succ m ih =>
    intro j C h0
    simp only [m_grd] at h0 ⊢
    by_cases hh : (G j).1 ≤ p ∧ p < (G j).2.1
    · rw [if_pos hh] at h0 ⊢
      by_cases hr : (m_arr T n (decide ((G j).2.2.1 ≤ p)) (G j).2.2.1 (m_cau s (G j).2.2.2) C).1 = 0
      · rw [if_pos hr] at h0 ⊢
        obtain ⟨a1, a2, a3⟩ := m_arr_ge hr
        obtain ⟨b1, b2⟩ := ih (j + 1) _ h0
        refine ⟨a1.tr b1, fun y h1 h2 h3 => ?_⟩
        by_cases e : y = j
        · subst e; exact ⟨a2, ((b1 _).1 a3).1⟩
        · exact b2 y (by omega) (by omega) h3
      · rw [if_neg hr] at h0; exact absurd h0 hr
    · rw [if_neg hh] at h0 ⊢
      obtain ⟨b1, b2⟩ := ih (j + 1) C h0
      refine ⟨b1, fun y h1 h2 h3 => ?_⟩
      by_cases e : y = j
      · subst e; exact absurd (of_decide_eq_true h3) hh
      · exact b2 y (by omega) (by omega) h3
theorem m_tg_ge {p : Nat} {s : mSn} : ∀ (m j : Nat) (r : Nat × mC), (m_tg T n p s m j r).1 = 0 → r.1 = 0 ∧ mGe r.2 (m_tg T n p s m j r).2 ∧ ∀ y, j ≤ y → y < j + m → y < n ∧ (m_tg T n p s m j r).2.1 y = true := by
  intro m
  induction m with
  | zero => intro j r h; exact ⟨h, mGe.rf, fun y h1 h2 => by omega⟩
  | succ m ih =>
    intro j r h0
    simp only [m_tg] at h0 ⊢
    by_cases hr : r.1 = 0
    · rw [if_pos hr] at h0 ⊢
      obtain ⟨c0, b1, b2⟩ := ih (j + 1) _ h0
      obtain ⟨a1, a2, a3⟩ := m_arr_ge c0
      refine ⟨hr, a1.tr b1, fun y h1 h2 => ?_⟩
      by_cases e : y = j
      · subst e; exact ⟨a2, ((b1 _).1 a3).1⟩
      · exact b2 y (by omega) (by omega)
    · rw [if_neg hr] at h0; exact absurd h0 hr
/-- an act's ways on lead to reached acts -/
def mSc (n : Nat) (K : Nat → mAc) (gn : Nat) (G : Nat → mGd) (rc : Nat → Bool) (p : Nat) : Prop := (m_goes (K p).1 = true → p + 1 < n ∧ rc (p + 1) = true) ∧ (∀ y, m_gon (K p) y = true → y < n ∧ rc y = true) ∧ ∀ j, j < gn → m_hld G j p = true → (G j).2.2.1 < n ∧ rc (G j).2.2.1 = true
theorem m_work_ge {p : Nat} {C : mC} (h0 : (m_work T pc n K gn G p C).1 = 0) : mGe (C.1, nup C.2.1 p false, C.2.2) (m_work T pc n K gn G p C).2 ∧ mSc n K gn G (m_work T pc n K gn G p C).2.1 p ∧ (m_wd T pc n K p (C.2.2 p)).1 = 0 := by
  unfold m_work at h0 ⊢
  by_cases c1 : (m_wg T n gn G p C).1 = 0
  · rw [if_pos c1] at h0 ⊢
    by_cases c2 : (m_wd T pc n K p (C.2.2 p)).1 = 0
    · rw [if_pos c2] at h0 ⊢
      obtain ⟨a1, a2⟩ := m_grd_ge gn 0 (C.1, nup C.2.1 p false, C.2.2) c1
      unfold m_on at h0 ⊢
      obtain ⟨b0, b1, b2⟩ := m_tg_ge _ _ _ h0
      have hgo : mGe (m_wg T n gn G p C).2 (if m_goes (K p).1 = true then m_arr T n false (p + 1) (m_wd T pc n K p (C.2.2 p)).2 (m_wg T n gn G p C).2 else (0, (m_wg T n gn G p C).2)).2 ∧ (m_goes (K p).1 = true → p + 1 < n ∧ (if m_goes (K p).1 = true then m_arr T n false (p + 1) (m_wd T pc n K p (C.2.2 p)).2 (m_wg T n gn G p C).2 else (0, (m_wg T n gn G p C).2)).2.1 (p + 1) = true) := by
        by_cases g : m_goes (K p).1 = true
        · rw [if_pos g] at b0 ⊢
          obtain ⟨d1, d2, d3⟩ := m_arr_ge b0
          exact ⟨d1, fun _ => ⟨d2, d3⟩⟩
        · rw [if_neg g]; exact ⟨mGe.rf, fun q => absurd q g⟩
      refine ⟨(a1.tr hgo.1).tr b1, ⟨fun g => ?_, fun y hy => ?_, fun j hj hh => ?_⟩, c2⟩
      · obtain ⟨d1, d2⟩ := hgo.2 g
        exact ⟨d1, ((b1 _).1 d2).1⟩
      · have := of_decide_eq_true hy
        exact b2 y this.1 (by omega)
      · obtain ⟨d1, d2⟩ := a2 j (by omega) (by omega) hh
        exact ⟨d1, (((hgo.1.tr b1) _).1 d2).1⟩
    · rw [if_neg c2] at h0; exact absurd h0 c2
  · rw [if_neg c1] at h0; exact absurd h0 c1
end ME
