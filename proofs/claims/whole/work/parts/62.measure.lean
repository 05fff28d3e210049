/-! computing ends: a number that falls -/
def m_sm (f : Nat → Nat) : Nat → Nat
  | 0 => 0
  | n + 1 => m_sm f n + f n
theorem m_sm_le {f g : Nat → Nat} {n : Nat} (h : ∀ x, x < n → f x ≤ g x) : m_sm f n ≤ m_sm g n := by
  induction n with
  | zero => exact Nat.le_refl _
  | succ n ih =>
    have h1 := ih (fun x hx => h x (by omega))
    have h2 := h n (by omega)
    simp only [m_sm]; omega
theorem m_sm_lt {f g : Nat → Nat} {n p : Nat} (h : ∀ x, x < n → f x ≤ g x) (hp : p < n) (hl : f p < g p) : m_sm f n < m_sm g n := by
  induction n with
  | zero => omega
  | succ n ih =>
    simp only [m_sm]
    have h2 := h n (by omega)
    by_cases e : p = n
    · subst e
      have h1 := m_sm_le (f := f) (g := g) (n := p) (fun x hx => h x (by omega))
      omega
    · have h1 := ih (fun x hx => h x (by omega)) (by omega)
      omega
theorem m_sm_eq {f g : Nat → Nat} {n : Nat} (h : ∀ x, x < n → f x = g x) : m_sm f n = m_sm g n := by
  induction n with
  | zero => rfl
  | succ n ih => simp only [m_sm]; rw [ih (fun x hx => h x (by omega)), h n (by omega)]
theorem m_sm_max {f : Nat → Nat} {n k : Nat} (h : ∀ x, x < n → f x ≤ k) : m_sm f n ≤ k * n := by
  induction n with
  | zero => exact Nat.zero_le _
  | succ n ih =>
    have h1 := ih (fun x hx => h x (by omega))
    have h2 := h n (by omega)
    simp only [m_sm, Nat.mul_succ]; omega
def m_r1 (t : Nat) : Nat := if t = 0 then 0 else if t = 4 then 17 else if 10 ≤ t ∧ t < 26 then t - 9 else 1
theorem m_r1_le (t : Nat) : m_r1 t ≤ 17 := by
  unfold m_r1
  split
  · omega
  · split
    · omega
    · split <;> omega
theorem m_r1_pos {t : Nat} (h : t ≠ 0) : 1 ≤ m_r1 t := by
  unfold m_r1
  rw [if_neg h]
  split
  · omega
  · split <;> omega
theorem m_sr_sat {f : Nat → Bool} : ∀ n, m_sr f n = 0 ∨ f (m_sr f n) = true := by
  intro n
  induction n with
  | zero => exact Or.inl rfl
  | succ n ih =>
    simp only [m_sr]
    by_cases h : f n = true
    · rw [if_pos h]; exact Or.inr h
    · rw [if_neg h]; exact ih
theorem m_near_le {T : mTr} (hT : mTok T) {a b : Nat} (ha : a < T.1) : m_near T a b ≤ a := by
  unfold m_near
  by_cases h1 : a = b
  · rw [if_pos h1]; exact Nat.le_refl _
  · rw [if_neg h1]
    by_cases h2 : T.2.2 a = true ∨ T.2.2 b = true
    · rw [if_pos h2]; exact Nat.zero_le _
    · rw [if_neg h2]
      rcases m_sr_sat (f := fun c => m_anc T.2.1 a c && m_anc T.2.1 b c) T.1 with h | h
      · rw [h]; exact Nat.zero_le _
      · rw [Bool.and_eq_true] at h
        exact m_anc_le a _ (fun c h3 h4 => hT.2.2.1 c h3 (by omega)) h.1
theorem m_join_r1 {T : mTr} (hT : mTok T) {a b : Nat} (h : m_join T a b ≠ a) : m_r1 (m_join T a b) < m_r1 a := by
  have h16 := hT.2.1
  unfold m_join at h ⊢
  by_cases h1 : a = b
  · rw [if_pos h1] at h; exact absurd rfl h
  · rw [if_neg h1] at h ⊢
    by_cases h2 : (10 ≤ a ∧ a < 10 + T.1) ∧ (10 ≤ b ∧ b < 10 + T.1)
    · rw [if_pos h2] at h ⊢
      have hn := m_near_le hT (a := a - 10) (b := b - 10) (by omega)
      have e1 : m_r1 (10 + m_near T (a - 10) (b - 10)) = 10 + m_near T (a - 10) (b - 10) - 9 := by
        unfold m_r1
        rw [if_neg (by omega), if_neg (by omega), if_pos (by omega)]
      have e2 : m_r1 a = a - 9 := by
        unfold m_r1
        rw [if_neg (by omega), if_neg (by omega), if_pos (by omega)]
      rw [e1, e2]; omega
    · rw [if_neg h2] at h ⊢
      by_cases h3 : a = 4 ∧ (10 ≤ b ∧ b < 10 + T.1)
      · rw [if_pos h3] at h ⊢
        have e1 : m_r1 b = b - 9 := by
          unfold m_r1
          rw [if_neg (by omega), if_neg (by omega), if_pos (by omega)]
        have e2 : m_r1 a = 17 := by rw [h3.1]; rfl
        rw [e1, e2]; omega
      · rw [if_neg h3] at h ⊢
        by_cases h4 : b = 4 ∧ (10 ≤ a ∧ a < 10 + T.1)
        · rw [if_pos h4] at h; exact absurd rfl h
        · rw [if_neg h4] at h ⊢
          have := m_r1_pos (t := a) (fun e => h e.symm)
          have e0 : m_r1 0 = 0 := rfl
          omega
theorem m_join_r1_le {T : mTr} (hT : mTok T) (a b : Nat) : m_r1 (m_join T a b) ≤ m_r1 a := by
  by_cases h : m_join T a b = a
  · rw [h]; exact Nat.le_refl _
  · exact Nat.le_of_lt (m_join_r1 hT h)
def m_rk (s : mSn) : Nat := m_sm (fun x => m_r1 (s.1 x)) 8 + m_sm (fun j => m_r1 (s.2.2 j)) s.2.1
theorem m_rk_max {s : mSn} (h : s.2.1 ≤ 10) : m_rk s ≤ 306 := by
  have h1 := m_sm_max (f := fun x => m_r1 (s.1 x)) (n := 8) (k := 17) (fun x _ => m_r1_le _)
  have h2 := m_sm_max (f := fun j => m_r1 (s.2.2 j)) (n := s.2.1) (k := 17) (fun x _ => m_r1_le _)
  unfold m_rk
  have h3 : 17 * s.2.1 ≤ 17 * 10 := Nat.mul_le_mul_left 17 h
  omega
theorem m_jn_rk {T : mTr} (hT : mTok T) {o s : mSn} (hh : o.2.1 = s.2.1) : m_rk (m_jn T o s) ≤ m_rk o ∧ (m_chg T o s = true → m_rk (m_jn T o s) < m_rk o) := by
  have h1 := m_sm_le (f := fun x => m_r1 (m_join T (o.1 x) (s.1 x))) (g := fun x => m_r1 (o.1 x)) (n := 8) (fun x _ => m_join_r1_le hT _ _)
  have h2 := m_sm_le (f := fun j => m_r1 (m_join T (o.2.2 j) (s.2.2 j))) (g := fun j => m_r1 (o.2.2 j)) (n := s.2.1) (fun x _ => m_join_r1_le hT _ _)
  have e : m_rk (m_jn T o s) = m_sm (fun x => m_r1 (m_join T (o.1 x) (s.1 x))) 8 + m_sm (fun j => m_r1 (m_join T (o.2.2 j) (s.2.2 j))) s.2.1 := rfl
  have e2 : m_rk o = m_sm (fun x => m_r1 (o.1 x)) 8 + m_sm (fun j => m_r1 (o.2.2 j)) s.2.1 := by unfold m_rk; rw [hh]
  rw [e, e2]
  refine ⟨by omega, fun hc => ?_⟩
  unfold m_chg at hc
  rw [Bool.or_eq_true] at hc
  rcases hc with hc | hc
  · obtain ⟨j, hj, hd⟩ := anyN_iff.mp hc
    have h3 := m_sm_lt (f := fun j => m_r1 (m_join T (o.2.2 j) (s.2.2 j))) (g := fun j => m_r1 (o.2.2 j)) (n := s.2.1) (p := j) (fun x _ => m_join_r1_le hT _ _) hj (m_join_r1 hT (of_decide_eq_true hd))
    omega
  · obtain ⟨x, hx, hd⟩ := anyN_iff.mp hc
    have h3 := m_sm_lt (f := fun x => m_r1 (m_join T (o.1 x) (s.1 x))) (g := fun x => m_r1 (o.1 x)) (n := 8) (p := x) (fun y _ => m_join_r1_le hT _ _) hx (m_join_r1 hT (of_decide_eq_true hd))
    omega
def m_p1 (C : mC) (p : Nat) : Nat := if C.1 p = true then 2 * m_rk (C.2.2 p) + (if C.2.1 p = true then 1 else 0) else 616
def m_ph (n : Nat) (C : mC) : Nat := m_sm (m_p1 C) n
/-- a due act has a state; stacks aren't too long -/
def mI (n : Nat) (C : mC) : Prop := ∀ p, p < n → (C.2.1 p = true → C.1 p = true) ∧ (C.1 p = true → (C.2.2 p).2.1 ≤ 10)
theorem m_arr_ph {T : mTr} (hT : mTok T) {n x : Nat} {chk : Bool} {s : mSn} {C : mC} (hs : s.2.1 ≤ 10) (hI : mI n C) (h0 : (m_arr T n chk x s C).1 = 0) : m_ph n (m_arr T n chk x s C).2 ≤ m_ph n C ∧ mI n (m_arr T n chk x s C).2 := by
  unfold m_arr at h0 ⊢
  by_cases h1 : ¬ x < n
  · rw [if_pos h1] at h0; exact absurd h0 (by simp)
  · rw [if_neg h1] at h0 ⊢
    by_cases h2 : (chk && m_unm s) = true
    · rw [if_pos h2] at h0; exact absurd h0 (by simp)
    · rw [if_neg h2] at h0 ⊢
      by_cases h3 : C.1 x = false
      · rw [if_pos h3] at h0 ⊢
        refine ⟨m_sm_le (fun p _ => ?_), fun p hp => ?_⟩
        · by_cases e : p = x
          · subst e
            have := m_rk_max hs
            have e1 : m_p1 (nup C.1 p true, nup C.2.1 p true, nup C.2.2 p s) p = 2 * m_rk s + 1 := by
              unfold m_p1
              simp only [nup_at, if_pos]
            have e2 : m_p1 C p = 616 := by unfold m_p1; rw [if_neg (by rw [h3]; decide)]
            show m_p1 (nup C.1 p true, nup C.2.1 p true, nup C.2.2 p s) p ≤ m_p1 C p
            rw [e1, e2]; omega
          · show m_p1 (nup C.1 x true, nup C.2.1 x true, nup C.2.2 x s) p ≤ m_p1 C p
            unfold m_p1
            simp only [nup_ne e]
            exact Nat.le_refl _
        · show (nup C.2.1 x true p = true → nup C.1 x true p = true) ∧ (nup C.1 x true p = true → (nup C.2.2 x s p).2.1 ≤ 10)
          by_cases e : p = x
          · subst e; rw [nup_at, nup_at, nup_at]; exact ⟨fun _ => rfl, fun _ => hs⟩
          · rw [nup_ne e, nup_ne e, nup_ne e]; exact hI p hp
      · rw [if_neg h3] at h0 ⊢
        have hr : C.1 x = true := by
          cases hv : C.1 x
          · exact absurd hv h3
          · rfl
        by_cases h4 : (C.2.2 x).2.1 ≠ s.2.1
        · rw [if_pos h4] at h0; exact absurd h0 (by simp)
        · rw [if_neg h4] at h0 ⊢
          have hh : (C.2.2 x).2.1 = s.2.1 := Decidable.byContradiction h4
          by_cases h5 : m_bad T (C.2.2 x) s = true
          · rw [if_pos h5] at h0; exact absurd h0 (by simp)
          · rw [if_neg h5] at h0 ⊢
            obtain ⟨k1, k2⟩ := m_jn_rk hT hh
            refine ⟨m_sm_le (fun p _ => ?_), fun p hp => ?_⟩
            · show m_p1 (C.1, nup C.2.1 x (C.2.1 x || m_chg T (C.2.2 x) s), nup C.2.2 x (m_jn T (C.2.2 x) s)) p ≤ m_p1 C p
              by_cases e : p = x
              · subst e
                unfold m_p1
                simp only [nup_at]
                rw [if_pos hr, if_pos hr]
                cases hc : m_chg T (C.2.2 p) s
                · rw [Bool.or_false]; omega
                · have := k2 hc
                  rw [Bool.or_true, if_pos (show true = true from rfl)]; omega
              · unfold m_p1
                simp only [nup_ne e]
                exact Nat.le_refl _
            · show (nup C.2.1 x (C.2.1 x || m_chg T (C.2.2 x) s) p = true → C.1 p = true) ∧ (C.1 p = true → (nup C.2.2 x (m_jn T (C.2.2 x) s) p).2.1 ≤ 10)
              by_cases e : p = x
              · subst e; rw [nup_at, nup_at]; exact ⟨fun _ => hr, fun _ => hs⟩
              · rw [nup_ne e, nup_ne e]; exact hI p hp
theorem m_grd_ph {T : mTr} (hT : mTok T) {n : Nat} {G : Nat → mGd} {p : Nat} {s : mSn} : ∀ (m j : Nat) (C : mC), mI n C → (m_grd T n G p s m j C).1 = 0 → m_ph n (m_grd T n G p s m j C).2 ≤ m_ph n C ∧ mI n (m_grd T n G p s m j C).2 := by
  intro m
  induction m with
  | zero => intro j C hI _; exact ⟨Nat.le_refl _, hI⟩
  | succ m ih =>
    intro j C hI h0
    simp only [m_grd] at h0 ⊢
    by_cases h1 : (G j).1 ≤ p ∧ p < (G j).2.1
    · rw [if_pos h1] at h0 ⊢
      by_cases h2 : (m_arr T n (decide ((G j).2.2.1 ≤ p)) (G j).2.2.1 (m_cau s (G j).2.2.2) C).1 = 0
      · rw [if_pos h2] at h0 ⊢
        obtain ⟨a1, a2⟩ := m_arr_ph hT (s := m_cau s (G j).2.2.2) (show 1 ≤ 10 by omega) hI h2
        obtain ⟨b1, b2⟩ := ih (j + 1) _ a2 h0
        exact ⟨Nat.le_trans b1 a1, b2⟩
      · rw [if_neg h2] at h0; exact absurd h0 h2
    · rw [if_neg h1] at h0 ⊢
      exact ih (j + 1) C hI h0
theorem m_tg_ph {T : mTr} (hT : mTok T) {n p : Nat} {s : mSn} (hs : s.2.1 ≤ 10) {u : Nat} : ∀ (m j : Nat) (r : Nat × mC), (r.1 = 0 → m_ph n r.2 ≤ u ∧ mI n r.2) → (m_tg T n p s m j r).1 = 0 → m_ph n (m_tg T n p s m j r).2 ≤ u ∧ mI n (m_tg T n p s m j r).2 := by
  intro m
  induction m with
  | zero => intro j r h h0; exact h h0
  | succ m ih =>
    intro j r h h0
    simp only [m_tg] at h0 ⊢
    by_cases hz : r.1 = 0
    · rw [if_pos hz] at h0 ⊢
      obtain ⟨g1, g2⟩ := h hz
      refine ih (j + 1) _ (fun h2 => ?_) h0
      obtain ⟨a1, a2⟩ := m_arr_ph hT hs g2 h2
      exact ⟨Nat.le_trans a1 g1, a2⟩
    · rw [if_neg hz] at h0; exact absurd h0 hz
theorem m_work_ph {T : mTr} (hT : mTok T) {pc n : Nat} {K : Nat → mAc} {gn : Nat} {G : Nat → mGd} {p : Nat} {C : mC} (hp : p < n) (hI : mI n C) (hd : C.2.1 p = true) (hs : (m_wd T pc n K p (C.2.2 p)).1 = 0 → (m_wd T pc n K p (C.2.2 p)).2.2.1 ≤ 10) (h0 : (m_work T pc n K gn G p C).1 = 0) : m_ph n (m_work T pc n K gn G p C).2 < m_ph n C ∧ mI n (m_work T pc n K gn G p C).2 := by
  have hr := (hI p hp).1 hd
  have i1 : mI n (C.1, nup C.2.1 p false, C.2.2) := fun x hx => by
    show (nup C.2.1 p false x = true → C.1 x = true) ∧ (C.1 x = true → (C.2.2 x).2.1 ≤ 10)
    by_cases e : x = p
    · subst e; rw [nup_at]; exact ⟨fun h => absurd h (by decide), (hI x hx).2⟩
    · rw [nup_ne e]; exact hI x hx
  have l1 : m_ph n (C.1, nup C.2.1 p false, C.2.2) < m_ph n C := by
    refine m_sm_lt (p := p) (fun x _ => ?_) hp ?_
    · by_cases e : x = p
      · subst e
        unfold m_p1
        simp only [nup_at]
        rw [if_pos hr, if_pos hr, if_neg (show ¬ false = true by decide)]; omega
      · unfold m_p1
        simp only [nup_ne e]
        exact Nat.le_refl _
    · unfold m_p1
      simp only [nup_at]
      rw [if_pos hr, if_pos hr, if_neg (show ¬ false = true by decide), if_pos hd]; omega
  unfold m_work at h0 ⊢
  by_cases hz : (m_wg T n gn G p C).1 = 0
  · rw [if_pos hz] at h0 ⊢
    obtain ⟨a1, a2⟩ := m_grd_ph hT gn 0 (C.1, nup C.2.1 p false, C.2.2) i1 hz
    have a1' : m_ph n (m_wg T n gn G p C).2 ≤ m_ph n (C.1, nup C.2.1 p false, C.2.2) := a1
    have a2' : mI n (m_wg T n gn G p C).2 := a2
    by_cases hw : (m_wd T pc n K p (C.2.2 p)).1 = 0
    · rw [if_pos hw] at h0 ⊢
      unfold m_on at h0 ⊢
      have key := m_tg_ph hT (n := n) (p := p) (s := (m_wd T pc n K p (C.2.2 p)).2) (hs hw) (u := m_ph n (m_wg T n gn G p C).2) (m_tn (K p)) (m_ta (K p)) (if m_goes (K p).1 = true then m_arr T n false (p + 1) (m_wd T pc n K p (C.2.2 p)).2 (m_wg T n gn G p C).2 else (0, (m_wg T n gn G p C).2)) (fun h2 => by
        by_cases hg : m_goes (K p).1 = true
        · rw [if_pos hg] at h2 ⊢
          exact m_arr_ph hT (hs hw) a2' h2
        · rw [if_neg hg]
          exact ⟨Nat.le_refl _, a2'⟩) h0
      exact ⟨by omega, key.2⟩
    · rw [if_neg hw] at h0; exact absurd h0 hw
  · rw [if_neg hz] at h0; exact absurd h0 hz
