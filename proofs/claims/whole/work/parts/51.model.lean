/-! the mathematical model -/
abbrev mSn : Type := (Nat → Nat) × Nat × (Nat → Nat)
def nup {α : Type} (f : Nat → α) (k : Nat) (x : α) : Nat → α := fun j => if j = k then x else f j
theorem nup_at {α : Type} (f : Nat → α) (k : Nat) (x : α) : nup f k x k = x := by simp [nup]
theorem nup_ne {α : Type} {f : Nat → α} {k j : Nat} {x : α} (h : j ≠ k) : nup f k x j = f j := by simp [nup, h]
def m_t (t : Nat) : Nat := if t = 2 then 2 else 1
def m_wt (st : Nat → Nat) : Nat → Nat
  | 0 => 0
  | n + 1 => m_wt st n + m_t (st n)
def m_w (s : mSn) : Nat := m_wt s.2.2 s.2.1
def m_push (s : mSn) (t : Nat) : Nat × mSn := if 10 < m_w s + m_t t then (3, s) else (0, s.1, s.2.1 + 1, nup s.2.2 s.2.1 t)
theorem m_t_pos (t : Nat) : 1 ≤ m_t t ∧ m_t t ≤ 2 := by unfold m_t; split <;> omega
theorem m_wt_ge (st : Nat → Nat) (n : Nat) : n ≤ m_wt st n := by
  induction n with
  | zero => exact Nat.le_refl _
  | succ n ih => have := m_t_pos (st n); simp only [m_wt]; omega
theorem m_wt_le (st : Nat → Nat) (n : Nat) : m_wt st n ≤ 2 * n := by
  induction n with
  | zero => exact Nat.le_refl _
  | succ n ih => have := m_t_pos (st n); simp only [m_wt]; omega
theorem m_wt_congr {f g : Nat → Nat} {n : Nat} (h : ∀ j, j < n → f j = g j) : m_wt f n = m_wt g n := by
  induction n with
  | zero => rfl
  | succ n ih => simp only [m_wt]; rw [ih (fun j hj => h j (by omega)), h n (by omega)]
/-- a snapshot in the class's cells -/
def cOK (S : zS) (a : Nat) : Prop := S.1 a 0 = some (a + 1) ∧ S.1 a 1 = some (a + 2) ∧ (S.2.1 (a + 1)).2 = 8 ∧ (S.2.1 (a + 2)).2 = 10
def cSn (I : zI) (a : Nat) (s : mSn) : Prop := (∀ x, x < 8 → I (a + 1) x = nI (s.1 x) ∧ s.1 x < 200) ∧ I a 2 = nI s.2.1 ∧ s.2.1 ≤ 10 ∧ ∀ j, j < s.2.1 → I (a + 2) j = nI (s.2.2 j) ∧ s.2.2 j < 200
theorem cSn.kept {I I' : zI} {a : Nat} {s : mSn} (h : cSn I a s) (e0 : I' a = I a) (e1 : I' (a + 1) = I (a + 1)) (e2 : I' (a + 2) = I (a + 2)) : cSn I' a s := ⟨fun x hx => by rw [e1]; exact h.1 x hx, by rw [e0]; exact h.2.1, h.2.2.1, fun j hj => by rw [e2]; exact h.2.2.2 j hj⟩
theorem cSn.fr {I I' : zI} {a b n : Nat} {s : mSn} (h : cSn I a s) (f : fr b n I I') (hd : a + 3 ≤ b ∨ b + n ≤ a) : cSn I' a s := h.kept (f a (by omega)) (f (a + 1) (by omega)) (f (a + 2) (by omega))
section CS
variable {F : Nat} {S : zS} {I : zI} {a : Nat} {s : mSn}
theorem s_inPlace (hO : cOK S a) {x : Nat} (hx : x < 8) : z_X6_inPlace F S I a (nI x) = some (I (a + 1) x) := by
  unfold z_X6_inPlace
  rw [if_neg (nn (by omega)), nl8, if_pos ((nI_ltI (by omega) (by omega)).mpr hx), ob_mk hO.1, hO.2.2.1, if_neg (ni_in hx (by omega)), nc (by omega)]
theorem s_inPlace_off {x : Nat} (hx : 8 ≤ x) (hb : x < 2 ^ 31) : z_X6_inPlace F S I a (nI x) = some 0 := by
  unfold z_X6_inPlace
  rw [if_neg (nn hb), nl8, if_neg (fun q => by rw [nI_ltI (by omega) (by omega)] at q; omega)]
theorem s_setPlace (hO : cOK S a) {x : Nat} (hx : x < 8) (t : Int32) : z_X6_setPlace F S I a (nI x) t = some (z_up I (a + 1) x t) := by
  unfold z_X6_setPlace
  rw [if_neg (nn (by omega)), nl8, if_pos ((nI_ltI (by omega) (by omega)).mpr hx), ob_mk hO.1, hO.2.2.1, if_neg (ni_in hx (by omega)), nc (by omega)]
theorem s_setPlace_off {x : Nat} (hx : 8 ≤ x) (hb : x < 2 ^ 31) (t : Int32) : z_X6_setPlace F S I a (nI x) t = some I := by
  unfold z_X6_setPlace
  rw [if_neg (nn hb), nl8, if_neg (fun q => by rw [nI_ltI (by omega) (by omega)] at q; omega)]
theorem s_onStack (hO : cOK S a) (hs : cSn I a s) {j : Nat} (hj : j < s.2.1) : z_X6_onStack F S I a (nI j) = some (nI (s.2.2 j)) := by
  have h10 := hs.2.2.1
  unfold z_X6_onStack
  rw [if_neg (nn (by omega)), hs.2.1, if_pos ((nI_ltI (by omega) (by omega)).mpr hj), nl10, if_pos ((nI_ltI (by omega) (by omega)).mpr (by omega)), ob_mk hO.2.1, hO.2.2.2, if_neg (ni_in (by omega) (by omega)), nc (by omega), (hs.2.2.2 j hj).1]
theorem s_onStack_off (hs : cSn I a s) {j : Nat} (hj : s.2.1 ≤ j) (hb : j < 2 ^ 31) : z_X6_onStack F S I a (nI j) = some (-1) := by
  have h10 := hs.2.2.1
  unfold z_X6_onStack
  rw [if_neg (nn hb), hs.2.1, if_neg (fun q => by rw [nI_ltI (by omega) (by omega)] at q; omega)]
theorem s_onStack_neg : z_X6_onStack F S I a (-1) = some (-1) := by
  unfold z_X6_onStack
  rw [if_pos (by decide)]
theorem s_setStack (hO : cOK S a) {h : Nat} (hh : I a 2 = nI h) (h10 : h ≤ 10) {j : Nat} (hj : j < h) (t : Int32) : z_X6_setStack F S I a (nI j) t = some (z_up I (a + 2) j t) := by
  unfold z_X6_setStack
  rw [if_neg (nn (by omega)), hh, if_pos ((nI_ltI (by omega) (by omega)).mpr hj), nl10, if_pos ((nI_ltI (by omega) (by omega)).mpr (by omega)), ob_mk hO.2.1, hO.2.2.2, if_neg (ni_in (by omega) (by omega)), nc (by omega)]
theorem s_weight_lp (hO : cOK S a) (hs : cSn I a s) : ∀ (n i : Nat), i ≤ s.2.1 → s.2.1 < i + n → z_X6_weight_4 F S I n a (nI (m_wt s.2.2 i)) (nI i) = some (nI (m_w s)) := by
  have h10 := hs.2.2.1
  intro n
  induction n with
  | zero => intro i h1 h2; omega
  | succ n ih =>
    intro i h1 h2
    show z_X6_weight_4B F S I (z_X6_weight_4 F S I n) a (nI (m_wt s.2.2 i)) (nI i) = _
    unfold z_X6_weight_4B
    rw [hs.2.1]
    by_cases hi : i < s.2.1
    · rw [if_pos ((nI_ltI (by omega) (by omega)).mpr hi), nl10, if_pos ((nI_ltI (by omega) (by omega)).mpr (by omega)), ob_mk hO.2.1, hO.2.2.2, if_neg (ni_in (by omega) (by omega)), nc (by omega), (hs.2.2.2 i hi).1]
      have hb := (hs.2.2.2 i hi).2
      have key := ih (i + 1) (by omega) (by omega)
      unfold z_X6_weight_34
      by_cases h2 : s.2.2 i = 2
      · rw [if_pos (by rw [h2]; rfl), nl2, nI_add, nI_1]
        have e : m_wt s.2.2 (i + 1) = m_wt s.2.2 i + 2 := by simp [m_wt, m_t, h2]
        rw [← e]; exact key
      · rw [if_neg (fun q => h2 ((nI_eq (by omega) (by omega)).mp (q.trans nl2))), nI_1, nI_1]
        have e : m_wt s.2.2 (i + 1) = m_wt s.2.2 i + 1 := by simp [m_wt, m_t, h2]
        rw [← e]; exact key
    · rw [if_neg (fun q => hi ((nI_ltI (by omega) (by omega)).mp q))]
      have : i = s.2.1 := by omega
      subst this; rfl
theorem s_weight (hF : 20 ≤ F) (hO : cOK S a) (hs : cSn I a s) : z_X6_weight F S I a = some (nI (m_w s)) := s_weight_lp hO hs F 0 (Nat.zero_le _) (by have := hs.2.2.1; omega)
end CS
