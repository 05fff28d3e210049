/-! the class's snapshots against the model's -/
def anyN (p : Nat → Bool) : Nat → Bool
  | 0 => false
  | n + 1 => anyN p n || p n
theorem anyN_iff {p : Nat → Bool} {n : Nat} : anyN p n = true ↔ ∃ x, x < n ∧ p x = true := by
  induction n with
  | zero => simp [anyN]
  | succ n ih =>
    simp only [anyN, Bool.or_eq_true, ih]
    constructor
    · rintro (⟨x, h1, h2⟩ | h)
      · exact ⟨x, by omega, h2⟩
      · exact ⟨n, by omega, h⟩
    · rintro ⟨x, h1, h2⟩
      by_cases hx : x = n
      · subst hx; exact Or.inr h2
      · exact Or.inl ⟨x, by omega, h2⟩
theorem anyN_f {p : Nat → Bool} {n : Nat} : anyN p n = false ↔ ∀ x, x < n → p x = false := by
  rw [← Bool.not_eq_true, anyN_iff]
  constructor
  · intro h x hx
    cases hp : p x
    · rfl
    · exact absurd ⟨x, hx, hp⟩ h
  · rintro h ⟨x, h1, h2⟩
    rw [h x h1] at h2; cases h2
theorem anyN_congr {p q : Nat → Bool} {n : Nat} (h : ∀ x, x < n → p x = q x) : anyN p n = anyN q n := by
  induction n with
  | zero => rfl
  | succ n ih => simp only [anyN]; rw [ih (fun x hx => h x (by omega)), h n (by omega)]
def b2i (b : Bool) : Int32 := if b then 1 else 0
theorem b2i_01 (b : Bool) : b2i b = 0 ∨ b2i b = 1 := by cases b <;> simp [b2i]
theorem b2i_0 {b : Bool} : b2i b = 0 ↔ b = false := by cases b <;> simp [b2i]
def m_unm (s : mSn) : Bool := anyN (fun x => decide (100 ≤ s.1 x)) 8 || anyN (fun j => decide (100 ≤ s.2.2 j)) s.2.1
def m_cau (s : mSn) (c : Nat) : mSn := (fun x => if 100 ≤ s.1 x then 0 else s.1 x, 1, fun _ => 10 + c)
def m_rep (s : mSn) (o t : Nat) : mSn := (fun x => if s.1 x = o then t else s.1 x, s.2.1, fun j => if s.2.2 j = o then t else s.2.2 j)
def m_b1 (pl : Nat → Nat) (x : Nat) : Nat → Nat := if pl x = 3 ∧ 1 ≤ x then nup pl (x - 1) 0 else pl
def m_b2 (pl : Nat → Nat) (x : Nat) : Nat → Nat := if pl x = 2 then nup pl (x + 1) 0 else pl
def m_brk (pl : Nat → Nat) (x : Nat) : Nat → Nat := m_b2 (m_b1 pl x) x
def m_sto (pl : Nat → Nat) (x t : Nat) : Nat → Nat := if t = 2 then nup (nup (m_brk (m_brk pl x) (x + 1)) (x + 1) 3) x 2 else nup (m_brk pl x) x t
section CS
variable {F : Nat} {S : zS} {I : zI} {a : Nat} {s : mSn}
theorem cSn.setP {I : zI} {a : Nat} {s : mSn} (h : cSn I a s) {x t : Nat} (ht : t < 200) : cSn (z_up I (a + 1) x (nI t)) a (nup s.1 x t, s.2) := by
  refine ⟨fun y hy => ?_, by rw [z_up_ne (Or.inl (by omega))]; exact h.2.1, h.2.2.1, fun j hj => by rw [z_up_ne (Or.inl (by omega))]; exact h.2.2.2 j hj⟩
  by_cases hx : y = x
  · subst hx; rw [z_up_at]; show _ = nI (nup s.1 y t y) ∧ nup s.1 y t y < 200; rw [nup_at]; exact ⟨rfl, ht⟩
  · rw [z_up_ne (Or.inr hx)]; show _ = nI (nup s.1 x t y) ∧ nup s.1 x t y < 200; rw [nup_ne hx]; exact h.1 y hy
theorem cSn.setH {I : zI} {a : Nat} {s : mSn} (h : cSn I a s) {k : Nat} (hk : k ≤ s.2.1) : cSn (z_up I a 2 (nI k)) a (s.1, k, s.2.2) := by
  have h10 := h.2.2.1
  refine ⟨fun y hy => by rw [z_up_ne (Or.inl (by omega))]; exact h.1 y hy, by rw [z_up_at], by show k ≤ 10; omega, fun j hj => ?_⟩
  have hj : j < k := hj
  rw [z_up_ne (Or.inl (by omega))]; exact h.2.2.2 j (by omega)
theorem cSn.setS {I : zI} {a : Nat} {s : mSn} (h : cSn I a s) {j t : Nat} (ht : t < 200) : cSn (z_up I (a + 2) j (nI t)) a (s.1, s.2.1, nup s.2.2 j t) := by
  refine ⟨fun y hy => by rw [z_up_ne (Or.inl (by omega))]; exact h.1 y hy, by rw [z_up_ne (Or.inl (by omega))]; exact h.2.1, h.2.2.1, fun i hi => ?_⟩
  by_cases hx : i = j
  · subst hx; rw [z_up_at]; show _ = nI (nup s.2.2 i t i) ∧ nup s.2.2 i t i < 200; rw [nup_at]; exact ⟨rfl, ht⟩
  · rw [z_up_ne (Or.inr hx)]; show _ = nI (nup s.2.2 j t i) ∧ nup s.2.2 j t i < 200; rw [nup_ne hx]; exact h.2.2.2 i hi
theorem cSn.pushed {I : zI} {a : Nat} {s : mSn} (h : cSn I a s) {t : Nat} (ht : t < 200) (hh : s.2.1 < 10) : cSn (z_up (z_up I a 2 (nI (s.2.1 + 1))) (a + 2) s.2.1 (nI t)) a (s.1, s.2.1 + 1, nup s.2.2 s.2.1 t) := by
  refine ⟨fun y hy => by rw [z_up_ne (Or.inl (by omega)), z_up_ne (Or.inl (by omega))]; exact h.1 y hy, by rw [z_up_ne (Or.inl (by omega)), z_up_at], by show s.2.1 + 1 ≤ 10; omega, fun i hi => ?_⟩
  have hi : i < s.2.1 + 1 := hi
  by_cases hx : i = s.2.1
  · subst hx; rw [z_up_at]; show _ = nI (nup s.2.2 _ t _) ∧ nup s.2.2 _ t _ < 200; rw [nup_at]; exact ⟨rfl, ht⟩
  · rw [z_up_ne (Or.inr hx), z_up_ne (Or.inl (by omega))]; show _ = nI (nup s.2.2 _ t i) ∧ nup s.2.2 _ t i < 200; rw [nup_ne hx]; exact h.2.2.2 i (by omega)
theorem s_push (hF : 20 ≤ F) (hO : cOK S a) (hs : cSn I a s) {t : Nat} (ht : t < 200) : ∃ I', z_X6_push F S I a (nI t) = some (nI (m_push s t).1, I') ∧ cSn I' a (m_push s t).2 ∧ fr a 3 I I' := by
  have h10 := hs.2.2.1
  have hw1 := m_wt_ge s.2.2 s.2.1
  have hw2 := m_wt_le s.2.2 s.2.1
  have ht2 := m_t_pos t
  have key : ∃ I', z_X6_push_10 F S a (nI t) (nI (m_t t)) I = some (nI (m_push s t).1, I') ∧ cSn I' a (m_push s t).2 ∧ fr a 3 I I' := by
    unfold z_X6_push_10
    rw [ob_mk (s_weight hF hO hs), nI_add, nl10]
    unfold m_push
    by_cases hd : 10 < m_w s + m_t t
    · rw [if_pos ((nI_ltI (by omega) (by unfold m_w at *; omega)).mpr hd), if_pos hd]
      exact ⟨I, rfl, hs, fr.rf⟩
    · rw [if_neg (fun q => hd ((nI_ltI (by omega) (by unfold m_w at *; omega)).mp q)), if_neg hd]
      have hh : s.2.1 < 10 := by unfold m_w at hd; omega
      rw [z_up_at, hs.2.1, nI_1, nI_pred]
      rw [ob_mk (s_setStack hO (h := s.2.1 + 1) (z_up_at _ _ _ _) (by omega) (Nat.lt_succ_self _) _)]
      exact ⟨_, rfl, hs.pushed ht hh, (fr.rf.up (by omega) (by omega)).up (by omega) (by omega)⟩
  unfold z_X6_push
  by_cases h2 : t = 2
  · rw [if_pos (by rw [h2]; rfl)]
    have e : m_t t = 2 := by simp [m_t, h2]
    rw [e] at key; exact key
  · rw [if_neg (fun q => h2 ((nI_eq (by omega) (by omega)).mp (q.trans nl2)))]
    have e : m_t t = 1 := by simp [m_t, h2]
    rw [e] at key; exact key
theorem s_top0 (hs : cSn I a s) (h0 : s.2.1 = 0) : z_X6_top F S I a = some (-1) := by
  unfold z_X6_top
  rw [hs.2.1, h0, show nI 0 - 1 = (-1 : Int32) from rfl, ob_mk s_onStack_neg]
theorem s_top (hO : cOK S a) (hs : cSn I a s) (h0 : 0 < s.2.1) : z_X6_top F S I a = some (nI (s.2.2 (s.2.1 - 1))) := by
  unfold z_X6_top
  obtain ⟨k, hk⟩ : ∃ k, s.2.1 = k + 1 := ⟨s.2.1 - 1, by omega⟩
  rw [hs.2.1, hk, nI_pred, ob_mk (s_onStack hO hs (by omega))]; rfl
theorem s_pop0 (hs : cSn I a s) (h0 : s.2.1 = 0) : z_X6_pop F S I a = some (-1, I) := by
  unfold z_X6_pop
  rw [hs.2.1, h0, show nI 0 - 1 = (-1 : Int32) from rfl, ob_mk s_onStack_neg, if_pos rfl]
theorem nI_m1 {x : Nat} (h : x < 2 ^ 31) : ¬ nI x = -1 := fun q => by
  have h1 := nI_pos' h
  rw [q] at h1
  exact absurd h1 (by decide)
theorem s_pop (hO : cOK S a) (hs : cSn I a s) (h0 : 0 < s.2.1) : ∃ I', z_X6_pop F S I a = some (nI (s.2.2 (s.2.1 - 1)), I') ∧ cSn I' a (s.1, s.2.1 - 1, s.2.2) ∧ fr a 3 I I' := by
  unfold z_X6_pop
  obtain ⟨k, hk⟩ : ∃ k, s.2.1 = k + 1 := ⟨s.2.1 - 1, by omega⟩
  have hb := (hs.2.2.2 k (by omega)).2
  rw [hs.2.1, hk, nI_pred, ob_mk (s_onStack hO hs (by omega)), if_neg (nI_m1 (by omega))]
  exact ⟨_, rfl, hs.setH (by omega), fr.rf.up (by omega) (by omega)⟩
theorem s_brk (hO : cOK S a) (hs : cSn I a s) {x : Nat} (hx : x < 8) : ∃ I', z_X6_breakWideAt F S I a (nI x) = some I' ∧ cSn I' a (m_brk s.1 x, s.2) ∧ fr a 3 I I' := by
  have key : ∀ (J : zI) (pl : Nat → Nat), cSn J a (pl, s.2) → fr a 3 I J → ∃ I', z_X6_breakWideAt_17 F S a (nI x) J = some I' ∧ cSn I' a (m_b2 pl x, s.2) ∧ fr a 3 I I' := by
    intro J pl hJ hf
    have hp := hJ.1 x hx
    have hp2 : pl x < 200 := hp.2
    unfold z_X6_breakWideAt_17
    rw [ob_mk (s_inPlace hO hx), hp.1]
    show ∃ I', (if nI (pl x) = 2 then _ else _) = some I' ∧ _
    unfold m_b2
    by_cases h2 : pl x = 2
    · rw [if_pos (by rw [h2]; rfl), if_pos h2, nI_1]
      by_cases h7 : x + 1 < 8
      · rw [ob_mk (s_setPlace hO h7 0)]
        exact ⟨_, rfl, hJ.setP (t := 0) (by omega), hf.up (by omega) (by omega)⟩
      · rw [ob_mk (s_setPlace_off (by omega) (by omega) 0)]
        refine ⟨_, rfl, ⟨fun y hy => ?_, hJ.2⟩, hf⟩
        show _ = nI (nup pl (x + 1) 0 y) ∧ nup pl (x + 1) 0 y < 200
        rw [nup_ne (by omega)]; exact hJ.1 y hy
    · rw [if_neg (fun q => h2 ((nI_eq (by omega) (by omega)).mp (q.trans nl2))), if_neg h2]
      exact ⟨_, rfl, hJ, hf⟩
  have hp := hs.1 x hx
  unfold z_X6_breakWideAt
  rw [ob_mk (s_inPlace hO hx), hp.1]
  unfold m_brk
  by_cases h3 : s.1 x = 3
  · rw [if_pos (by rw [h3]; rfl)]
    by_cases h1 : 1 ≤ x
    · obtain ⟨k, rfl⟩ : ∃ k, x = k + 1 := ⟨x - 1, by omega⟩
      rw [nI_pred, ob_mk (s_setPlace hO (show k < 8 by omega) 0)]
      have e : m_b1 s.1 (k + 1) = nup s.1 k 0 := by unfold m_b1; rw [if_pos ⟨h3, h1⟩]; rfl
      rw [e]
      exact key _ _ (hs.setP (x := k) (t := 0) (by omega)) (fr.rf.up (by omega) (by omega))
    · have : x = 0 := by omega
      subst this
      rw [show nI 0 - 1 = (-1 : Int32) from rfl]
      have e : z_X6_setPlace F S I a (-1) 0 = some I := by unfold z_X6_setPlace; rw [if_pos (by decide)]
      have e2 : m_b1 s.1 0 = s.1 := by unfold m_b1; rw [if_neg (fun q => h1 q.2)]
      rw [ob_mk e, e2]
      exact key _ _ hs fr.rf
  · rw [if_neg (fun q => h3 ((nI_eq (by omega) (by omega)).mp (q.trans nl3)))]
    have e2 : m_b1 s.1 x = s.1 := by unfold m_b1; rw [if_neg (fun q => h3 q.1)]
    rw [e2]
    exact key _ _ hs fr.rf
theorem s_store (hO : cOK S a) (hs : cSn I a s) {x t : Nat} (hx : x < 8) (ht : t < 200) (h2 : t = 2 → x + 1 < 8) : ∃ I', z_X6_store F S I a (nI x) (nI t) = some I' ∧ cSn I' a (m_sto s.1 x t, s.2) ∧ fr a 3 I I' := by
  obtain ⟨I1, e1, h1, f1⟩ := s_brk (F := F) hO hs hx
  unfold z_X6_store
  rw [ob_mk e1]
  unfold m_sto
  by_cases hw : t = 2
  · rw [if_pos (by rw [hw]; rfl), if_pos hw, nI_1]
    obtain ⟨I2, e2, g2, f2⟩ := s_brk (F := F) hO h1 (h2 hw)
    rw [ob_mk e2, ob_mk (s_setPlace hO (by omega) 3)]
    unfold z_X6_store_25
    rw [ob_mk (s_setPlace hO hx _)]
    subst hw
    exact ⟨_, rfl, (g2.setP (t := 3) (by omega)).setP (t := 2) (by omega), ((f1.trans f2).up (by omega) (by omega)).up (by omega) (by omega)⟩
  · rw [if_neg (fun q => hw ((nI_eq (by omega) (by omega)).mp (q.trans nl2))), if_neg hw]
    unfold z_X6_store_25
    rw [ob_mk (s_setPlace hO hx _)]
    exact ⟨_, rfl, h1.setP ht, f1.up (by omega) (by omega)⟩
theorem s_unm2 (hO : cOK S a) (hs : cSn I a s) : ∀ (n i : Nat), i ≤ s.2.1 → s.2.1 < i + n → (∀ j, j < i → s.2.2 j < 100) → z_X6_hasUnmade_28 F S I n a (nI i) = some (b2i (anyN (fun j => decide (100 ≤ s.2.2 j)) s.2.1)) := by
  have h10 := hs.2.2.1
  intro n
  induction n with
  | zero => intro i h1 h2; omega
  | succ n ih =>
    intro i h1 h2 h3
    show z_X6_hasUnmade_28B F S I (z_X6_hasUnmade_28 F S I n) a (nI i) = _
    unfold z_X6_hasUnmade_28B
    rw [hs.2.1]
    by_cases hi : i < s.2.1
    · have hb := (hs.2.2.2 i hi).2
      rw [if_pos ((nI_ltI (by omega) (by omega)).mpr hi), ob_mk (s_onStack hO hs hi), nl100]
      by_cases hu : s.2.2 i < 100
      · rw [if_pos ((nI_ltI (by omega) (by omega)).mpr hu), nI_1]
        refine ih (i + 1) (by omega) (by omega) (fun j hj => ?_)
        by_cases hji : j = i
        · subst hji; exact hu
        · exact h3 j (by omega)
      · rw [if_neg (fun q => hu ((nI_ltI (by omega) (by omega)).mp q))]
        have : anyN (fun j => decide (100 ≤ s.2.2 j)) s.2.1 = true := anyN_iff.mpr ⟨i, hi, by simp; omega⟩
        rw [this]; rfl
    · rw [if_neg (fun q => hi ((nI_ltI (by omega) (by omega)).mp q))]
      have : anyN (fun j => decide (100 ≤ s.2.2 j)) s.2.1 = false := anyN_f.mpr (fun j hj => by have := h3 j (by omega); simp; omega)
      rw [this]; rfl
theorem s_unm1 (hF : 20 ≤ F) (hO : cOK S a) (hs : cSn I a s) : ∀ (n i : Nat), i ≤ 8 → 8 < i + n → (∀ j, j < i → s.1 j < 100) → z_X6_hasUnmade_2 F S I n a (nI i) = some (b2i (m_unm s)) := by
  intro n
  induction n with
  | zero => intro i h1 h2; omega
  | succ n ih =>
    intro i h1 h2 h3
    show z_X6_hasUnmade_2B F S I (z_X6_hasUnmade_2 F S I n) a (nI i) = _
    unfold z_X6_hasUnmade_2B
    rw [nl8]
    by_cases hi : i < 8
    · have hb := hs.1 i hi
      rw [if_pos ((nI_ltI (by omega) (by omega)).mpr hi), ob_mk (s_inPlace hO hi), hb.1, nl100]
      by_cases hu : s.1 i < 100
      · rw [if_pos ((nI_ltI (by omega) (by omega)).mpr hu), nI_1]
        refine ih (i + 1) (by omega) (by omega) (fun j hj => ?_)
        by_cases hji : j = i
        · subst hji; exact hu
        · exact h3 j (by omega)
      · rw [if_neg (fun q => hu ((nI_ltI (by omega) (by omega)).mp q))]
        have : anyN (fun x => decide (100 ≤ s.1 x)) 8 = true := anyN_iff.mpr ⟨i, hi, by simp; omega⟩
        unfold m_unm; rw [this]; rfl
    · rw [if_neg (fun q => hi ((nI_ltI (by omega) (by omega)).mp q)), nl0]
      have : anyN (fun x => decide (100 ≤ s.1 x)) 8 = false := anyN_f.mpr (fun j hj => by have := h3 j (by omega); simp; omega)
      unfold m_unm; rw [this]
      exact s_unm2 hO hs F 0 (Nat.zero_le _) (by have := hs.2.2.1; omega) (fun j hj => by omega)
theorem s_unm (hF : 20 ≤ F) (hO : cOK S a) (hs : cSn I a s) : z_X6_hasUnmade F S I a = some (b2i (m_unm s)) := s_unm1 hF hO hs F 0 (by omega) (by omega) (fun j hj => by omega)
end CS
