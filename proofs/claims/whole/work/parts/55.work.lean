/-! what an act does -/
section CT
variable {F : Nat} {S : zS} {I : zI} {t : Nat} {T : mTr} {a b : Nat} {s w : mSn}
theorem fits2 (hT : cT S I t T) (hA : cOK S a) (hB : cOK S b) (hs : cSn I a s) (hw : cSn I b w) (he : s.2.1 = w.2.1) : ∀ (n i : Nat), i ≤ s.2.1 → s.2.1 < i + n → (∀ j, j < i → m_fit T (s.2.2 j) (w.2.2 j) = true) → z_X1_fitsAll_48 F S I n t a b (nI i) = some (b2i (!anyN (fun j => !m_fit T (s.2.2 j) (w.2.2 j)) s.2.1)) := by
  have h10 := hs.2.2.1
  intro n
  induction n with
  | zero => intro i h1 h2; omega
  | succ n ih =>
    intro i h1 h2 h3
    show z_X1_fitsAll_48B F S I (z_X1_fitsAll_48 F S I n) t a b (nI i) = _
    unfold z_X1_fitsAll_48B
    rw [hs.2.1]
    by_cases hi : i < s.2.1
    · rw [if_pos ((nI_ltI (by omega) (by omega)).mpr hi), ob_mk (s_onStack hA hs hi), ob_mk (s_onStack hB hw (by omega)), ob_mk (t_fit hT (hs.2.2.2 i hi).2 (hw.2.2.2 i (by omega)).2)]
      cases hf : m_fit T (s.2.2 i) (w.2.2 i)
      · rw [if_pos (by rfl)]
        have : anyN (fun j => !m_fit T (s.2.2 j) (w.2.2 j)) s.2.1 = true := anyN_iff.mpr ⟨i, hi, by rw [hf]; rfl⟩
        rw [this]; rfl
      · rw [if_neg (by decide), nI_1]
        refine ih (i + 1) (by omega) (by omega) (fun j hj => ?_)
        by_cases hji : j = i
        · subst hji; exact hf
        · exact h3 j (by omega)
    · rw [if_neg (fun q => hi ((nI_ltI (by omega) (by omega)).mp q))]
      have : anyN (fun j => !m_fit T (s.2.2 j) (w.2.2 j)) s.2.1 = false := anyN_f.mpr (fun j hj => by rw [h3 j (by omega)]; rfl)
      rw [this]; rfl
theorem fits1 (hF : 20 ≤ F) (hT : cT S I t T) (hA : cOK S a) (hB : cOK S b) (hs : cSn I a s) (hw : cSn I b w) (he : s.2.1 = w.2.1) : ∀ (n i : Nat), i ≤ 8 → 8 < i + n → (∀ j, j < i → m_fit T (s.1 j) (w.1 j) = true) → z_X1_fitsAll_15 F S I n t a b (nI i) = some (b2i (!anyN (fun x => !m_fit T (s.1 x) (w.1 x)) 8 && !anyN (fun j => !m_fit T (s.2.2 j) (w.2.2 j)) s.2.1)) := by
  intro n
  induction n with
  | zero => intro i h1 h2; omega
  | succ n ih =>
    intro i h1 h2 h3
    show z_X1_fitsAll_15B F S I (z_X1_fitsAll_15 F S I n) t a b (nI i) = _
    unfold z_X1_fitsAll_15B
    rw [nl8]
    by_cases hi : i < 8
    · rw [if_pos ((nI_ltI (by omega) (by omega)).mpr hi), ob_mk (s_inPlace hA hi), ob_mk (s_inPlace hB hi), (hs.1 i hi).1, (hw.1 i hi).1, ob_mk (t_fit hT (hs.1 i hi).2 (hw.1 i hi).2)]
      cases hf : m_fit T (s.1 i) (w.1 i)
      · rw [if_pos (by rfl)]
        have : anyN (fun j => !m_fit T (s.1 j) (w.1 j)) 8 = true := anyN_iff.mpr ⟨i, hi, by rw [hf]; rfl⟩
        rw [this]; rfl
      · rw [if_neg (by decide), nI_1]
        refine ih (i + 1) (by omega) (by omega) (fun j hj => ?_)
        by_cases hji : j = i
        · subst hji; exact hf
        · exact h3 j (by omega)
    · rw [if_neg (fun q => hi ((nI_ltI (by omega) (by omega)).mp q)), nl0]
      have : anyN (fun j => !m_fit T (s.1 j) (w.1 j)) 8 = false := anyN_f.mpr (fun j hj => by rw [h3 j (by omega)]; rfl)
      rw [this]
      exact fits2 hT hA hB hs hw he F 0 (Nat.zero_le _) (by have := hs.2.2.1; omega) (fun j hj => by omega)
theorem t_fits (hF : 20 ≤ F) (hT : cT S I t T) (hA : cOK S a) (hB : cOK S b) (hs : cSn I a s) (hw : cSn I b w) : z_X1_fitsAll F S I t a b = some (b2i (m_fits T s w)) := by
  have h1 := hs.2.2.1
  have h2 := hw.2.2.1
  unfold z_X1_fitsAll m_fits
  rw [hs.2.1, hw.2.1]
  by_cases he : s.2.1 = w.2.1
  · rw [if_pos (by rw [he]), decide_eq_true he, Bool.true_and]
    exact fits1 hF hT hA hB hs hw he F 0 (by omega) (by omega) (fun j hj => by omega)
  · rw [if_neg (fun q => he ((nI_eq (by omega) (by omega)).mp q)), decide_eq_false he]; rfl
theorem cT.kept {S : zS} {I I' : zI} {t : Nat} {T : mTr} (h : cT S I t T) (e0 : I' t = I t) (e1 : I' (t + 1) = I (t + 1)) (e2 : I' (t + 2) = I (t + 2)) : cT S I' t T := by
  obtain ⟨h1, h2, h3, h4, h5, h6, h7, h8⟩ := h
  exact ⟨h1, h2, h3, h4, by rw [e0]; exact h5, h6, by rw [e1]; exact h7, by rw [e2]; exact h8⟩
theorem cT.fr {S : zS} {I I' : zI} {t a n : Nat} {T : mTr} (h : cT S I t T) (f : fr a n I I') (hd : t + 3 ≤ a ∨ a + n ≤ t) : cT S I' t T := h.kept (f t (by omega)) (f (t + 1) (by omega)) (f (t + 2) (by omega))
end CT
abbrev mAc : Type := Nat × Int32 × Int32
def m_bd (r : Nat × mSn) (f : mSn → Nat × mSn) : Nat × mSn := if r.1 = 0 then f r.2 else r
def m_take (s : mSn) (t : Nat) : Nat × mSn := if s.2.1 = 0 then (1, s) else if s.2.2 (s.2.1 - 1) = t then (0, s.1, s.2.1 - 1, s.2.2) else (2, s)
def m_takeO (T : mTr) (s : mSn) (c : Nat) : Nat × mSn := if s.2.1 = 0 then (1, s) else if m_for T (s.2.2 (s.2.1 - 1)) c = true then (0, s.1, s.2.1 - 1, s.2.2) else (2, s)
def m_load (pc a : Nat) (s : mSn) : Nat × mSn := if ¬ a < pc ∨ s.1 a = 0 ∨ s.1 a = 3 then (7, s) else m_push s (s.1 a)
def m_store (pc a : Nat) (s : mSn) : Nat × mSn := if ¬ a < pc then (7, s) else if s.2.1 = 0 then (1, s) else if s.2.2 (s.2.1 - 1) = 2 ∧ ¬ a + 1 < pc then (7, s) else (0, m_sto s.1 a (s.2.2 (s.2.1 - 1)), s.2.1 - 1, s.2.2)
def m_ump (n : Nat) (K : Nat → mAc) (t c : Nat) : Bool := decide (100 ≤ t ∧ t - 100 < n ∧ (K (t - 100)).1 = 9 ∧ (K (t - 100)).2.1 = nI c)
def m_make (n : Nat) (K : Nat → mAc) (c : Nat) (s : mSn) : Nat × mSn := if s.2.1 = 0 then (1, s) else if m_ump n K (s.2.2 (s.2.1 - 1)) c = true then (0, m_rep (s.1, s.2.1 - 1, s.2.2) (s.2.2 (s.2.1 - 1)) (10 + c)) else (2, s)
def m_more (pc a : Nat) (s : mSn) : Nat × mSn := if a < pc ∧ s.1 a = 1 then (0, s) else (7, s)
def m_do (T : mTr) (pc n : Nat) (K : Nat → mAc) (k a p : Nat) (s : mSn) : Nat × mSn :=
  if k = 0 then m_push s 1 else if k = 1 then m_push s 2 else if k = 2 then m_push s 4 else if k = 3 then m_load pc a s else if k = 4 then m_store pc a s
  else if k = 5 then (if s.2.1 = 0 then (1, s) else (0, s.1, s.2.1 - 1, s.2.2)) else if k = 6 then (if s.2.1 = 0 then (1, s) else m_push s (s.2.2 (s.2.1 - 1)))
  else if k = 7 then m_bd (m_take s 1) (fun s => m_bd (m_take s 1) (fun s => m_push s 1)) else if k = 8 then m_bd (m_take s 2) (fun s => m_bd (m_take s 2) (fun s => m_push s 2))
  else if k = 9 then m_push s (100 + p) else if k = 10 then m_make n K a s else if k = 11 then m_bd (m_takeO T s a) (fun s => m_push s 1)
  else if k = 12 then m_bd (m_take s 1) (fun s => m_bd (m_takeO T s a) (fun s => m_push s (10 + a))) else if k = 13 then m_bd (m_takeO T s 0) (fun s => m_push s (10 + a))
  else if k = 15 ∨ k = 16 ∨ k = 17 then m_take s 1 else if k = 18 ∨ k = 19 then m_takeO T s a else if k = 20 then m_more pc a s else (0, s)
/-- an act's numbers are as its kind asks -/
def mAok (T : mTr) (x : mAc) : Prop := x.1 ≤ 20 ∧ ((x.1 = 3 ∨ x.1 = 4 ∨ x.1 = 20) → ∃ a, a < 8 ∧ x.2.1 = nI a) ∧ (((9 ≤ x.1 ∧ x.1 ≤ 13) ∨ x.1 = 18 ∨ x.1 = 19) → ∃ a, a < T.1 ∧ x.2.1 = nI a) ∧ ((14 ≤ x.1 ∧ x.1 ≤ 16) → ∃ a, a < 40 ∧ x.2.1 = nI a ∧ (x.1 = 16 → ∃ b, b < 40 ∧ a ≤ b ∧ x.2.2 = nI b))
/-- a method's acts in the class's cells -/
def cAs (S : zS) (I : zI) (M : Nat) (n : Nat) (K : Nat → mAc) : Prop := S.1 M 0 = some (M + 1) ∧ (S.2.1 (M + 1)).2 = 40 ∧ I M 3 = nI n ∧ n ≤ 40 ∧ ∀ p, p < n → ∃ q, S.1 (M + 1) p = some q ∧ I q 0 = nI (K p).1 ∧ I q 1 = (K p).2.1 ∧ I q 2 = (K p).2.2
/-- what an act needs to read, apart from the snapshot at a -/
def cE (S : zS) (I : zI) (t : Nat) (T : mTr) (M pc n : Nat) (K : Nat → mAc) (a : Nat) : Prop := cT S I t T ∧ (t + 3 ≤ a ∨ a + 3 ≤ t) ∧ I M 5 = nI pc ∧ pc ≤ 8 ∧ (M < a ∨ a + 3 ≤ M) ∧ cAs S I M n K ∧ (∀ p q, p < n → S.1 (M + 1) p = some q → (q < a ∨ a + 3 ≤ q)) ∧ ∀ p, p < n → mAok T (K p)
theorem cE.fr {S : zS} {I I' : zI} {t : Nat} {T : mTr} {M pc n : Nat} {K : Nat → mAc} {a : Nat} (h : cE S I t T M pc n K a) (f : fr a 3 I I') : cE S I' t T M pc n K a := by
  obtain ⟨h1, h2, h3, h4, h5, ⟨g1, g2, g3, g4, g5⟩, h7, h8⟩ := h
  refine ⟨h1.fr f h2, h2, by rw [f M h5]; exact h3, h4, h5, ⟨g1, g2, by rw [f M h5]; exact g3, g4, fun p hp => ?_⟩, h7, h8⟩
  obtain ⟨q, e0, e1, e2, e3⟩ := g5 p hp
  have e4 := f q (h7 p q hp e0)
  exact ⟨q, e0, by rw [e4]; exact e1, by rw [e4]; exact e2, by rw [e4]; exact e3⟩
section CW
variable {F : Nat} {S : zS} {I : zI} {t : Nat} {T : mTr} {M pc n : Nat} {K : Nat → mAc} {a w : Nat} {s : mSn}
theorem x_hasPlace (hE : cE S I t T M pc n K a) {x : Nat} (hx : x < 2 ^ 31) : z_X5_hasPlace F S I M (nI x) = some (b2i (decide (x < pc))) := by
  have h8 := hE.2.2.2.1
  unfold z_X5_hasPlace
  rw [if_neg (nn hx), hE.2.2.1]
  by_cases h : x < pc
  · rw [if_pos ((nI_ltI hx (by omega)).mpr h), decide_eq_true h]; rfl
  · rw [if_neg (fun q => h ((nI_ltI hx (by omega)).mp q)), decide_eq_false h]; rfl
theorem x_take (hO : cOK S a) (hs : cSn I a s) {k : Nat} (hk : k < 200) : ∃ I', z_X7_take F S I w a (nI k) = some (nI (m_take s k).1, I') ∧ ((m_take s k).1 = 0 → cSn I' a (m_take s k).2) ∧ fr a 3 I I' := by
  unfold z_X7_take m_take
  by_cases h0 : s.2.1 = 0
  · rw [ob_mk (s_pop0 hs h0)]
    simp only [if_pos h0]
    exact ⟨I, rfl, fun q => absurd q (by simp), fr.rf⟩
  · obtain ⟨I1, e1, c1, f1⟩ := s_pop (F := F) hO hs (by omega)
    have hb := (hs.2.2.2 (s.2.1 - 1) (by omega)).2
    rw [ob_mk e1]
    simp only [if_neg h0]
    rw [if_neg (nI_m1 (by omega))]
    by_cases he : s.2.2 (s.2.1 - 1) = k
    · rw [if_pos (by rw [he]), if_pos he]
      exact ⟨I1, rfl, fun _ => c1, f1⟩
    · rw [if_neg (fun q => he ((nI_eq (by omega) (by omega)).mp q)), if_neg he]
      exact ⟨I1, rfl, fun q => absurd q (by simp), f1⟩
theorem x_takeO (hw : S.1 w 0 = some t) (hE : cE S I t T M pc n K a) (hO : cOK S a) (hs : cSn I a s) {c : Nat} (hc : c < T.1) : ∃ I', z_X7_takeObject F S I w a (nI c) = some (nI (m_takeO T s c).1, I') ∧ ((m_takeO T s c).1 = 0 → cSn I' a (m_takeO T s c).2) ∧ fr a 3 I I' := by
  unfold z_X7_takeObject m_takeO
  by_cases h0 : s.2.1 = 0
  · rw [ob_mk (s_pop0 hs h0)]
    simp only [if_pos h0]
    exact ⟨I, rfl, fun q => absurd q (by simp), fr.rf⟩
  · obtain ⟨I1, e1, c1, f1⟩ := s_pop (F := F) hO hs (by omega)
    have hb := (hs.2.2.2 (s.2.1 - 1) (by omega)).2
    rw [ob_mk e1]
    simp only [if_neg h0]
    rw [if_neg (nI_m1 (by omega)), ob_mk hw, ob_mk (t_for (hE.fr f1).1 hb hc)]
    cases m_for T (s.2.2 (s.2.1 - 1)) c
    · rw [if_pos (show b2i false = 0 from rfl), if_neg (show ¬ false = true by decide)]
      exact ⟨I1, rfl, fun q => absurd q (by simp), f1⟩
    · rw [if_neg (show ¬ b2i true = 0 by decide), if_pos (show true = true from rfl)]
      exact ⟨I1, rfl, fun _ => c1, f1⟩
theorem x_pushU (hF : 20 ≤ F) (hO : cOK S a) {r : Nat × mSn} (hr : r.1 < 20) (hs : r.1 = 0 → cSn I a r.2) {k : Nat} (hk : k < 200) : ∃ I', z_X7_pushUnless F S I w (nI r.1) a (nI k) = some (nI (m_bd r (fun s => m_push s k)).1, I') ∧ ((m_bd r (fun s => m_push s k)).1 = 0 → cSn I' a (m_bd r (fun s => m_push s k)).2) ∧ fr a 3 I I' := by
  unfold z_X7_pushUnless m_bd
  by_cases h0 : r.1 = 0
  · simp only [if_pos h0]
    rw [if_pos (by rw [h0]; rfl)]
    obtain ⟨I1, e1, c1, f1⟩ := s_push hF hO (hs h0) hk
    rw [ob_mk e1]
    exact ⟨I1, rfl, fun _ => c1, f1⟩
  · simp only [if_neg h0]
    rw [if_neg (fun q => h0 ((nI_eq (by omega) (by omega)).mp (q.trans nl0)))]
    exact ⟨I, rfl, fun q => absurd q h0, fr.rf⟩
theorem m_push_lt (s : mSn) (k : Nat) : (m_push s k).1 < 20 := by unfold m_push; split; exact (by decide : 3 < 20); exact (by decide : 0 < 20)
theorem m_take_lt (s : mSn) (k : Nat) : (m_take s k).1 < 20 := by unfold m_take; split; exact (by decide : 1 < 20); split; exact (by decide : 0 < 20); exact (by decide : 2 < 20)
theorem m_takeO_lt (T : mTr) (s : mSn) (k : Nat) : (m_takeO T s k).1 < 20 := by unfold m_takeO; split; exact (by decide : 1 < 20); split; exact (by decide : 0 < 20); exact (by decide : 2 < 20)
theorem m_bd_lt {r : Nat × mSn} {f : mSn → Nat × mSn} (h1 : r.1 < 20) (h2 : ∀ s, (f s).1 < 20) : (m_bd r f).1 < 20 := by unfold m_bd; split; exact h2 _; exact h1
theorem x_add (hF : 20 ≤ F) (hO : cOK S a) (hs : cSn I a s) {k : Nat} (hk : k < 200) : ∃ I', z_X7_add F S I w a (nI k) = some (nI (m_bd (m_take s k) (fun s => m_bd (m_take s k) (fun s => m_push s k))).1, I') ∧ ((m_bd (m_take s k) (fun s => m_bd (m_take s k) (fun s => m_push s k))).1 = 0 → cSn I' a (m_bd (m_take s k) (fun s => m_bd (m_take s k) (fun s => m_push s k))).2) ∧ fr a 3 I I' := by
  obtain ⟨I1, e1, c1, f1⟩ := x_take (F := F) (w := w) hO hs hk
  have l1 := m_take_lt s k
  unfold z_X7_add
  rw [ob_mk e1]
  simp only []
  by_cases h0 : (m_take s k).1 = 0
  · rw [if_pos (by rw [h0]; rfl)]
    obtain ⟨I2, e2, c2, f2⟩ := x_take (F := F) (w := w) hO (c1 h0) hk
    rw [ob_mk e2]
    unfold z_X7_add_18
    obtain ⟨I3, e3, c3, f3⟩ := x_pushU (w := w) hF hO (m_take_lt (m_take s k).2 k) c2 hk
    simp only []
    rw [ob_mk e3]
    have e : m_bd (m_take s k) (fun s => m_bd (m_take s k) (fun s => m_push s k)) = m_bd (m_take (m_take s k).2 k) (fun s => m_push s k) := by
      show (if (m_take s k).1 = 0 then _ else _) = _
      rw [if_pos h0]
    rw [e]
    exact ⟨I3, rfl, c3, (f1.trans f2).trans f3⟩
  · rw [if_neg (fun q => h0 ((nI_eq (by omega) (by omega)).mp (q.trans nl0)))]
    unfold z_X7_add_18 z_X7_pushUnless
    rw [if_neg (fun q => h0 ((nI_eq (by omega) (by omega)).mp (q.trans nl0)))]
    have e : m_bd (m_take s k) (fun s => m_bd (m_take s k) (fun s => m_push s k)) = m_take s k := by
      show (if (m_take s k).1 = 0 then _ else _) = _
      rw [if_neg h0]
    rw [e]
    exact ⟨I1, rfl, c1, f1⟩
theorem x_call (hF : 20 ≤ F) (hw : S.1 w 0 = some t) (hE : cE S I t T M pc n K a) (hO : cOK S a) (hs : cSn I a s) {c : Nat} (hc : c < T.1) : ∃ I', z_X7_callOn F S I w a (nI c) = some (nI (m_bd (m_take s 1) (fun s => m_bd (m_takeO T s c) (fun s => m_push s (10 + c)))).1, I') ∧ ((m_bd (m_take s 1) (fun s => m_bd (m_takeO T s c) (fun s => m_push s (10 + c)))).1 = 0 → cSn I' a (m_bd (m_take s 1) (fun s => m_bd (m_takeO T s c) (fun s => m_push s (10 + c)))).2) ∧ fr a 3 I I' := by
  have h16 := hE.1.2.2.2.2.2.1.2.1
  obtain ⟨I1, e1, c1, f1⟩ := x_take (F := F) (w := w) hO hs (show 1 < 200 by omega)
  have l1 := m_take_lt s 1
  unfold z_X7_callOn
  rw [nl1, ob_mk e1]
  simp only []
  by_cases h0 : (m_take s 1).1 = 0
  · rw [if_pos (by rw [h0]; rfl)]
    obtain ⟨I2, e2, c2, f2⟩ := x_takeO (F := F) hw (hE.fr f1) hO (c1 h0) hc
    rw [ob_mk e2]
    unfold z_X7_callOn_18
    rw [nl10, nI_add]
    obtain ⟨I3, e3, c3, f3⟩ := x_pushU (w := w) (k := 10 + c) hF hO (m_takeO_lt T (m_take s 1).2 c) c2 (by omega)
    simp only []
    rw [ob_mk e3]
    have e : m_bd (m_take s 1) (fun s => m_bd (m_takeO T s c) (fun s => m_push s (10 + c))) = m_bd (m_takeO T (m_take s 1).2 c) (fun s => m_push s (10 + c)) := by
      show (if (m_take s 1).1 = 0 then _ else _) = _
      rw [if_pos h0]
    rw [e]
    exact ⟨I3, rfl, c3, (f1.trans f2).trans f3⟩
  · rw [if_neg (fun q => h0 ((nI_eq (by omega) (by omega)).mp (q.trans nl0)))]
    unfold z_X7_callOn_18 z_X7_pushUnless
    rw [if_neg (fun q => h0 ((nI_eq (by omega) (by omega)).mp (q.trans nl0)))]
    have e : m_bd (m_take s 1) (fun s => m_bd (m_takeO T s c) (fun s => m_push s (10 + c))) = m_take s 1 := by
      show (if (m_take s 1).1 = 0 then _ else _) = _
      rw [if_neg h0]
    rw [e]
    exact ⟨I1, rfl, c1, f1⟩
theorem x_load (hF : 20 ≤ F) (hE : cE S I t T M pc n K a) (hO : cOK S a) (hs : cSn I a s) {x : Nat} (hx : x < 8) : ∃ I', z_X7_load F S I w M (nI x) a = some (nI (m_load pc x s).1, I') ∧ ((m_load pc x s).1 = 0 → cSn I' a (m_load pc x s).2) ∧ fr a 3 I I' := by
  have hb := hs.1 x hx
  unfold z_X7_load m_load
  rw [ob_mk (s_inPlace hO hx), hb.1, ob_mk (x_hasPlace hE (by omega))]
  by_cases h1 : x < pc
  · rw [decide_eq_true h1, if_neg (by decide)]
    by_cases h2 : s.1 x = 0
    · rw [if_pos (by rw [h2]; rfl), if_pos (Or.inr (Or.inl h2))]
      exact ⟨I, rfl, fun q => absurd q (by simp), fr.rf⟩
    · rw [if_neg (fun q => h2 ((nI_eq (by omega) (by omega)).mp (q.trans nl0)))]
      by_cases h3 : s.1 x = 3
      · rw [if_pos (by rw [h3]; rfl), if_pos (Or.inr (Or.inr h3))]
        exact ⟨I, rfl, fun q => absurd q (by simp), fr.rf⟩
      · rw [if_neg (fun q => h3 ((nI_eq (by omega) (by omega)).mp (q.trans nl3))), if_neg (by omega)]
        obtain ⟨I1, e1, c1, f1⟩ := s_push hF hO hs hb.2
        rw [ob_mk e1]
        exact ⟨I1, rfl, fun _ => c1, f1⟩
  · rw [decide_eq_false h1, if_pos (by rfl), if_pos (Or.inl h1)]
    exact ⟨I, rfl, fun q => absurd q (by simp), fr.rf⟩
theorem x_store (hE : cE S I t T M pc n K a) (hO : cOK S a) (hs : cSn I a s) {x : Nat} (hx : x < 8) : ∃ I', z_X7_store F S I w M (nI x) a = some (nI (m_store pc x s).1, I') ∧ ((m_store pc x s).1 = 0 → cSn I' a (m_store pc x s).2) ∧ fr a 3 I I' := by
  have h8 := hE.2.2.2.1
  unfold z_X7_store m_store
  rw [ob_mk (x_hasPlace hE (by omega))]
  by_cases h1 : x < pc
  · rw [decide_eq_true h1, if_neg (by decide), if_neg (by omega)]
    by_cases h0 : s.2.1 = 0
    · rw [ob_mk (s_pop0 hs h0)]
      simp only [if_pos h0]
      exact ⟨I, rfl, fun q => absurd q (by simp), fr.rf⟩
    · obtain ⟨I1, e1, c1, f1⟩ := s_pop (F := F) hO hs (by omega)
      have hb := (hs.2.2.2 (s.2.1 - 1) (by omega)).2
      rw [ob_mk e1]
      simp only [if_neg h0]
      rw [if_neg (nI_m1 (by omega))]
      have fin : (s.2.2 (s.2.1 - 1) = 2 → x + 1 < 8) → ∃ I', z_X7_store_44 F S (nI x) a (nI (s.2.2 (s.2.1 - 1))) I1 = some (nI 0, I') ∧ cSn I' a (m_sto s.1 x (s.2.2 (s.2.1 - 1)), s.2.1 - 1, s.2.2) ∧ fr a 3 I I' := by
        intro h2
        unfold z_X7_store_44
        obtain ⟨I2, e2, c2, f2⟩ := s_store (F := F) hO c1 hx hb h2
        rw [ob_mk e2]
        exact ⟨I2, rfl, c2, f1.trans f2⟩
      by_cases h2 : s.2.2 (s.2.1 - 1) = 2
      · rw [if_pos (by rw [h2]; rfl), nI_1, ob_mk (x_hasPlace (hE.fr f1) (by omega))]
        by_cases h3 : x + 1 < pc
        · rw [decide_eq_true h3, if_neg (by decide), if_neg (by omega)]
          obtain ⟨I2, e2, c2, f2⟩ := fin (fun _ => by omega)
          exact ⟨I2, e2, fun _ => c2, f2⟩
        · rw [decide_eq_false h3, if_pos (by rfl), if_pos ⟨h2, h3⟩]
          exact ⟨I1, rfl, fun q => absurd q (by simp), f1⟩
      · rw [if_neg (fun q => h2 ((nI_eq (by omega) (by omega)).mp (q.trans nl2))), if_neg (fun q => h2 q.1)]
        obtain ⟨I2, e2, c2, f2⟩ := fin (fun q => absurd q h2)
        exact ⟨I2, e2, fun _ => c2, f2⟩
  · rw [decide_eq_false h1, if_pos (by rfl), if_pos h1]
    exact ⟨I, rfl, fun q => absurd q (by simp), fr.rf⟩
theorem x_actAt (hA : cAs S I M n K) {p : Nat} (hp : p < n) : ∃ q, z_X5_actAt F S I M (nI p) = some (some q) ∧ S.1 (M + 1) p = some q ∧ I q 0 = nI (K p).1 ∧ I q 1 = (K p).2.1 ∧ I q 2 = (K p).2.2 := by
  obtain ⟨g1, g2, g3, g4, g5⟩ := hA
  obtain ⟨q, e0, e1⟩ := g5 p hp
  refine ⟨q, ?_, e0, e1⟩
  unfold z_X5_actAt
  rw [if_neg (nn (by omega)), g3, if_pos ((nI_ltI (by omega) (by omega)).mpr hp), ob_mk g1, g2, if_neg (ni_in (by omega) (by omega)), nc (by omega), e0]
theorem x_actAt_n (hA : cAs S I M n K) {x : Int32} (hx : x < 0 ∨ nI n ≤ x) : z_X5_actAt F S I M x = some none := by
  unfold z_X5_actAt
  rcases hx with h | h
  · rw [if_pos h]
  · by_cases h0 : x < 0
    · rw [if_pos h0]
    · rw [if_neg h0, hA.2.2.1, if_neg (Int32.not_lt.mpr h)]
theorem x_ump (hA : cAs S I M n K) (hk : ∀ p, p < n → (K p).1 ≤ 20) {ty c : Nat} (ht : ty < 200) : z_X5_isUnmadeOf F S I M (nI ty) (nI c) = some (b2i (m_ump n K ty c)) := by
  have h40 := hA.2.2.2.1
  unfold z_X5_isUnmadeOf m_ump
  rw [nl100]
  by_cases h1 : 100 ≤ ty
  · rw [pk_sub h1]
    by_cases h2 : ty - 100 < n
    · obtain ⟨q, e, e0, e1, e2, e3⟩ := x_actAt (F := F) hA h2
      have := hk _ h2
      rw [ob_mk e, ob2_mk rfl, e1, e2]
      by_cases h9 : (K (ty - 100)).1 = 9
      · rw [if_pos (by rw [h9]; rfl)]
        by_cases hc : (K (ty - 100)).2.1 = nI c
        · rw [if_pos hc, decide_eq_true ⟨h1, h2, h9, hc⟩]; rfl
        · rw [if_neg hc, decide_eq_false (fun q => hc q.2.2.2)]; rfl
      · rw [if_neg (fun q => h9 ((nI_eq (by omega) (by omega)).mp (q.trans nl9))), decide_eq_false (fun q => h9 q.2.2.1)]; rfl
    · rw [ob_mk (x_actAt_n hA (Or.inr (nI_le (by omega) (by omega)))), ob2_none, decide_eq_false (fun q => h2 q.2.1)]; rfl
  · rw [ob_mk (x_actAt_n hA (Or.inl (pk_sneg (by omega) (by omega)))), ob2_none, decide_eq_false (fun q => h1 q.1)]; rfl
theorem x_make (hF : 20 ≤ F) (hE : cE S I t T M pc n K a) (hO : cOK S a) (hs : cSn I a s) {c : Nat} (hc : c < T.1) : ∃ I', z_X7_make F S I w M (nI c) a = some (nI (m_make n K c s).1, I') ∧ ((m_make n K c s).1 = 0 → cSn I' a (m_make n K c s).2) ∧ fr a 3 I I' := by
  have h16 := hE.1.2.2.2.2.2.1.2.1
  unfold z_X7_make m_make
  by_cases h0 : s.2.1 = 0
  · rw [ob_mk (s_pop0 hs h0)]
    simp only [if_pos h0]
    exact ⟨I, rfl, fun q => absurd q (by simp), fr.rf⟩
  · obtain ⟨I1, e1, c1, f1⟩ := s_pop (F := F) hO hs (by omega)
    have hb := (hs.2.2.2 (s.2.1 - 1) (by omega)).2
    rw [ob_mk e1]
    simp only [if_neg h0]
    rw [if_neg (nI_m1 (by omega)), ob_mk (x_ump (hE.fr f1).2.2.2.2.2.1 (fun p hp => (hE.2.2.2.2.2.2.2 p hp).1) hb)]
    cases m_ump n K (s.2.2 (s.2.1 - 1)) c
    · rw [if_pos (show b2i false = 0 from rfl), if_neg (show ¬ false = true by decide)]
      exact ⟨I1, rfl, fun q => absurd q (by simp), f1⟩
    · rw [if_neg (show ¬ b2i true = 0 by decide), if_pos (show true = true from rfl), nl10, nI_add]
      obtain ⟨I2, e2, c2, f2⟩ := s_rep hF hO c1 hb (show 10 + c < 200 by omega)
      rw [ob_mk e2]
      exact ⟨I2, rfl, fun _ => c2, f1.trans f2⟩
end CW
