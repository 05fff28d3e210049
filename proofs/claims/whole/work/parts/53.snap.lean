section CS
variable {F : Nat} {S : zS} {I : zI} {a : Nat} {s : mSn}
theorem z_cpy_at {I : zI} {a b n j : Nat} (h : j < n) : z_cpy I a 0 b 0 n b j = I a j := by
  unfold z_cpy va_cpy
  rw [if_pos rfl, if_pos (by omega)]; congr 1; omega
theorem z_cpy_off {I : zI} {a b n q : Nat} (h : q ≠ b) : z_cpy I a 0 b 0 n q = I q := by
  funext j; unfold z_cpy; rw [if_neg h]
theorem s_become (hO : cOK S a) {b : Nat} (hB : cOK S b) (hs : cSn I b s) (hd : a + 3 ≤ b ∨ b + 3 ≤ a) : ∃ I', z_X6_become F S I a b = some I' ∧ cSn I' a s ∧ fr a 3 I I' := by
  unfold z_X6_become
  rw [ob_mk hB.1, ob_mk hO.1, hB.2.2.1, hO.2.2.1, if_neg (by decide), ob_mk hB.2.1, ob_mk hO.2.1, hB.2.2.2, hO.2.2.2, if_neg (by decide)]
  refine ⟨_, rfl, ⟨fun x hx => ?_, ?_, hs.2.2.1, fun j hj => ?_⟩, fun q hq => ?_⟩
  · rw [z_up_ne (Or.inl (by omega))]
    show z_cpy (z_cpy I (b + 1) 0 (a + 1) 0 8) (b + 2) 0 (a + 2) 0 10 (a + 1) x = _ ∧ _
    rw [z_cpy_off (by omega), z_cpy_at hx]; exact hs.1 x hx
  · rw [z_up_at]
    show z_cpy (z_cpy I (b + 1) 0 (a + 1) 0 8) (b + 2) 0 (a + 2) 0 10 b 2 = _
    rw [z_cpy_off (by omega), z_cpy_off (by omega)]; exact hs.2.1
  · rw [z_up_ne (Or.inl (by omega))]
    show z_cpy (z_cpy I (b + 1) 0 (a + 1) 0 8) (b + 2) 0 (a + 2) 0 10 (a + 2) j = _ ∧ _
    rw [z_cpy_at (by have := hs.2.2.1; omega), z_cpy_off (by omega)]; exact hs.2.2.2 j hj
  · rw [z_up_off (by omega)]
    show z_cpy (z_cpy I (b + 1) 0 (a + 1) 0 8) (b + 2) 0 (a + 2) 0 10 q = _
    rw [z_cpy_off (by omega), z_cpy_off (by omega)]
theorem s_cau_lp (hF : 20 ≤ F) (hO : cOK S a) {c : Nat} (hc : c < 100) (h0 : Nat) (st0 : Nat → Nat) : ∀ (n i : Nat) (J : zI), i ≤ 8 → 8 < i + n → cSn J a (fun x => if x < i ∧ 100 ≤ s.1 x then 0 else s.1 x, h0, st0) → ∃ I', z_X6_becomeCaught_7 F S n a (nI c) (nI i) J = some I' ∧ cSn I' a (m_cau s c) ∧ fr a 3 J I' := by
  intro n
  induction n with
  | zero => intro i J h1 h2; omega
  | succ n ih =>
    intro i J h1 h2 hJ
    show ∃ I', z_X6_becomeCaught_7B F S (z_X6_becomeCaught_7 F S n) a (nI c) (nI i) J = some I' ∧ _
    unfold z_X6_becomeCaught_7B
    rw [nl8]
    by_cases hi : i < 8
    · have hb := hJ.1 i hi
      have hb2 : (if i < i ∧ 100 ≤ s.1 i then 0 else s.1 i) < 200 := hb.2
      have hb1 : J (a + 1) i = nI (if i < i ∧ 100 ≤ s.1 i then 0 else s.1 i) := hb.1
      rw [if_neg (by omega)] at hb1 hb2
      rw [if_pos ((nI_ltI (by omega) (by omega)).mpr hi), ob_mk (s_inPlace hO hi), hb1, nl100]
      by_cases hu : s.1 i < 100
      · rw [if_pos ((nI_ltI (by omega) (by omega)).mpr hu), nI_1]
        refine ih (i + 1) J (by omega) (by omega) ⟨fun x hx => ?_, hJ.2⟩
        have := hJ.1 x hx
        by_cases hxi : x = i
        · subst hxi
          show J (a + 1) x = nI (if x < x + 1 ∧ 100 ≤ s.1 x then 0 else s.1 x) ∧ (if x < x + 1 ∧ 100 ≤ s.1 x then 0 else s.1 x) < 200
          rw [if_neg (by omega)]; exact ⟨hb1, hb2⟩
        · have e : (x < i + 1 ∧ 100 ≤ s.1 x) = (x < i ∧ 100 ≤ s.1 x) := by
            apply propext; constructor <;> (rintro ⟨p, q⟩; exact ⟨by omega, q⟩)
          show J (a + 1) x = nI (if x < i + 1 ∧ 100 ≤ s.1 x then 0 else s.1 x) ∧ (if x < i + 1 ∧ 100 ≤ s.1 x then 0 else s.1 x) < 200
          simp only [e]; exact this
      · rw [if_neg (fun q => hu ((nI_ltI (by omega) (by omega)).mp q)), ob_mk (s_setPlace hO hi 0), nI_1]
        obtain ⟨I', g1, g2, g3⟩ := ih (i + 1) (z_up J (a + 1) i 0) (by omega) (by omega) ⟨fun x hx => by
          show _ = nI (if x < i + 1 ∧ 100 ≤ s.1 x then 0 else s.1 x) ∧ (if x < i + 1 ∧ 100 ≤ s.1 x then 0 else s.1 x) < 200
          by_cases hxi : x = i
          · subst hxi; rw [z_up_at, if_pos ⟨by omega, by omega⟩]; exact ⟨rfl, by omega⟩
          · rw [z_up_ne (Or.inr hxi)]
            have e : (x < i + 1 ∧ 100 ≤ s.1 x) = (x < i ∧ 100 ≤ s.1 x) := by
              apply propext; constructor <;> (rintro ⟨p, q⟩; exact ⟨by omega, q⟩)
            simp only [e]; exact hJ.1 x hx, (hJ.setP (x := i) (t := 0) (by omega)).2⟩
        exact ⟨I', g1, g2, (fr.rf.up (by omega) (by omega)).trans g3⟩
    · rw [if_neg (fun q => hi ((nI_ltI (by omega) (by omega)).mp q))]
      have hJ0 : cSn (z_up J a 2 0) a (fun x => if x < i ∧ 100 ≤ s.1 x then 0 else s.1 x, 0, st0) := hJ.setH (k := 0) (Nat.zero_le _)
      rw [nl10, nI_add]
      obtain ⟨I', g1, g2, g3⟩ := s_push hF hO hJ0 (t := 10 + c) (by omega)
      rw [ob_mk g1]
      have e : m_push (fun x => if x < i ∧ 100 ≤ s.1 x then 0 else s.1 x, 0, st0) (10 + c) = (0, fun x => if x < i ∧ 100 ≤ s.1 x then 0 else s.1 x, 1, nup st0 0 (10 + c)) := by
        unfold m_push
        rw [if_neg]
        show ¬ 10 < m_wt st0 0 + m_t (10 + c)
        have := m_t_pos (10 + c)
        simp only [m_wt]; omega
      rw [e] at g2
      refine ⟨I', rfl, ⟨fun x hx => ?_, g2.2.1, g2.2.2.1, fun j hj => ?_⟩, (fr.rf.up (by omega) (by omega)).trans g3⟩
      · have := g2.1 x hx
        show I' (a + 1) x = nI (if 100 ≤ s.1 x then 0 else s.1 x) ∧ (if 100 ≤ s.1 x then 0 else s.1 x) < 200
        have e2 : (x < i ∧ 100 ≤ s.1 x) = (100 ≤ s.1 x) := by apply propext; constructor <;> intro q <;> first | exact q.2 | exact ⟨by omega, q⟩
        simp only [e2] at this; exact this
      · have hj : j < 1 := hj
        have : j = 0 := by omega
        subst this
        have := g2.2.2.2 0 (by show 0 < 1; omega)
        exact this
theorem s_cau (hF : 20 ≤ F) (hO : cOK S a) {b c : Nat} (hB : cOK S b) (hs : cSn I b s) (hd : a + 3 ≤ b ∨ b + 3 ≤ a) (hc : c < 100) : ∃ I', z_X6_becomeCaught F S I a b (nI c) = some I' ∧ cSn I' a (m_cau s c) ∧ fr a 3 I I' := by
  obtain ⟨I1, e1, h1, f1⟩ := s_become (F := F) hO hB hs hd
  unfold z_X6_becomeCaught
  rw [ob_mk e1]
  obtain ⟨I', g1, g2, g3⟩ := s_cau_lp (s := s) hF hO hc s.2.1 s.2.2 F 0 I1 (by omega) (by omega) ⟨fun x hx => by
    show _ = nI (if x < 0 ∧ 100 ≤ s.1 x then 0 else s.1 x) ∧ (if x < 0 ∧ 100 ≤ s.1 x then 0 else s.1 x) < 200
    rw [if_neg (by omega)]; exact h1.1 x hx, h1.2⟩
  exact ⟨I', g1, g2, f1.trans g3⟩
theorem s_rep2 (hO : cOK S a) {o t : Nat} (ho : o < 200) (ht : t < 200) : ∀ (n i : Nat) (J : zI), i ≤ s.2.1 → s.2.1 < i + n → cSn J a (s.1, s.2.1, fun j => if j < i ∧ s.2.2 j = o then t else s.2.2 j) → ∃ I', z_X6_replace_31 F S n a (nI o) (nI t) (nI i) J = some I' ∧ cSn I' a (s.1, s.2.1, fun j => if s.2.2 j = o then t else s.2.2 j) ∧ fr a 3 J I' := by
  intro n
  induction n with
  | zero => intro i J h1 h2; omega
  | succ n ih =>
    intro i J h1 h2 hJ
    have h10 : s.2.1 ≤ 10 := hJ.2.2.1
    show ∃ I', z_X6_replace_31B F S (z_X6_replace_31 F S n) a (nI o) (nI t) (nI i) J = some I' ∧ _
    unfold z_X6_replace_31B
    rw [show J a 2 = nI s.2.1 from hJ.2.1]
    by_cases hi : i < s.2.1
    · have hb := hJ.2.2.2 i hi
      have hb2 : (if i < i ∧ s.2.2 i = o then t else s.2.2 i) < 200 := hb.2
      rw [if_neg (by omega)] at hb2
      have e0 := s_onStack (F := F) hO hJ (j := i) hi
      rw [show ((s.1, s.2.1, fun j => if j < i ∧ s.2.2 j = o then t else s.2.2 j) : mSn).2.2 i = s.2.2 i from by show (if i < i ∧ s.2.2 i = o then t else s.2.2 i) = _; rw [if_neg (by omega)]] at e0
      rw [if_pos ((nI_ltI (by omega) (by omega)).mpr hi), ob_mk e0]
      by_cases hu : s.2.2 i = o
      · rw [if_pos (by rw [hu]), ob_mk (s_setStack hO (h := s.2.1) hJ.2.1 h10 hi _), nI_1]
        obtain ⟨I', g1, g2, g3⟩ := ih (i + 1) (z_up J (a + 2) i (nI t)) (by omega) (by omega) ⟨(hJ.setS (j := i) ht).1, (hJ.setS (j := i) ht).2.1, h10, fun j hj => by
          show _ = nI (if j < i + 1 ∧ s.2.2 j = o then t else s.2.2 j) ∧ (if j < i + 1 ∧ s.2.2 j = o then t else s.2.2 j) < 200
          by_cases hji : j = i
          · subst hji; rw [z_up_at, if_pos ⟨by omega, hu⟩]; exact ⟨rfl, ht⟩
          · rw [z_up_ne (Or.inr hji)]
            have e : (j < i + 1 ∧ s.2.2 j = o) = (j < i ∧ s.2.2 j = o) := by
              apply propext; constructor <;> (rintro ⟨p, q⟩; exact ⟨by omega, q⟩)
            simp only [e]; exact hJ.2.2.2 j hj⟩
        exact ⟨I', g1, g2, (fr.rf.up (by omega) (by omega)).trans g3⟩
      · rw [if_neg (fun q => hu ((nI_eq (by omega) (by omega)).mp q)), nI_1]
        refine ih (i + 1) J (by omega) (by omega) ⟨hJ.1, hJ.2.1, h10, fun j hj => ?_⟩
        show _ = nI (if j < i + 1 ∧ s.2.2 j = o then t else s.2.2 j) ∧ (if j < i + 1 ∧ s.2.2 j = o then t else s.2.2 j) < 200
        have e : (j < i + 1 ∧ s.2.2 j = o) = (j < i ∧ s.2.2 j = o) := by
          apply propext; constructor
          · rintro ⟨p, q⟩
            by_cases hji : j = i
            · subst hji; exact absurd q hu
            · exact ⟨by omega, q⟩
          · rintro ⟨p, q⟩; exact ⟨by omega, q⟩
        simp only [e]; exact hJ.2.2.2 j hj
    · rw [if_neg (fun q => hi ((nI_ltI (by omega) (by omega)).mp q))]
      refine ⟨J, rfl, ⟨hJ.1, hJ.2.1, h10, fun j hj => ?_⟩, fr.rf⟩
      have hj : j < s.2.1 := hj
      have := hJ.2.2.2 j hj
      have e : (j < i ∧ s.2.2 j = o) = (s.2.2 j = o) := by
        apply propext; constructor
        · exact fun q => q.2
        · exact fun q => ⟨by omega, q⟩
      show J (a + 2) j = nI (if s.2.2 j = o then t else s.2.2 j) ∧ (if s.2.2 j = o then t else s.2.2 j) < 200
      simp only [e] at this; exact this
theorem s_rep1 (hF : 20 ≤ F) (hO : cOK S a) {o t : Nat} (ho : o < 200) (ht : t < 200) : ∀ (n i : Nat) (J : zI), i ≤ 8 → 8 < i + n → cSn J a (fun x => if x < i ∧ s.1 x = o then t else s.1 x, s.2) → ∃ I', z_X6_replace_2 F S n a (nI o) (nI t) (nI i) J = some I' ∧ cSn I' a (m_rep s o t) ∧ fr a 3 J I' := by
  intro n
  induction n with
  | zero => intro i J h1 h2; omega
  | succ n ih =>
    intro i J h1 h2 hJ
    show ∃ I', z_X6_replace_2B F S (z_X6_replace_2 F S n) a (nI o) (nI t) (nI i) J = some I' ∧ _
    unfold z_X6_replace_2B
    rw [nl8]
    by_cases hi : i < 8
    · have hb := hJ.1 i hi
      have hb2 : (if i < i ∧ s.1 i = o then t else s.1 i) < 200 := hb.2
      have hb1 : J (a + 1) i = nI (if i < i ∧ s.1 i = o then t else s.1 i) := hb.1
      rw [if_neg (by omega)] at hb1 hb2
      rw [if_pos ((nI_ltI (by omega) (by omega)).mpr hi), ob_mk (s_inPlace hO hi), hb1]
      by_cases hu : s.1 i = o
      · rw [if_pos (by rw [hu]), ob_mk (s_setPlace hO hi _), nI_1]
        obtain ⟨I', g1, g2, g3⟩ := ih (i + 1) (z_up J (a + 1) i (nI t)) (by omega) (by omega) ⟨fun x hx => by
          show _ = nI (if x < i + 1 ∧ s.1 x = o then t else s.1 x) ∧ (if x < i + 1 ∧ s.1 x = o then t else s.1 x) < 200
          by_cases hxi : x = i
          · subst hxi; rw [z_up_at, if_pos ⟨by omega, hu⟩]; exact ⟨rfl, ht⟩
          · rw [z_up_ne (Or.inr hxi)]
            have e : (x < i + 1 ∧ s.1 x = o) = (x < i ∧ s.1 x = o) := by
              apply propext; constructor <;> (rintro ⟨p, q⟩; exact ⟨by omega, q⟩)
            simp only [e]; exact hJ.1 x hx, (hJ.setP (x := i) ht).2⟩
        exact ⟨I', g1, g2, (fr.rf.up (by omega) (by omega)).trans g3⟩
      · rw [if_neg (fun q => hu ((nI_eq (by omega) (by omega)).mp q)), nI_1]
        refine ih (i + 1) J (by omega) (by omega) ⟨fun x hx => ?_, hJ.2⟩
        show _ = nI (if x < i + 1 ∧ s.1 x = o then t else s.1 x) ∧ (if x < i + 1 ∧ s.1 x = o then t else s.1 x) < 200
        have e : (x < i + 1 ∧ s.1 x = o) = (x < i ∧ s.1 x = o) := by
          apply propext; constructor
          · rintro ⟨p, q⟩
            by_cases hxi : x = i
            · subst hxi; exact absurd q hu
            · exact ⟨by omega, q⟩
          · rintro ⟨p, q⟩; exact ⟨by omega, q⟩
        simp only [e]; exact hJ.1 x hx
    · rw [if_neg (fun q => hi ((nI_ltI (by omega) (by omega)).mp q)), nl0]
      have hJ2 : cSn J a (fun x => if s.1 x = o then t else s.1 x, s.2.1, fun j => if j < 0 ∧ s.2.2 j = o then t else s.2.2 j) := by
        refine ⟨fun x hx => ?_, hJ.2.1, hJ.2.2.1, fun j hj => ?_⟩
        · have := hJ.1 x hx
          have e : (x < i ∧ s.1 x = o) = (s.1 x = o) := by
            apply propext; constructor
            · exact fun q => q.2
            · exact fun q => ⟨by omega, q⟩
          simp only [e] at this; exact this
        · show _ = nI (if j < 0 ∧ s.2.2 j = o then t else s.2.2 j) ∧ (if j < 0 ∧ s.2.2 j = o then t else s.2.2 j) < 200
          rw [if_neg (by omega)]; exact hJ.2.2.2 j hj
      exact s_rep2 (s := (fun x => if s.1 x = o then t else s.1 x, s.2)) hO ho ht F 0 J (Nat.zero_le _) (by have h10 : s.2.1 ≤ 10 := hJ.2.2.1; show s.2.1 < 0 + F; omega) hJ2
theorem s_rep (hF : 20 ≤ F) (hO : cOK S a) (hs : cSn I a s) {o t : Nat} (ho : o < 200) (ht : t < 200) : ∃ I', z_X6_replace F S I a (nI o) (nI t) = some I' ∧ cSn I' a (m_rep s o t) ∧ fr a 3 I I' := by
  refine s_rep1 (s := s) hF hO ho ht F 0 I (by omega) (by omega) ⟨fun x hx => ?_, hs.2⟩
  show _ = nI (if x < 0 ∧ s.1 x = o then t else s.1 x) ∧ (if x < 0 ∧ s.1 x = o then t else s.1 x) < 200
  rw [if_neg (by omega)]; exact hs.1 x hx
theorem s_empty_lp (hO : cOK S a) : ∀ (n i : Nat) (J : zI), i ≤ 8 → 8 < i + n → (∀ x, x < i → J (a + 1) x = 0) → ∃ I', z_X6_empty_2 F S n a (nI i) J = some I' ∧ cSn I' a (fun _ => 0, 0, fun _ => 0) ∧ fr a 3 J I' := by
  intro n
  induction n with
  | zero => intro i J h1 h2; omega
  | succ n ih =>
    intro i J h1 h2 hJ
    show ∃ I', z_X6_empty_2B F S (z_X6_empty_2 F S n) a (nI i) J = some I' ∧ _
    unfold z_X6_empty_2B
    rw [nl8]
    by_cases hi : i < 8
    · rw [if_pos ((nI_ltI (by omega) (by omega)).mpr hi), ob_mk hO.1, hO.2.2.1, if_neg (ni_in hi (by omega)), nc (by omega), nI_1]
      obtain ⟨I', g1, g2, g3⟩ := ih (i + 1) (z_up J (a + 1) i 0) (by omega) (by omega) (fun x hx => by
        by_cases hxi : x = i
        · subst hxi; rw [z_up_at]
        · rw [z_up_ne (Or.inr hxi)]; exact hJ x (by omega))
      exact ⟨I', g1, g2, (fr.rf.up (by omega) (by omega)).trans g3⟩
    · rw [if_neg (fun q => hi ((nI_ltI (by omega) (by omega)).mp q))]
      refine ⟨_, rfl, ⟨fun x hx => ?_, by rw [z_up_at]; rfl, by show 0 ≤ 10; omega, fun j hj => absurd hj (Nat.not_lt_zero j)⟩, fr.rf.up (by omega) (by omega)⟩
      rw [z_up_ne (Or.inl (by omega)), hJ x (by omega)]
      exact ⟨rfl, by show 0 < 200; omega⟩
theorem s_empty (hF : 20 ≤ F) (hO : cOK S a) : ∃ I', z_X6_empty F S I a = some I' ∧ cSn I' a (fun _ => 0, 0, fun _ => 0) ∧ fr a 3 I I' := s_empty_lp hO F 0 I (by omega) (by omega) (fun x hx => by omega)
end CS
