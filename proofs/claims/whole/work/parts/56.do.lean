section CP
variable {F : Nat} {S : zS} {I : zI} {t : Nat} {T : mTr} {M pc n : Nat} {K : Nat → mAc} {a w : Nat} {s : mSn}
set_option maxHeartbeats 4000000 in
theorem x_do (hF : 20 ≤ F) (hw : S.1 w 0 = some t) (hE : cE S I t T M pc n K a) (hO : cOK S a) (hs : cSn I a s) {p q : Nat} (hp : p < n) (hq : S.1 (M + 1) p = some q) : ∃ I', z_X7_perform F S I w M (nI p) q a = some (nI (m_do T pc n K (K p).1 (K p).2.1.toNatClampNeg p s).1, I') ∧ ((m_do T pc n K (K p).1 (K p).2.1.toNatClampNeg p s).1 = 0 → cSn I' a (m_do T pc n K (K p).1 (K p).2.1.toNatClampNeg p s).2) ∧ fr a 3 I I' := by
  have h16 := hE.1.2.2.2.2.2.1.2.1
  have h40 := hE.2.2.2.2.2.1.2.2.2.1
  obtain ⟨q', e0, e1, e2, e3⟩ := hE.2.2.2.2.2.1.2.2.2.2 p hp
  have hqq : q = q' := Option.some.inj (hq.symm.trans e0)
  subst hqq
  obtain ⟨k20, hpl, hcl, hgo⟩ := hE.2.2.2.2.2.2.2 p hp
  have root : 0 < T.1 := hE.1.2.2.2.2.2.1.1
  rcases (show (K p).1 = 0 ∨ (K p).1 = 1 ∨ (K p).1 = 2 ∨ (K p).1 = 3 ∨ (K p).1 = 4 ∨ (K p).1 = 5 ∨ (K p).1 = 6 ∨ (K p).1 = 7 ∨ (K p).1 = 8 ∨ (K p).1 = 9 ∨ (K p).1 = 10 ∨ (K p).1 = 11 ∨ (K p).1 = 12 ∨ (K p).1 = 13 ∨ (K p).1 = 14 ∨ (K p).1 = 15 ∨ (K p).1 = 16 ∨ (K p).1 = 17 ∨ (K p).1 = 18 ∨ (K p).1 = 19 ∨ (K p).1 = 20 by omega) with hk | hk | hk | hk | hk | hk | hk | hk | hk | hk | hk | hk | hk | hk | hk | hk | hk | hk | hk | hk | hk
  · rw [hk]
    show ∃ I', z_X7_perform F S I w M (nI p) q a = some (nI (m_push s 1).1, I') ∧ ((m_push s 1).1 = 0 → cSn I' a (m_push s 1).2) ∧ fr a 3 I I'
    unfold z_X7_perform
    rw [e1, hk, if_pos (by decide)]
    obtain ⟨I1, g1, c1, f1⟩ := s_push hF hO hs (show 1 < 200 by omega)
    rw [nl1, ob_mk g1]
    exact ⟨I1, rfl, fun _ => c1, f1⟩
  · rw [hk]
    show ∃ I', z_X7_perform F S I w M (nI p) q a = some (nI (m_push s 2).1, I') ∧ ((m_push s 2).1 = 0 → cSn I' a (m_push s 2).2) ∧ fr a 3 I I'
    unfold z_X7_perform
    rw [e1, hk, if_neg (by decide), if_pos (by decide)]
    obtain ⟨I1, g1, c1, f1⟩ := s_push hF hO hs (show 2 < 200 by omega)
    rw [nl2, ob_mk g1]
    exact ⟨I1, rfl, fun _ => c1, f1⟩
  · rw [hk]
    show ∃ I', z_X7_perform F S I w M (nI p) q a = some (nI (m_push s 4).1, I') ∧ ((m_push s 4).1 = 0 → cSn I' a (m_push s 4).2) ∧ fr a 3 I I'
    unfold z_X7_perform
    rw [e1, hk, if_neg (by decide), if_neg (by decide), if_pos (by decide)]
    obtain ⟨I1, g1, c1, f1⟩ := s_push hF hO hs (show 4 < 200 by omega)
    rw [nl4, ob_mk g1]
    exact ⟨I1, rfl, fun _ => c1, f1⟩
  · rw [hk]
    obtain ⟨al, ha, ea⟩ := hpl (by omega)
    have ec : (K p).2.1.toNatClampNeg = al := by rw [ea]; exact nc (by omega)
    rw [ec]
    show ∃ I', z_X7_perform F S I w M (nI p) q a = some (nI (m_load pc al s).1, I') ∧ ((m_load pc al s).1 = 0 → cSn I' a (m_load pc al s).2) ∧ fr a 3 I I'
    unfold z_X7_perform
    rw [e1, hk, if_neg (by decide), if_neg (by decide), if_neg (by decide), if_pos (by decide)]
    obtain ⟨I1, g1, c1, f1⟩ := x_load (w := w) hF hE hO hs ha
    rw [e2, ea, ob_mk g1]
    exact ⟨I1, rfl, c1, f1⟩
  · rw [hk]
    obtain ⟨al, ha, ea⟩ := hpl (by omega)
    have ec : (K p).2.1.toNatClampNeg = al := by rw [ea]; exact nc (by omega)
    rw [ec]
    show ∃ I', z_X7_perform F S I w M (nI p) q a = some (nI (m_store pc al s).1, I') ∧ ((m_store pc al s).1 = 0 → cSn I' a (m_store pc al s).2) ∧ fr a 3 I I'
    unfold z_X7_perform
    rw [e1, hk, if_neg (by decide), if_neg (by decide), if_neg (by decide), if_neg (by decide), if_pos (by decide)]
    obtain ⟨I1, g1, c1, f1⟩ := x_store (F := F) (w := w) hE hO hs ha
    rw [e2, ea, ob_mk g1]
    exact ⟨I1, rfl, c1, f1⟩
  · rw [hk]
    show ∃ I', z_X7_perform F S I w M (nI p) q a = some (nI (if s.2.1 = 0 then ((1, s) : Nat × mSn) else (0, s.1, s.2.1 - 1, s.2.2)).1, I') ∧ ((if s.2.1 = 0 then ((1, s) : Nat × mSn) else (0, s.1, s.2.1 - 1, s.2.2)).1 = 0 → cSn I' a (if s.2.1 = 0 then ((1, s) : Nat × mSn) else (0, s.1, s.2.1 - 1, s.2.2)).2) ∧ fr a 3 I I'
    unfold z_X7_perform
    rw [e1, hk, if_neg (by decide), if_neg (by decide), if_neg (by decide), if_neg (by decide), if_neg (by decide), if_pos (by decide)]
    by_cases h0 : s.2.1 = 0
    · rw [ob_mk (s_pop0 hs h0)]
      simp only [if_pos h0]
      exact ⟨I, rfl, fun q => absurd q (by simp), fr.rf⟩
    · obtain ⟨I1, g1, c1, f1⟩ := s_pop (F := F) hO hs (by omega)
      have hb := (hs.2.2.2 (s.2.1 - 1) (by omega)).2
      rw [ob_mk g1]
      simp only [if_neg h0]
      rw [if_neg (nI_m1 (by omega))]
      exact ⟨I1, rfl, fun _ => c1, f1⟩
  · rw [hk]
    show ∃ I', z_X7_perform F S I w M (nI p) q a = some (nI (if s.2.1 = 0 then ((1, s) : Nat × mSn) else m_push s (s.2.2 (s.2.1 - 1))).1, I') ∧ ((if s.2.1 = 0 then ((1, s) : Nat × mSn) else m_push s (s.2.2 (s.2.1 - 1))).1 = 0 → cSn I' a (if s.2.1 = 0 then ((1, s) : Nat × mSn) else m_push s (s.2.2 (s.2.1 - 1))).2) ∧ fr a 3 I I'
    unfold z_X7_perform
    rw [e1, hk, if_neg (by decide), if_neg (by decide), if_neg (by decide), if_neg (by decide), if_neg (by decide), if_neg (by decide), if_pos (by decide)]
    by_cases h0 : s.2.1 = 0
    · rw [ob_mk (s_top0 hs h0)]
      simp only [if_pos h0]
      exact ⟨I, rfl, fun q => absurd q (by simp), fr.rf⟩
    · have hb := (hs.2.2.2 (s.2.1 - 1) (by omega)).2
      rw [ob_mk (s_top hO hs (by omega)), if_neg (nI_m1 (by omega)), ob_mk (s_top hO hs (by omega))]
      simp only [if_neg h0]
      obtain ⟨I1, g1, c1, f1⟩ := s_push hF hO hs hb
      rw [ob_mk g1]
      exact ⟨I1, rfl, fun _ => c1, f1⟩
  · rw [hk]
    show ∃ I', z_X7_perform F S I w M (nI p) q a = some (nI (m_bd (m_take s 1) (fun s => m_bd (m_take s 1) (fun s => m_push s 1))).1, I') ∧ ((m_bd (m_take s 1) (fun s => m_bd (m_take s 1) (fun s => m_push s 1))).1 = 0 → cSn I' a (m_bd (m_take s 1) (fun s => m_bd (m_take s 1) (fun s => m_push s 1))).2) ∧ fr a 3 I I'
    unfold z_X7_perform
    rw [e1, hk, if_neg (by decide), if_neg (by decide), if_neg (by decide), if_neg (by decide), if_neg (by decide), if_neg (by decide), if_neg (by decide), if_pos (by decide)]
    obtain ⟨I1, g1, c1, f1⟩ := x_add (w := w) hF hO hs (show 1 < 200 by omega)
    rw [nl1, ob_mk g1]
    exact ⟨I1, rfl, c1, f1⟩
  · rw [hk]
    show ∃ I', z_X7_perform F S I w M (nI p) q a = some (nI (m_bd (m_take s 2) (fun s => m_bd (m_take s 2) (fun s => m_push s 2))).1, I') ∧ ((m_bd (m_take s 2) (fun s => m_bd (m_take s 2) (fun s => m_push s 2))).1 = 0 → cSn I' a (m_bd (m_take s 2) (fun s => m_bd (m_take s 2) (fun s => m_push s 2))).2) ∧ fr a 3 I I'
    unfold z_X7_perform
    rw [e1, hk, if_neg (by decide), if_neg (by decide), if_neg (by decide), if_neg (by decide), if_neg (by decide), if_neg (by decide), if_neg (by decide), if_neg (by decide), if_pos (by decide)]
    obtain ⟨I1, g1, c1, f1⟩ := x_add (w := w) hF hO hs (show 2 < 200 by omega)
    rw [nl2, ob_mk g1]
    exact ⟨I1, rfl, c1, f1⟩
  · rw [hk]
    obtain ⟨al, ha, ea⟩ := hcl (by omega)
    have ec : (K p).2.1.toNatClampNeg = al := by rw [ea]; exact nc (by omega)
    rw [ec]
    show ∃ I', z_X7_perform F S I w M (nI p) q a = some (nI (m_push s (100 + p)).1, I') ∧ ((m_push s (100 + p)).1 = 0 → cSn I' a (m_push s (100 + p)).2) ∧ fr a 3 I I'
    unfold z_X7_perform
    rw [e1, hk, if_neg (by decide), if_neg (by decide), if_neg (by decide), if_neg (by decide), if_neg (by decide), if_neg (by decide), if_neg (by decide), if_neg (by decide), if_neg (by decide), if_pos (by decide)]
    obtain ⟨I1, g1, c1, f1⟩ := s_push hF hO hs (show 100 + p < 200 by omega)
    rw [nl100, nI_add, ob_mk g1]
    exact ⟨I1, rfl, fun _ => c1, f1⟩
  · rw [hk]
    obtain ⟨al, ha, ea⟩ := hcl (by omega)
    have ec : (K p).2.1.toNatClampNeg = al := by rw [ea]; exact nc (by omega)
    rw [ec]
    show ∃ I', z_X7_perform F S I w M (nI p) q a = some (nI (m_make n K al s).1, I') ∧ ((m_make n K al s).1 = 0 → cSn I' a (m_make n K al s).2) ∧ fr a 3 I I'
    unfold z_X7_perform
    rw [e1, hk, if_neg (by decide), if_neg (by decide), if_neg (by decide), if_neg (by decide), if_neg (by decide), if_neg (by decide), if_neg (by decide), if_neg (by decide), if_neg (by decide), if_neg (by decide), if_pos (by decide)]
    obtain ⟨I1, g1, c1, f1⟩ := x_make (w := w) hF hE hO hs ha
    rw [e2, ea, ob_mk g1]
    exact ⟨I1, rfl, c1, f1⟩
  · rw [hk]
    obtain ⟨al, ha, ea⟩ := hcl (by omega)
    have ec : (K p).2.1.toNatClampNeg = al := by rw [ea]; exact nc (by omega)
    rw [ec]
    show ∃ I', z_X7_perform F S I w M (nI p) q a = some (nI (m_bd (m_takeO T s al) (fun s => m_push s 1)).1, I') ∧ ((m_bd (m_takeO T s al) (fun s => m_push s 1)).1 = 0 → cSn I' a (m_bd (m_takeO T s al) (fun s => m_push s 1)).2) ∧ fr a 3 I I'
    unfold z_X7_perform
    rw [e1, hk, if_neg (by decide), if_neg (by decide), if_neg (by decide), if_neg (by decide), if_neg (by decide), if_neg (by decide), if_neg (by decide), if_neg (by decide), if_neg (by decide), if_neg (by decide), if_neg (by decide), if_pos (by decide)]
    obtain ⟨I1, g1, c1, f1⟩ := x_takeO (F := F) hw hE hO hs ha
    rw [e2, ea, ob_mk g1]
    obtain ⟨I2, g2, c2, f2⟩ := x_pushU (w := w) hF hO (m_takeO_lt T s al) c1 (show 1 < 200 by omega)
    simp only []
    rw [nl1, ob_mk g2]
    exact ⟨I2, rfl, c2, f1.trans f2⟩
  · rw [hk]
    obtain ⟨al, ha, ea⟩ := hcl (by omega)
    have ec : (K p).2.1.toNatClampNeg = al := by rw [ea]; exact nc (by omega)
    rw [ec]
    show ∃ I', z_X7_perform F S I w M (nI p) q a = some (nI (m_bd (m_take s 1) (fun s => m_bd (m_takeO T s al) (fun s => m_push s (10 + al)))).1, I') ∧ ((m_bd (m_take s 1) (fun s => m_bd (m_takeO T s al) (fun s => m_push s (10 + al)))).1 = 0 → cSn I' a (m_bd (m_take s 1) (fun s => m_bd (m_takeO T s al) (fun s => m_push s (10 + al)))).2) ∧ fr a 3 I I'
    unfold z_X7_perform
    rw [e1, hk, if_neg (by decide), if_neg (by decide), if_neg (by decide), if_neg (by decide), if_neg (by decide), if_neg (by decide), if_neg (by decide), if_neg (by decide), if_neg (by decide), if_neg (by decide), if_neg (by decide), if_neg (by decide), if_pos (by decide)]
    obtain ⟨I1, g1, c1, f1⟩ := x_call hF hw hE hO hs ha
    rw [e2, ea, ob_mk g1]
    exact ⟨I1, rfl, c1, f1⟩
  · rw [hk]
    obtain ⟨al, ha, ea⟩ := hcl (by omega)
    have ec : (K p).2.1.toNatClampNeg = al := by rw [ea]; exact nc (by omega)
    rw [ec]
    show ∃ I', z_X7_perform F S I w M (nI p) q a = some (nI (m_bd (m_takeO T s 0) (fun s => m_push s (10 + al))).1, I') ∧ ((m_bd (m_takeO T s 0) (fun s => m_push s (10 + al))).1 = 0 → cSn I' a (m_bd (m_takeO T s 0) (fun s => m_push s (10 + al))).2) ∧ fr a 3 I I'
    unfold z_X7_perform
    rw [e1, hk, if_neg (by decide), if_neg (by decide), if_neg (by decide), if_neg (by decide), if_neg (by decide), if_neg (by decide), if_neg (by decide), if_neg (by decide), if_neg (by decide), if_neg (by decide), if_neg (by decide), if_neg (by decide), if_neg (by decide), if_pos (by decide)]
    obtain ⟨I1, g1, c1, f1⟩ := x_takeO (F := F) hw hE hO hs root
    rw [nl0, ob_mk g1]
    obtain ⟨I2, g2, c2, f2⟩ := x_pushU (w := w) hF hO (m_takeO_lt T s 0) c1 (show 10 + al < 200 by omega)
    simp only []
    rw [f1 q (hE.2.2.2.2.2.2.1 p q hp hq), e2, ea, nl10, nI_add, ob_mk g2]
    exact ⟨I2, rfl, c2, f1.trans f2⟩
  · rw [hk]
    show ∃ I', z_X7_perform F S I w M (nI p) q a = some (nI ((0, s)).1, I') ∧ (((0, s)).1 = 0 → cSn I' a ((0, s)).2) ∧ fr a 3 I I'
    unfold z_X7_perform
    rw [e1, hk, if_neg (by decide), if_neg (by decide), if_neg (by decide), if_neg (by decide), if_neg (by decide), if_neg (by decide), if_neg (by decide), if_neg (by decide), if_neg (by decide), if_neg (by decide), if_neg (by decide), if_neg (by decide), if_neg (by decide), if_neg (by decide), if_neg (by decide), if_neg (by decide), if_neg (by decide)]
    exact ⟨I, rfl, fun _ => hs, fr.rf⟩
  · rw [hk]
    show ∃ I', z_X7_perform F S I w M (nI p) q a = some (nI (m_take s 1).1, I') ∧ ((m_take s 1).1 = 0 → cSn I' a (m_take s 1).2) ∧ fr a 3 I I'
    unfold z_X7_perform
    rw [e1, hk, if_neg (by decide), if_neg (by decide), if_neg (by decide), if_neg (by decide), if_neg (by decide), if_neg (by decide), if_neg (by decide), if_neg (by decide), if_neg (by decide), if_neg (by decide), if_neg (by decide), if_neg (by decide), if_neg (by decide), if_neg (by decide), if_pos (by decide)]
    unfold z_X7_perform_276
    obtain ⟨I1, g1, c1, f1⟩ := x_take (F := F) (w := w) hO hs (show 1 < 200 by omega)
    rw [nl1, ob_mk g1]
    exact ⟨I1, rfl, c1, f1⟩
  · rw [hk]
    show ∃ I', z_X7_perform F S I w M (nI p) q a = some (nI (m_take s 1).1, I') ∧ ((m_take s 1).1 = 0 → cSn I' a (m_take s 1).2) ∧ fr a 3 I I'
    unfold z_X7_perform
    rw [e1, hk, if_neg (by decide), if_neg (by decide), if_neg (by decide), if_neg (by decide), if_neg (by decide), if_neg (by decide), if_neg (by decide), if_neg (by decide), if_neg (by decide), if_neg (by decide), if_neg (by decide), if_neg (by decide), if_neg (by decide), if_neg (by decide), if_pos (by decide)]
    unfold z_X7_perform_276
    obtain ⟨I1, g1, c1, f1⟩ := x_take (F := F) (w := w) hO hs (show 1 < 200 by omega)
    rw [nl1, ob_mk g1]
    exact ⟨I1, rfl, c1, f1⟩
  · rw [hk]
    show ∃ I', z_X7_perform F S I w M (nI p) q a = some (nI (m_take s 1).1, I') ∧ ((m_take s 1).1 = 0 → cSn I' a (m_take s 1).2) ∧ fr a 3 I I'
    unfold z_X7_perform
    rw [e1, hk, if_neg (by decide), if_neg (by decide), if_neg (by decide), if_neg (by decide), if_neg (by decide), if_neg (by decide), if_neg (by decide), if_neg (by decide), if_neg (by decide), if_neg (by decide), if_neg (by decide), if_neg (by decide), if_neg (by decide), if_neg (by decide), if_pos (by decide)]
    unfold z_X7_perform_276
    obtain ⟨I1, g1, c1, f1⟩ := x_take (F := F) (w := w) hO hs (show 1 < 200 by omega)
    rw [nl1, ob_mk g1]
    exact ⟨I1, rfl, c1, f1⟩
  · rw [hk]
    obtain ⟨al, ha, ea⟩ := hcl (by omega)
    have ec : (K p).2.1.toNatClampNeg = al := by rw [ea]; exact nc (by omega)
    rw [ec]
    show ∃ I', z_X7_perform F S I w M (nI p) q a = some (nI (m_takeO T s al).1, I') ∧ ((m_takeO T s al).1 = 0 → cSn I' a (m_takeO T s al).2) ∧ fr a 3 I I'
    unfold z_X7_perform
    rw [e1, hk, if_neg (by decide), if_neg (by decide), if_neg (by decide), if_neg (by decide), if_neg (by decide), if_neg (by decide), if_neg (by decide), if_neg (by decide), if_neg (by decide), if_neg (by decide), if_neg (by decide), if_neg (by decide), if_neg (by decide), if_neg (by decide), if_neg (by decide), if_pos (by decide)]
    unfold z_X7_perform_284
    obtain ⟨I1, g1, c1, f1⟩ := x_takeO (F := F) hw hE hO hs ha
    rw [e2, ea, ob_mk g1]
    exact ⟨I1, rfl, c1, f1⟩
  · rw [hk]
    obtain ⟨al, ha, ea⟩ := hcl (by omega)
    have ec : (K p).2.1.toNatClampNeg = al := by rw [ea]; exact nc (by omega)
    rw [ec]
    show ∃ I', z_X7_perform F S I w M (nI p) q a = some (nI (m_takeO T s al).1, I') ∧ ((m_takeO T s al).1 = 0 → cSn I' a (m_takeO T s al).2) ∧ fr a 3 I I'
    unfold z_X7_perform
    rw [e1, hk, if_neg (by decide), if_neg (by decide), if_neg (by decide), if_neg (by decide), if_neg (by decide), if_neg (by decide), if_neg (by decide), if_neg (by decide), if_neg (by decide), if_neg (by decide), if_neg (by decide), if_neg (by decide), if_neg (by decide), if_neg (by decide), if_neg (by decide), if_pos (by decide)]
    unfold z_X7_perform_284
    obtain ⟨I1, g1, c1, f1⟩ := x_takeO (F := F) hw hE hO hs ha
    rw [e2, ea, ob_mk g1]
    exact ⟨I1, rfl, c1, f1⟩
  · rw [hk]
    obtain ⟨al, ha, ea⟩ := hpl (by omega)
    have ec : (K p).2.1.toNatClampNeg = al := by rw [ea]; exact nc (by omega)
    rw [ec]
    show ∃ I', z_X7_perform F S I w M (nI p) q a = some (nI (m_more pc al s).1, I') ∧ ((m_more pc al s).1 = 0 → cSn I' a (m_more pc al s).2) ∧ fr a 3 I I'
    unfold z_X7_perform
    rw [e1, hk, if_neg (by decide), if_neg (by decide), if_neg (by decide), if_neg (by decide), if_neg (by decide), if_neg (by decide), if_neg (by decide), if_neg (by decide), if_neg (by decide), if_neg (by decide), if_neg (by decide), if_neg (by decide), if_neg (by decide), if_neg (by decide), if_neg (by decide), if_neg (by decide), if_pos (by decide)]
    unfold m_more
    have hb := hs.1 al ha
    rw [e2, ea, ob_mk (x_hasPlace hE (by omega))]
    by_cases h1 : al < pc
    · rw [decide_eq_true h1, if_neg (by decide), ob_mk (s_inPlace hO ha), hb.1]
      by_cases h2 : s.1 al = 1
      · rw [if_pos (by rw [h2]; rfl), if_pos ⟨h1, h2⟩]
        exact ⟨I, rfl, fun _ => hs, fr.rf⟩
      · rw [if_neg (fun q => h2 ((nI_eq (by omega) (by omega)).mp (q.trans nl1))), if_neg (fun q => h2 q.2)]
        exact ⟨I, rfl, fun q => absurd q (by simp), fr.rf⟩
    · rw [decide_eq_false h1, if_pos (by rfl), if_neg (fun q => h1 q.1)]
      exact ⟨I, rfl, fun q => absurd q (by simp), fr.rf⟩
end CP
