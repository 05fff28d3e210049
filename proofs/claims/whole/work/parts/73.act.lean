/-! act and guard: class side -/
section KG
variable {F : Nat} {S : zS} {I : zI} {B : Nat} {T : mTr} {X : Nat → mM} {f : Nat}
theorem x_isPlace (x : Int32) : z_X8_isPlace F S I x = some (if ¬ x < 0 ∧ x < 8 then 1 else 0) := by
  unfold z_X8_isPlace
  by_cases h0 : x < 0
  · rw [if_pos h0, if_neg (fun g => g.1 h0)]
  · rw [if_neg h0]
    by_cases h8 : x < 8
    · rw [if_pos h8, if_pos ⟨h0, h8⟩]
    · rw [if_neg h8, if_neg (fun g => h8 g.2)]
theorem x_isStack (x : Int32) : z_X8_isOnStack F S I x = some (if ¬ x < 100 ∧ x < 110 then 1 else 0) := by
  unfold z_X8_isOnStack
  by_cases h0 : x < 100
  · rw [if_pos h0, if_neg (fun g => g.1 h0)]
  · rw [if_neg h0]
    by_cases h8 : x < 110
    · rw [if_pos h8, if_pos ⟨h0, h8⟩]
    · rw [if_neg h8, if_neg (fun g => h8 g.2)]
theorem x_isNum (x : Int32) : z_X8_isActNumber F S I x = some (if ¬ x < 0 ∧ x < 40 then 1 else 0) := by
  unfold z_X8_isActNumber
  by_cases h0 : x < 0
  · rw [if_pos h0, if_neg (fun g => g.1 h0)]
  · rw [if_neg h0]
    by_cases h8 : x < 40
    · rw [if_pos h8, if_pos ⟨h0, h8⟩]
    · rw [if_neg h8, if_neg (fun g => h8 g.2)]
theorem t_has_p (hT : cT S I (B + 1) T) (x : Int32) : z_X1_has F S I (B + 1) x = some (if ¬ x < 0 ∧ x < nI T.1 then 1 else 0) := by
  unfold z_X1_has
  by_cases h0 : x < 0
  · rw [if_pos h0, if_neg (fun g => g.1 h0)]
  · rw [if_neg h0, hT.2.2.2.2.1]
    by_cases h8 : x < nI T.1
    · rw [if_pos h8, if_pos ⟨h0, h8⟩]
    · rw [if_neg h8, if_neg (fun g => h8 g.2)]
theorem b01 {p : Prop} [Decidable p] {α : Type} {a b : α} : (if (if p then (1 : Int32) else 0) = 0 then a else b) = if p then b else a := by
  by_cases h : p
  · rw [if_pos h, if_pos h, if_neg (show ¬ (1 : Int32) = 0 by decide)]
  · rw [if_neg h, if_neg h, if_pos rfl]
theorem b01' {p : Prop} [Decidable p] : (if (if p then (1 : Int32) else 0) = 0 ∨ (if p then (1 : Int32) else 0) = 1 then some (if p then (1 : Int32) else 0) else none) = some (if p then (1 : Int32) else 0) := by
  by_cases h : p
  · rw [if_pos h, if_pos (Or.inr rfl)]
  · rw [if_neg h, if_pos (Or.inl rfl)]
theorem b_iff {p q : Prop} [Decidable p] [Decidable q] (h : p ↔ q) : (if p then (1 : Int32) else 0) = if q then 1 else 0 := by
  by_cases hp : p
  · rw [if_pos hp, if_pos (h.mp hp)]
  · rw [if_neg hp, if_neg (fun g => hp (h.mpr g))]
theorem x_isAct (hT : cT S I (B + 1) T) (h0 : S.1 B 0 = some (B + 1)) (k x y : Int32) : z_X8_isAct F S I B k x y = some (if m_kok T k x y then 1 else 0) := by
  unfold z_X8_isAct
  by_cases c1 : k = 0 ∨ k = 1 ∨ k = 2 ∨ k = 5 ∨ k = 6 ∨ k = 7 ∨ k = 8 ∨ k = 17
  · rw [if_pos c1, if_pos]
    rcases c1 with rfl | rfl | rfl | rfl | rfl | rfl | rfl | rfl <;> exact ⟨by decide, fun h => absurd h (by decide), fun h => absurd h (by decide), fun h => absurd h (by decide), fun h => absurd h (by decide)⟩
  · rw [if_neg c1]
    by_cases c2 : k = 3 ∨ k = 4 ∨ k = 20
    · rw [if_pos c2]
      unfold z_X8_isAct_102
      rw [ob_mk (x_isPlace x), b01']
      refine congrArg some (b_iff ⟨fun g => ?_, fun g => g.2.1 c2⟩)
      rcases c2 with rfl | rfl | rfl <;> exact ⟨by decide, fun _ => g, fun h => absurd h (by decide), fun h => absurd h (by decide), fun h => absurd h (by decide)⟩
    · rw [if_neg c2]
      by_cases c3 : k = 9 ∨ k = 10 ∨ k = 11 ∨ k = 12 ∨ k = 13 ∨ k = 18 ∨ k = 19
      · rw [if_pos c3]
        unfold z_X8_isAct_107
        rw [ob_mk h0, ob_mk (t_has_p hT x), b01']
        refine congrArg some (b_iff ⟨fun g => ?_, fun g => g.2.2.1 ?_⟩)
        · rcases c3 with rfl | rfl | rfl | rfl | rfl | rfl | rfl <;> exact ⟨by decide, fun h => absurd h (by decide), fun _ => g, fun h => absurd h (by decide), fun h => absurd h (by decide)⟩
        · rcases c3 with rfl | rfl | rfl | rfl | rfl | rfl | rfl <;> decide
      · rw [if_neg c3]
        by_cases c4 : k = 14 ∨ k = 15
        · rw [if_pos c4]
          unfold z_X8_isAct_116
          rw [ob_mk (x_isNum x), b01']
          refine congrArg some (b_iff ⟨fun g => ?_, fun g => g.2.2.2.1 ?_⟩)
          · rcases c4 with rfl | rfl <;> exact ⟨by decide, fun h => absurd h (by decide), fun h => absurd h (by decide), fun _ => g, fun h => absurd h (by decide)⟩
          · rcases c4 with rfl | rfl <;> decide
        · rw [if_neg c4]
          by_cases c5 : k = 16
          · rw [if_pos c5, ob_mk (x_isNum x), b01, ob_mk (x_isNum y), b01]
            by_cases g1 : ¬ x < 0 ∧ x < 40
            · rw [if_pos g1]
              by_cases g2 : ¬ y < 0 ∧ y < 40
              · rw [if_pos g2]
                by_cases g3 : y < x
                · rw [if_pos g3, if_neg (fun g => (g.2.2.2.2 c5).1 g3)]
                · rw [if_neg g3, if_pos]
                  subst c5
                  exact ⟨by decide, fun h => absurd h (by decide), fun h => absurd h (by decide), fun _ => g1, fun _ => ⟨g3, g2.2⟩⟩
              · rw [if_neg g2, if_neg]
                intro g
                have g5 := g.2.2.2.2 c5
                refine g2 ⟨fun h => g5.1 ?_, g5.2⟩
                have : (0 : Int32) ≤ x := Int32.not_lt.mp g1.1
                exact Int32.lt_of_lt_of_le h this
            · rw [if_neg g1, if_neg (fun g => g1 (g.2.2.2.1 (by subst c5; decide)))]
          · rw [if_neg c5, if_neg]
            intro g
            obtain ⟨j, hj, e⟩ := nI_in8 (N := 21) (by omega) g.1.1 g.1.2
            subst e
            have : j = 0 ∨ j = 1 ∨ j = 2 ∨ j = 3 ∨ j = 4 ∨ j = 5 ∨ j = 6 ∨ j = 7 ∨ j = 8 ∨ j = 9 ∨ j = 10 ∨ j = 11 ∨ j = 12 ∨ j = 13 ∨ j = 14 ∨ j = 15 ∨ j = 16 ∨ j = 17 ∨ j = 18 ∨ j = 19 ∨ j = 20 := by omega
            rcases this with rfl | rfl | rfl | rfl | rfl | rfl | rfl | rfl | rfl | rfl | rfl | rfl | rfl | rfl | rfl | rfl | rfl | rfl | rfl | rfl | rfl <;> first | exact c1 (by decide) | exact c2 (by decide) | exact c3 (by decide) | exact c4 (by decide) | exact c5 (by decide)
theorem p_act (hA : cAll S I B T X f) (hX : ∀ j, j < 8 → mMs T (X j)) (a k x y : Int32) : ∃ S' I', z_X8_act F S I B a k x y = some ((k_act T X a k x y).1, S', I') ∧ cAll S' I' B T (k_act T X a k x y).2 f ∧ fX B I I' ∧ fZ B S S' := by
  unfold z_X8_act k_act
  refine ix_cases a 8 (by omega) (fun h e => ?_) (fun i hi ea e => ?_)
  · rw [e, oy_n, ob_mk (x_mAt_n h), ob2_none]
    exact ⟨S, I, rfl, hA, fun _ _ _ => rfl, fun _ _ _ => ⟨rfl, rfl⟩⟩
  · rw [e, oy_s, ea, ob_mk (x_mAt hA.1 hi), ob2_mk rfl, ob_mk (x_isAct hA.2.1 hA.1.2.2.1.1 k x y), b01]
    by_cases hk : m_kok T k x y
    · rw [if_pos hk, if_pos hk]
      obtain ⟨j, hj, ej⟩ := nI_of hk.1.1
      have ek : k.toNatClampNeg = j := by rw [ej, nc hj]
      rw [ek, ej]
      obtain ⟨S', I', t1, t2, t3, t4⟩ := p_addAct (F := F) (k := j) (x := x) (y := y) hA hX hi
      rw [ob_mk t1]
      exact ⟨S', I', rfl, t2, t3, t4⟩
    · rw [if_neg hk, if_neg hk]
      exact ⟨S, I, rfl, hA, fun _ _ _ => rfl, fun _ _ _ => ⟨rfl, rfl⟩⟩
/-- a guard is told, at a cell that is there -/
theorem p_gtell {S' : zS} {I0 : zI} (hA : cAll S I B T X f) (hX : ∀ j, j < 8 → mMs T (X j)) {i q : Nat} (hi : i < 8) (hL' : cLay S' B) (hn : xgn (X i) < 4) (hq : S'.1 (B + 5 + 6 * i + 2) (xgn (X i)) = some q) (hqn : ∀ p, p < xgn (X i) → S'.1 (B + 5 + 6 * i + 2) p = S.1 (B + 5 + 6 * i + 2) p) (e1 : ∀ j, j < 8 → j ≠ i → ∀ p, S'.1 (B + 5 + 6 * j + 2) p = S.1 (B + 5 + 6 * j + 2) p) (e2 : ∀ j, j < 8 → ∀ p, S'.1 (B + 5 + 6 * j + 1) p = S.1 (B + 5 + 6 * j + 1) p) (eT : S'.1 (B + 1) = S.1 (B + 1) ∧ S'.2.1 (B + 2) = S.2.1 (B + 2) ∧ S'.2.1 (B + 3) = S.2.1 (B + 3)) (hI0 : ∀ b, b < S.2.2 → I0 b = I b) (hqo : q = S.2.2 ∨ cRf S B i (40 + xgn (X i)) = some q) {g0 g1 g2 g3 : Nat} :
    ∃ I', z_X5_addGuard_47 F (B + 5 + 6 * i) (nI g0) (nI g1) (nI g2) (nI g3) q S' I0 = some (nI (xgn (X i)), S', I') ∧ cAll S' I' B T (nup X i (k_grd1 (X i) (g0, g1, g2, g3))) f ∧ fX B I I' := by
  have hN := hA.2.2.1 i hi
  have h94 := hA.1.2.2.2.2.2.2
  obtain ⟨m1, m2, m3, m4, m5, m6⟩ := hX i hi
  have hq94 : B + 94 ≤ q := (hL'.2.2.2.2.1 i (40 + xgn (X i)) q hi (by omega) (by rw [cRf_g]; exact hq)).1
  have hM0 : I0 (B + 5 + 6 * i) = I (B + 5 + 6 * i) := hI0 _ (by omega)
  unfold z_X5_addGuard_47 zlet
  dsimp only
  have e3 : z_up (z_up (z_up (z_up I0 q 0 (nI g0)) q 1 (nI g1)) q 2 (nI g2)) q 3 (nI g3) (B + 5 + 6 * i) 4 = nI (xgn (X i)) := by rw [z_up_off (by omega), z_up_off (by omega), z_up_off (by omega), z_up_off (by omega), hM0]; exact hN.1.2.1
  rw [e3, nI_1]
  generalize hI' : z_up (z_up (z_up (z_up (z_up (z_up I0 q 0 (nI g0)) q 1 (nI g1)) q 2 (nI g2)) q 3 (nI g3)) (B + 5 + 6 * i) 4 (nI (xgn (X i) + 1))) (B + 5 + 6 * i) 7 0 = I'
  have hoff : ∀ b, b ≠ B + 5 + 6 * i → b ≠ q → I' b = I0 b := fun b h1 h2 => by rw [← hI', z_up_off h1, z_up_off h1, z_up_off h2, z_up_off h2, z_up_off h2, z_up_off h2]
  have hM : ∀ j, j ≠ 4 → j ≠ 7 → I' (B + 5 + 6 * i) j = I (B + 5 + 6 * i) j := fun j h3 h7 => by rw [← hI', z_up_ne (Or.inr h7), z_up_ne (Or.inr h3), z_up_off (by omega), z_up_off (by omega), z_up_off (by omega), z_up_off (by omega), hM0]
  have h4' : I' (B + 5 + 6 * i) 4 = nI (xgn (X i) + 1) := by rw [← hI', z_up_ne (Or.inr (by omega)), z_up_at]
  have h7' : I' (B + 5 + 6 * i) 7 = 0 := by rw [← hI', z_up_at]
  have hq0 : I' q 0 = nI g0 ∧ I' q 1 = nI g1 ∧ I' q 2 = nI g2 ∧ I' q 3 = nI g3 := by
    rw [← hI', z_up_off (by omega), z_up_off (by omega)]
    exact ⟨by rw [z_up_ne (Or.inr (by omega)), z_up_ne (Or.inr (by omega)), z_up_ne (Or.inr (by omega)), z_up_at], by rw [z_up_ne (Or.inr (by omega)), z_up_ne (Or.inr (by omega)), z_up_at], by rw [z_up_ne (Or.inr (by omega)), z_up_at], by rw [z_up_at]⟩
  rw [h4', nI_pred]
  refine ⟨I', rfl, ?_, fun b h1 h2 => by rw [hoff b (by omega) (by omega)]; exact hI0 b (by omega)⟩
  have h1s : cSz (40 + xgn (X i)) = 1 := by unfold cSz; rw [if_neg (by omega)]
  have ownq : ∀ b, b < S.2.2 → ¬ cOwn S B i b → b ≠ q := fun b hb ho e => by
    rcases hqo with h | h
    · omega
    · exact ho (Or.inr ⟨40 + xgn (X i), q, by omega, h, by omega, by omega⟩)
  refine hA.upd hX hi hL' (fun j hj _ => e2 j hj) e1 eT (fun b ho h1 h2 h3 => ?_) ⟨⟨?_, h4', ?_, ?_, h7'⟩, fun p hp => ?_, fun j hj => ?_, ?_, fun g => absurd g (by show ¬ false = true; decide)⟩ ?_ hA.2.2.2.2
  · have ho1 : ¬ (B + 5 + 6 * i ≤ b ∧ b < B + 11 + 6 * i) := fun g => ho (Or.inl g)
    rw [hoff b (by omega) (ownq b h3 ho)]; exact hI0 b h3
  · rw [hM 3 (by omega) (by omega)]; exact hN.1.1
  · rw [hM 5 (by omega) (by omega)]; exact hN.1.2.2.1
  · rw [hM 6 (by omega) (by omega)]; exact hN.1.2.2.2.1
  · obtain ⟨g, gg1, gg2⟩ := hN.2.1 p hp
    have hp' : p < xn (X i) := hp
    have hr := hA.1.2.2.2.2.1 i p g hi (by omega) (by rw [cRf_a (by omega)]; exact gg1)
    have h7 : cSz p = 7 := by unfold cSz; rw [if_pos (by omega)]
    have hrq : g ≠ q := fun e9 => by
      rcases hqo with h | h
      · omega
      · have := hA.1.2.2.2.2.2.1 i p i (40 + xgn (X i)) g q hi (by omega) hi (by omega) (by rw [cRf_a (by omega)]; exact gg1) h (Or.inr (by omega))
        omega
    exact ⟨g, by rw [e2 i hi]; exact gg1, by rw [hoff g (by omega) hrq, hI0 g (by omega)]; exact gg2⟩
  · have hj' : j < xgn (X i) + 1 := hj
    show ∃ q, S'.1 (B + 5 + 6 * i + 2) j = some q ∧ I' q 0 = nI (nup (xG (X i)) (xgn (X i)) (g0, g1, g2, g3) j).1 ∧ I' q 1 = nI (nup (xG (X i)) (xgn (X i)) (g0, g1, g2, g3) j).2.1 ∧ I' q 2 = nI (nup (xG (X i)) (xgn (X i)) (g0, g1, g2, g3) j).2.2.1 ∧ I' q 3 = nI (nup (xG (X i)) (xgn (X i)) (g0, g1, g2, g3) j).2.2.2
    by_cases e : j = xgn (X i)
    · subst e
      rw [nup_at]; exact ⟨q, hq, hq0⟩
    · rw [nup_ne e]
      obtain ⟨r, r1, r2⟩ := hN.2.2.1 j (by omega)
      have hr := hA.1.2.2.2.2.1 i (40 + j) r hi (by omega) (by rw [cRf_g]; exact r1)
      have h7 : cSz (40 + j) = 1 := by unfold cSz; rw [if_neg (by omega)]
      have hrq : r ≠ q := fun e9 => by
        rcases hqo with h | h
        · omega
        · have := hA.1.2.2.2.2.2.1 i (40 + j) i (40 + xgn (X i)) r q hi (by omega) hi (by omega) (by rw [cRf_g]; exact r1) h (Or.inr (by omega))
          omega
      exact ⟨r, by rw [hqn j (by omega)]; exact r1, by rw [hoff r (by omega) hrq, hI0 r (by omega)]; exact r2⟩
  · exact hN.2.2.2.1.kept (by rw [hoff _ (by omega) (by omega), hI0 _ (by omega)]) (by rw [hoff _ (by omega) (by omega), hI0 _ (by omega)]) (by rw [hoff _ (by omega) (by omega), hI0 _ (by omega)])
  · rw [hoff B (by omega) (by omega), hI0 B (by omega)]; exact hA.2.2.2.1
theorem p_addGuard (hA : cAll S I B T X f) (hX : ∀ j, j < 8 → mMs T (X j)) {i : Nat} (hi : i < 8) {g0 g1 g2 g3 : Nat} :
    ∃ S' I', z_X5_addGuard F S I (B + 5 + 6 * i) (nI g0) (nI g1) (nI g2) (nI g3) = some ((if xgn (X i) < 4 then (nI (xgn (X i)), nup X i (k_grd1 (X i) (g0, g1, g2, g3))) else ((-2 : Int32), X)).1, S', I') ∧ cAll S' I' B T (if xgn (X i) < 4 then (nI (xgn (X i)), nup X i (k_grd1 (X i) (g0, g1, g2, g3))) else ((-2 : Int32), X)).2 f ∧ fX B I I' ∧ fZ B S S' := by
  have hN := hA.2.2.1 i hi
  have hM := hA.1.2.2.2.1 i hi
  have h94 := hA.1.2.2.2.2.2.2
  obtain ⟨m1, m2, m3, m4, m5, m6⟩ := hX i hi
  unfold z_X5_addGuard
  rw [hN.1.2.1, nl4]
  by_cases hn : xgn (X i) < 4
  · rw [if_pos ((nI_ltI (by omega) (by omega)).mpr hn), if_pos hn, ob_mk hM.2.2.1, hM.2.2.2.2.2.1, if_neg (ni_in hn (by omega)), nc (by omega)]
    cases hc : S.1 (B + 5 + 6 * i + 2) (xgn (X i)) with
    | some q =>
      rw [ob2_mk rfl]
      obtain ⟨I', t1, t2, t3⟩ := p_gtell (F := F) (S' := S) (I0 := I) (g0 := g0) (g1 := g1) (g2 := g2) (g3 := g3) hA hX hi hA.1 hn hc (fun _ _ => rfl) (fun _ _ _ _ => rfl) (fun _ _ _ => rfl) ⟨rfl, rfl, rfl⟩ (fun _ _ => rfl) (Or.inr (by rw [cRf_g]; exact hc))
      exact ⟨S, I', t1, t2, t3, fun _ _ _ => ⟨rfl, rfl⟩⟩
    | none =>
      rw [ob2_none]
      generalize hS7 : z_new S 3 0 = S7
      generalize hI7 : z_newI S I = I7
      have k1 : ∀ b, b < S.2.2 → S7.1 b = S.1 b := fun b hb => by rw [← hS7, zn1 (by omega)]
      have k2 : ∀ b, b < S.2.2 → S7.2.1 b = S.2.1 b := fun b hb => by rw [← hS7, zn2 (by omega)]
      have k3 : ∀ b, b < S.2.2 → I7 b = I b := fun b hb => by rw [← hI7, zn3 (by omega)]
      have eM : S7.1 (B + 5 + 6 * i) 1 = some (B + 5 + 6 * i + 2) := by rw [k1 _ (by omega)]; exact hM.2.2.1
      have e40 : (S7.2.1 (B + 5 + 6 * i + 2)).2 = 4 := by rw [k2 _ (by omega)]; exact hM.2.2.2.2.2.1
      have e3 : I7 (B + 5 + 6 * i) 4 = nI (xgn (X i)) := by rw [k3 _ (by omega)]; exact hN.1.2.1
      unfold zlet
      show ∃ S' I', ob (z_X3_init F S7 I7 S.2.2) (fun q7 => ob (S7.1 (B + 5 + 6 * i) 1) (fun r8 => if (I7 (B + 5 + 6 * i) 4) < 0 ∨ (S7.2.1 r8).2 ≤ (I7 (B + 5 + 6 * i) 4).toNatClampNeg then none else z_X5_addGuard_47 F (B + 5 + 6 * i) (nI g0) (nI g1) (nI g2) (nI g3) S.2.2 (z_upR S7 r8 (I7 (B + 5 + 6 * i) 4).toNatClampNeg (some S.2.2)) I7)) = _ ∧ _
      rw [ob_mk (show z_X3_init F S7 I7 S.2.2 = some () from rfl), ob_mk eM, e3, e40, if_neg (ni_in hn (by omega)), nc (by omega)]
      generalize hS' : z_upR S7 (B + 5 + 6 * i + 2) (xgn (X i)) (some S.2.2) = S'
      have r1 : ∀ b, b < S.2.2 → b ≠ B + 5 + 6 * i + 2 → S'.1 b = S.1 b := fun b hb h => by rw [← hS', zr1 h]; exact k1 b hb
      have r2 : ∀ b, S'.2.1 b = S7.2.1 b := fun b => by rw [← hS']; rfl
      have rat : S'.1 (B + 5 + 6 * i + 2) (xgn (X i)) = some S.2.2 := by rw [← hS', zr_at]
      have rne : ∀ p, p ≠ xgn (X i) → S'.1 (B + 5 + 6 * i + 2) p = S.1 (B + 5 + 6 * i + 2) p := fun p hp => by rw [← hS', zr_ne hp, k1 _ (by omega)]
      have hL' : cLay S' B := by
        refine hA.1.add (k := 40 + xgn (X i)) hi (by omega) (Or.inr rfl) ?_ (fun b hb => by rw [r2]; exact k2 b hb) (fun b hb h => r1 b hb h) (fun i' k' hi' hk' hne => ?_) ?_ (fun h40 => absurd h40 (by omega))
        · rw [← hS', ← hS7]; show S.2.2 + 1 = _; unfold cSz; rw [if_neg (by omega)]
        · unfold cRf
          by_cases h40 : k' < 40
          · rw [if_pos h40, if_pos h40, r1 _ (by omega) (by omega)]
          · rw [if_neg h40, if_neg h40]
            by_cases e : i' = i
            · subst e; exact rne (k' - 40) (by omega)
            · rw [r1 _ (by omega) (by omega)]
        · rw [cRf_g]; exact rat
      obtain ⟨I', t1, t2, t3⟩ := p_gtell (F := F) (S' := S') (I0 := I7) (g0 := g0) (g1 := g1) (g2 := g2) (g3 := g3) hA hX hi hL' hn rat (fun p hp => rne p (by omega)) (fun j hj hne p => by rw [r1 _ (by omega) (by omega)]) (fun j hj p => by rw [r1 _ (by omega) (by omega)]) ⟨r1 _ (by omega) (by omega), by rw [r2]; exact k2 _ (by omega), by rw [r2]; exact k2 _ (by omega)⟩ k3 (Or.inl rfl)
      exact ⟨S', I', t1, t2, t3, fun b h1 h2 => ⟨r1 b (by omega) (by omega), by rw [r2]; exact k2 b (by omega)⟩⟩
  · rw [if_neg (fun d => hn ((nI_ltI (by omega) (by omega)).mp d)), if_neg hn]
    exact ⟨S, I, rfl, hA, fun _ _ _ => rfl, fun _ _ _ => ⟨rfl, rfl⟩⟩
theorem p_guard (hA : cAll S I B T X f) (hX : ∀ j, j < 8 → mMs T (X j)) (a u v h c : Int32) : ∃ S' I', z_X8_guard F S I B a u v h c = some ((k_guard T X a u v h c).1, S', I') ∧ cAll S' I' B T (k_guard T X a u v h c).2 f ∧ fX B I I' ∧ fZ B S S' := by
  have triv : ∃ S' I', some ((-1 : Int32), S, I) = some ((-1 : Int32), S', I') ∧ cAll S' I' B T X f ∧ fX B I I' ∧ fZ B S S' := ⟨S, I, rfl, hA, fun _ _ _ => rfl, fun _ _ _ => ⟨rfl, rfl⟩⟩
  unfold z_X8_guard k_guard
  refine ix_cases a 8 (by omega) (fun hh e => ?_) (fun i hi ea e => ?_)
  · rw [e, oy_n, ob_mk (x_mAt_n hh), ob2_none]
    exact triv
  · rw [e, oy_s, ea, ob_mk (x_mAt hA.1 hi), ob2_mk rfl]
    by_cases hg : m_gok T u v h c
    · obtain ⟨g1, g2, g3, g4, g5⟩ := hg
      rw [if_pos (show m_gok T u v h c from ⟨g1, g2, g3, g4, g5⟩), if_neg g1, if_pos g2, if_neg g3, ob_mk (x_isNum h), b01, if_pos g4, ob_mk hA.1.2.2.1.1, ob_mk (t_has_p hA.2.1 c), b01, if_pos g5]
      have hv0 : ¬ v < 0 := fun g => g1 (Int32.lt_trans g2 g)
      obtain ⟨ju, hju, eu⟩ := nI_of g1
      obtain ⟨jv, hjv, ev⟩ := nI_of hv0
      obtain ⟨jh, hjh, eh⟩ := nI_of g4.1
      obtain ⟨jc, hjc, ec⟩ := nI_of g5.1
      have eu' : u.toNatClampNeg = ju := by rw [eu, nc hju]
      have ev' : v.toNatClampNeg = jv := by rw [ev, nc hjv]
      have eh' : h.toNatClampNeg = jh := by rw [eh, nc hjh]
      have ec' : c.toNatClampNeg = jc := by rw [ec, nc hjc]
      rw [eu', ev', eh', ec', eu, ev, eh, ec]
      obtain ⟨S', I', t1, t2, t3, t4⟩ := p_addGuard (F := F) (g0 := ju) (g1 := jv) (g2 := jh) (g3 := jc) hA hX hi
      rw [ob_mk t1]
      exact ⟨S', I', rfl, t2, t3, t4⟩
    · rw [if_neg hg]
      by_cases g1 : u < 0
      · rw [if_pos g1]; exact triv
      · rw [if_neg g1]
        by_cases g2 : u < v
        · rw [if_pos g2]
          by_cases g3 : 40 < v
          · rw [if_pos g3]; exact triv
          · rw [if_neg g3, ob_mk (x_isNum h), b01]
            by_cases g4 : ¬ h < 0 ∧ h < 40
            · rw [if_pos g4, ob_mk hA.1.2.2.1.1, ob_mk (t_has_p hA.2.1 c), b01]
              rw [if_neg (fun g5 => hg ⟨g1, g2, g3, g4, g5⟩)]; exact triv
            · rw [if_neg g4]; exact triv
        · rw [if_neg g2]; exact triv
end KG
