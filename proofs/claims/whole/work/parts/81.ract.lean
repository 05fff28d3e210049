/-! the reference: act and guard -/
theorem b_imp {p q : Prop} [Decidable p] [Decidable q] {α : Type} {a b : α} : (if p then (if q then a else b) else a) = if p → q then a else b := by
  by_cases hp : p
  · rw [if_pos hp]
    by_cases hq : q
    · rw [if_pos hq, if_pos (fun _ => hq)]
    · rw [if_neg hq, if_neg (fun g => hq (g hp))]
  · rw [if_neg hp, if_pos (fun g => absurd g hp)]
theorem w1 : rWd 3 = 1 ∧ rWd 4 = 1 ∧ rWd 6 = 1 ∧ rWd 10 = 1 ∧ rWd 15 = 1 := ⟨rfl, rfl, rfl, rfl, rfl⟩
theorem fR.u1 {A i a : Nat} {I I' : zI} {x : Int32} (h : fR A i I I') (ha : a = 3 ∨ a = 4 ∨ a = 6 ∨ a = 10 ∨ a = 15) : fR A i I (z_up I' (A + a) i x) := by
  have : rWd a = 1 := by rcases ha with rfl | rfl | rfl | rfl | rfl <;> rfl
  exact h.up (by omega) (by omega) (by rw [this]; omega) (by rw [this]; omega)
theorem fR.u40 {A i a p : Nat} {I I' : zI} {x : Int32} (h : fR A i I I') (ha : a = 7 ∨ a = 8 ∨ a = 9 ∨ a = 16 ∨ a = 18) (hp : p < 40) : fR A i I (z_up I' (A + a) (40 * i + p) x) := by
  have : rWd a = 40 := by rcases ha with rfl | rfl | rfl | rfl | rfl <;> rfl
  exact h.up (by omega) (by omega) (by rw [this]; omega) (by rw [this]; omega)
theorem fR.u4 {A i a p : Nat} {I I' : zI} {x : Int32} (h : fR A i I I') (ha : a = 11 ∨ a = 12 ∨ a = 13 ∨ a = 14) (hp : p < 4) : fR A i I (z_up I' (A + a) (4 * i + p) x) := by
  have : rWd a = 4 := by rcases ha with rfl | rfl | rfl | rfl <;> rfl
  exact h.up (by omega) (by omega) (by rw [this]; omega) (by rw [this]; omega)
theorem fR.u800 {A i a k : Nat} {I I' : zI} {x : Int32} (h : fR A i I I') (ha : a = 17 ∨ a = 19) (h1 : 800 * i ≤ k) (h2 : k < 800 * i + 800) : fR A i I (z_up I' (A + a) k x) := by
  have : rWd a = 800 := by rcases ha with rfl | rfl <;> rfl
  exact h.up (by omega) (by omega) (by rw [this]; omega) (by rw [this]; omega)
section RA
variable {F : Nat} {S : zS} {I : zI} {A : Nat} {T : mTr} {X : Nat → mM} {f : Nat}
theorem r_act144 (hA : rAll S I A T X f) (hX : ∀ j, j < 8 → mSz (X j)) {i : Nat} (hi : i < 8) {k : Nat} (hk : k < 21) (x y : Int32) : ∃ I', z_X9_act_144 F S A (nI i) (nI k) x y I = some ((if xn (X i) < 40 then (nI (xn (X i)), nup X i (k_act1 (X i) (k, x, y))) else ((-2 : Int32), X)).1, I') ∧ rAll S I' A T (if xn (X i) < 40 then (nI (xn (X i)), nup X i (k_act1 (X i) (k, x, y))) else ((-2 : Int32), X)).2 f ∧ fY A I I' := by
  have hL := hA.1
  have hM := hA.2.2.1 i hi
  obtain ⟨z1, z2, z3, z5, z4⟩ := hX i hi
  unfold z_X9_act_144
  rw [ob_mk hL.f6, ixk hL.n6 hi (by omega), nc (by omega), hM.1.2.2.1, nl40]
  by_cases hn : xn (X i) < 40
  · rw [if_neg (nI_ne (by omega) (by omega) (by omega)), if_pos hn, ixc hL.n6 hi (by omega), pk_mul, nI_add, ob_mk hL.f7, ixk hL.n7 (by omega) (by omega), nc (by omega), ob_mk hL.f8, ixc hL.n8 (by omega) (by omega), ob_mk hL.f9]
    have key : ∀ v, (v = if k = 16 then y else x) → ∃ I', z_X9_act_205 F S A (nI i) (A + 9) (nI (40 * i + xn (X i))) v (z_up (z_up I (A + 7) (40 * i + xn (X i)) (nI k)) (A + 8) (40 * i + xn (X i)) x) = some (nI (xn (X i)), I') ∧ rAll S I' A T (nup X i (k_act1 (X i) (k, x, y))) f ∧ fY A I I' := fun v hv => by
      unfold z_X9_act_205
      rw [ixk hL.n9 (by omega) (by omega), ob_mk hL.f6, ixk hL.n6 hi (by omega), ixk hL.n6 hi (by omega), ob_mk hL.f15, ixk hL.n15 hi (by omega), ixk hL.n6 hi (by omega), nc (by omega), nc (by omega)]
      generalize hJ : z_up (z_up (z_up I (A + 7) (40 * i + xn (X i)) (nI k)) (A + 8) (40 * i + xn (X i)) x) (A + 9) (40 * i + xn (X i)) v = J
      have j6 : J (A + 6) i = nI (xn (X i)) := by rw [← hJ, z_up_off (by omega), z_up_off (by omega), z_up_off (by omega)]; exact hM.1.2.2.1
      rw [j6, nI_1]
      generalize hI' : z_up (z_up J (A + 6) i (nI (xn (X i) + 1))) (A + 15) i 0 = I'
      have h6 : I' (A + 6) i = nI (xn (X i) + 1) := by rw [← hI', z_up_off (by omega), z_up_at]
      have hR : fR A i I I' := by
        rw [← hI', ← hJ]
        exact ((((fR.rf.u40 (a := 7) (by omega) hn).u40 (a := 8) (by omega) hn).u40 (a := 9) (by omega) hn).u1 (a := 6) (by omega)).u1 (a := 15) (by omega)
      have ho : ∀ b, b ≠ A + 6 → b ≠ A + 7 → b ≠ A + 8 → b ≠ A + 9 → b ≠ A + 15 → I' b = I b := fun b h1 h2 h3 h4 h5 => by rw [← hI', z_up_off h5, z_up_off h1, ← hJ, z_up_off h4, z_up_off h3, z_up_off h2]
      rw [h6, nI_pred]
      refine ⟨I', rfl, hA.upd hX hR ⟨⟨?_, ?_, h6, ?_, ?_⟩, fun q hq => ?_, fun p hp => ?_, ?_, fun g => absurd g (by show ¬ false = true; decide)⟩ ?_, hR.2.2.2.2⟩
      · rw [ho _ (by omega) (by omega) (by omega) (by omega) (by omega)]; exact hM.1.1
      · rw [ho _ (by omega) (by omega) (by omega) (by omega) (by omega)]; exact hM.1.2.1
      · rw [ho _ (by omega) (by omega) (by omega) (by omega) (by omega)]; exact hM.1.2.2.2.1
      · rw [← hI', z_up_at]; rfl
      · rw [ho _ (by omega) (by omega) (by omega) (by omega) (by omega)]; exact hM.2.1 q hq
      · have hp' : p < xn (X i) + 1 := hp
        show I' (A + 7) (40 * i + p) = nI (nup (xK (X i)) (xn (X i)) (k, x, y) p).1 ∧ I' (A + 8) (40 * i + p) = (nup (xK (X i)) (xn (X i)) (k, x, y) p).2.1 ∧ I' (A + 9) (40 * i + p) = if (nup (xK (X i)) (xn (X i)) (k, x, y) p).1 = 16 then (nup (xK (X i)) (xn (X i)) (k, x, y) p).2.2 else (nup (xK (X i)) (xn (X i)) (k, x, y) p).2.1
        have e789 : ∀ b, b = A + 7 ∨ b = A + 8 ∨ b = A + 9 → I' b = J b := fun b hb => by rw [← hI', z_up_off (by omega), z_up_off (by omega)]
        rw [e789 _ (Or.inl rfl), e789 _ (Or.inr (Or.inl rfl)), e789 _ (Or.inr (Or.inr rfl)), ← hJ]
        by_cases e : p = xn (X i)
        · subst e
          rw [nup_at]
          refine ⟨?_, ?_, ?_⟩
          · rw [z_up_off (by omega), z_up_off (by omega), z_up_at]
          · rw [z_up_off (by omega), z_up_at]
          · rw [z_up_at]; exact hv
        · rw [nup_ne e]
          obtain ⟨q1, q2, q3⟩ := hM.2.2.1 p (by omega)
          refine ⟨?_, ?_, ?_⟩
          · rw [z_up_off (by omega), z_up_off (by omega), z_up_ne (Or.inr (by omega))]; exact q1
          · rw [z_up_off (by omega), z_up_ne (Or.inr (by omega)), z_up_off (by omega)]; exact q2
          · rw [z_up_ne (Or.inr (by omega)), z_up_off (by omega), z_up_off (by omega)]; exact q3
      · rw [ho (A + 11) (by omega) (by omega) (by omega) (by omega) (by omega), ho (A + 12) (by omega) (by omega) (by omega) (by omega) (by omega), ho (A + 13) (by omega) (by omega) (by omega) (by omega) (by omega), ho (A + 14) (by omega) (by omega) (by omega) (by omega) (by omega)]; exact hM.2.2.2.1
      · rw [ho _ (by omega) (by omega) (by omega) (by omega) (by omega)]; exact hA.2.2.2
    by_cases h16 : k = 16
    · rw [if_pos (show nI k = 16 by rw [h16]; rfl)]
      exact key y (by rw [if_pos h16])
    · rw [if_neg (fun d => h16 ((nI_eq (by omega) (by omega)).mp (d.trans nl16)))]
      exact key x (by rw [if_neg h16])
  · rw [if_pos (show nI (xn (X i)) = nI 40 by rw [show xn (X i) = 40 by omega]), if_neg hn]
    exact ⟨I, rfl, hA, fY.rf⟩
theorem r_act (hA : rAll S I A T X f) (hX : ∀ j, j < 8 → mSz (X j)) (a k x y : Int32) : ∃ I', z_X9_act F S I A a k x y = some ((k_act T X a k x y).1, I') ∧ rAll S I' A T (k_act T X a k x y).2 f ∧ fY A I I' := by
  have hT := hA.2.1
  have e125 : z_X9_act_125 F S A a k x y I = if (k = 16 → ¬ y < x ∧ y < 40) then z_X9_act_144 F S A a k x y I else some (-1, I) := by
    unfold z_X9_act_125
    rw [ob_mk (show z_X9_in F S I y x 39 = _ from r_inN y x (b := 39) (by omega)), b01]
    by_cases h : k = 16
    · rw [if_pos h]
      by_cases g : ¬ y < x ∧ y < 40
      · rw [if_pos (show ¬ y < x ∧ y < nI (39 + 1) from g), if_pos (fun _ => g)]
      · rw [if_neg (show ¬ (¬ y < x ∧ y < nI (39 + 1)) from g), if_neg (fun q => g (q h))]
    · rw [if_neg h, if_pos (fun q => absurd q h)]
  have e110 : z_X9_act_110 F S A a k x y (if ¬ k < 14 ∧ k < 17 then 1 else 0) I = if ((¬ k < 14 ∧ k < 17) → ¬ x < 0 ∧ x < 40) then z_X9_act_125 F S A a k x y I else some (-1, I) := by
    unfold z_X9_act_110
    rw [ob_mk (show z_X9_in F S I x 0 39 = _ from r_inN x 0 (b := 39) (by omega)), b01, b01, b_imp]; rfl
  have e97 : ∀ z, z_X9_act_97 F S A a k x y (if ((¬ k < 9 ∧ k < 14) ∨ k = 18 ∨ k = 19) then 1 else 0) z I = if (((¬ k < 9 ∧ k < 14) ∨ k = 18 ∨ k = 19) → ¬ x < 0 ∧ x < nI T.1) then z_X9_act_110 F S A a k x y z I else some (-1, I) := fun z => by
    unfold z_X9_act_97
    rw [ob_mk (r_isC hT x), b01, b01, b_imp]
  have e70 : ∀ z, z_X9_act_70 F S A a k x y (if (k = 3 ∨ k = 4 ∨ k = 20) then 1 else 0) z I = if ((k = 3 ∨ k = 4 ∨ k = 20) → ¬ x < 0 ∧ x < 8) then z_X9_act_97 F S A a k x y z (if ¬ k < 14 ∧ k < 17 then 1 else 0) I else some (-1, I) := fun z => by
    unfold z_X9_act_70
    rw [ob_mk (show z_X9_in F S I k 14 16 = _ from r_inN k 14 (b := 16) (by omega)), ob_mk (show z_X9_in F S I x 0 7 = _ from r_inN x 0 (b := 7) (by omega)), b01, b01, b_imp]; rfl
  have e40 : ∀ z, z_X9_act_40 F S A a k x y z I = z_X9_act_70 F S A a k x y z (if ((¬ k < 9 ∧ k < 14) ∨ k = 18 ∨ k = 19) then 1 else 0) I := fun z => by
    unfold z_X9_act_40
    rw [ob_mk (show z_X9_in F S I k 9 13 = _ from r_inN k 9 (b := 13) (by omega)), b01]
    by_cases h : ¬ k < 9 ∧ k < nI (13 + 1)
    · rw [if_pos h, if_pos (show (¬ k < 9 ∧ k < 14) ∨ k = 18 ∨ k = 19 from Or.inl h)]
    · rw [if_neg h]
      by_cases h18 : k = 18
      · rw [if_pos h18, if_pos (Or.inr (Or.inl h18))]
      · rw [if_neg h18]
        by_cases h19 : k = 19
        · rw [if_pos h19, if_pos (Or.inr (Or.inr h19))]
        · rw [if_neg h19, if_neg (by rintro (g | g | g); exact h g; exact h18 g; exact h19 g)]
  unfold z_X9_act k_act
  rw [ob_mk (r_isM_c a)]
  refine ix_cases a 8 (by omega) (fun h e => ?_) (fun i hi ea e => ?_)
  · rw [e, oy_n, oy_n, if_pos rfl]; exact ⟨I, rfl, hA, fY.rf⟩
  · rw [e, oy_s, oy_s, if_neg (show ¬ (1 : Int32) = 0 by decide), ob_mk (show z_X9_in F S I k 0 20 = _ from r_inN k 0 (b := 20) (by omega)), b01]
    by_cases h0 : ¬ k < 0 ∧ k < 21
    · rw [if_pos (show ¬ k < 0 ∧ k < nI (20 + 1) from h0)]
      have e3 : (if k = 3 then z_X9_act_40 F S A a k x y 1 I else if k = 4 then z_X9_act_40 F S A a k x y 1 I else if k = 20 then z_X9_act_40 F S A a k x y 1 I else z_X9_act_40 F S A a k x y 0 I) = z_X9_act_40 F S A a k x y (if (k = 3 ∨ k = 4 ∨ k = 20) then 1 else 0) I := by
        by_cases h3 : k = 3
        · rw [if_pos h3, if_pos (Or.inl h3)]
        · rw [if_neg h3]
          by_cases h4 : k = 4
          · rw [if_pos h4, if_pos (Or.inr (Or.inl h4))]
          · rw [if_neg h4]
            by_cases h20 : k = 20
            · rw [if_pos h20, if_pos (Or.inr (Or.inr h20))]
            · rw [if_neg h20, if_neg (by rintro (g | g | g); exact h3 g; exact h4 g; exact h20 g)]
      rw [e3, e40, e70, e97, e110, e125]
      by_cases hk : m_kok T k x y
      · obtain ⟨g1, g2, g3, g4, g5⟩ := hk
        obtain ⟨j, hj, ej⟩ := nI_in8 (N := 21) (by omega) h0.1 h0.2
        have ek : k.toNatClampNeg = j := by rw [ej, nc (by omega)]
        rw [if_pos g2, if_pos g3, if_pos g4, if_pos g5, if_pos (show m_kok T k x y from ⟨g1, g2, g3, g4, g5⟩), ea, ek, ej]
        exact r_act144 hA hX hi hj x y
      · rw [if_neg hk]
        by_cases g2 : (k = 3 ∨ k = 4 ∨ k = 20) → ¬ x < 0 ∧ x < 8
        · rw [if_pos g2]
          by_cases g3 : ((¬ k < 9 ∧ k < 14) ∨ k = 18 ∨ k = 19) → ¬ x < 0 ∧ x < nI T.1
          · rw [if_pos g3]
            by_cases g4 : (¬ k < 14 ∧ k < 17) → ¬ x < 0 ∧ x < 40
            · rw [if_pos g4, if_neg (fun g5 => hk ⟨h0, g2, g3, g4, g5⟩)]; exact ⟨I, rfl, hA, fY.rf⟩
            · rw [if_neg g4]; exact ⟨I, rfl, hA, fY.rf⟩
          · rw [if_neg g3]; exact ⟨I, rfl, hA, fY.rf⟩
        · rw [if_neg g2]; exact ⟨I, rfl, hA, fY.rf⟩
    · rw [if_neg (show ¬ (¬ k < 0 ∧ k < nI (20 + 1)) from h0), if_neg (fun g : m_kok T k x y => h0 g.1)]; exact ⟨I, rfl, hA, fY.rf⟩
theorem r_guard (hA : rAll S I A T X f) (hX : ∀ j, j < 8 → mSz (X j)) (a u v h c : Int32) : ∃ I', z_X9_guard F S I A a u v h c = some ((k_guard T X a u v h c).1, I') ∧ rAll S I' A T (k_guard T X a u v h c).2 f ∧ fY A I I' := by
  have hT := hA.2.1
  have hL := hA.1
  have triv : ∃ I', some ((-1 : Int32), I) = some ((-1 : Int32), I') ∧ rAll S I' A T X f ∧ fY A I I' := ⟨I, rfl, hA, fY.rf⟩
  unfold z_X9_guard k_guard
  rw [ob_mk (r_isM_c a)]
  refine ix_cases a 8 (by omega) (fun hh e => ?_) (fun i hi ea e => ?_)
  · rw [e, oy_n, oy_n, if_pos rfl]; exact triv
  · rw [e, oy_s, oy_s, if_neg (show ¬ (1 : Int32) = 0 by decide), ob_mk (r_in u 0 40), b01, ob_mk (r_in v 0 40), b01, ob_mk (show z_X9_in F S I h 0 39 = _ from r_inN h 0 (b := 39) (by omega)), b01, ob_mk (r_isC hT c), b01]
    by_cases hg : m_gok T u v h c
    · obtain ⟨g1, g2, g3, g4, g5⟩ := hg
      have hu40 : ¬ 40 < u := fun g => g3 (Int32.lt_trans g g2)
      have hv0 : ¬ v < 0 := fun g => g1 (Int32.lt_trans g2 g)
      have hM := hA.2.2.1 i hi
      obtain ⟨z1, z2, z3, z5, z4⟩ := hX i hi
      rw [if_pos (show m_gok T u v h c from ⟨g1, g2, g3, g4, g5⟩), if_pos ⟨g1, hu40⟩, if_pos ⟨hv0, g3⟩, if_pos g2, if_pos (show ¬ h < 0 ∧ h < nI (39 + 1) from g4), if_pos g5, ea, ob_mk hL.f10, ixk hL.n10 hi (by omega), nc (by omega), hM.1.2.2.2.1, nl4]
      by_cases hn : xgn (X i) < 4
      · obtain ⟨ju, hju, eu⟩ := nI_of g1
        obtain ⟨jv, hjv, ev⟩ := nI_of hv0
        obtain ⟨jh, hjh, eh⟩ := nI_of g4.1
        obtain ⟨jc, hjc, ec⟩ := nI_of g5.1
        have eu' : u.toNatClampNeg = ju := by rw [eu, nc hju]
        have ev' : v.toNatClampNeg = jv := by rw [ev, nc hjv]
        have eh' : h.toNatClampNeg = jh := by rw [eh, nc hjh]
        have ec' : c.toNatClampNeg = jc := by rw [ec, nc hjc]
        rw [eu', ev', eh', ec', eu, ev, eh, ec]
        rw [if_neg (nI_ne (by omega) (by omega) (by omega)), if_pos hn, ixc hL.n10 hi (by omega), pk_mul, nI_add, ob_mk hL.f11, ixk hL.n11 (by omega) (by omega), nc (by omega), ob_mk hL.f12, ixc hL.n12 (by omega) (by omega), ob_mk hL.f13, ixc hL.n13 (by omega) (by omega), ob_mk hL.f14, ixc hL.n14 (by omega) (by omega), ixc hL.n10 hi (by omega), ixc hL.n10 hi (by omega), ob_mk hL.f15, ixc hL.n15 hi (by omega), ixc hL.n10 hi (by omega)]
        generalize hJ : z_up (z_up (z_up (z_up I (A + 11) (4 * i + xgn (X i)) (nI ju)) (A + 12) (4 * i + xgn (X i)) (nI jv)) (A + 13) (4 * i + xgn (X i)) (nI jh)) (A + 14) (4 * i + xgn (X i)) (nI jc) = J
        have j10 : J (A + 10) i = nI (xgn (X i)) := by rw [← hJ, z_up_off (by omega), z_up_off (by omega), z_up_off (by omega), z_up_off (by omega)]; exact hM.1.2.2.2.1
        rw [j10, nI_1]
        generalize hI' : z_up (z_up J (A + 10) i (nI (xgn (X i) + 1))) (A + 15) i 0 = I'
        have h10 : I' (A + 10) i = nI (xgn (X i) + 1) := by rw [← hI', z_up_off (by omega), z_up_at]
        have hR : fR A i I I' := by
          rw [← hI', ← hJ]
          exact (((((fR.rf.u4 (a := 11) (by omega) hn).u4 (a := 12) (by omega) hn).u4 (a := 13) (by omega) hn).u4 (a := 14) (by omega) hn).u1 (a := 10) (by omega)).u1 (a := 15) (by omega)
        have ho : ∀ b, b < A + 10 ∨ A + 15 < b → I' b = I b := fun b hb => by rw [← hI', z_up_off (by omega), z_up_off (by omega), ← hJ, z_up_off (by omega), z_up_off (by omega), z_up_off (by omega), z_up_off (by omega)]
        rw [h10, nI_pred]
        refine ⟨I', rfl, hA.upd hX hR ⟨⟨?_, ?_, ?_, h10, ?_⟩, fun q hq => ?_, ?_, fun p hp => ?_, fun g => absurd g (by show ¬ false = true; decide)⟩ ?_, hR.2.2.2.2⟩
        · rw [ho _ (by omega)]; exact hM.1.1
        · rw [ho _ (by omega)]; exact hM.1.2.1
        · rw [ho _ (by omega)]; exact hM.1.2.2.1
        · rw [← hI', z_up_at]; rfl
        · rw [ho _ (by omega)]; exact hM.2.1 q hq
        · rw [ho (A + 7) (by omega), ho (A + 8) (by omega), ho (A + 9) (by omega)]; exact hM.2.2.1
        · have hp' : p < xgn (X i) + 1 := hp
          show I' (A + 11) (4 * i + p) = nI (nup (xG (X i)) (xgn (X i)) (ju, jv, jh, jc) p).1 ∧ I' (A + 12) (4 * i + p) = nI (nup (xG (X i)) (xgn (X i)) (ju, jv, jh, jc) p).2.1 ∧ I' (A + 13) (4 * i + p) = nI (nup (xG (X i)) (xgn (X i)) (ju, jv, jh, jc) p).2.2.1 ∧ I' (A + 14) (4 * i + p) = nI (nup (xG (X i)) (xgn (X i)) (ju, jv, jh, jc) p).2.2.2
          have e789 : ∀ b, A + 11 ≤ b → b ≤ A + 14 → I' b = J b := fun b h1 h2 => by rw [← hI', z_up_off (by omega), z_up_off (by omega)]
          rw [e789 _ (by omega) (by omega), e789 _ (by omega) (by omega), e789 _ (by omega) (by omega), e789 _ (by omega) (by omega), ← hJ]
          by_cases e : p = xgn (X i)
          · subst e
            rw [nup_at]
            refine ⟨?_, ?_, ?_, ?_⟩
            · rw [z_up_off (by omega), z_up_off (by omega), z_up_off (by omega), z_up_at]
            · rw [z_up_off (by omega), z_up_off (by omega), z_up_at]
            · rw [z_up_off (by omega), z_up_at]
            · rw [z_up_at]
          · rw [nup_ne e]
            have q1 := hM.2.2.2.1 p (by omega)
            have en : ∀ b, A + 11 ≤ b → b ≤ A + 14 → z_up (z_up (z_up (z_up I (A + 11) (4 * i + xgn (X i)) (nI ju)) (A + 12) (4 * i + xgn (X i)) (nI jv)) (A + 13) (4 * i + xgn (X i)) (nI jh)) (A + 14) (4 * i + xgn (X i)) (nI jc) b (4 * i + p) = I b (4 * i + p) := fun b _ _ => by rw [z_up_ne (Or.inr (by omega)), z_up_ne (Or.inr (by omega)), z_up_ne (Or.inr (by omega)), z_up_ne (Or.inr (by omega))]
            rw [en _ (by omega) (by omega), en _ (by omega) (by omega), en _ (by omega) (by omega), en _ (by omega) (by omega)]
            exact q1
        · rw [ho _ (by omega)]; exact hA.2.2.2
      · rw [if_pos (show nI (xgn (X i)) = nI 4 by rw [show xgn (X i) = 4 by omega]), if_neg hn]
        exact ⟨I, rfl, hA, fY.rf⟩
    · rw [if_neg hg]
      by_cases g1 : ¬ u < 0 ∧ ¬ 40 < u
      · rw [if_pos g1]
        by_cases g3 : ¬ v < 0 ∧ ¬ 40 < v
        · rw [if_pos g3]
          by_cases g2 : u < v
          · rw [if_pos g2]
            by_cases g4 : ¬ h < 0 ∧ h < nI (39 + 1)
            · rw [if_pos g4, if_neg (fun g5 => hg ⟨g1.1, g2, g3.2, g4, g5⟩)]; exact triv
            · rw [if_neg g4]; exact triv
          · rw [if_neg g2]; exact triv
        · rw [if_neg g3]; exact triv
      · rw [if_neg g1]; exact triv
end RA
