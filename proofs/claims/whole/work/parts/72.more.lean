/-! act, guard, plant, cls: class side -/
def k_act1 (x : mM) (a : mAc) : mM := (x.1, (xn x + 1, nup (xK x) (xn x) a), x.2.2.1, false, x.2.2.2.2)
def k_grd1 (x : mM) (g : mGd) : mM := (x.1, x.2.1, (xgn x + 1, nup (xG x) (xgn x) g), false, x.2.2.2.2)
def k_act (T : mTr) (X : Nat → mM) (a k x y : Int32) : Int32 × (Nat → mM) := oy (m_ix a 8) (-1, X) (fun i => if m_kok T k x y then (if xn (X i) < 40 then (nI (xn (X i)), nup X i (k_act1 (X i) (k.toNatClampNeg, x, y))) else (-2, X)) else (-1, X))
abbrev m_gok (T : mTr) (f t a c : Int32) : Prop := ¬ f < 0 ∧ f < t ∧ ¬ 40 < t ∧ (¬ a < 0 ∧ a < 40) ∧ (¬ c < 0 ∧ c < nI T.1)
def k_guard (T : mTr) (X : Nat → mM) (a f t h c : Int32) : Int32 × (Nat → mM) := oy (m_ix a 8) (-1, X) (fun i => if m_gok T f t h c then (if xgn (X i) < 4 then (nI (xgn (X i)), nup X i (k_grd1 (X i) (f.toNatClampNeg, t.toNatClampNeg, h.toNatClampNeg, c.toNatClampNeg))) else (-2, X)) else (-1, X))
section KA
variable {F : Nat} {S : zS} {I : zI} {B : Nat} {T : mTr} {X : Nat → mM} {f : Nat}
/-- an act is told, at a cell that is there -/
theorem p_tell {S' : zS} {I0 : zI} (hA : cAll S I B T X f) (hX : ∀ j, j < 8 → mMs T (X j)) {i q : Nat} (hi : i < 8) (hL' : cLay S' B) (hn : xn (X i) < 40) (hq : S'.1 (B + 5 + 6 * i + 1) (xn (X i)) = some q) (hqn : ∀ p, p < xn (X i) → S'.1 (B + 5 + 6 * i + 1) p = S.1 (B + 5 + 6 * i + 1) p) (e1 : ∀ j, j < 8 → j ≠ i → ∀ p, S'.1 (B + 5 + 6 * j + 1) p = S.1 (B + 5 + 6 * j + 1) p) (e2 : ∀ j, j < 8 → ∀ p, S'.1 (B + 5 + 6 * j + 2) p = S.1 (B + 5 + 6 * j + 2) p) (eT : S'.1 (B + 1) = S.1 (B + 1) ∧ S'.2.1 (B + 2) = S.2.1 (B + 2) ∧ S'.2.1 (B + 3) = S.2.1 (B + 3)) (hI0 : ∀ b, b < S.2.2 → I0 b = I b) (hqo : q = S.2.2 ∨ cRf S B i (xn (X i)) = some q) {k : Nat} {x y : Int32} :
    ∃ I', z_X5_addAct_48 F (B + 5 + 6 * i) (nI k) x y q S' I0 = some (nI (xn (X i)), S', I') ∧ cAll S' I' B T (nup X i (k_act1 (X i) (k, x, y))) f ∧ fX B I I' := by
  have hN := hA.2.2.1 i hi
  have h94 := hA.1.2.2.2.2.2.2
  obtain ⟨m1, m2, m3, m4, m5, m6⟩ := hX i hi
  have hq94 : B + 94 ≤ q := (hL'.2.2.2.2.1 i (xn (X i)) q hi (by omega) (by rw [cRf_a (by omega)]; exact hq)).1
  have hM0 : I0 (B + 5 + 6 * i) = I (B + 5 + 6 * i) := hI0 _ (by omega)
  unfold z_X5_addAct_48 z_X0_tell zlet
  rw [ob_mk rfl]
  have e3 : z_up (z_up (z_up I0 q 0 (nI k)) q 1 x) q 2 y (B + 5 + 6 * i) 3 = nI (xn (X i)) := by rw [z_up_off (by omega), z_up_off (by omega), z_up_off (by omega), hM0]; exact hN.1.1
  rw [e3, nI_1]
  dsimp only
  generalize hI' : z_up (z_up (z_up (z_up (z_up I0 q 0 (nI k)) q 1 x) q 2 y) (B + 5 + 6 * i) 3 (nI (xn (X i) + 1))) (B + 5 + 6 * i) 7 0 = I'
  have hoff : ∀ b, b ≠ B + 5 + 6 * i → b ≠ q → I' b = I0 b := fun b h1 h2 => by rw [← hI', z_up_off h1, z_up_off h1, z_up_off h2, z_up_off h2, z_up_off h2]
  have hM : ∀ j, j ≠ 3 → j ≠ 7 → I' (B + 5 + 6 * i) j = I (B + 5 + 6 * i) j := fun j h3 h7 => by rw [← hI', z_up_ne (Or.inr h7), z_up_ne (Or.inr h3), z_up_off (by omega), z_up_off (by omega), z_up_off (by omega), hM0]
  have h3' : I' (B + 5 + 6 * i) 3 = nI (xn (X i) + 1) := by rw [← hI', z_up_ne (Or.inr (by omega)), z_up_at]
  have h7' : I' (B + 5 + 6 * i) 7 = 0 := by rw [← hI', z_up_at]
  have hq0 : I' q 0 = nI k ∧ I' q 1 = x ∧ I' q 2 = y := by
    rw [← hI', z_up_off (by omega), z_up_off (by omega)]
    exact ⟨by rw [z_up_ne (Or.inr (by omega)), z_up_ne (Or.inr (by omega)), z_up_at], by rw [z_up_ne (Or.inr (by omega)), z_up_at], by rw [z_up_at]⟩
  rw [h3', nI_pred]
  refine ⟨I', rfl, ?_, fun b h1 h2 => by rw [hoff b (by omega) (by omega)]; exact hI0 b (by omega)⟩
  have ownq : ∀ b, b < S.2.2 → ¬ cOwn S B i b → b ≠ q := fun b hb ho e => by
    rcases hqo with h | h
    · omega
    · exact ho (Or.inr ⟨xn (X i), q, by omega, h, by omega, by unfold cSz; rw [if_pos (by omega)]; omega⟩)
  refine hA.upd hX hi hL' e1 (fun j hj _ => e2 j hj) eT (fun b ho h1 h2 h3 => ?_) ⟨⟨h3', ?_, ?_, ?_, h7'⟩, fun p hp => ?_, fun j hj => ?_, ?_, fun g => absurd g (by show ¬ false = true; decide)⟩ ?_ hA.2.2.2.2
  · have ho1 : ¬ (B + 5 + 6 * i ≤ b ∧ b < B + 11 + 6 * i) := fun g => ho (Or.inl g)
    rw [hoff b (by omega) (ownq b h3 ho)]; exact hI0 b h3
  · rw [hM 4 (by omega) (by omega)]; exact hN.1.2.1
  · rw [hM 5 (by omega) (by omega)]; exact hN.1.2.2.1
  · rw [hM 6 (by omega) (by omega)]; exact hN.1.2.2.2.1
  · have hp' : p < xn (X i) + 1 := hp
    show ∃ q, S'.1 (B + 5 + 6 * i + 1) p = some q ∧ I' q 0 = nI (nup (xK (X i)) (xn (X i)) (k, x, y) p).1 ∧ I' q 1 = (nup (xK (X i)) (xn (X i)) (k, x, y) p).2.1 ∧ I' q 2 = (nup (xK (X i)) (xn (X i)) (k, x, y) p).2.2
    by_cases e : p = xn (X i)
    · subst e
      rw [nup_at]; exact ⟨q, hq, hq0⟩
    · rw [nup_ne e]
      obtain ⟨r, r1, r2⟩ := hN.2.1 p (by omega)
      have hr := hA.1.2.2.2.2.1 i p r hi (by omega) (by rw [cRf_a (by omega)]; exact r1)
      have h7 : cSz p = 7 := by unfold cSz; rw [if_pos (by omega)]
      have hrq : r ≠ q := fun e9 => by
        rcases hqo with h | h
        · omega
        · have := hA.1.2.2.2.2.2.1 i p i (xn (X i)) r q hi (by omega) hi (by omega) (by rw [cRf_a (by omega)]; exact r1) h (Or.inr e)
          have h7' : cSz (xn (X i)) = 7 := by unfold cSz; rw [if_pos (by omega)]
          omega
      exact ⟨r, by rw [hqn p (by omega)]; exact r1, by rw [hoff r (by omega) hrq, hI0 r (by omega)]; exact r2⟩
  · obtain ⟨g, g1, g2⟩ := hN.2.2.1 j hj
    have hj' : j < xgn (X i) := hj
    have hr := hA.1.2.2.2.2.1 i (40 + j) g hi (by omega) (by rw [cRf_g]; exact g1)
    have h7 : cSz (40 + j) = 1 := by unfold cSz; rw [if_neg (by omega)]
    have hrq : g ≠ q := fun e9 => by
      rcases hqo with h | h
      · omega
      · have := hA.1.2.2.2.2.2.1 i (40 + j) i (xn (X i)) g q hi (by omega) hi (by omega) (by rw [cRf_g]; exact g1) h (Or.inr (by omega))
        have h7' : cSz (xn (X i)) = 7 := by unfold cSz; rw [if_pos (by omega)]
        omega
    exact ⟨g, by rw [e2 i hi]; exact g1, by rw [hoff g (by omega) hrq, hI0 g (by omega)]; exact g2⟩
  · exact hN.2.2.2.1.kept (by rw [hoff _ (by omega) (by omega), hI0 _ (by omega)]) (by rw [hoff _ (by omega) (by omega), hI0 _ (by omega)]) (by rw [hoff _ (by omega) (by omega), hI0 _ (by omega)])
  · rw [hoff B (by omega) (by omega), hI0 B (by omega)]; exact hA.2.2.2.1
theorem p_addAct (hA : cAll S I B T X f) (hX : ∀ j, j < 8 → mMs T (X j)) {i : Nat} (hi : i < 8) {k : Nat} {x y : Int32} :
    ∃ S' I', z_X5_addAct F S I (B + 5 + 6 * i) (nI k) x y = some ((if xn (X i) < 40 then (nI (xn (X i)), nup X i (k_act1 (X i) (k, x, y))) else ((-2 : Int32), X)).1, S', I') ∧ cAll S' I' B T (if xn (X i) < 40 then (nI (xn (X i)), nup X i (k_act1 (X i) (k, x, y))) else ((-2 : Int32), X)).2 f ∧ fX B I I' ∧ fZ B S S' := by
  have hN := hA.2.2.1 i hi
  have hM := hA.1.2.2.2.1 i hi
  have h94 := hA.1.2.2.2.2.2.2
  obtain ⟨m1, m2, m3, m4, m5, m6⟩ := hX i hi
  unfold z_X5_addAct
  rw [hN.1.1, nl40]
  by_cases hn : xn (X i) < 40
  · rw [if_pos ((nI_ltI (by omega) (by omega)).mpr hn), if_pos hn, ob_mk hM.2.1, hM.2.2.2.2.1, if_neg (ni_in hn (by omega)), nc (by omega)]
    cases hc : S.1 (B + 5 + 6 * i + 1) (xn (X i)) with
    | some q =>
      rw [ob2_mk rfl]
      obtain ⟨I', t1, t2, t3⟩ := p_tell (F := F) (S' := S) (I0 := I) (k := k) (x := x) (y := y) hA hX hi hA.1 hn hc (fun _ _ => rfl) (fun _ _ _ _ => rfl) (fun _ _ _ => rfl) ⟨rfl, rfl, rfl⟩ (fun _ _ => rfl) (Or.inr (by rw [cRf_a hn]; exact hc))
      exact ⟨S, I', t1, t2, t3, fun _ _ _ => ⟨rfl, rfl⟩⟩
    | none =>
      rw [ob2_none]
      obtain ⟨S7, I7, a1, a2, a3, a4, a5, a6, a7, a8⟩ := i_X0 (F := F) (S := z_new S 0 0) (I := z_newI S I) (q := S.2.2) rfl
      have k1 : ∀ b, b < S.2.2 → S7.1 b = S.1 b := fun b hb => by rw [(a8 b hb).1, zn1 (by omega)]
      have k2 : ∀ b, b < S.2.2 → S7.2.1 b = S.2.1 b := fun b hb => by rw [a7 b (by omega), zn2 (by omega)]
      have k3 : ∀ b, b < S.2.2 → I7 b = I b := fun b hb => by rw [(a8 b hb).2, zn3 (by omega)]
      have eM : S7.1 (B + 5 + 6 * i) 0 = some (B + 5 + 6 * i + 1) := by rw [k1 _ (by omega)]; exact hM.2.1
      have e40 : (S7.2.1 (B + 5 + 6 * i + 1)).2 = 40 := by rw [k2 _ (by omega)]; exact hM.2.2.2.2.1
      have e3 : I7 (B + 5 + 6 * i) 3 = nI (xn (X i)) := by rw [k3 _ (by omega)]; exact hN.1.1
      have eq : (zlet (z_new S 0 0) (fun S4 => zlet (z_newI S I) (fun J5 => ob (z_X0_init F S4 J5 (S.2.2)) (fun q7 => ob (q7.1.1 (B + 5 + 6 * i) 0) (fun r8 => if ((q7.2) (B + 5 + 6 * i) 3) < 0 ∨ (q7.1.2.1 r8).2 ≤ ((q7.2) (B + 5 + 6 * i) 3).toNatClampNeg then none else (zlet (z_upR q7.1 r8 ((q7.2) (B + 5 + 6 * i) 3).toNatClampNeg (some (S.2.2))) (fun S10 => z_X5_addAct_48 F (B + 5 + 6 * i) (nI k) x y (S.2.2) (S10) (q7.2)))))))) = z_X5_addAct_48 F (B + 5 + 6 * i) (nI k) x y S.2.2 (z_upR S7 (B + 5 + 6 * i + 1) (xn (X i)) (some S.2.2)) I7 := by
        show ob (z_X0_init F (z_new S 0 0) (z_newI S I) (S.2.2)) (fun q7 => ob (q7.1.1 (B + 5 + 6 * i) 0) (fun r8 => if ((q7.2) (B + 5 + 6 * i) 3) < 0 ∨ (q7.1.2.1 r8).2 ≤ ((q7.2) (B + 5 + 6 * i) 3).toNatClampNeg then none else (zlet (z_upR q7.1 r8 ((q7.2) (B + 5 + 6 * i) 3).toNatClampNeg (some (S.2.2))) (fun S10 => z_X5_addAct_48 F (B + 5 + 6 * i) (nI k) x y (S.2.2) (S10) (q7.2))))) = _
        rw [ob_mk a1]
        show ob (S7.1 (B + 5 + 6 * i) 0) (fun r8 => if (I7 (B + 5 + 6 * i) 3) < 0 ∨ (S7.2.1 r8).2 ≤ (I7 (B + 5 + 6 * i) 3).toNatClampNeg then none else z_X5_addAct_48 F (B + 5 + 6 * i) (nI k) x y (S.2.2) (z_upR S7 r8 (I7 (B + 5 + 6 * i) 3).toNatClampNeg (some (S.2.2))) I7) = _
        rw [ob_mk eM, e3, e40, if_neg (ni_in hn (by omega)), nc (by omega)]
      rw [eq]
      generalize hS' : z_upR S7 (B + 5 + 6 * i + 1) (xn (X i)) (some S.2.2) = S'
      have r1 : ∀ b, b < S.2.2 → b ≠ B + 5 + 6 * i + 1 → S'.1 b = S.1 b := fun b hb h => by rw [← hS', zr1 h]; exact k1 b hb
      have r2 : ∀ b, S'.2.1 b = S7.2.1 b := fun b => by rw [← hS']; rfl
      have rat : S'.1 (B + 5 + 6 * i + 1) (xn (X i)) = some S.2.2 := by rw [← hS', zr_at]
      have rne : ∀ p, p ≠ xn (X i) → S'.1 (B + 5 + 6 * i + 1) p = S.1 (B + 5 + 6 * i + 1) p := fun p hp => by rw [← hS', zr_ne hp, k1 _ (by omega)]
      have hL' : cLay S' B := by
        refine hA.1.add (k := xn (X i)) hi (by omega) (Or.inl rfl) ?_ (fun b hb => by rw [r2]; exact k2 b hb) (fun b hb h => r1 b hb h) (fun i' k' hi' hk' hne => ?_) ?_ (fun _ => ?_)
        · rw [← hS']; show S7.2.2 = _; unfold cSz; rw [if_pos hn]; exact a2
        · unfold cRf
          by_cases h40 : k' < 40
          · rw [if_pos h40, if_pos h40]
            by_cases e : i' = i
            · subst e; exact rne k' (by omega)
            · rw [r1 _ (by omega) (by omega)]
          · rw [if_neg h40, if_neg h40, r1 _ (by omega) (by omega)]
        · rw [cRf_a hn]; exact rat
        · refine ⟨?_, ?_, a5.kept ?_ (r2 _) (r2 _), a6.kept ?_ (r2 _) (r2 _)⟩
          · rw [← hS', zr1 (by omega)]; exact a3
          · rw [← hS', zr1 (by omega)]; exact a4
          · rw [← hS', zr1 (by omega)]
          · rw [← hS', zr1 (by omega)]
      obtain ⟨I', t1, t2, t3⟩ := p_tell (F := F) (S' := S') (I0 := I7) (k := k) (x := x) (y := y) hA hX hi hL' hn rat (fun p hp => rne p (by omega)) (fun j hj hne p => by rw [r1 _ (by omega) (by omega)]) (fun j hj p => by rw [r1 _ (by omega) (by omega)]) ⟨r1 _ (by omega) (by omega), by rw [r2]; exact k2 _ (by omega), by rw [r2]; exact k2 _ (by omega)⟩ k3 (Or.inl rfl)
      exact ⟨S', I', t1, t2, t3, fun b h1 h2 => ⟨r1 b (by omega) (by omega), by rw [r2]; exact k2 b (by omega)⟩⟩
  · rw [if_neg (fun d => hn ((nI_ltI (by omega) (by omega)).mp d)), if_neg hn]
    exact ⟨S, I, rfl, hA, fun _ _ _ => rfl, fun _ _ _ => ⟨rfl, rfl⟩⟩
end KA
