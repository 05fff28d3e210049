/-! the law's loop -/
theorem rAll.keepX {S S' : zS} {I I' : zI} {A : Nat} {T : mTr} {X : Nat → mM} {f : Nat} (hA : rAll S I A T X f) (hI : ∀ b, A ≤ b → b < A + 26 → I' b = I b) (hS : ∀ b, A ≤ b → b < A + 26 → S'.1 b = S.1 b ∧ S'.2.1 b = S.2.1 b) : rAll S' I' A T X f := by
  refine ⟨hA.1.kept hS, hA.2.1.kept (by rw [hI A (by omega) (by omega)]) (hI _ (by omega) (by omega)) (hI _ (by omega) (by omega)), fun j hj => ?_, by rw [hI A (by omega) (by omega)]; exact hA.2.2.2⟩
  refine (hA.2.2.1 j hj).told (fun a h1 h2 => hI _ (by omega) (by omega)) rfl rfl rfl (by rw [hI _ (by omega) (by omega)]; exact (hA.2.2.1 j hj).1.2.2.2.2) (fun hk p hp => ?_)
  obtain ⟨r1, r2, r3, r4⟩ := (hA.2.2.1 j hj).2.2.2.2 hk p hp
  exact ⟨by rw [hI _ (by omega) (by omega)]; exact r1, fun g => (r2 g).kept (hI _ (by omega) (by omega)), by rw [hI _ (by omega) (by omega)]; exact r3, fun g => (r4 g).kept (hI _ (by omega) (by omega))⟩
theorem rAll.kX {S : zS} {I I' : zI} {B : Nat} {T : mTr} {X : Nat → mM} {f : Nat} (hA : rAll S I (B + 68) T X f) (h : fX B I I') : rAll S I' (B + 68) T X f := hA.keepX (fun b h1 h2 => h b h1 (by omega)) (fun _ _ _ => ⟨rfl, rfl⟩)
theorem cAll.keepY {S : zS} {I I' : zI} {B : Nat} {T : mTr} {X : Nat → mM} {f : Nat} (hA : cAll S I B T X f) (hX : ∀ j, j < 8 → mMs T (X j)) (h : fY (B + 68) I I') : cAll S I' B T X f := by
  refine ⟨hA.1, hA.2.1.kept (h _ (by omega)) (h _ (by omega)) (h _ (by omega)), fun i hi => (hA.2.2.1 i hi).kept (hX i hi) (fun _ => rfl) (fun _ => rfl) (fun b ho => h b ?_), by rw [h B (by omega)]; exact hA.2.2.2.1, hA.2.2.2.2⟩
  rcases ho with ho | ⟨k, q, hk, e, k1, k2⟩
  · omega
  · have := (hA.1.2.2.2.2.1 i k q hi hk e).1
    omega
/-- class and reference hold the same model -/
def lInv (S : zS) (I : zI) (B : Nat) : Prop := ∃ T X f, cAll S I B T X f ∧ rAll S I (B + 68) T X f ∧ mInv T X
theorem law_lp {L B : Nat} {xs : Nat → Int32} (hL : L ≤ 3072) : ∀ (n k : Nat) (S : zS) (I : zI), lInv S I B → 6 * k ≤ L → L < 6 * (k + n) → z_L_law_18 30000 L xs n B (B + 68) (nI (6 * k)) S I = some () := by
  intro n
  induction n with
  | zero => intro k S I _ h1 h2; omega
  | succ n ih =>
    intro k S I hinv h1 h2
    show z_L_law_18B 30000 L xs (z_L_law_18 30000 L xs n) B (B + 68) (nI (6 * k)) S I = some ()
    by_cases hend : L < 6 * k + 6
    · unfold z_L_law_18B
      rw [if_pos]
      show nI L - 6 < nI (6 * k)
      by_cases h6 : 6 ≤ L
      · rw [nl6, pk_sub h6]; exact (nI_ltI (by omega) (by omega)).mpr (by omega)
      · rw [nl6]; exact Int32.lt_of_lt_of_le (pk_sneg (by omega) (by omega)) (nI_pos' (by omega))
    · have next : ∀ S' I', lInv S' I' B → z_L_law_18 30000 L xs n B (B + 68) (nI (6 * k) + 6) S' I' = some () := fun S' I' h => by
        rw [nl6, nI_add, show 6 * k + 6 = 6 * (k + 1) by omega]
        exact ih (k + 1) S' I' h (by omega) (by omega)
      obtain ⟨T, X, f, hc, hr, hi⟩ := hinv
      have hinv : lInv S I B := ⟨T, X, f, hc, hr, hi⟩
      have hM : ∀ j, j < 8 → mMs T (X j) := fun j hj => (hi.2 j hj).1
      have hO : ∀ j, j < 8 → mOk T (X j) := fun j hj => (hi.2 j hj).2.1
      have hZ : ∀ j, j < 8 → xkn (X j) = true → (xC (X j)).1 0 = true := fun j hj => (hi.2 j hj).2.2
      have hX : ∀ j, j < 8 → mSz (X j) := fun j hj => (hi.2 j hj).sz
      have hk0 : ∀ j, j < 8 → xkn (X j) = true → 0 < xn (X j) := fun j hj g => ((hO j hj).2.2.2 g).1
      have hbg : ∀ j, j < 8 → ∀ y, xus (X j) ≤ y → (xbg (X j)).1 y = 0 := fun j hj => (hO j hj).2.1
      have ck : ∀ c, c < 6 → ¬ (nI (6 * k) + nI c < 0 ∨ L ≤ (nI (6 * k) + nI c).toNatClampNeg) := fun c hc => by rw [nI_add]; exact ni_in (x := 6 * k + c) (by omega) (by omega)
      have ck1 : ¬ (nI (6 * k) + 1 < 0 ∨ L ≤ (nI (6 * k) + 1).toNatClampNeg) := ck 1 (by omega)
      have ck2 : ¬ (nI (6 * k) + 2 < 0 ∨ L ≤ (nI (6 * k) + 2).toNatClampNeg) := ck 2 (by omega)
      have ck3 : ¬ (nI (6 * k) + 3 < 0 ∨ L ≤ (nI (6 * k) + 3).toNatClampNeg) := ck 3 (by omega)
      have ck4 : ¬ (nI (6 * k) + 4 < 0 ∨ L ≤ (nI (6 * k) + 4).toNatClampNeg) := ck 4 (by omega)
      have ck5 : ¬ (nI (6 * k) + 5 < 0 ∨ L ≤ (nI (6 * k) + 5).toNatClampNeg) := ck 5 (by omega)
      unfold z_L_law_18B
      have hne : ¬ (Int32.ofNat L - 6 < nI (6 * k)) := by
        show ¬ (nI L - 6 < nI (6 * k))
        rw [nl6, pk_sub (by omega)]
        exact fun d => (by have := (nI_ltI (by omega) (by omega)).mp d; omega : False)
      rw [if_neg hne, if_neg (ni_in (x := 6 * k) (n := L) (by omega) (by omega))]
      obtain ⟨j, hj, ej⟩ := pk_andE (xs (nI (6 * k)).toNatClampNeg) (m := 31) 5 rfl
      rw [ej]
      have : j = 0 ∨ j = 1 ∨ j = 2 ∨ j = 3 ∨ j = 4 ∨ j = 5 ∨ j = 6 ∨ j = 7 ∨ j = 8 ∨ j = 9 ∨ j = 10 ∨ j = 11 ∨ j = 12 ∨ j = 13 ∨ j = 14 ∨ j = 15 ∨ j = 16 ∨ 17 ≤ j := by omega
      rcases this with rfl | rfl | rfl | rfl | rfl | rfl | rfl | rfl | rfl | rfl | rfl | rfl | rfl | rfl | rfl | rfl | rfl | hj17
      · rw [if_pos (show nI 0 = 0 from rfl)]
        rw [if_neg ck1, if_neg ck2]
        have go : ∀ fc : Bool, (xs (nI (6 * k) + 2).toNatClampNeg = 0 ↔ fc = false) → z_L_law_135 30000 L xs (z_L_law_18 30000 L xs n) B (B + 68) (nI (6 * k)) B (xs (nI (6 * k) + 1).toNatClampNeg) (b2i fc) S I = some () := fun fc hfc => by
          unfold z_L_law_135 z_L_law_157
          obtain ⟨I1, a1, a2, a3⟩ := p_cls (F := 30000) hc hM (xs (nI (6 * k) + 1).toNatClampNeg) fc
          obtain ⟨I2, b1, b2, b3⟩ := r_cls (F := 30000) (hr.kX a3) (xs (nI (6 * k) + 1).toNatClampNeg) fc
          have hi' := i_cls hi (xs (nI (6 * k) + 1).toNatClampNeg) fc
          rw [ob_mk a1, if_neg ck1, if_neg ck2]
          dsimp only
          have fin : ob (z_X9_cls 30000 S I1 (B + 68) (xs (nI (6 * k) + 1).toNatClampNeg) (b2i fc)) (fun q1 => if (k_cls T (xs (nI (6 * k) + 1).toNatClampNeg) fc).1 = q1.1 then z_L_law_18 30000 L xs n B (B + 68) (nI (6 * k) + 6) S q1.2 else none) = some () := by
            rw [ob_mk b1]
            dsimp only
            rw [if_pos rfl]
            exact next S I2 ⟨_, X, f, a2.keepY (fun j hj => (hi'.2 j hj).1) b3, b2, hi'⟩
          cases fc
          · rw [if_pos (hfc.mpr rfl)]; exact fin
          · rw [if_neg (fun g => by have := hfc.mp g; cases this)]; exact fin
        by_cases hz : xs (nI (6 * k) + 2).toNatClampNeg = 0
        · rw [if_pos hz]; exact go false ⟨fun _ => rfl, fun _ => hz⟩
        · rw [if_neg hz]; exact go true ⟨fun g => absurd g hz, fun g => by cases g⟩
      · rw [if_neg (show ¬ nI 1 = 0 by decide), if_pos (show nI 1 = 1 from rfl)]
        rw [if_neg ck1, if_neg ck2]
        rw [ob_mk (p_joined (F := 30000) (by omega) hc (xs (nI (6 * k) + 1).toNatClampNeg) (xs (nI (6 * k) + 2).toNatClampNeg)), if_neg ck1, if_neg ck2, ob_mk (r_joined (F := 30000) (by omega) hr.1 hr.2.1 (xs (nI (6 * k) + 1).toNatClampNeg) (xs (nI (6 * k) + 2).toNatClampNeg)), if_pos rfl]
        exact next S I hinv
      · rw [if_neg (show ¬ nI 2 = 0 by decide), if_neg (show ¬ nI 2 = 1 by decide), if_pos (show nI 2 = 2 from rfl)]
        rw [if_neg ck1, if_neg ck2]
        rw [ob_mk (p_is (F := 30000) hc (xs (nI (6 * k) + 1).toNatClampNeg) (xs (nI (6 * k) + 2).toNatClampNeg)), if_neg ck1, if_neg ck2, ob_mk (r_is (F := 30000) (by omega) hr.1 hr.2.1 (xs (nI (6 * k) + 1).toNatClampNeg) (xs (nI (6 * k) + 2).toNatClampNeg)), if_pos rfl]
        exact next S I hinv
      · rw [if_neg (show ¬ nI 3 = 0 by decide), if_neg (show ¬ nI 3 = 1 by decide), if_neg (show ¬ nI 3 = 2 by decide), if_pos (show nI 3 = 3 from rfl)]
        rw [if_neg ck1, if_neg ck2]
        obtain ⟨I1, a1, a2, a3⟩ := p_clear (F := 30000) (by omega) hc hM (xs (nI (6 * k) + 1).toNatClampNeg) (xs (nI (6 * k) + 2).toNatClampNeg)
        obtain ⟨I2, b1, b2, b3⟩ := r_clear (F := 30000) (hr.kX a3) hX (xs (nI (6 * k) + 1).toNatClampNeg) (xs (nI (6 * k) + 2).toNatClampNeg)
        have hi' := i_clear hi (xs (nI (6 * k) + 1).toNatClampNeg) (xs (nI (6 * k) + 2).toNatClampNeg)
        rw [ob_mk a1, if_neg ck1, if_neg ck2]
        dsimp only
        rw [ob_mk b1]
        dsimp only
        rw [if_pos rfl]
        exact next S I2 ⟨_, _, _, a2.keepY (fun j hj => (hi'.2 j hj).1) b3, b2, hi'⟩
      · rw [if_neg (show ¬ nI 4 = 0 by decide), if_neg (show ¬ nI 4 = 1 by decide), if_neg (show ¬ nI 4 = 2 by decide), if_neg (show ¬ nI 4 = 3 by decide), if_pos (show nI 4 = 4 from rfl)]
        rw [if_neg ck1, if_neg ck2]
        obtain ⟨I1, a1, a2, a3⟩ := p_arg (F := 30000) (by omega) hc hM (xs (nI (6 * k) + 1).toNatClampNeg) (xs (nI (6 * k) + 2).toNatClampNeg)
        obtain ⟨I2, b1, b2, b3⟩ := r_arg (F := 30000) (hr.kX a3) hX hbg (xs (nI (6 * k) + 1).toNatClampNeg) (xs (nI (6 * k) + 2).toNatClampNeg)
        have hi' := i_arg hi (xs (nI (6 * k) + 1).toNatClampNeg) (xs (nI (6 * k) + 2).toNatClampNeg)
        rw [ob_mk a1, if_neg ck1, if_neg ck2]
        dsimp only
        rw [ob_mk b1]
        dsimp only
        rw [if_pos rfl]
        exact next S I2 ⟨_, _, _, a2.keepY (fun j hj => (hi'.2 j hj).1) b3, b2, hi'⟩
      · rw [if_neg (show ¬ nI 5 = 0 by decide), if_neg (show ¬ nI 5 = 1 by decide), if_neg (show ¬ nI 5 = 2 by decide), if_neg (show ¬ nI 5 = 3 by decide), if_neg (show ¬ nI 5 = 4 by decide), if_pos (show nI 5 = 5 from rfl)]
        rw [if_neg ck1, if_neg ck2, if_neg ck3, if_neg ck4]
        obtain ⟨S1, I1, a1, a2, a3, a4⟩ := p_act (F := 30000) hc hM (xs (nI (6 * k) + 1).toNatClampNeg) (xs (nI (6 * k) + 2).toNatClampNeg) (xs (nI (6 * k) + 3).toNatClampNeg) (xs (nI (6 * k) + 4).toNatClampNeg)
        obtain ⟨I2, b1, b2, b3⟩ := r_act (F := 30000) (hr.keepX (S' := S1) (I' := I1) (fun b h1 h2 => a3 b h1 (by omega)) (fun b h1 h2 => a4 b h1 (by omega))) hX (xs (nI (6 * k) + 1).toNatClampNeg) (xs (nI (6 * k) + 2).toNatClampNeg) (xs (nI (6 * k) + 3).toNatClampNeg) (xs (nI (6 * k) + 4).toNatClampNeg)
        have hi' := i_act hi (xs (nI (6 * k) + 1).toNatClampNeg) (xs (nI (6 * k) + 2).toNatClampNeg) (xs (nI (6 * k) + 3).toNatClampNeg) (xs (nI (6 * k) + 4).toNatClampNeg)
        rw [ob_mk a1, if_neg ck1, if_neg ck2, if_neg ck3, if_neg ck4]
        dsimp only
        rw [ob_mk b1]
        dsimp only
        rw [if_pos rfl]
        exact next S1 I2 ⟨_, _, _, a2.keepY (fun j hj => (hi'.2 j hj).1) b3, b2, hi'⟩
      · rw [if_neg (show ¬ nI 6 = 0 by decide), if_neg (show ¬ nI 6 = 1 by decide), if_neg (show ¬ nI 6 = 2 by decide), if_neg (show ¬ nI 6 = 3 by decide), if_neg (show ¬ nI 6 = 4 by decide), if_neg (show ¬ nI 6 = 5 by decide), if_pos (show nI 6 = 6 from rfl)]
        rw [if_neg ck1, if_neg ck2, if_neg ck3, if_neg ck4, if_neg ck5]
        obtain ⟨S1, I1, a1, a2, a3, a4⟩ := p_guard (F := 30000) hc hM (xs (nI (6 * k) + 1).toNatClampNeg) (xs (nI (6 * k) + 2).toNatClampNeg) (xs (nI (6 * k) + 3).toNatClampNeg) (xs (nI (6 * k) + 4).toNatClampNeg) (xs (nI (6 * k) + 5).toNatClampNeg)
        obtain ⟨I2, b1, b2, b3⟩ := r_guard (F := 30000) (hr.keepX (S' := S1) (I' := I1) (fun b h1 h2 => a3 b h1 (by omega)) (fun b h1 h2 => a4 b h1 (by omega))) hX (xs (nI (6 * k) + 1).toNatClampNeg) (xs (nI (6 * k) + 2).toNatClampNeg) (xs (nI (6 * k) + 3).toNatClampNeg) (xs (nI (6 * k) + 4).toNatClampNeg) (xs (nI (6 * k) + 5).toNatClampNeg)
        have hi' := i_guard hi (xs (nI (6 * k) + 1).toNatClampNeg) (xs (nI (6 * k) + 2).toNatClampNeg) (xs (nI (6 * k) + 3).toNatClampNeg) (xs (nI (6 * k) + 4).toNatClampNeg) (xs (nI (6 * k) + 5).toNatClampNeg)
        rw [ob_mk a1, if_neg ck1, if_neg ck2, if_neg ck3, if_neg ck4, if_neg ck5]
        dsimp only
        rw [ob_mk b1]
        dsimp only
        rw [if_pos rfl]
        exact next S1 I2 ⟨_, _, _, a2.keepY (fun j hj => (hi'.2 j hj).1) b3, b2, hi'⟩
      · rw [if_neg (show ¬ nI 7 = 0 by decide), if_neg (show ¬ nI 7 = 1 by decide), if_neg (show ¬ nI 7 = 2 by decide), if_neg (show ¬ nI 7 = 3 by decide), if_neg (show ¬ nI 7 = 4 by decide), if_neg (show ¬ nI 7 = 5 by decide), if_neg (show ¬ nI 7 = 6 by decide), if_pos (show nI 7 = 7 from rfl)]
        rw [if_neg ck1]
        obtain ⟨I1, a1, a2, a3⟩ := p_compute (F := 30000) (by omega) hc hM (xs (nI (6 * k) + 1).toNatClampNeg)
        obtain ⟨I2, b1, b2, b3⟩ := r_compute (F := 30000) (by omega) (hr.kX a3) hX hM hO (xs (nI (6 * k) + 1).toNatClampNeg)
        have hi' := i_compute (f := f) hi (xs (nI (6 * k) + 1).toNatClampNeg)
        rw [ob_mk a1, if_neg ck1]
        dsimp only
        rw [ob_mk b1]
        dsimp only
        rw [if_pos rfl]
        exact next S I2 ⟨_, _, _, a2.keepY (fun j hj => (hi'.2 j hj).1) b3, b2, hi'⟩
      · rw [if_neg (show ¬ nI 8 = 0 by decide), if_neg (show ¬ nI 8 = 1 by decide), if_neg (show ¬ nI 8 = 2 by decide), if_neg (show ¬ nI 8 = 3 by decide), if_neg (show ¬ nI 8 = 4 by decide), if_neg (show ¬ nI 8 = 5 by decide), if_neg (show ¬ nI 8 = 6 by decide), if_neg (show ¬ nI 8 = 7 by decide), if_pos (show nI 8 = 8 from rfl)]
        rw [ob_mk (p_fault (F := 30000) hc), ob_mk (r_fault (F := 30000) hr), if_pos rfl]
        exact next S I hinv
      · rw [if_neg (show ¬ nI 9 = 0 by decide), if_neg (show ¬ nI 9 = 1 by decide), if_neg (show ¬ nI 9 = 2 by decide), if_neg (show ¬ nI 9 = 3 by decide), if_neg (show ¬ nI 9 = 4 by decide), if_neg (show ¬ nI 9 = 5 by decide), if_neg (show ¬ nI 9 = 6 by decide), if_neg (show ¬ nI 9 = 7 by decide), if_neg (show ¬ nI 9 = 8 by decide), if_pos (show nI 9 = 9 from rfl)]
        rw [if_neg ck1, if_neg ck2, if_neg ck3]
        rw [ob_mk (p_state (F := 30000) hc hM (xs (nI (6 * k) + 1).toNatClampNeg) (xs (nI (6 * k) + 2).toNatClampNeg) (xs (nI (6 * k) + 3).toNatClampNeg)), if_neg ck1, if_neg ck2, if_neg ck3, ob_mk (r_state (F := 30000) hr hX hO (xs (nI (6 * k) + 1).toNatClampNeg) (xs (nI (6 * k) + 2).toNatClampNeg) (xs (nI (6 * k) + 3).toNatClampNeg)), if_pos rfl]
        exact next S I hinv
      · rw [if_neg (show ¬ nI 10 = 0 by decide), if_neg (show ¬ nI 10 = 1 by decide), if_neg (show ¬ nI 10 = 2 by decide), if_neg (show ¬ nI 10 = 3 by decide), if_neg (show ¬ nI 10 = 4 by decide), if_neg (show ¬ nI 10 = 5 by decide), if_neg (show ¬ nI 10 = 6 by decide), if_neg (show ¬ nI 10 = 7 by decide), if_neg (show ¬ nI 10 = 8 by decide), if_neg (show ¬ nI 10 = 9 by decide), if_pos (show nI 10 = 10 from rfl)]
        rw [if_neg ck1, if_neg ck2, if_neg ck3]
        rw [ob_mk (p_frame (F := 30000) (by omega) hc hM (xs (nI (6 * k) + 1).toNatClampNeg) (xs (nI (6 * k) + 2).toNatClampNeg) (xs (nI (6 * k) + 3).toNatClampNeg)), if_neg ck1, if_neg ck2, if_neg ck3, ob_mk (r_frame (F := 30000) (by omega) hr hX hO (xs (nI (6 * k) + 1).toNatClampNeg) (xs (nI (6 * k) + 2).toNatClampNeg) (xs (nI (6 * k) + 3).toNatClampNeg)), if_pos rfl]
        exact next S I hinv
      · rw [if_neg (show ¬ nI 11 = 0 by decide), if_neg (show ¬ nI 11 = 1 by decide), if_neg (show ¬ nI 11 = 2 by decide), if_neg (show ¬ nI 11 = 3 by decide), if_neg (show ¬ nI 11 = 4 by decide), if_neg (show ¬ nI 11 = 5 by decide), if_neg (show ¬ nI 11 = 6 by decide), if_neg (show ¬ nI 11 = 7 by decide), if_neg (show ¬ nI 11 = 8 by decide), if_neg (show ¬ nI 11 = 9 by decide), if_neg (show ¬ nI 11 = 10 by decide), if_pos (show nI 11 = 11 from rfl)]
        rw [if_neg ck1, if_neg ck2]
        obtain ⟨I2, b1, b2, b3⟩ := r_form (F := 30000) (by omega) hr hX hM hO (xs (nI (6 * k) + 1).toNatClampNeg) (xs (nI (6 * k) + 2).toNatClampNeg)
        rw [ob_mk (p_form (F := 30000) (by omega) hc hM (xs (nI (6 * k) + 1).toNatClampNeg) (xs (nI (6 * k) + 2).toNatClampNeg)), if_neg ck1, if_neg ck2, ob_mk b1]
        dsimp only
        rw [if_pos rfl]
        exact next S I2 ⟨T, X, f, hc.keepY hM b3, b2, hi⟩
      · rw [if_neg (show ¬ nI 12 = 0 by decide), if_neg (show ¬ nI 12 = 1 by decide), if_neg (show ¬ nI 12 = 2 by decide), if_neg (show ¬ nI 12 = 3 by decide), if_neg (show ¬ nI 12 = 4 by decide), if_neg (show ¬ nI 12 = 5 by decide), if_neg (show ¬ nI 12 = 6 by decide), if_neg (show ¬ nI 12 = 7 by decide), if_neg (show ¬ nI 12 = 8 by decide), if_neg (show ¬ nI 12 = 9 by decide), if_neg (show ¬ nI 12 = 10 by decide), if_neg (show ¬ nI 12 = 11 by decide), if_pos (show nI 12 = 12 from rfl)]
        rw [if_neg ck1, if_neg ck2]
        rw [ob_mk (p_shared (F := 30000) (by omega) hc hM (xs (nI (6 * k) + 1).toNatClampNeg) (xs (nI (6 * k) + 2).toNatClampNeg)), if_neg ck1, if_neg ck2, ob_mk (r_shared (F := 30000) (by omega) hr hX hM (xs (nI (6 * k) + 1).toNatClampNeg) (xs (nI (6 * k) + 2).toNatClampNeg)), if_pos rfl]
        exact next S I hinv
      · rw [if_neg (show ¬ nI 13 = 0 by decide), if_neg (show ¬ nI 13 = 1 by decide), if_neg (show ¬ nI 13 = 2 by decide), if_neg (show ¬ nI 13 = 3 by decide), if_neg (show ¬ nI 13 = 4 by decide), if_neg (show ¬ nI 13 = 5 by decide), if_neg (show ¬ nI 13 = 6 by decide), if_neg (show ¬ nI 13 = 7 by decide), if_neg (show ¬ nI 13 = 8 by decide), if_neg (show ¬ nI 13 = 9 by decide), if_neg (show ¬ nI 13 = 10 by decide), if_neg (show ¬ nI 13 = 11 by decide), if_neg (show ¬ nI 13 = 12 by decide), if_pos (show nI 13 = 13 from rfl)]
        rw [if_neg ck1, if_neg ck2]
        obtain ⟨I2, b1, b2, b3⟩ := r_max (F := 30000) (by omega) hr hX hM hO (xs (nI (6 * k) + 1).toNatClampNeg) (xs (nI (6 * k) + 2).toNatClampNeg)
        rw [ob_mk (p_max (F := 30000) hc (xs (nI (6 * k) + 1).toNatClampNeg) (xs (nI (6 * k) + 2).toNatClampNeg)), if_neg ck1, if_neg ck2, ob_mk b1]
        dsimp only
        rw [if_pos rfl]
        exact next S I2 ⟨T, X, f, hc.keepY hM b3, b2, hi⟩
      · rw [if_neg (show ¬ nI 14 = 0 by decide), if_neg (show ¬ nI 14 = 1 by decide), if_neg (show ¬ nI 14 = 2 by decide), if_neg (show ¬ nI 14 = 3 by decide), if_neg (show ¬ nI 14 = 4 by decide), if_neg (show ¬ nI 14 = 5 by decide), if_neg (show ¬ nI 14 = 6 by decide), if_neg (show ¬ nI 14 = 7 by decide), if_neg (show ¬ nI 14 = 8 by decide), if_neg (show ¬ nI 14 = 9 by decide), if_neg (show ¬ nI 14 = 10 by decide), if_neg (show ¬ nI 14 = 11 by decide), if_neg (show ¬ nI 14 = 12 by decide), if_neg (show ¬ nI 14 = 13 by decide), if_pos (show nI 14 = 14 from rfl)]
        rw [if_neg ck1, if_neg ck2, if_neg ck3, if_neg ck4]
        obtain ⟨I1, a1, a2, a3⟩ := p_plant (F := 30000) (by omega) hc hM (xs (nI (6 * k) + 1).toNatClampNeg) (xs (nI (6 * k) + 2).toNatClampNeg) (xs (nI (6 * k) + 3).toNatClampNeg) (xs (nI (6 * k) + 4).toNatClampNeg)
        obtain ⟨I2, b1, b2, b3⟩ := r_plant (F := 30000) (by omega) (hr.kX a3) hX hO (xs (nI (6 * k) + 1).toNatClampNeg) (xs (nI (6 * k) + 2).toNatClampNeg) (xs (nI (6 * k) + 3).toNatClampNeg) (xs (nI (6 * k) + 4).toNatClampNeg)
        have hi' := i_plant hi (xs (nI (6 * k) + 1).toNatClampNeg) (xs (nI (6 * k) + 2).toNatClampNeg) (xs (nI (6 * k) + 3).toNatClampNeg) (xs (nI (6 * k) + 4).toNatClampNeg)
        rw [ob_mk a1, if_neg ck1, if_neg ck2, if_neg ck3, if_neg ck4]
        dsimp only
        rw [ob_mk b1]
        dsimp only
        rw [if_pos rfl]
        exact next S I2 ⟨_, _, _, a2.keepY (fun j hj => (hi'.2 j hj).1) b3, b2, hi'⟩
      · rw [if_neg (show ¬ nI 15 = 0 by decide), if_neg (show ¬ nI 15 = 1 by decide), if_neg (show ¬ nI 15 = 2 by decide), if_neg (show ¬ nI 15 = 3 by decide), if_neg (show ¬ nI 15 = 4 by decide), if_neg (show ¬ nI 15 = 5 by decide), if_neg (show ¬ nI 15 = 6 by decide), if_neg (show ¬ nI 15 = 7 by decide), if_neg (show ¬ nI 15 = 8 by decide), if_neg (show ¬ nI 15 = 9 by decide), if_neg (show ¬ nI 15 = 10 by decide), if_neg (show ¬ nI 15 = 11 by decide), if_neg (show ¬ nI 15 = 12 by decide), if_neg (show ¬ nI 15 = 13 by decide), if_neg (show ¬ nI 15 = 14 by decide), if_pos (show nI 15 = 15 from rfl)]
        rw [if_neg ck1]
        obtain ⟨I1, a1, a2, a3⟩ := p_verify (F := 30000) (by omega) hc hM hk0 (xs (nI (6 * k) + 1).toNatClampNeg)
        obtain ⟨I2, b1, b2, b3⟩ := r_verify (F := 30000) (by omega) (hr.kX a3) hX hM hO hZ (xs (nI (6 * k) + 1).toNatClampNeg)
        have hi' := hi
        rw [ob_mk a1, if_neg ck1]
        dsimp only
        rw [ob_mk b1]
        dsimp only
        rw [if_pos rfl]
        exact next S I2 ⟨_, _, _, a2.keepY (fun j hj => (hi'.2 j hj).1) b3, b2, hi'⟩
      · rw [if_neg (show ¬ nI 16 = 0 by decide), if_neg (show ¬ nI 16 = 1 by decide), if_neg (show ¬ nI 16 = 2 by decide), if_neg (show ¬ nI 16 = 3 by decide), if_neg (show ¬ nI 16 = 4 by decide), if_neg (show ¬ nI 16 = 5 by decide), if_neg (show ¬ nI 16 = 6 by decide), if_neg (show ¬ nI 16 = 7 by decide), if_neg (show ¬ nI 16 = 8 by decide), if_neg (show ¬ nI 16 = 9 by decide), if_neg (show ¬ nI 16 = 10 by decide), if_neg (show ¬ nI 16 = 11 by decide), if_neg (show ¬ nI 16 = 12 by decide), if_neg (show ¬ nI 16 = 13 by decide), if_neg (show ¬ nI 16 = 14 by decide), if_neg (show ¬ nI 16 = 15 by decide), if_pos (show nI 16 = 16 from rfl)]
        rw [if_neg ck1]
        rw [ob_mk (p_told (F := 30000) (by omega) hc hM (xs (nI (6 * k) + 1).toNatClampNeg)), if_neg ck1, ob_mk (r_told (F := 30000) (by omega) hr hX (xs (nI (6 * k) + 1).toNatClampNeg)), if_pos rfl]
        exact next S I hinv
      · have ne : ∀ c : Nat, c < 17 → ¬ nI j = nI c := fun c hc => nI_ne (by omega) (by omega) (by omega)
        rw [if_neg (show ¬ nI j = 0 from ne 0 (by omega)), if_neg (show ¬ nI j = 1 from ne 1 (by omega)), if_neg (show ¬ nI j = 2 from ne 2 (by omega)), if_neg (show ¬ nI j = 3 from ne 3 (by omega)), if_neg (show ¬ nI j = 4 from ne 4 (by omega)), if_neg (show ¬ nI j = 5 from ne 5 (by omega)), if_neg (show ¬ nI j = 6 from ne 6 (by omega)), if_neg (show ¬ nI j = 7 from ne 7 (by omega)), if_neg (show ¬ nI j = 8 from ne 8 (by omega)), if_neg (show ¬ nI j = 9 from ne 9 (by omega)), if_neg (show ¬ nI j = 10 from ne 10 (by omega)), if_neg (show ¬ nI j = 11 from ne 11 (by omega)), if_neg (show ¬ nI j = 12 from ne 12 (by omega)), if_neg (show ¬ nI j = 13 from ne 13 (by omega)), if_neg (show ¬ nI j = 14 from ne 14 (by omega)), if_neg (show ¬ nI j = 15 from ne 15 (by omega)), if_neg (show ¬ nI j = 16 from ne 16 (by omega))]
        exact next S I hinv
theorem law_pure (b0 L : Nat) (xs : Nat → Int32) (hL : L ≤ 3072) : ∃ F, z_L_law F L xs ((fun _ _ => none, fun _ => (0, 0), b0)) (fun _ _ => 0) = some () := by
  refine ⟨30000, ?_⟩
  unfold z_L_law zlet
  dsimp only
  obtain ⟨S4, I4, a1, a2⟩ := i_X8 (F := 30000) (S := z_new ((fun _ _ => none, fun _ => (0, 0), b0) : zS) 8 0) (I := z_newI ((fun _ _ => none, fun _ => (0, 0), b0) : zS) (fun _ _ => 0)) (B := b0) rfl
  rw [ob_mk a1]
  dsimp only
  have hs := a2.1
  rw [hs]
  obtain ⟨S8, I8, c1, c2, c3, c4, c5, c6, c7, c8⟩ := i_X9 (F := 30000) (S := z_new S4 9 0) (I := z_newI S4 I4) (A := b0 + 68) (by show S4.2.2 + 1 = _; rw [hs])
  rw [ob_mk c1]
  dsimp only
  have k1 : ∀ b, b < b0 + 68 → S8.1 b = S4.1 b := fun b hb => by rw [(c4 b hb).1, zn1 (by omega)]
  have k2 : ∀ b, b < b0 + 68 → S8.2.1 b = S4.2.1 b := fun b hb => by rw [(c4 b hb).2.1, zn2 (by omega)]
  have k3 : ∀ b, b < b0 + 68 → I8 b = I4 b := fun b hb => by rw [(c4 b hb).2.2, zn3 (by omega)]
  have hA := a2.toAll k1 k2 k3 (by rw [c2]; omega)
  have n0 : ∀ k, z_newI S4 I4 (b0 + 68) k = 0 := fun k => by show (if b0 + 68 = S4.2.2 then (0 : Int32) else _) = 0; rw [if_pos hs.symm]
  have e0 : ∀ k, I8 (b0 + 68) k = if k = 0 then 1 else 0 := fun k => by rw [c5 k, n0]
  have hB : rAll S8 I8 (b0 + 68) mT0 (fun _ => mX0) 0 := by
    refine ⟨c3, ⟨by rw [e0, if_pos rfl]; rfl, ⟨Nat.le_refl 1, by show 1 ≤ 16; omega, fun c h1 h2 => ?_, rfl⟩, fun c hc => ⟨fun h1 => ?_, ?_⟩⟩, fun i hi => ⟨⟨?_, ?_, ?_, ?_, ?_⟩, fun y hy => absurd hy (Nat.not_lt_zero _), fun y hy => absurd hy (Nat.not_lt_zero _), fun y hy => absurd hy (Nat.not_lt_zero _), fun g => absurd g (by show ¬ false = true; decide)⟩, by rw [e0, if_neg (by omega)]; rfl⟩
    · have : c < 1 := h2
      omega
    · have : c < 1 := hc
      omega
    · have h1 : c < 1 := hc
      have : c = 0 := by omega
      subst this
      rw [c7]; rfl
    · rw [c6 i hi]; rfl
    · rw [(c8 i hi).1]; rfl
    · rw [(c8 i hi).2.1]; rfl
    · rw [(c8 i hi).2.2.1]; rfl
    · rw [(c8 i hi).2.2.2]; rfl
  have hI : mInv mT0 (fun _ => mX0) := ⟨⟨Nat.le_refl 1, by show 1 ≤ 16; omega, fun c h1 h2 => by have : c < 1 := h2; omega, rfl⟩, fun j _ => mI1.x0⟩
  exact law_lp hL 1000 0 S8 I8 ⟨mT0, fun _ => mX0, 0, hA, hB, hI⟩ (by omega) (by omega)
