/-! the reference: plant -/
section RPL
variable {F : Nat} {S : zS} {I : zI} {A : Nat} {T : mTr} {X : Nat → mM} {f : Nat}
theorem r_upfr (hA : rAll S I A T X f) (hX : ∀ j, j < 8 → mSz (X j)) {i p d : Nat} (hi : i < 8) (hp : p < xn (X i)) (hk : xkn (X i) = true) (hd : d < 20) {v : Int32} {s' : mSn} (hs : rSn (z_up I (A + 19) (20 * (40 * i + p) + d) v) (A + 19) (20 * (40 * i + p)) s') : rAll S (z_up I (A + 19) (20 * (40 * i + p) + d) v) A T (nup X i (k_pl1 (X i) p s')) f ∧ fY A I (z_up I (A + 19) (20 * (40 * i + p) + d) v) := by
  have hR := hA.2.2.1 i hi
  obtain ⟨z1, z2, z3, z4, z5⟩ := hX i hi
  have ff : fR A i I (z_up I (A + 19) (20 * (40 * i + p) + d) v) := fR.rf.u800 (by omega) (by omega) (by omega)
  refine ⟨hA.upd hX ff (hR.told (fun a h1 h2 => z_up_off (by omega)) rfl rfl rfl (by rw [z_up_off (by omega)]; exact hR.1.2.2.2.2) (fun _ q hq => ?_)) (by rw [z_up_off (by omega)]; exact hA.2.2.2), ff.2.2.2.2⟩
  obtain ⟨r1, r2, r3, r4⟩ := hR.2.2.2.2 hk q hq
  have zz := z5 hk q hq
  refine ⟨by rw [z_up_off (by omega)]; exact r1, fun g => (r2 g).kept (z_up_off (by omega)), by rw [z_up_off (by omega)]; exact r3, fun g => ?_⟩
  show rSn _ (A + 19) (20 * (40 * i + q)) (nup (xfs (X i)) p s' q)
  by_cases e : q = p
  · subst e; rw [nup_at]; exact hs
  · rw [nup_ne e]
    exact (r4 g).keptK (by have := zz.2 g; omega) (fun k k1 k2 => z_up_ne (Or.inr (by omega)))
theorem r_pl72 (hF : 50 ≤ F) (hA : rAll S I A T X f) (hX : ∀ j, j < 8 → mSz (X j)) (hO : ∀ j, j < 8 → mOk T (X j)) {i : Nat} (hi : i < 8) (k y : Int32) {t : Nat} (ht : t < 200) (hy : (¬ y < 0 ∧ y < 8) ∨ (¬ y < 100 ∧ y < 110)) :
    ∃ I', z_X9_plant_72 F S A (nI i) k y (nI t) 1 I = some ((if xkn (X i) = true then oy (m_fa (xfm (X i)) (xn (X i)) k) ((-1 : Int32), X) (fun p => match k_pl (X i) p y t with
      | none => (-1, X)
      | some r => (nI r.1, nup X i r.2)) else (-3, X)).1, I') ∧ rAll S I' A T (if xkn (X i) = true then oy (m_fa (xfm (X i)) (xn (X i)) k) ((-1 : Int32), X) (fun p => match k_pl (X i) p y t with
      | none => (-1, X)
      | some r => (nI r.1, nup X i r.2)) else (-3, X)).2 f ∧ fY A I I' := by
  have hL := hA.1
  have h16 := hA.2.1.2.1.2.1
  have hR := hA.2.2.1 i hi
  obtain ⟨z1, z2, z3, z4, z5⟩ := hX i hi
  have bad : ∃ I', some ((-1 : Int32), I) = some ((-1 : Int32), I') ∧ rAll S I' A T X f ∧ fY A I I' := ⟨I, rfl, hA, fY.rf⟩
  unfold z_X9_plant_72
  rw [if_neg (show ¬ (1 : Int32) = 0 by decide), ob_mk hL.f15, ixk hL.n15 hi (by omega), nc (by omega), hR.1.2.2.2.2]
  cases hk : xkn (X i)
  · rw [if_pos (show b2i false = 0 from rfl), if_neg (show ¬ false = true by decide)]; exact ⟨I, rfl, hA, fY.rf⟩
  · have hK := hR.2.2.2.2 hk
    rw [if_neg (show ¬ b2i true = 0 by decide), if_pos rfl, ob_mk (r_actOf hF hL hi z2 hR.1.2.2.1 (fun p hp => (hK p hp).2.2.1) k)]
    cases hfa : m_fa (xfm (X i)) (xn (X i)) k with
    | none =>
      rw [oy_n, if_pos (show m_oi none < 0 by decide)]
      unfold z_X9_plant_128 z_X9_plant_156
      rw [if_pos (show (-5 : Int32) < 0 by decide), ob_mk hL.f3, ixk hL.n3 hi (by omega)]
      split
      · split <;> exact bad
      · split <;> exact bad
    | some p =>
      obtain ⟨hp, hfm⟩ := m_fa_some hfa
      have hv := ((hO i hi).2.2.2 hk).2.2.2 p hp hfm
      have hlt := hv.lt h16 z2
      have sn := (hK p hp).2.2.2 hfm
      have hask : m_askd y := Or.inl hy
      rw [show m_oi (some p) = nI p from rfl, oy_s, if_neg (nn (by omega)), ob_mk hL.f19, nl40, pk_mul, nI_add, nl20, pk_mul, ob_mk (r_part hL.n19 (by omega) (by omega) sn hv.h hask)]
      unfold z_X9_plant_128 z_X9_plant_156 pA k_pl
      rw [ob_mk hL.f3, ixk hL.n3 hi (by omega), nc (show i < 2 ^ 31 by omega), hR.1.1, ob_mk hL.f19, nl40, pk_mul, nI_add, nl20, pk_mul]
      by_cases hpl : ¬ y < 0 ∧ y < 8
      · obtain ⟨j, hj, ej⟩ := nI_in8 (N := 8) (by omega) hpl.1 hpl.2
        have ec : y.toNatClampNeg = j := by rw [ej, nc (by omega)]
        have hb := hlt.1 j hj
        rw [if_pos hpl.2, if_pos hpl, if_pos hpl, ec]
        by_cases c1 : j < xpc (X i)
        · rw [if_pos (show y < nI (xpc (X i)) by rw [ej]; exact (nI_ltI (by omega) (by omega)).mpr c1), if_neg (nn (by omega))]
          by_cases c2 : (xfs (X i) p).1 j = 2
          · rw [if_pos (show nI ((xfs (X i) p).1 j) = 2 by rw [c2]; rfl), if_pos (show ¬ j < xpc (X i) ∨ (xfs (X i) p).1 j = 2 ∨ (xfs (X i) p).1 j = 3 from Or.inr (Or.inl c2))]
            exact bad
          · rw [if_neg (fun d => c2 ((nI_eq (by omega) (by omega)).mp (d.trans nl2)))]
            by_cases c3 : (xfs (X i) p).1 j = 3
            · rw [if_pos (show nI ((xfs (X i) p).1 j) = 3 by rw [c3]; rfl), if_pos (show ¬ j < xpc (X i) ∨ (xfs (X i) p).1 j = 2 ∨ (xfs (X i) p).1 j = 3 from Or.inr (Or.inr c3))]
              exact bad
            · rw [if_neg (fun d => c3 ((nI_eq (by omega) (by omega)).mp (d.trans nl3))), if_neg (show ¬ (¬ j < xpc (X i) ∨ (xfs (X i) p).1 j = 2 ∨ (xfs (X i) p).1 j = 3) by omega), if_pos hpl.2, ej, nI_add, ixk hL.n19 (by omega) (by omega), nc (by omega)]
              obtain ⟨u1, u2⟩ := r_upfr (d := j) (v := nI t) (s' := (nup (xfs (X i) p).1 j t, (xfs (X i) p).2)) hA hX hi hp hk (by omega) ⟨fun x hx => by
                show _ = nI (nup (xfs (X i) p).1 j t x)
                by_cases e : x = j
                · subst e; rw [z_up_at, nup_at]
                · rw [z_up_ne (Or.inr (by omega)), nup_ne e]; exact sn.1 x hx, by rw [z_up_ne (Or.inr (by omega))]; exact sn.2.1, fun x hx => by
                have := hv.h
                rw [z_up_ne (Or.inr (by omega))]; exact sn.2.2 x hx⟩
              exact ⟨_, rfl, u1, u2⟩
        · rw [if_neg (show ¬ y < nI (xpc (X i)) from fun d => c1 ((nI_ltI (by omega) (by omega)).mp (by rw [← ej]; exact d))), if_pos (show ¬ j < xpc (X i) ∨ (xfs (X i) p).1 j = 2 ∨ (xfs (X i) p).1 j = 3 from Or.inl c1)]
          exact bad
      · have hst : ¬ y < 100 ∧ y < 110 := by
          rcases hy with g | g
          · exact absurd g hpl
          · exact g
        obtain ⟨j, hj, ej⟩ := nI_in8 (N := 110) (by omega) (fun g => hst.1 (Int32.lt_trans g (by decide))) hst.2
        have ec : y.toNatClampNeg = j := by rw [ej, nc (by omega)]
        have h100 : 100 ≤ j := by
          by_cases g : j < 100
          · exact absurd (show y < nI 100 by rw [ej]; exact (nI_ltI (by omega) (by omega)).mpr g) hst.1
          · omega
        have hy8 : ¬ y < 8 := fun g => by
          have := (nI_ltI (a := j) (b := 8) (by omega) (by omega)).mp (by rw [← ej]; exact g)
          omega
        have h99 : ¬ y = 99 := fun g => hst.1 (by rw [g]; decide)
        rw [if_neg hy8, if_neg hpl, if_neg hpl, if_neg h99, ec]
        by_cases c0 : t = 0
        · rw [if_pos (show nI t = 0 by rw [c0]; rfl), if_pos (show ¬ j - 100 < (xfs (X i) p).2.1 ∨ (xfs (X i) p).2.2 (j - 100) = 2 ∨ t = 0 from Or.inr (Or.inr c0))]
          exact bad
        · rw [if_neg (fun d => c0 ((nI_eq (by omega) (by omega)).mp (d.trans nl0)))]
          by_cases c1 : j - 100 < (xfs (X i) p).2.1
          · have hb := hlt.2.2 _ c1
            rw [if_pos c1, if_neg (nn (by omega))]
            by_cases c2 : (xfs (X i) p).2.2 (j - 100) = 2
            · rw [if_pos (show nI ((xfs (X i) p).2.2 (j - 100)) = 2 by rw [c2]; rfl), if_pos (show ¬ j - 100 < (xfs (X i) p).2.1 ∨ (xfs (X i) p).2.2 (j - 100) = 2 ∨ t = 0 from Or.inr (Or.inl c2))]
              exact bad
            · have c3 := (hv.2.1 _ c1).2
              rw [if_neg (fun d => c2 ((nI_eq (by omega) (by omega)).mp (d.trans nl2))), if_neg (fun d => c3 ((nI_eq (by omega) (by omega)).mp (d.trans nl3))), if_neg (show ¬ (¬ j - 100 < (xfs (X i) p).2.1 ∨ (xfs (X i) p).2.2 (j - 100) = 2 ∨ t = 0) by omega), if_neg hy8, ej, nl9, nI_add, nl100, pk_sub (by omega), nI_add, show 20 * (40 * i + p) + (9 + j - 100) = 20 * (40 * i + p) + (9 + (j - 100)) by omega, ixk hL.n19 (by have := hv.h; omega) (by omega), nc (by omega)]
              obtain ⟨u1, u2⟩ := r_upfr (d := 9 + (j - 100)) (v := nI t) (s' := ((xfs (X i) p).1, (xfs (X i) p).2.1, nup (xfs (X i) p).2.2 (j - 100) t)) hA hX hi hp hk (by have := hv.h; omega) ⟨fun x hx => by rw [z_up_ne (Or.inr (by omega))]; exact sn.1 x hx, by rw [z_up_ne (Or.inr (by omega))]; exact sn.2.1, fun x hx => by
                show _ = nI (nup (xfs (X i) p).2.2 (j - 100) t x)
                by_cases e : x = j - 100
                · subst e; rw [nup_at, show 20 * (40 * i + p) + 9 + (j - 100) = 20 * (40 * i + p) + (9 + (j - 100)) by omega, z_up_at]
                · rw [z_up_ne (Or.inr (by omega)), nup_ne e]; exact sn.2.2 x hx⟩
              exact ⟨_, rfl, u1, u2⟩
          · rw [if_neg c1, if_pos (show (-5 : Int32) < 0 by decide), if_pos (show ¬ j - 100 < (xfs (X i) p).2.1 ∨ (xfs (X i) p).2.2 (j - 100) = 2 ∨ t = 0 from Or.inl c1)]
            exact bad
theorem r_plant (hF : 50 ≤ F) (hA : rAll S I A T X f) (hX : ∀ j, j < 8 → mSz (X j)) (hO : ∀ j, j < 8 → mOk T (X j)) (a k y t : Int32) : ∃ I', z_X9_plant F S I A a k y t = some ((k_plant T X a k y t).1, I') ∧ rAll S I' A T (k_plant T X a k y t).2 f ∧ fY A I I' := by
  have h16 := hA.2.1.2.1.2.1
  have bad : ∃ I', some ((-1 : Int32), I) = some ((-1 : Int32), I') ∧ rAll S I' A T X f ∧ fY A I I' := ⟨I, rfl, hA, fY.rf⟩
  have k42 : ∀ ty, ty < 200 → t = nI ty → ∃ I', z_X9_plant_42 F S A a k y t 1 I = some ((oy (m_ix a 8) ((-1 : Int32), X) (fun i => if (¬ y < 0 ∧ y < 8) ∨ (¬ y < 100 ∧ y < 110) then (if xkn (X i) = true then oy (m_fa (xfm (X i)) (xn (X i)) k) ((-1 : Int32), X) (fun p => match k_pl (X i) p y ty with
      | none => (-1, X)
      | some r => (nI r.1, nup X i r.2)) else (-3, X)) else (-1, X))).1, I') ∧ rAll S I' A T (oy (m_ix a 8) ((-1 : Int32), X) (fun i => if (¬ y < 0 ∧ y < 8) ∨ (¬ y < 100 ∧ y < 110) then (if xkn (X i) = true then oy (m_fa (xfm (X i)) (xn (X i)) k) ((-1 : Int32), X) (fun p => match k_pl (X i) p y ty with
      | none => (-1, X)
      | some r => (nI r.1, nup X i r.2)) else (-3, X)) else (-1, X))).2 f ∧ fY A I I' := fun ty hty et => by
    unfold z_X9_plant_42
    rw [ob_mk (r_isM_c a)]
    refine ix_cases a 8 (by omega) (fun h e => ?_) (fun i hi ea e => ?_)
    · rw [e, oy_n, oy_n, if_pos rfl]; exact bad
    · rw [e, oy_s, oy_s, if_neg (show ¬ (1 : Int32) = 0 by decide), ob_mk (show z_X9_in F S I y 0 7 = _ from r_inN y 0 (b := 7) (by omega)), b01, ob_mk (show z_X9_in F S I y 100 109 = _ from r_inN y 100 (b := 109) (by omega)), b01, ea, et]
      by_cases hpl : ¬ y < 0 ∧ y < 8
      · rw [if_pos (show ¬ y < 0 ∧ y < nI (7 + 1) from hpl), if_pos (show (¬ y < 0 ∧ y < 8) ∨ (¬ y < 100 ∧ y < 110) from Or.inl hpl)]
        exact r_pl72 hF hA hX hO hi k y hty (Or.inl hpl)
      · rw [if_neg (show ¬ (¬ y < 0 ∧ y < nI (7 + 1)) from hpl)]
        by_cases hst : ¬ y < 100 ∧ y < 110
        · rw [if_pos (show ¬ y < 100 ∧ y < nI (109 + 1) from hst), if_pos (show (¬ y < 0 ∧ y < 8) ∨ (¬ y < 100 ∧ y < 110) from Or.inr hst)]
          exact r_pl72 hF hA hX hO hi k y hty (Or.inr hst)
        · rw [if_neg (show ¬ (¬ y < 100 ∧ y < nI (109 + 1)) from hst), if_neg (show ¬ ((¬ y < 0 ∧ y < 8) ∨ (¬ y < 100 ∧ y < 110)) by rintro (g | g); exact hpl g; exact hst g)]
          exact bad
  have k42n : ∃ I', z_X9_plant_42 F S A a k y t 0 I = some ((oy (m_ix a 8) ((-1 : Int32), X) (fun _ => (-1, X))).1, I') ∧ rAll S I' A T (oy (m_ix a 8) ((-1 : Int32), X) (fun _ => (-1, X))).2 f ∧ fY A I I' := by
    unfold z_X9_plant_42 z_X9_plant_72
    rw [ob_mk (r_isM_c a), if_pos (show (0 : Int32) = 0 from rfl)]
    refine ix_cases a 8 (by omega) (fun h e => ?_) (fun i hi ea e => ?_)
    · rw [e, oy_n, oy_n, if_pos rfl]; exact bad
    · rw [e, oy_s, oy_s, if_neg (show ¬ (1 : Int32) = 0 by decide), ob_mk (show z_X9_in F S I y 0 7 = _ from r_inN y 0 (b := 7) (by omega)), b01, ob_mk (show z_X9_in F S I y 100 109 = _ from r_inN y 100 (b := 109) (by omega)), b01]
      split
      · exact bad
      · split <;> exact bad
  unfold z_X9_plant k_plant m_pty
  by_cases h0 : t = 0
  · rw [if_pos h0, if_pos h0]
    have := k42 0 (by omega) h0
    simp only [oy_s]
    exact this
  · rw [if_neg h0, if_neg h0]
    by_cases h1 : t = 1
    · rw [if_pos h1, if_pos h1]
      have := k42 1 (by omega) h1
      simp only [oy_s]
      exact this
    · rw [if_neg h1, if_neg h1]
      by_cases h4 : t = 4
      · rw [if_pos h4, if_pos h4]
        have := k42 4 (by omega) h4
        simp only [oy_s]
        exact this
      · rw [if_neg h4, if_neg h4]
        unfold z_X9_isObject
        by_cases h10 : t < 10
        · rw [if_pos h10, ob_mk rfl, if_pos rfl, if_neg (show ¬ (¬ t < 10 ∧ t < nI (10 + T.1)) from fun g => g.1 h10)]
          simp only [oy_n]
          exact k42n
        · rw [if_neg h10]
          have ht0 : ¬ t < 0 := fun g => h10 (Int32.lt_trans g (by decide))
          obtain ⟨j, hj, ej⟩ := nI_of ht0
          have hj10 : 10 ≤ j := by
            by_cases g : j < 10
            · exact absurd (show t < nI 10 by rw [ej]; exact (nI_ltI (by omega) (by omega)).mpr g) h10
            · omega
          by_cases h100 : t < 100
          · have hj100 : j < 100 := by
              have : t < nI 100 := h100
              rw [ej] at this
              exact (nI_ltI (by omega) (by omega)).mp this
            rw [if_pos h100, ob_mk rfl, if_neg (show ¬ (1 : Int32) = 0 by decide), ob_mk (r_isC hA.2.1 _), b01]
            have e10 : t - 10 = nI (j - 10) := by rw [ej, nl10, pk_sub hj10]
            rw [e10]
            by_cases hc : j < 10 + T.1
            · rw [if_pos ⟨nn (by omega), (nI_ltI (by omega) (by omega)).mpr (by omega)⟩, if_pos (show ¬ t < 10 ∧ t < nI (10 + T.1) from ⟨h10, by rw [ej]; exact (nI_ltI (by omega) (by omega)).mpr hc⟩)]
              have ec : t.toNatClampNeg = j := by rw [ej, nc hj]
              have := k42 j (by omega) ej
              simp only [oy_s, ec]
              exact this
            · rw [if_neg (fun g => hc (by have := (nI_ltI (by omega) (by omega)).mp g.2; omega)), if_neg (show ¬ (¬ t < 10 ∧ t < nI (10 + T.1)) from fun g => hc ((nI_ltI (by omega) (by omega)).mp (by rw [← ej]; exact g.2)))]
              simp only [oy_n]
              exact k42n
          · rw [if_neg h100, ob_mk rfl, if_pos rfl, if_neg (show ¬ (¬ t < 10 ∧ t < nI (10 + T.1)) from fun g => h100 (Int32.lt_trans g.2 (show nI (10 + T.1) < nI 100 from (nI_ltI (by omega) (by omega)).mpr (by omega))))]
            simp only [oy_n]
            exact k42n
end RPL
