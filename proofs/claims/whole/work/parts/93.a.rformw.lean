/-! the reference: form, as a whole -/
section RFW
variable {F : Nat} {S : zS} {A : Nat} {T : mTr}
theorem r_97 (hF : 50 ≤ F) (hL : rL S A) {J : zI} {i p : Nat} (hi : i < 8) (hp : p < 40) {s : mSn} {pl' : Nat → Nat} (hs : rSn J (A + 19) (20 * (40 * i + p)) s) (hh : s.2.1 ≤ 10) (hR : mPr s.1) (hR' : mPr pl') (hb : ∀ x, x < 8 → s.1 x < 200 ∧ pl' x < 200) (hr' : ∀ x, x < 8 → pl' x ≠ 3 → J (A + 24) (m_tc pl' x) = nI (pl' x)) : ∃ J', z_X9_form_97 F S A (nI i) (nI p) (nI (m_tl pl' 8)) J = some (nI (m_form s.1 s.2.1 pl'), J') ∧ ∀ b, b ≠ A + 25 → J' b = J b := by
  unfold z_X9_form_97
  rw [ob_mk hL.f19, ob_mk hL.f28, nl40, pk_mul, nI_add, nl20, pk_mul]
  obtain ⟨J1, a1, a2, a3⟩ := r_tp_lp (F := F) (S := S) (I := J) (x0 := A + 19) (x2 := A + 25) (o := 20 * (40 * i + p)) (pl := s.1) hL.n19 hL.n28 (by omega) (by omega) (by omega) hs.1 (fun x hx => (hb x hx).1) F 8 0 J (by omega) (by omega) (fun _ _ => rfl) (fun x hx => absurd hx (Nat.not_lt_zero _))
  rw [ob_mk (show z_X9_toldPlaces F S J (A + 19) (nI (20 * (40 * i + p))) (A + 25) = some (nI (m_tl s.1 8), J1) from a1)]
  refine ⟨J1, ?_, a2⟩
  rw [m_tl_e hR 8 (by omega), m_tl_e hR' 8 (by omega)]
  have e8 := m_end_le s.1 8
  have e8' := m_end_le pl' 8
  have hn : m_tc pl' (m_end pl' 8) ≤ 8 := by have := m_ct_le (fun x => decide (pl' x ≠ 3)) (m_end pl' 8); show m_ct _ _ ≤ 8; omega
  have ho : m_tc s.1 (m_end s.1 8) ≤ 8 := by have := m_ct_le (fun x => decide (s.1 x ≠ 3)) (m_end s.1 8); show m_ct _ _ ≤ 8; omega
  show z_X9_form_129 F S F A (nI (m_tc pl' (m_end pl' 8))) (nI (20 * (40 * i + p))) (nI (m_tc s.1 (m_end s.1 8))) 1 0 J1 = _
  have lp := r_fm_lp (F := F) (J := J1) (n := m_tc pl' (m_end pl' 8)) (o := m_tc s.1 (m_end s.1 8)) (at_ := nI (20 * (40 * i + p))) hL hn ho F (min (m_tc pl' (m_end pl' 8)) (m_tc s.1 (m_end s.1 8))) 0 (by omega) (by omega)
  have lp' : z_X9_form_129 F S F A (nI (m_tc pl' (m_end pl' 8))) (nI (20 * (40 * i + p))) (nI (m_tc s.1 (m_end s.1 8))) 1 0 J1 = _ := lp
  rw [lp']
  have iff := m_like_t hR hR' (r := J1 (A + 25)) (r' := J1 (A + 24)) (fun x hx h3 => a3 x hx h3) (fun x hx h3 => by rw [a2 _ (by omega)]; exact hr' x hx h3) hb
  have hlike : (!anyN (fun t => decide (J1 (A + 24) t ≠ J1 (A + 25) t)) (min (m_tc pl' (m_end pl' 8)) (m_tc s.1 (m_end s.1 8)))) = m_like s.1 pl' (min (m_end s.1 8) (m_end pl' 8)) := by
    unfold m_like
    congr 1
    cases h1 : anyN (fun x => decide (s.1 x ≠ pl' x)) (min (m_end s.1 8) (m_end pl' 8))
    · have g := iff.mp (fun x hx => Decidable.of_not_not (of_decide_eq_false (anyN_f.mp h1 x hx)))
      refine anyN_f.mpr (fun t ht => decide_eq_false (fun q => q ?_))
      exact (g t (by omega)).symm
    · cases h2 : anyN (fun t => decide (J1 (A + 24) t ≠ J1 (A + 25) t)) (min (m_tc pl' (m_end pl' 8)) (m_tc s.1 (m_end s.1 8)))
      · have g := iff.mpr (fun t ht => (Decidable.of_not_not (of_decide_eq_false (anyN_f.mp h2 t (by omega)))).symm)
        obtain ⟨x, hx, hq⟩ := anyN_iff.mp h1
        exact absurd (g x hx) (of_decide_eq_true hq)
      · rfl
  rw [hlike]
  have s8 : J1 (A + 19) (20 * (40 * i + p) + 8) = nI s.2.1 := by rw [a2 _ (by omega)]; exact hs.2.1
  unfold z_X9_form_176 m_form
  rw [ob_mk hL.f19, nl8, nI_add, ixk hL.n19 (by omega) (by omega), nc (by omega), s8]
  cases hlk : m_like s.1 pl' (min (m_end s.1 8) (m_end pl' 8))
  · rw [if_pos (show b2i false = 0 from rfl), if_pos rfl]; rfl
  · rw [if_neg (show ¬ b2i true = 0 by decide), if_neg (show ¬ true = false by decide)]
    have ha : ∀ x, x < min (m_end s.1 8) (m_end pl' 8) → s.1 x = pl' x := fun x hx => by
      unfold m_like at hlk
      have : anyN (fun x => decide (s.1 x ≠ pl' x)) (min (m_end s.1 8) (m_end pl' 8)) = false := by
        cases q : anyN (fun x => decide (s.1 x ≠ pl' x)) (min (m_end s.1 8) (m_end pl' 8))
        · rfl
        · rw [q] at hlk; cases hlk
      exact Decidable.of_not_not (of_decide_eq_false (anyN_f.mp this x hx))
    have heq : m_end s.1 8 = m_end pl' 8 → m_tc s.1 (m_end s.1 8) = m_tc pl' (m_end pl' 8) := fun g => by
      rw [m_tc_eq (m_end s.1 8) (fun x hx => ha x (by omega)), g]
    have hlt : m_end s.1 8 < m_end pl' 8 → m_tc s.1 (m_end s.1 8) = m_tc pl' (m_end s.1 8) ∧ m_tc pl' (m_end s.1 8) < m_tc pl' (m_end pl' 8) := fun g => m_tc_less hR hR' (fun x hx => ha x (by omega)) g
    have hgt : m_end pl' 8 < m_end s.1 8 → m_tc pl' (m_end pl' 8) = m_tc s.1 (m_end pl' 8) ∧ m_tc s.1 (m_end pl' 8) < m_tc s.1 (m_end s.1 8) := fun g => m_tc_less hR' hR (fun x hx => (ha x (by omega)).symm) g
    generalize hN : m_tc pl' (m_end pl' 8) = N at *
    generalize hO : m_tc s.1 (m_end s.1 8) = O at *
    have eiff : m_end s.1 8 = m_end pl' 8 ↔ N = O := by
      constructor
      · intro g; exact (heq g).symm
      · intro g
        by_cases c1 : m_end s.1 8 < m_end pl' 8
        · have := hlt c1; omega
        · by_cases c2 : m_end pl' 8 < m_end s.1 8
          · have := hgt c2; omega
          · omega
    by_cases c1 : 1 < s.2.1
    · rw [if_pos (show (1 : Int32) < nI s.2.1 from (nI_ltI (a := 1) (by omega) (by omega)).mpr c1), if_neg (show ¬ (m_end s.1 8 = m_end pl' 8 ∧ s.2.1 = 1) by omega), if_pos (show s.2.1 ≠ 0 by omega)]; rfl
    · rw [if_neg (show ¬ (1 : Int32) < nI s.2.1 from fun d => c1 ((nI_ltI (a := 1) (by omega) (by omega)).mp d))]
      by_cases c2 : s.2.1 = 1
      · rw [if_pos (show nI s.2.1 = 1 by rw [c2]; rfl)]
        by_cases ce : m_end s.1 8 = m_end pl' 8
        · unfold z_X9_form_215
          rw [if_pos (show nI N = nI O by rw [eiff.mp ce]), if_pos (show nI N = nI O by rw [eiff.mp ce]), if_pos (show m_end s.1 8 = m_end pl' 8 ∧ s.2.1 = 1 from ⟨ce, c2⟩), c2]
        · rw [if_neg (nI_ne (by omega) (by omega) (fun g => ce (eiff.mpr g))), if_neg (fun g => ce g.1), if_pos (show s.2.1 ≠ 0 by omega)]; rfl
      · have c0 : s.2.1 = 0 := by omega
        rw [if_neg (show ¬ nI s.2.1 = 1 from fun d => c2 ((nI_eq (by omega) (by omega)).mp (d.trans nl1))), if_neg (show ¬ (m_end s.1 8 = m_end pl' 8 ∧ s.2.1 = 1) from fun g => c2 g.2), if_neg (show ¬ s.2.1 ≠ 0 from fun g => g c0)]
        unfold z_X9_form_215 z_X9_form_254
        by_cases ce : m_end s.1 8 = m_end pl' 8
        · rw [if_pos (show nI N = nI O by rw [eiff.mp ce]), if_pos ce, c0]
        · have hNO : N ≠ O := fun g => ce (eiff.mpr g)
          rw [if_neg (nI_ne (by omega) (by omega) hNO), if_neg ce]
          by_cases cl : m_end s.1 8 < m_end pl' 8
          · obtain ⟨g1, g2⟩ := hlt cl
            rw [if_pos cl, if_pos ((nI_ltI (by omega) (by omega)).mpr (show O < N by omega)), pk_sub (show O ≤ N by omega), ← g1]
            by_cases c3 : 3 < N - O
            · rw [if_pos (show (3 : Int32) < nI (N - O) from (nI_ltI (a := 3) (by omega) (by omega)).mpr c3), if_pos c3, if_neg (fun d => (by have := (nI_ltI (a := N) (b := O) (by omega) (by omega)).mp d; omega : False))]; rfl
            · rw [if_neg (show ¬ (3 : Int32) < nI (N - O) from fun d => c3 ((nI_ltI (a := 3) (by omega) (by omega)).mp d)), if_neg c3, nl20, nI_add, pk_sub (show O ≤ 20 + N by omega), show 20 + N - O = 20 + (N - O) by omega]
          · obtain ⟨g1, g2⟩ := hgt (by omega)
            rw [if_neg cl, if_neg (fun d => (by have := (nI_ltI (a := O) (b := N) (by omega) (by omega)).mp d; omega : False)), if_pos ((nI_ltI (by omega) (by omega)).mpr (show N < O by omega)), pk_sub (show N ≤ O by omega), ← g1]
            by_cases c3 : 3 < O - N
            · rw [if_pos (show (3 : Int32) < nI (O - N) from (nI_ltI (a := 3) (by omega) (by omega)).mpr c3), if_pos c3]; rfl
            · rw [if_neg (show ¬ (3 : Int32) < nI (O - N) from fun d => c3 ((nI_ltI (a := 3) (by omega) (by omega)).mp d)), if_neg c3, nl30, nI_add, pk_sub (show N ≤ 30 + O by omega), show 30 + O - N = 30 + (O - N) by omega]
end RFW
section RFX
variable {F : Nat} {S : zS} {I : zI} {A : Nat} {T : mTr} {X : Nat → mM} {f : Nat}
theorem r_form (hF : 50 ≤ F) (hA : rAll S I A T X f) (hX : ∀ j, j < 8 → mSz (X j)) (hM : ∀ j, j < 8 → mMs T (X j)) (hO : ∀ j, j < 8 → mOk T (X j)) (a k : Int32) : ∃ I', z_X9_form F S I A a k = some (k_form X a k, I') ∧ rAll S I' A T X f ∧ fY A I I' := by
  have hL := hA.1
  have h16 := hA.2.1.2.1.2.1
  unfold z_X9_form k_form
  rw [ob_mk (r_isM_c a)]
  refine ix_cases a 8 (by omega) (fun h e => ?_) (fun i hi ea e => ?_)
  · rw [e, oy_n, oy_n, if_pos rfl]; exact ⟨I, rfl, hA, fY.rf⟩
  · have hR := hA.2.2.1 i hi
    obtain ⟨m1, m2, m3, m4, m5, m6⟩ := hM i hi
    obtain ⟨o1, o2, o3, o4⟩ := hO i hi
    rw [e, oy_s, oy_s, if_neg (show ¬ (1 : Int32) = 0 by decide), ea, ob_mk hL.f15, ixk hL.n15 hi (by omega), nc (by omega), hR.1.2.2.2.2]
    cases hk : xkn (X i)
    · rw [if_pos (show b2i false = 0 from rfl), if_neg (show ¬ false = true by decide)]; exact ⟨I, rfl, hA, fY.rf⟩
    · obtain ⟨n0, _, fmE, fv⟩ := o4 hk
      have hK := hR.2.2.2.2 hk
      have hact := fun k => r_actOf (F := F) hF hL hi m1 hR.1.2.2.1 (fun p hp => (hK p hp).2.2.1) k
      rw [if_neg (show ¬ b2i true = 0 by decide), if_pos rfl, ob_mk (hact k)]
      cases hfa : m_fa (xfm (X i)) (xn (X i)) k with
      | none => rw [oy_n, if_pos (show m_oi none < 0 by decide)]; exact ⟨I, rfl, hA, fY.rf⟩
      | some p =>
        obtain ⟨hp, hfm⟩ := m_fa_some hfa
        have hv := fv p hp hfm
        have hlt := hv.lt h16 m1
        rw [show m_oi (some p) = nI p from rfl, oy_s, if_neg (nn (by omega))]
        have hk0 : ¬ k < 0 := fun g => by unfold m_fa at hfa; rw [if_pos g] at hfa; cases hfa
        have fin : ∀ {J2 : zI} {pl' : Nat → Nat}, (∀ b, b ≠ A → b < A + 20 → J2 b = I b) → J2 A 0 = I A 0 → J2 A 20 = I A 20 → (∀ b, (b < A ∨ A + 26 ≤ b) → J2 b = I b) → mPr pl' → (∀ x, x < 8 → pl' x < 200) → (∀ x, x < 8 → pl' x ≠ 3 → J2 (A + 24) (m_tc pl' x) = nI (pl' x)) → ∃ I', z_X9_form_97 F S A (nI i) (nI p) (nI (m_tl pl' 8)) J2 = some (nI (m_form (xfs (X i) p).1 (xfs (X i) p).2.1 pl'), I') ∧ rAll S I' A T X f ∧ fY A I I' := fun {J2 pl'} q1 q2 q3 q4 q5 q6 q7 => by
          obtain ⟨J3, u1, u2⟩ := r_97 (F := F) hF hL hi (show p < 40 by omega) (((hK p hp).2.2.2 hfm).kept (q1 _ (by omega) (by omega))) hv.h hv.2.2.2 q5 (fun x hx => ⟨hlt.1 x hx, q6 x hx⟩) q7
          exact ⟨J3, u1, hA.same hX (fun b b1 b2 => by rw [u2 b (by omega), q1 b b1 b2]) (by rw [u2 A (by omega), q2]) (by rw [u2 A (by omega), q3]; exact hA.2.2.2), fun b hb => by rw [u2 b (by omega), q4 b hb]⟩
        by_cases hz : k = 0
        · have hk1 : m_fa (xfm (X i)) (xn (X i)) (k - 1) = none := by rw [hz]; unfold m_fa; rw [if_pos (show (0 : Int32) - 1 < 0 by decide)]
          rw [if_pos hz, hk1, oy_n, ob_mk hL.f23]
          have o' : ∀ b, b ≠ A → z_up I A 21 (nI i) b = I b := fun b hb => z_up_off hb
          obtain ⟨J, d1, d2, d3⟩ := r_beg (F := F) (I := z_up I A 21 (nI i)) (x1 := A + 21) (bg := xbg (X i)) (by omega) hL (z_up_at _ _ _ _) hi (by rw [o' _ (by omega)]; exact hR.1.2.1) (by omega) (fun y hy => by rw [o' _ (by omega)]; exact hR.2.1 y hy) o2 o1 (Or.inr rfl) hL.n23
          have hbv : mVs T (xn (X i)) (xK (X i)) (xbg (X i)) := o3.bg
          have hbl := hbv.lt h16 m1
          rw [ob_mk d1, ob_mk hL.f27]
          obtain ⟨J2, t1, t2, t3⟩ := r_tp_lp (F := F) (S := S) (I := J) (x0 := A + 21) (x2 := A + 24) (o := 0) (pl := (xbg (X i)).1) hL.n23 hL.n27 (by omega) (by omega) (by omega) d2.1 hbl.1 F 8 0 J (by omega) (by omega) (fun _ _ => rfl) (fun x hx => absurd hx (Nat.not_lt_zero _))
          rw [ob_mk (show z_X9_toldPlaces F S J (A + 21) 0 (A + 24) = some (nI (m_tl (xbg (X i)).1 8), J2) from t1)]
          exact fin (J2 := J2) (fun b b1 b2 => by rw [t2 b (by omega), d3 b (by omega), o' b b1]) (by rw [t2 A (by omega), d3 A (by omega), z_up_ne (Or.inr (by omega))]) (by rw [t2 A (by omega), d3 A (by omega), z_up_ne (Or.inr (by omega))]) (fun b hb => by rw [t2 b (by omega), d3 b (by omega), o' b (by omega)]) o3.2.2.2 hbl.1 t3
        · obtain ⟨j, hj, ej⟩ := nI_of hk0
          have hj1 : 1 ≤ j := by
            by_cases g : j = 0
            · rw [g] at ej; exact absurd ej hz
            · omega
          obtain ⟨p', hp'⟩ : ∃ p', m_fa (xfm (X i)) (xn (X i)) (k - 1) = some p' := by
            have h1 : m_of (xfm (X i)) (xn (X i)) 0 0 j = some p := by
              unfold m_fa at hfa
              rw [if_neg hk0, ej, nc hj] at hfa
              exact hfa
            obtain ⟨j', hj'⟩ : ∃ j', j = j' + 1 := ⟨j - 1, by omega⟩
            rw [hj'] at h1
            obtain ⟨p', hp'⟩ := m_of_prev _ _ _ _ _ h1 (by omega)
            refine ⟨p', ?_⟩
            unfold m_fa
            rw [ej, n_pred hj1, if_neg (nn (by omega)), nc (by omega), hj']
            exact hp'
          obtain ⟨hpp, hfmp⟩ := m_fa_some hp'
          have hv' := fv p' hpp hfmp
          have hlt' := hv'.lt h16 m1
          rw [if_neg hz, ob_mk hL.f19, ob_mk (hact (k - 1)), hp', show m_oi (some p') = nI p' from rfl, oy_s, ob_mk hL.f27, nl40, pk_mul, nI_add, nl20, pk_mul]
          obtain ⟨J2, t1, t2, t3⟩ := r_tp_lp (F := F) (S := S) (I := I) (x0 := A + 19) (x2 := A + 24) (o := 20 * (40 * i + p')) (pl := (xfs (X i) p').1) hL.n19 hL.n27 (by omega) (by omega) (by omega) ((hK p' hpp).2.2.2 hfmp).1 hlt'.1 F 8 0 I (by omega) (by omega) (fun _ _ => rfl) (fun x hx => absurd hx (Nat.not_lt_zero _))
          rw [ob_mk (show z_X9_toldPlaces F S I (A + 19) (nI (20 * (40 * i + p'))) (A + 24) = some (nI (m_tl (xfs (X i) p').1 8), J2) from t1)]
          exact fin (J2 := J2) (fun b b1 b2 => t2 b (by omega)) (by rw [t2 A (by omega)]) (by rw [t2 A (by omega)]) (fun b hb => t2 b (by omega)) hv'.2.2.2 hlt'.1 t3
end RFX
