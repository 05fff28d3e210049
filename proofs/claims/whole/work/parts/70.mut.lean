/-! the calls that change something but make no object: class side -/
section KM
variable {F : Nat} {S : zS} {I : zI} {B : Nat} {T : mTr} {X : Nat → mM} {f : Nat}
theorem cOwn.m {i b : Nat} (h1 : B + 5 + 6 * i ≤ b) (h2 : b < B + 11 + 6 * i) : cOwn S B i b := Or.inl ⟨h1, h2⟩
theorem cAll.nup_self (hA : cAll S I B T X f) {i : Nat} {y : mM} (e : y = X i) : cAll S I B T (nup X i y) f := by
  have : nup X i y = X := by
    funext j
    by_cases h : j = i
    · subst h; rw [nup_at, e]
    · rw [nup_ne h]
  rw [this]; exact hA
theorem p_clear (hF : 100 ≤ F) (hA : cAll S I B T X f) (hX : ∀ j, j < 8 → mMs T (X j)) (a n : Int32) : ∃ I', z_X8_clear F S I B a n = some ((k_clear X a n).1, I') ∧ cAll S I' B T (k_clear X a n).2 f ∧ fX B I I' := by
  unfold z_X8_clear k_clear
  refine ix_cases a 8 (by omega) (fun h e => ?_) (fun i hi ea e => ?_)
  · rw [e, oy_n, ob_mk (x_mAt_n h), ob2_none]
    exact ⟨I, rfl, hA, fun _ _ _ => rfl⟩
  · have hN := hA.2.2.1 i hi
    have hM := hA.1.2.2.2.1 i hi
    rw [e, oy_s, ea, ob_mk (x_mAt hA.1 hi), ob2_mk rfl]
    by_cases h1 : n < 1
    · rw [if_pos h1, if_pos (show n < 1 ∨ 8 < n from Or.inl h1)]
      exact ⟨I, rfl, hA, fun _ _ _ => rfl⟩
    · rw [if_neg h1]
      by_cases h8 : 8 < n
      · rw [if_pos h8, if_pos (show n < 1 ∨ 8 < n from Or.inr h8)]
        exact ⟨I, rfl, hA, fun _ _ _ => rfl⟩
      · rw [if_neg h8, if_neg (show ¬ (n < 1 ∨ 8 < n) by rintro (g | g); exact h1 g; exact h8 g)]
        unfold z_X5_empty
        obtain ⟨J, g1, g2, g3⟩ := s_empty (F := F) (I := I) (by omega) hM.2.2.2.2.2.2
        have hn0 : ¬ n < 0 := fun g => h1 (Int32.lt_trans g (by decide))
        obtain ⟨j, hj, en⟩ := nI_of hn0
        rw [ob_mk hM.2.2.2.1, ob_mk g1, ob_mk rfl, hN.1.1]
        generalize hI' : z_up (z_up (z_up (z_up (z_up J (B + 5 + 6 * i) 3 0) (B + 5 + 6 * i) 4 0) (B + 5 + 6 * i) 5 n) (B + 5 + 6 * i) 6 0) (B + 5 + 6 * i) 7 0 = I'
        have hoff : ∀ b, b ≠ B + 5 + 6 * i → I' b = J b := fun b hb => by rw [← hI', z_up_off hb, z_up_off hb, z_up_off hb, z_up_off hb, z_up_off hb]
        have fm : fM S B i I I' := fun b ho h1 h2 => by
          have ho1 : ¬ (B + 5 + 6 * i ≤ b ∧ b < B + 11 + 6 * i) := fun g => ho (Or.inl g)
          rw [hoff b (by omega), g3 b (by omega)]
        refine ⟨I', rfl, hA.upd1 hX hi fm ⟨⟨?_, ?_, ?_, ?_, ?_⟩, fun p hp => absurd hp (Nat.not_lt_zero _), fun p hp => absurd hp (Nat.not_lt_zero _), g2.kept (hoff _ (by omega)) (hoff _ (by omega)) (hoff _ (by omega)), fun g => absurd g (by show ¬ false = true; decide)⟩ ?_ hA.2.2.2.2, fm.toX hA.1 hi⟩
        · rw [← hI', z_up_ne (Or.inr (by omega)), z_up_ne (Or.inr (by omega)), z_up_ne (Or.inr (by omega)), z_up_ne (Or.inr (by omega)), z_up_at]; rfl
        · rw [← hI', z_up_ne (Or.inr (by omega)), z_up_ne (Or.inr (by omega)), z_up_ne (Or.inr (by omega)), z_up_at]; rfl
        · rw [← hI', z_up_ne (Or.inr (by omega)), z_up_ne (Or.inr (by omega)), z_up_at]
          show n = nI n.toNatClampNeg
          rw [en, nc hj]
        · rw [← hI', z_up_ne (Or.inr (by omega)), z_up_at]; rfl
        · rw [← hI', z_up_at]; rfl
        · rw [hoff B (by omega), g3 B (by omega)]; exact hA.2.2.2.1
theorem p_arg33 (hF : 100 ≤ F) (hA : cAll S I B T X f) (hX : ∀ j, j < 8 → mMs T (X j)) {i : Nat} (hi : i < 8) {ty : Nat} (hty : ty < 200) :
    ∃ I', z_X8_argument_33 F S (nI ty) (B + 5 + 6 * i) I = some ((if xpc (X i) < xus (X i) + m_t ty then ((-2 : Int32), X) else (nI (xus (X i)), nup X i (k_arg1 (X i) ty))).1, I') ∧ cAll S I' B T (if xpc (X i) < xus (X i) + m_t ty then ((-2 : Int32), X) else (nI (xus (X i)), nup X i (k_arg1 (X i) ty))).2 f ∧ fX B I I' := by
  have hN := hA.2.2.1 i hi
  have hM := hA.1.2.2.2.1 i hi
  obtain ⟨m1, m2, m3, m4, m5, m6⟩ := hX i hi
  have hmt := m_t_pos ty
  have key : ∃ I', z_X5_addArgument_10 F S (B + 5 + 6 * i) (nI ty) (nI (m_t ty)) I = some ((if xpc (X i) < xus (X i) + m_t ty then ((-2 : Int32), X) else (nI (xus (X i)), nup X i (k_arg1 (X i) ty))).1, I') ∧ cAll S I' B T (if xpc (X i) < xus (X i) + m_t ty then ((-2 : Int32), X) else (nI (xus (X i)), nup X i (k_arg1 (X i) ty))).2 f ∧ fX B I I' := by
    unfold z_X5_addArgument_10
    rw [hN.1.2.2.1, hN.1.2.2.2.1, nI_add]
    by_cases hf : xpc (X i) < xus (X i) + m_t ty
    · rw [if_pos ((nI_ltI (by omega) (by omega)).mpr hf), if_pos hf]
      exact ⟨I, rfl, hA, fun _ _ _ => rfl⟩
    · rw [if_neg (fun d => hf ((nI_ltI (by omega) (by omega)).mp d)), if_neg hf]
      obtain ⟨J, g1, g2, g3⟩ := s_store (F := F) hM.2.2.2.2.2.2 hN.2.2.2.1 (x := xus (X i)) (by omega) hty (fun h2 => by have : m_t ty = 2 := by unfold m_t; rw [if_pos h2]
                                                                                                                         omega)
      rw [ob_mk hM.2.2.2.1, ob_mk g1, g3 (B + 5 + 6 * i) (by omega), hN.1.2.2.2.1, nI_add]
      generalize hI' : z_up (z_up J (B + 5 + 6 * i) 6 (nI (xus (X i) + m_t ty))) (B + 5 + 6 * i) 7 0 = I'
      have hoff : ∀ b, b ≠ B + 5 + 6 * i → I' b = J b := fun b hb => by rw [← hI', z_up_off hb, z_up_off hb]
      have hat : ∀ k, k ≠ 6 → k ≠ 7 → I' (B + 5 + 6 * i) k = I (B + 5 + 6 * i) k := fun k h6 h7 => by rw [← hI', z_up_ne (Or.inr h7), z_up_ne (Or.inr h6), g3 _ (by omega)]
      have fm : fM S B i I I' := fun b ho h1 h2 => by
        have ho1 : ¬ (B + 5 + 6 * i ≤ b ∧ b < B + 11 + 6 * i) := fun g => ho (Or.inl g)
        rw [hoff b (by omega), g3 b (by omega)]
      have h94 : ∀ b, B + 94 ≤ b → I' b = I b := fun b hb => by rw [hoff b (by omega), g3 b (by omega)]
      refine ⟨I', rfl, hA.upd1 hX hi fm ⟨⟨?_, ?_, ?_, ?_, ?_⟩, fun p hp => ?_, fun p hp => ?_, g2.kept (hoff _ (by omega)) (hoff _ (by omega)) (hoff _ (by omega)), fun g => absurd g (by show ¬ false = true; decide)⟩ ?_ hA.2.2.2.2, fm.toX hA.1 hi⟩
      · rw [hat 3 (by omega) (by omega)]; exact hN.1.1
      · rw [hat 4 (by omega) (by omega)]; exact hN.1.2.1
      · rw [hat 5 (by omega) (by omega)]; exact hN.1.2.2.1
      · rw [← hI', z_up_ne (Or.inr (by omega)), z_up_at]; rfl
      · rw [← hI', z_up_at]; rfl
      · obtain ⟨q, e, k⟩ := hN.2.1 p hp
        have hb := (hA.1.2.2.2.2.1 i p q hi (by have : p < xn (X i) := hp
                                                omega) (by rw [cRf_a (by have : p < xn (X i) := hp
                                                                         omega)]; exact e)).1
        exact ⟨q, e, by rw [h94 q hb]; exact k⟩
      · obtain ⟨q, e, k⟩ := hN.2.2.1 p hp
        have hb := (hA.1.2.2.2.2.1 i (40 + p) q hi (by have : p < xgn (X i) := hp
                                                       omega) (by rw [cRf_g]; exact e)).1
        exact ⟨q, e, by rw [h94 q hb]; exact k⟩
      · rw [hoff B (by omega), g3 B (by omega)]; exact hA.2.2.2.1
  unfold z_X8_argument_33 z_X5_addArgument
  by_cases h2 : ty = 2
  · have e2 : m_t ty = 2 := by unfold m_t; rw [if_pos h2]
    rw [if_pos (show nI ty = 2 by rw [h2]; rfl)]
    obtain ⟨I', k1, k2, k3⟩ := key
    rw [e2] at k1
    have k1' : z_X5_addArgument_10 F S (B + 5 + 6 * i) (nI ty) 2 I = _ := k1
    rw [ob_mk k1', e2]
    rw [e2] at k2
    exact ⟨I', rfl, k2, k3⟩
  · have e2 : m_t ty = 1 := by unfold m_t; rw [if_neg h2]
    rw [if_neg (fun d => h2 ((nI_eq (by omega) (by omega)).mp (d.trans nl2)))]
    obtain ⟨I', k1, k2, k3⟩ := key
    rw [e2] at k1
    have k1' : z_X5_addArgument_10 F S (B + 5 + 6 * i) (nI ty) 1 I = _ := k1
    rw [ob_mk k1', e2]
    rw [e2] at k2
    exact ⟨I', rfl, k2, k3⟩
theorem tr_known_c (hT : cT S I (B + 1) T) (t : Int32) : z_X1_isKnownObject F S I (B + 1) t = some (if ¬ t < 10 ∧ t < nI (10 + T.1) then 1 else 0) := by
  unfold z_X1_isKnownObject
  by_cases h0 : t < 10
  · rw [if_pos h0, if_neg (fun g => g.1 h0)]
  · rw [if_neg h0, hT.2.2.2.2.1, nl10, nI_add]
    by_cases h1 : t < nI (10 + T.1)
    · rw [if_pos h1, if_pos (show ¬ t < nI 10 ∧ t < nI (10 + T.1) from ⟨h0, h1⟩)]
    · rw [if_neg h1, if_neg (fun g => h1 g.2)]
theorem p_arg (hF : 100 ≤ F) (hA : cAll S I B T X f) (hX : ∀ j, j < 8 → mMs T (X j)) (a t : Int32) : ∃ I', z_X8_argument F S I B a t = some ((k_arg T X a t).1, I') ∧ cAll S I' B T (k_arg T X a t).2 f ∧ fX B I I' := by
  have h16 := hA.2.1.2.2.2.2.2.1.2.1
  unfold z_X8_argument k_arg
  refine ix_cases a 8 (by omega) (fun h e => ?_) (fun i hi ea e => ?_)
  · rw [e, oy_n, ob_mk (x_mAt_n h), ob2_none]
    exact ⟨I, rfl, hA, fun _ _ _ => rfl⟩
  · rw [e, oy_s, ea, ob_mk (x_mAt hA.1 hi), ob2_mk rfl]
    unfold m_aty
    by_cases h1 : t = 1
    · rw [if_pos h1, if_pos h1, oy_s, h1]; exact p_arg33 hF hA hX hi (ty := 1) (by omega)
    · rw [if_neg h1, if_neg h1]
      by_cases h2 : t = 2
      · rw [if_pos h2, if_pos h2, oy_s, h2]; exact p_arg33 hF hA hX hi (ty := 2) (by omega)
      · rw [if_neg h2, if_neg h2, ob_mk hA.1.2.2.1.1, ob_mk (tr_known_c hA.2.1 t)]
        by_cases hc : ¬ t < 10 ∧ t < nI (10 + T.1)
        · obtain ⟨j, hj, ej⟩ := nI_in8 (N := 10 + T.1) (by omega) (fun g => hc.1 (Int32.lt_trans g (by decide))) hc.2
          rw [if_pos hc, if_pos hc, if_neg (show ¬ (1 : Int32) = 0 by decide), oy_s, ej, nc (by omega)]
          exact p_arg33 hF hA hX hi (by omega)
        · rw [if_neg hc, if_neg hc, if_pos rfl, oy_n]
          exact ⟨I, rfl, hA, fun _ _ _ => rfl⟩
/-- a state is such as the class's cells can hold -/
theorem p_verify (hF : 100 ≤ F) (hA : cAll S I B T X f) (hX : ∀ j, j < 8 → mMs T (X j)) (hk0 : ∀ j, j < 8 → xkn (X j) = true → 0 < xn (X j)) (a : Int32) : ∃ I', z_X8_verify F S I B a = some ((k_verify T X f a).1, I') ∧ cAll S I' B T X (k_verify T X f a).2 ∧ fX B I I' := by
  unfold z_X8_verify k_verify
  refine ix_cases a 8 (by omega) (fun h e => ?_) (fun i hi ea e => ?_)
  · rw [e, oy_n, ob_mk (x_mAt_n h), ob2_none]
    exact ⟨I, rfl, hA, fun _ _ _ => rfl⟩
  · have hN := hA.2.2.1 i hi
    have hV := hN.toV hA.1 hA.2.1 hi (hX i hi)
    have hn40 := (hX i hi).1
    rw [e, oy_s, ea, ob_mk (x_mAt hA.1 hi), ob2_mk rfl, hN.1.2.2.2.2]
    cases hk : xkn (X i)
    · rw [if_pos (show b2i false = 0 from rfl), if_neg (show ¬ false = true by decide)]
      exact ⟨I, rfl, hA, fun _ _ _ => rfl⟩
    · obtain ⟨k1, k2, k3⟩ := hN.2.2.2.2 hk
      rw [if_neg (show ¬ b2i true = 0 by decide), if_pos (show true = true from rfl), ob_mk hA.1.2.2.1.2.2.2.1]
      obtain ⟨d0, d1, J, d2, d3, d4⟩ := c_vrun (F := F) hF hA.1.2.1 (hk0 i hi hk) hN.2.2.2.1 hV k2
      have d0' : (m_ver T (X i)).1 < 20 := d0
      have d1' : (m_ver T (X i)).2 < xn (X i) := d1
      have d2' : z_X4_run F S I (B + 61) (B + 5 + 6 * i) = some ((if (m_ver T (X i)).1 = 0 then -1 else nI (m_ver T (X i)).2), J) := d2
      have d3' : J (B + 61) 5 = nI (m_ver T (X i)).1 := d3
      rw [ob_mk d2']
      have fm : fM S B i I (z_up J B 4 (nI (m_ver T (X i)).1)) := fun b _ h1 h2 => by rw [z_up_off h2, d4 b (by omega)]
      have all : cAll S (z_up J B 4 (nI (m_ver T (X i)).1)) B T X (m_ver T (X i)).1 := by
        have e9 : nup X i (X i) = X := by
          funext j
          by_cases h : j = i
          · subst h; rw [nup_at]
          · rw [nup_ne h]
        have := hA.upd1 (y := X i) hX hi fm (hN.kept (hX i hi) (fun _ => rfl) (fun _ => rfl) (fun b ho => by
          have hb : (b < B + 53 ∨ B + 94 ≤ b) ∧ B + 5 ≤ b := by
            rcases ho with ho | ⟨k, q, hk, e, k1, k2⟩
            · omega
            · have := (hA.1.2.2.2.2.1 i k q hi hk e).1
              omega
          rw [z_up_off (by omega), d4 b (by omega)])) (z_up_at _ _ _ _) d0'
        rw [e9] at this
        exact this
      by_cases hz : (m_ver T (X i)).1 = 0
      · rw [if_pos hz, if_pos hz]
        dsimp only
        rw [if_pos rfl, d3']
        rw [hz] at all ⊢
        exact ⟨_, rfl, all, fM.toX hA.1 hi (by rw [hz] at fm; exact fm)⟩
      · rw [if_neg hz, if_neg hz]
        dsimp only
        rw [if_neg (nI_m1 (by omega)), d3']
        exact ⟨_, rfl, all, fM.toX hA.1 hi fm⟩
theorem cN.ofV {I' : zI} {i : Nat} {x : mM} (hV : cV S I' B i T (xpc x) (xn x) (xK x) (cQf S (B + 5 + 6 * i)) (xgn x) (xG x)) (h6 : I' (B + 5 + 6 * i) 6 = nI (xus x)) (h7 : I' (B + 5 + 6 * i) 7 = b2i (xkn x)) (hb : cSn I' (B + 5 + 6 * i + 3) (xbg x)) (hk : xkn x = true → cC I' (xn x) (cQf S (B + 5 + 6 * i)) (xC x) ∧ cFr I' (xn x) (cQf S (B + 5 + 6 * i)) (xfm x) (xfs x) ∧ I' (B + 5 + 6 * i) 8 = nI (xR x).1 ∧ I' (B + 5 + 6 * i) 9 = nI (xR x).2.1) : cN S I' B i x := by
  obtain ⟨h1, h2, h3, h4, ⟨a1, a2, a3, a4, a5⟩, h6', h7', h8, ⟨g1, g2, g3⟩⟩ := hV
  exact ⟨⟨a3, g1, h7'.1, h6, h7⟩, a5, fun j hj => by
    obtain ⟨_, g, e, _, _, k⟩ := g3 j hj
    exact ⟨g, e, k⟩, hb, hk⟩
theorem p_compute (hF : 30000 ≤ F) (hA : cAll S I B T X f) (hX : ∀ j, j < 8 → mMs T (X j)) (a : Int32) : ∃ I', z_X8_compute F S I B a = some ((k_compute T X f a).1, I') ∧ cAll S I' B T (k_compute T X f a).2.1 (k_compute T X f a).2.2 ∧ fX B I I' := by
  unfold z_X8_compute k_compute
  refine ix_cases a 8 (by omega) (fun h e => ?_) (fun i hi ea e => ?_)
  · rw [e, oy_n, ob_mk (x_mAt_n h), ob2_none]
    exact ⟨I, rfl, hA, fun _ _ _ => rfl⟩
  · have hN := hA.2.2.1 i hi
    have hV := hN.toV hA.1 hA.2.1 hi (hX i hi)
    obtain ⟨m1, m2, m3, m4, m5, m6⟩ := hX i hi
    rw [e, oy_s, ea, ob_mk (x_mAt hA.1 hi), ob2_mk rfl, hN.1.1]
    by_cases hn : xn (X i) = 0
    · rw [if_pos (show nI (xn (X i)) = 0 by rw [hn]; rfl), if_pos hn]
      exact ⟨I, rfl, hA, fun _ _ _ => rfl⟩
    · rw [if_neg (fun d => hn ((nI_eq (by omega) (by omega)).mp (d.trans nl0))), if_neg hn, ob_mk hA.1.2.2.1.2.2.1]
      have hbh := hN.2.2.2.1.2.2.1
      obtain ⟨r, hr⟩ : ∃ r, m_cp T (X i) = some r := m_run_ends hA.2.1.2.2.2.2.2.1 24641 _ (m_c0_I hbh) (by have := m_ph_max (C := m_c0 (xbg (X i))) m1 (m_c0_I hbh); show m_ph (xn (X i)) (m_c0 (xbg (X i))) < 24641; omega)
      rw [hr]
      dsimp only
      obtain ⟨J, c1, c2, c3⟩ := c_run (F := F) hF hV (by omega) hN.2.2.2.1 hN.1.2.2.2.1 (by omega) hr
      have hQ := hV.2.2.2.2.2.1.1
      have hbgk : cSn J (B + 5 + 6 * i + 3) (xbg (X i)) := by
        have hk : ∀ d, d < 3 → J (B + 5 + 6 * i + 3 + d) = I (B + 5 + 6 * i + 3 + d) := fun d hd => c1.1 _ (by omega) (by omega) (fun p hp => by have := (hQ p hp).1; omega)
        exact hN.2.2.2.1.kept (hk 0 (by omega)) (hk 1 (by omega)) (hk 2 (by omega))
      have h6 : J (B + 5 + 6 * i) 6 = nI (xus (X i)) := by rw [c1.2.1 6 (by omega) (by omega) (by omega)]; exact hN.1.2.2.2.1
      have hV' := hV.keepC c1
      have fmz : ∀ v, fM S B i I (z_up J B 4 v) := fun v b ho h1 h2 => by
        have ho1 : ¬ (B + 5 + 6 * i ≤ b ∧ b < B + 11 + 6 * i) := fun g => ho (Or.inl g)
        rw [z_up_off h2]
        refine c1.1 b (by omega) (by omega) (fun p hp => ?_)
        by_cases g : b < cQf S (B + 5 + 6 * i) p ∨ cQf S (B + 5 + 6 * i) p + 7 ≤ b
        · exact g
        · exact absurd (Or.inr ⟨p, cQf S (B + 5 + 6 * i) p, by omega, by rw [cRf_a (by omega)]; exact (hQ p hp).2.1, by omega, by unfold cSz; rw [if_pos (by omega)]; omega⟩) ho
      have upk : ∀ (y : mM) (v : Int32), mMs T y → cN S J B i y → cN S (z_up J B 4 v) B i y := fun y v hy h => h.kept hy (fun _ => rfl) (fun _ => rfl) (fun b ho => z_up_off (by
        rcases ho with ho | ⟨k, q, hk, e, k1, k2⟩
        · omega
        · have := (hA.1.2.2.2.2.1 i k q hi hk e).1
          omega))
      by_cases hz : r.1 = 0
      · obtain ⟨s1, s2, s3, s4, s5, s6, s7, s8, s9, s10, s11⟩ := c2 hz
        rw [ob_mk s1, if_pos hz]
        dsimp only
        rw [if_pos rfl, s8]
        have hcN : cN S (z_up J B 4 0) B i (k_cp1 (X i) r.2.2) := upk _ 0 ⟨m1, m2, m3, m4, m5, m6⟩ (cN.ofV (x := k_cp1 (X i) r.2.2) hV' h6 s9 hbgk (fun _ => ⟨s2, fun p hp => ⟨s10 p hp, fun g => s11 p hp g⟩, s4, s6⟩))
        have all := hA.upd1 (f' := 0) hX hi (fmz 0) hcN (z_up_at _ _ _ _) (by omega)
        have hV2 := hcN.toV hA.1 all.2.1 hi (show mMs T (k_cp1 (X i) r.2.2) from ⟨m1, m2, m3, m4, m5, m6⟩)
        have fc := c_fc (F := F) (by omega) hV2 (fm := xfm (k_cp1 (X i) r.2.2)) (fun q hq => ((hcN.2.2.2.2 rfl).2.1 q hq).1)
        rw [ob_mk fc]
        exact ⟨_, rfl, all, (fmz 0).toX hA.1 hi⟩
      · obtain ⟨s1, s2, s3, s4, s5⟩ := c3 hz
        rw [ob_mk s1, if_neg hz]
        dsimp only
        rw [if_neg (nI_m1 (by omega)), s2]
        have hcN : cN S (z_up J B 4 (nI r.1)) B i (xnew (X i)) := upk _ _ ⟨m1, m2, m3, m4, m5, m6⟩ (cN.ofV (x := xnew (X i)) hV' h6 s5 hbgk (fun g => absurd g (by show ¬ false = true; decide)))
        exact ⟨_, rfl, hA.upd1 hX hi (fmz _) hcN (z_up_at _ _ _ _) s3, (fmz _).toX hA.1 hi⟩
end KM
