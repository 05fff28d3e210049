/-! plant and cls: class side -/
def k_cls (T : mTr) (a : Int32) (fc : Bool) : Int32 × mTr := oy (m_ix a T.1) (-1, T) (fun i => if T.2.2 i = true ∨ (fc = true ∧ i ≠ 0) then (-1, T) else if T.1 < 16 then (nI T.1, (T.1 + 1, nup T.2.1 T.1 i, nup T.2.2 T.1 fc)) else (-2, T))
theorem cSn.pl {I : zI} {a : Nat} {s : mSn} {x t : Nat} (h : cSn I a s) (ht : t < 200) : cSn (z_up I (a + 1) x (nI t)) a (nup s.1 x t, s.2) := by
  refine ⟨fun y hy => ?_, ?_, h.2.2.1, fun j hj => ?_⟩
  · show z_up I (a + 1) x (nI t) (a + 1) y = nI (nup s.1 x t y) ∧ nup s.1 x t y < 200
    by_cases e : y = x
    · subst e; rw [z_up_at, nup_at]; exact ⟨rfl, ht⟩
    · rw [z_up_ne (Or.inr e), nup_ne e]; exact h.1 y hy
  · rw [z_up_off (by omega)]; exact h.2.1
  · rw [z_up_off (by omega)]; exact h.2.2.2 j hj
theorem cSn.sk {I : zI} {a : Nat} {s : mSn} {x t : Nat} (h : cSn I a s) (ht : t < 200) : cSn (z_up I (a + 2) x (nI t)) a (s.1, s.2.1, nup s.2.2 x t) := by
  refine ⟨fun y hy => ?_, ?_, h.2.2.1, fun y hy => ?_⟩
  · rw [z_up_off (by omega)]; exact h.1 y hy
  · rw [z_up_off (by omega)]; exact h.2.1
  · show z_up I (a + 2) x (nI t) (a + 2) y = nI (nup s.2.2 x t y) ∧ nup s.2.2 x t y < 200
    by_cases e : y = x
    · subst e; rw [z_up_at, nup_at]; exact ⟨rfl, ht⟩
    · rw [z_up_ne (Or.inr e), nup_ne e]; exact h.2.2.2 y hy
section KP
variable {F : Nat} {S : zS} {I : zI} {B : Nat} {T : mTr} {X : Nat → mM} {f : Nat}
theorem p_upfr (hA : cAll S I B T X f) (hX : ∀ j, j < 8 → mMs T (X j)) {i p : Nat} (hi : i < 8) (hp : p < xn (X i)) (hk : xkn (X i) = true) {I' : zI} {s' : mSn} (hI' : ∀ b, (b < cQf S (B + 5 + 6 * i) p + 4 ∨ cQf S (B + 5 + 6 * i) p + 7 ≤ b) → I' b = I b) (hs : cSn I' (cQf S (B + 5 + 6 * i) p + 4) s') : cAll S I' B T (nup X i (k_pl1 (X i) p s')) f ∧ fX B I I' := by
  have hN := hA.2.2.1 i hi
  have hV := hN.toV hA.1 hA.2.1 hi (hX i hi)
  have hQ := hV.2.2.2.2.2.1
  have hG := hV.2.2.2.2.2.2.2.2
  obtain ⟨q1, q2, q3, q4, q5, q6⟩ := hQ.1 p hp
  obtain ⟨m1, m2, m3, m4, m5, m6⟩ := hX i hi
  have fm : fM S B i I I' := fun b ho h1 h2 => by
    refine hI' b ?_
    by_cases g : b < cQf S (B + 5 + 6 * i) p + 4 ∨ cQf S (B + 5 + 6 * i) p + 7 ≤ b
    · exact g
    · exact absurd (Or.inr ⟨p, cQf S (B + 5 + 6 * i) p, by omega, by rw [cRf_a (by omega)]; exact q2, by omega, by unfold cSz; rw [if_pos (by omega)]; omega⟩) ho
  refine ⟨hA.upd1 hX hi fm ⟨?_, fun p' hp' => ?_, fun j hj => ?_, ?_, fun _ => ?_⟩ (by rw [hI' B (by omega)]; exact hA.2.2.2.1) hA.2.2.2.2, fun b h1 h2 => hI' b (by omega)⟩
  · rw [hI' (B + 5 + 6 * i) (by omega)]; exact hN.1
  · obtain ⟨r, r1, r2⟩ := hN.2.1 p' hp'
    have er := cQf_at r1
    have hd : p' ≠ p → _ := fun hne => hQ.2 p' p hp' hp hne
    refine ⟨r, r1, ?_⟩
    rw [hI' r (by
      by_cases e : p' = p
      · subst e; omega
      · have := hd e
        omega)]
    exact r2
  · obtain ⟨_, g, g1, g2, g3, g4⟩ := hG.2.2 j hj
    have := g3 p hp
    exact ⟨g, g1, by rw [hI' g (by omega)]; exact g4⟩
  · exact hN.2.2.2.1.kept (hI' _ (by omega)) (hI' _ (by omega)) (hI' _ (by omega))
  · obtain ⟨k1, k2, k3, k4⟩ := hN.2.2.2.2 hk
    have hM : I' (B + 5 + 6 * i) = I (B + 5 + 6 * i) := hI' _ (by omega)
    have hlow : ∀ p', p' < xn (X i) → ∀ d, d < 4 → I' (cQf S (B + 5 + 6 * i) p' + d) = I (cQf S (B + 5 + 6 * i) p' + d) := fun p' hp' d hd => hI' _ (by
      by_cases e : p' = p
      · subst e; omega
      · have := hQ.2 p' p hp' hp e
        omega)
    refine ⟨fun p' hp' => ?_, fun p' hp' => ?_, by rw [hM]; exact k3, by rw [hM]; exact k4⟩
    · have e0 := hlow p' hp' 0 (by omega)
      rw [Nat.add_zero] at e0
      rw [e0]
      exact ⟨(k1 p' hp').1, (k1 p' hp').2.1, fun hr => ((k1 p' hp').2.2 hr).kept (hlow p' hp' 1 (by omega)) (hlow p' hp' 2 (by omega)) (hlow p' hp' 3 (by omega))⟩
    · have e0 := hlow p' hp' 0 (by omega)
      rw [Nat.add_zero] at e0
      rw [e0]
      refine ⟨(k2 p' hp').1, fun hr => ?_⟩
      show cSn I' (cQf S (B + 5 + 6 * i) p' + 4) (nup (xfs (X i)) p s' p')
      by_cases e : p' = p
      · subst e; rw [nup_at]; exact hs
      · rw [nup_ne e]
        have := hQ.2 p' p hp' hp e
        exact ((k2 p' hp').2 hr).kept (hI' _ (by omega)) (hI' _ (by omega)) (hI' _ (by omega))
theorem p_plant69 (hF : 100 ≤ F) (hA : cAll S I B T X f) (hX : ∀ j, j < 8 → mMs T (X j)) {i : Nat} (hi : i < 8) (k y : Int32) {t : Nat} (ht : t < 200) (hy : (¬ y < 0 ∧ y < 8) ∨ (¬ y < 100 ∧ y < 110)) :
    ∃ I', z_X8_plant_69 F S k y (nI t) (B + 5 + 6 * i) I = some ((if xkn (X i) = true then oy (m_fa (xfm (X i)) (xn (X i)) k) ((-1 : Int32), X) (fun p => match k_pl (X i) p y t with
      | none => (-1, X)
      | some r => (nI r.1, nup X i r.2)) else (-3, X)).1, I') ∧ cAll S I' B T (if xkn (X i) = true then oy (m_fa (xfm (X i)) (xn (X i)) k) ((-1 : Int32), X) (fun p => match k_pl (X i) p y t with
      | none => (-1, X)
      | some r => (nI r.1, nup X i r.2)) else (-3, X)).2 f ∧ fX B I I' := by
  have hN := hA.2.2.1 i hi
  have hV := hN.toV hA.1 hA.2.1 hi (hX i hi)
  obtain ⟨m1, m2, m3, m4, m5, m6⟩ := hX i hi
  unfold z_X8_plant_69
  rw [hN.1.2.2.2.2]
  cases hk : xkn (X i)
  · rw [if_pos (show b2i false = 0 from rfl), if_neg (show ¬ false = true by decide)]
    exact ⟨I, rfl, hA, fun _ _ _ => rfl⟩
  · obtain ⟨k1, k2, k3⟩ := hN.2.2.2.2 hk
    obtain ⟨g1, g2⟩ := fa_c (F := F) hF hV k2 k
    rw [if_neg (show ¬ b2i true = 0 by decide), if_pos (show true = true from rfl), ob_mk g1, ob_mk g2]
    cases hfa : m_fa (xfm (X i)) (xn (X i)) k with
    | none =>
      rw [oy_n, oy_n, ob2_none]
      exact ⟨I, rfl, hA, fun _ _ _ => rfl⟩
    | some p =>
      obtain ⟨hp, hfm⟩ := m_fa_some hfa
      obtain ⟨q1, q2, q3, q4, q5, q6⟩ := hV.2.2.2.2.2.1.1 p hp
      have hs := (k2 p hp).2 hfm
      rw [oy_s, oy_s, ob2_mk rfl, ob_mk (x_isPlace y), b01]
      unfold k_pl
      by_cases hpl : ¬ y < 0 ∧ y < 8
      · obtain ⟨j, hj, ej⟩ := nI_in8 (N := 8) (by omega) hpl.1 hpl.2
        have ec : y.toNatClampNeg = j := by rw [ej, nc (by omega)]
        rw [if_pos hpl, if_pos hpl, ob_mk q4, ec, ej]
        unfold z_X8_plantPlace
        have hb := hs.1 j hj
        rw [ob_mk (s_inPlace q6 hj), hN.1.2.2.1, hb.1]
        by_cases c1 : j < xpc (X i)
        · rw [if_pos ((nI_ltI (by omega) (by omega)).mpr c1)]
          by_cases c2 : (xfs (X i) p).1 j = 2
          · rw [if_pos (show nI ((xfs (X i) p).1 j) = 2 by rw [c2]; rfl), if_pos (show ¬ j < xpc (X i) ∨ (xfs (X i) p).1 j = 2 ∨ (xfs (X i) p).1 j = 3 from Or.inr (Or.inl c2))]
            exact ⟨I, rfl, hA, fun _ _ _ => rfl⟩
          · rw [if_neg (fun d => c2 ((nI_eq (by omega) (by omega)).mp (d.trans nl2)))]
            by_cases c3 : (xfs (X i) p).1 j = 3
            · rw [if_pos (show nI ((xfs (X i) p).1 j) = 3 by rw [c3]; rfl), if_pos (show ¬ j < xpc (X i) ∨ (xfs (X i) p).1 j = 2 ∨ (xfs (X i) p).1 j = 3 from Or.inr (Or.inr c3))]
              exact ⟨I, rfl, hA, fun _ _ _ => rfl⟩
            · rw [if_neg (fun d => c3 ((nI_eq (by omega) (by omega)).mp (d.trans nl3))), if_neg (show ¬ (¬ j < xpc (X i) ∨ (xfs (X i) p).1 j = 2 ∨ (xfs (X i) p).1 j = 3) by omega), ob_mk (s_setPlace q6 hj (nI t))]
              obtain ⟨u1, u2⟩ := p_upfr hA hX hi hp hk (I' := z_up I (cQf S (B + 5 + 6 * i) p + 4 + 1) j (nI t)) (fun b hb => z_up_off (by omega)) (hs.pl ht)
              exact ⟨_, rfl, u1, u2⟩
        · rw [if_neg (fun d => c1 ((nI_ltI (by omega) (by omega)).mp d)), if_pos (show ¬ j < xpc (X i) ∨ (xfs (X i) p).1 j = 2 ∨ (xfs (X i) p).1 j = 3 from Or.inl c1)]
          exact ⟨I, rfl, hA, fun _ _ _ => rfl⟩
      · rcases hy with hy | hy
        · exact absurd hy hpl
        · obtain ⟨j, hj, ej⟩ := nI_in8 (N := 110) (by omega) (fun g => hy.1 (Int32.lt_trans g (by decide))) hy.2
          have ec : y.toNatClampNeg = j := by rw [ej, nc (by omega)]
          have h100 : 100 ≤ j := by
            by_cases g : j < 100
            · exact absurd (show y < nI 100 by rw [ej]; exact (nI_ltI (by omega) (by omega)).mpr g) hy.1
            · omega
          rw [if_neg hpl, if_neg hpl, ob_mk q4, ec, ej, nl100, pk_sub h100]
          generalize hd : j - 100 = d
          have hh10 := hs.2.2.1
          unfold z_X8_plantStack
          by_cases c1 : d < (xfs (X i) p).2.1
          · have hb := hs.2.2.2 d c1
            rw [ob_mk (s_onStack q6 hs c1), if_neg (nI_m1 (by omega))]
            by_cases c2 : (xfs (X i) p).2.2 d = 2
            · rw [if_pos (show nI ((xfs (X i) p).2.2 d) = 2 by rw [c2]; rfl), if_pos (show ¬ d < (xfs (X i) p).2.1 ∨ (xfs (X i) p).2.2 d = 2 ∨ t = 0 from Or.inr (Or.inl c2))]
              exact ⟨I, rfl, hA, fun _ _ _ => rfl⟩
            · rw [if_neg (fun d => c2 ((nI_eq (by omega) (by omega)).mp (d.trans nl2)))]
              by_cases c3 : t = 0
              · rw [if_pos (show nI t = 0 by rw [c3]; rfl), if_pos (show ¬ d < (xfs (X i) p).2.1 ∨ (xfs (X i) p).2.2 d = 2 ∨ t = 0 from Or.inr (Or.inr c3))]
                exact ⟨I, rfl, hA, fun _ _ _ => rfl⟩
              · rw [if_neg (fun d => c3 ((nI_eq (by omega) (by omega)).mp (d.trans nl0))), if_neg (show ¬ (¬ d < (xfs (X i) p).2.1 ∨ (xfs (X i) p).2.2 d = 2 ∨ t = 0) by omega), ob_mk (s_setStack q6 hs.2.1 hh10 c1 (nI t))]
                obtain ⟨u1, u2⟩ := p_upfr hA hX hi hp hk (I' := z_up I (cQf S (B + 5 + 6 * i) p + 4 + 2) d (nI t)) (fun b hb => z_up_off (by omega)) (hs.sk ht)
                exact ⟨_, rfl, u1, u2⟩
          · rw [ob_mk (s_onStack_off hs (by omega) (by omega)), if_pos rfl, if_pos (show ¬ d < (xfs (X i) p).2.1 ∨ (xfs (X i) p).2.2 d = 2 ∨ t = 0 from Or.inl c1)]
            exact ⟨I, rfl, hA, fun _ _ _ => rfl⟩
theorem p_plant (hF : 100 ≤ F) (hA : cAll S I B T X f) (hX : ∀ j, j < 8 → mMs T (X j)) (a k y t : Int32) : ∃ I', z_X8_plant F S I B a k y t = some ((k_plant T X a k y t).1, I') ∧ cAll S I' B T (k_plant T X a k y t).2 f ∧ fX B I I' := by
  have h16 := hA.2.1.2.2.2.2.2.1.2.1
  have key : ∀ i, i < 8 → ∀ (ty : Nat), ty < 200 → ∃ I', z_X8_plant_41 F S k y (nI ty) (some (B + 5 + 6 * i)) 1 I = some ((if (¬ y < 0 ∧ y < 8) ∨ (¬ y < 100 ∧ y < 110) then (if xkn (X i) = true then oy (m_fa (xfm (X i)) (xn (X i)) k) ((-1 : Int32), X) (fun p => match k_pl (X i) p y ty with
      | none => (-1, X)
      | some r => (nI r.1, nup X i r.2)) else (-3, X)) else (-1, X)).1, I') ∧ cAll S I' B T (if (¬ y < 0 ∧ y < 8) ∨ (¬ y < 100 ∧ y < 110) then (if xkn (X i) = true then oy (m_fa (xfm (X i)) (xn (X i)) k) ((-1 : Int32), X) (fun p => match k_pl (X i) p y ty with
      | none => (-1, X)
      | some r => (nI r.1, nup X i r.2)) else (-3, X)) else (-1, X)).2 f ∧ fX B I I' := fun i hi ty hty => by
    unfold z_X8_plant_41
    rw [ob2_mk rfl, if_neg (show ¬ (1 : Int32) = 0 by decide), ob_mk (x_isPlace y), b01, ob_mk (x_isStack y), b01]
    by_cases hpl : ¬ y < 0 ∧ y < 8
    · rw [if_pos hpl, if_pos (show (¬ y < 0 ∧ y < 8) ∨ (¬ y < 100 ∧ y < 110) from Or.inl hpl)]
      exact p_plant69 hF hA hX hi k y hty (Or.inl hpl)
    · rw [if_neg hpl]
      by_cases hst : ¬ y < 100 ∧ y < 110
      · rw [if_pos hst, if_pos (show (¬ y < 0 ∧ y < 8) ∨ (¬ y < 100 ∧ y < 110) from Or.inr hst)]
        exact p_plant69 hF hA hX hi k y hty (Or.inr hst)
      · rw [if_neg hst, if_neg (show ¬ ((¬ y < 0 ∧ y < 8) ∨ (¬ y < 100 ∧ y < 110)) by rintro (g | g); exact hpl g; exact hst g)]
        exact ⟨I, rfl, hA, fun _ _ _ => rfl⟩
  unfold z_X8_plant k_plant
  refine ix_cases a 8 (by omega) (fun h e => ?_) (fun i hi ea e => ?_)
  · rw [e, oy_n, ob_mk (x_mAt_n h), ob2_none, ob_mk hA.1.2.2.1.1, ob_mk (tr_known_c hA.2.1 t)]
    have hz : ∀ z, z_X8_plant_41 F S k y t none z I = some (-1, I) := fun z => by unfold z_X8_plant_41; rw [ob2_none]
    rw [hz, hz]
    refine ⟨I, ?_, hA, fun _ _ _ => rfl⟩
    split
    · rfl
    · split
      · rfl
      · split
        · rfl
        · split <;> rfl
  · rw [e, oy_s, ea, ob_mk (x_mAt hA.1 hi), ob2_mk rfl]
    unfold m_pty
    by_cases h0 : t = 0
    · rw [if_pos h0, if_pos h0, oy_s, h0]; exact key i hi 0 (by omega)
    · rw [if_neg h0, if_neg h0]
      by_cases h1 : t = 1
      · rw [if_pos h1, if_pos h1, oy_s, h1]; exact key i hi 1 (by omega)
      · rw [if_neg h1, if_neg h1]
        by_cases h4 : t = 4
        · rw [if_pos h4, if_pos h4, oy_s, h4]; exact key i hi 4 (by omega)
        · rw [if_neg h4, if_neg h4, ob_mk hA.1.2.2.1.1, ob_mk (tr_known_c hA.2.1 t), b01]
          by_cases hc : ¬ t < 10 ∧ t < nI (10 + T.1)
          · obtain ⟨j, hj, ej⟩ := nI_in8 (N := 10 + T.1) (by omega) (fun g => hc.1 (Int32.lt_trans g (by decide))) hc.2
            rw [if_pos hc, if_pos hc, oy_s, ej, nc (by omega)]
            exact key i hi j (by omega)
          · rw [if_neg hc, if_neg hc, oy_n]
            unfold z_X8_plant_41
            rw [ob2_mk rfl, if_pos rfl]
            exact ⟨I, rfl, hA, fun _ _ _ => rfl⟩
theorem p_cls (hA : cAll S I B T X f) (hX : ∀ j, j < 8 → mMs T (X j)) (a : Int32) (fc : Bool) : ∃ I', z_X8_cls F S I B a (b2i fc) = some ((k_cls T a fc).1, I') ∧ cAll S I' B (k_cls T a fc).2 X f ∧ fX B I I' := by
  have hT := hA.2.1
  have h94 := hA.1.2.2.2.2.2.2
  obtain ⟨t1, t2, t3, t4, t5, ⟨o1, o2, o3, o4⟩, t7, t8⟩ := hT
  have hT := hA.2.1
  have triv : ∃ I', some ((-1 : Int32), I) = some ((-1 : Int32), I') ∧ cAll S I' B T X f ∧ fX B I I' := ⟨I, rfl, hA, fun _ _ _ => rfl⟩
  unfold z_X8_cls k_cls
  rw [ob_mk hA.1.2.2.1.1, ob_mk (t_has_c hT a)]
  refine ix_cases a T.1 (by omega) (fun h e => ?_) (fun i hi ea e => ?_)
  · rw [e, oy_n, oy_n, if_pos rfl]
    exact triv
  · have hfa : z_X1_isFace F S I (B + 1) (nI i) = some (b2i (T.2.2 i)) := by
      unfold z_X1_isFace
      rw [ob_mk (t_has hT hi), if_neg (show ¬ (1 : Int32) = 0 by decide), ob_mk t2, t4, if_neg (ni_in (by omega) (by omega)), nc (by omega), t8 i hi]
      cases T.2.2 i
      · rw [if_pos (show b2i false = 0 from rfl)]; rfl
      · rw [if_neg (show ¬ b2i true = 0 by decide)]; rfl
    rw [e, oy_s, oy_s, if_neg (show ¬ (1 : Int32) = 0 by decide), ea, ob_mk hfa]
    have add : ∃ I', z_X8_cls_32 F S B (nI i) (b2i fc) I = some ((if T.1 < 16 then (nI T.1, (T.1 + 1, nup T.2.1 T.1 i, nup T.2.2 T.1 fc)) else ((-2 : Int32), T)).1, I') ∧ cAll S I' B (if T.1 < 16 then (nI T.1, (T.1 + 1, nup T.2.1 T.1 i, nup T.2.2 T.1 fc)) else ((-2 : Int32), T)).2 X f ∧ fX B I I' := by
      unfold z_X8_cls_32 z_X1_add
      rw [ob_mk hA.1.2.2.1.1, ob_mk (t_has hT hi), if_neg (show ¬ (1 : Int32) = 0 by decide), t5, nl16]
      by_cases hc : T.1 < 16
      · obtain ⟨ln, l1, l2, l3⟩ := t7 i hi
        rw [if_pos ((nI_ltI (by omega) (by omega)).mpr hc), if_pos hc, ob_mk t1, t3, if_neg (ni_in (by omega) (by omega)), if_neg (ni_in hc (by omega)), ob_mk t2, t4, nc (by omega), nc (by omega), l1, nx_sh T.1 hc, nx_or]
        generalize hJ1 : z_up I (B + 1 + 1) T.1 (nI (ln ||| 2 ^ T.1)) = J1
        have j1 : J1 (B + 1) 2 = nI T.1 := by rw [← hJ1, z_up_off (by omega)]; exact t5
        rw [j1, if_neg (ni_in hc (by omega)), if_pos (show b2i fc = 0 ∨ b2i fc = 1 by cases fc; exact Or.inl rfl; exact Or.inr rfl), nc (by omega)]
        generalize hJ2 : z_up J1 (B + 1 + 2) T.1 (b2i fc) = J2
        have j2 : J2 (B + 1) 2 = nI T.1 := by rw [← hJ2, z_up_off (by omega)]; exact j1
        rw [j2, nI_1]
        generalize hI' : z_up J2 (B + 1) 2 (nI (T.1 + 1)) = I'
        have h2 : I' (B + 1) 2 = nI (T.1 + 1) := by rw [← hI', z_up_at]
        have hoff : ∀ b, b ≠ B + 1 → b ≠ B + 2 → b ≠ B + 3 → I' b = I b := fun b b1 b2 b3 => by rw [← hI', z_up_off (by omega), ← hJ2, z_up_off (by omega), ← hJ1, z_up_off (by omega)]
        have hln : ∀ c, I' (B + 1 + 1) c = if c = T.1 then nI (ln ||| 2 ^ T.1) else I (B + 1 + 1) c := fun c => by
          rw [← hI', z_up_off (by omega), ← hJ2, z_up_off (by omega), ← hJ1]
          by_cases g : c = T.1
          · rw [if_pos g, g, z_up_at]
          · rw [if_neg g, z_up_ne (Or.inr g)]
        have hfc : ∀ c, I' (B + 1 + 2) c = if c = T.1 then b2i fc else I (B + 1 + 2) c := fun c => by
          rw [← hI', z_up_off (by omega), ← hJ2]
          by_cases g : c = T.1
          · rw [if_pos g, g, z_up_at]
          · rw [if_neg g, z_up_ne (Or.inr g), ← hJ1, z_up_off (by omega)]
        have hpar : ∀ c, 1 ≤ c → c < T.1 + 1 → nup T.2.1 T.1 i c < c := fun c c1 c2 => by
          by_cases g : c = T.1
          · subst g; rw [nup_at]; exact hi
          · rw [nup_ne g]; exact o3 c c1 (by omega)
        have hold : ∀ c, c < T.1 → ∀ b, m_anc (nup T.2.1 T.1 i) c b = m_anc T.2.1 c b := fun c hc b => m_anc_congr c b (fun d d1 d2 => o3 d d1 (by omega)) (fun d hd => nup_ne (by omega))
        rw [h2, nI_pred]
        refine ⟨I', rfl, ⟨hA.1, ⟨t1, t2, t3, t4, h2, ⟨by show 1 ≤ T.1 + 1; omega, by show T.1 + 1 ≤ 16; omega, fun c c1 c2 => hpar c c1 c2, ?_⟩, fun c hc' => ?_, fun c hc' => ?_⟩, fun j hj => ?_, ?_, hA.2.2.2.2⟩, fun b h1 h2 => hoff b (by omega) (by omega) (by omega)⟩
        · show nup T.2.2 T.1 fc 0 = false
          rw [nup_ne (by omega)]; exact o4
        · have hc2 : c < T.1 + 1 := hc'
          show ∃ ln, I' (B + 1 + 1) c = nI ln ∧ ln < 65536 ∧ ∀ b, b < 16 → ln.testBit b = m_anc (nup T.2.1 T.1 i) c b
          rw [hln]
          by_cases g : c = T.1
          · subst g
            refine ⟨ln ||| 2 ^ T.1, by rw [if_pos rfl], Nat.or_lt_two_pow (n := 16) l2 (nx_p _ hc), fun b hb => ?_⟩
            rw [Nat.testBit_or, l3 b hb]
            by_cases gb : T.1 = b
            · subst gb; rw [Nat.testBit_two_pow_self, m_anc_self, Bool.or_true]
            · rw [Nat.testBit_two_pow_of_ne gb, Bool.or_false, m_anc_up o1 (fun d d1 d2 => hpar d d1 (by omega)) gb, nup_at, hold i hi]
          · obtain ⟨l, e1, e2, e3⟩ := t7 c (by omega)
            exact ⟨l, by rw [if_neg g]; exact e1, e2, fun b hb => by rw [hold c (by omega)]; exact e3 b hb⟩
        · have hc2 : c < T.1 + 1 := hc'
          show I' (B + 1 + 2) c = b2i (nup T.2.2 T.1 fc c)
          rw [hfc]
          by_cases g : c = T.1
          · subst g; rw [if_pos rfl, nup_at]
          · rw [if_neg g, nup_ne g]; exact t8 c (by omega)
        · refine (hA.2.2.1 j hj).kept (hX j hj) (fun _ => rfl) (fun _ => rfl) (fun b ho => ?_)
          have : B + 5 ≤ b := by
            rcases ho with ho | ⟨k, q, hk, e, k1, k2⟩
            · omega
            · have := (hA.1.2.2.2.2.1 j k q hj hk e).1
              omega
          exact hoff b (by omega) (by omega) (by omega)
        · rw [hoff B (by omega) (by omega) (by omega)]; exact hA.2.2.2.1
      · rw [if_neg (fun d => hc ((nI_ltI (by omega) (by omega)).mp d)), if_neg hc]
        exact ⟨I, rfl, hA, fun _ _ _ => rfl⟩
    cases hf : T.2.2 i
    · rw [if_pos (show b2i false = 0 from rfl)]
      cases hfc : fc
      · rw [if_pos (show b2i false = 0 from rfl), if_neg (show ¬ (false = true ∨ (false = true ∧ i ≠ 0)) by rintro (g | g); cases g; cases g.1)]
        rw [hfc] at add
        exact add
      · rw [if_neg (show ¬ b2i true = 0 by decide)]
        by_cases hi0 : i = 0
        · rw [if_pos (show nI i = 0 by rw [hi0]; rfl), if_neg (show ¬ (false = true ∨ (true = true ∧ i ≠ 0)) by rintro (g | g); cases g; exact g.2 hi0)]
          rw [hfc] at add
          exact add
        · rw [if_neg (fun d => hi0 ((nI_eq (by omega) (by omega)).mp (d.trans nl0))), if_pos (show false = true ∨ (true = true ∧ i ≠ 0) from Or.inr ⟨rfl, hi0⟩)]
          exact triv
    · rw [if_neg (show ¬ b2i true = 0 by decide), if_pos (show true = true ∨ _ from Or.inl rfl)]
      exact triv
theorem p_fault (hA : cAll S I B T X f) : z_X8_fault F S I B = some (nI f) := by
  unfold z_X8_fault
  rw [hA.2.2.2.1]
end KP
