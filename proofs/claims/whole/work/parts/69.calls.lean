/-! the calls: what the model answers; class side of those that make no object -/
def oy {β : Type} (o : Option Nat) (d : β) (k : Nat → β) : β := match o with | none => d | some x => k x
theorem oy_n {β : Type} {d : β} {k : Nat → β} : oy none d k = d := rfl
theorem oy_s {β : Type} {d : β} {k : Nat → β} {x : Nat} : oy (some x) d k = k x := rfl
def m_ix (a : Int32) (n : Nat) : Option Nat := if ¬ a < 0 ∧ a < nI n then some a.toNatClampNeg else none
theorem m_ix_s {j n : Nat} (hj : j < n) (hn : n < 2 ^ 31) : m_ix (nI j) n = some j := by
  unfold m_ix
  rw [if_pos ⟨nn (by omega), (nI_ltI (by omega) hn).mpr hj⟩, nc (by omega)]
theorem m_ix_n {a : Int32} {n : Nat} (h : a < 0 ∨ nI n ≤ a) : m_ix a n = none := by
  unfold m_ix
  rw [if_neg]
  rintro ⟨h1, h2⟩
  rcases h with h | h
  · exact h1 h
  · exact Int32.lt_irrefl (Int32.lt_of_lt_of_le h2 h)
theorem ix_cases {P : Prop} (a : Int32) (n : Nat) (hn : n < 2 ^ 31) (h1 : (a < 0 ∨ nI n ≤ a) → m_ix a n = none → P) (h2 : ∀ j, j < n → a = nI j → m_ix a n = some j → P) : P := by
  rcases pk_ix a hn with h | h | ⟨j, hj, e⟩
  · exact h1 (Or.inl h) (m_ix_n (Or.inl h))
  · exact h1 (Or.inr h) (m_ix_n (Or.inr h))
  · exact h2 j hj e (by rw [e]; exact m_ix_s hj hn)
def k_joined (T : mTr) (a b : Int32) : Int32 := oy (m_ix a T.1) (-1) (fun i => oy (m_ix b T.1) (-1) (fun j => nI (m_near T i j)))
def k_is (T : mTr) (a b : Int32) : Int32 := oy (m_ix a T.1) (-1) (fun i => oy (m_ix b T.1) (-1) (fun j => b2i (m_is T i j)))
def k_clr (x : mM) (n : Nat) : mM := ((n, 0, (fun _ => 0, 0, fun _ => 0)), (0, xK x), (0, xG x), false, x.2.2.2.2)
def k_clear (X : Nat → mM) (a n : Int32) : Int32 × (Nat → mM) := oy (m_ix a 8) (-1, X) (fun i => if n < 1 ∨ 8 < n then (-1, X) else (nI (xn (X i)), nup X i (k_clr (X i) n.toNatClampNeg)))
def m_aty (T : mTr) (t : Int32) : Option Nat := if t = 1 then some 1 else if t = 2 then some 2 else if ¬ t < 10 ∧ t < nI (10 + T.1) then some t.toNatClampNeg else none
def k_arg1 (x : mM) (ty : Nat) : mM := ((xpc x, xus x + m_t ty, (m_sto (xbg x).1 (xus x) ty, (xbg x).2)), x.2.1, x.2.2.1, false, x.2.2.2.2)
def k_arg (T : mTr) (X : Nat → mM) (a t : Int32) : Int32 × (Nat → mM) := oy (m_ix a 8) (-1, X) (fun i => oy (m_aty T t) (-1, X) (fun ty => if xpc (X i) < xus (X i) + m_t ty then (-2, X) else (nI (xus (X i)), nup X i (k_arg1 (X i) ty))))
def m_cp (T : mTr) (x : mM) : Option (Nat × Nat × mR) := m_run T (xpc x) (xn x) (xK x) (xgn x) (xG x) 24641 (0, xus x, m_c0 (xbg x))
def k_cp1 (x : mM) (r : mR) : mM := (x.1, x.2.1, x.2.2.1, true, r, (m_fm (xK x) (xgn x) (xG x) r.2.2.1 (xn x), r.2.2.2.2))
def k_compute (T : mTr) (X : Nat → mM) (f : Nat) (a : Int32) : Int32 × (Nat → mM) × Nat := oy (m_ix a 8) (-1, X, f) (fun i => if xn (X i) = 0 then (-1, X, f) else match m_cp T (X i) with
  | none => (-1, X, f)
  | some r => if r.1 = 0 then (nI (m_ct (xfm (k_cp1 (X i) r.2.2)) (xn (X i))), nup X i (k_cp1 (X i) r.2.2), 0) else (-10 - nI r.2.1, nup X i (xnew (X i)), r.1))
def m_asked (x : Int32) : Prop := (¬ x < 0 ∧ x < 8) ∨ x = 99 ∨ (¬ x < 100 ∧ x < 110)
def k_state (X : Nat → mM) (a p x : Int32) : Int32 := oy (m_ix a 8) (-1) (fun i => oy (m_ix p (xn (X i))) (-1) (fun p => if ((¬ x < 0 ∧ x < 8) ∨ (¬ x < 100 ∧ x < 110)) ∨ x = 99 then (if xkn (X i) = true then (if (xC (X i)).1 p = true then m_ans ((xC (X i)).2.2 p) x else -4) else -3) else -1))
def k_frame (X : Nat → mM) (a k x : Int32) : Int32 := oy (m_ix a 8) (-1) (fun i => if xkn (X i) = true then oy (m_fa (xfm (X i)) (xn (X i)) k) (-1) (fun p => if x = 98 then nI p else m_ans (xfs (X i) p) x) else -3)
def k_form (X : Nat → mM) (a k : Int32) : Int32 := oy (m_ix a 8) (-1) (fun i => if xkn (X i) = true then oy (m_fa (xfm (X i)) (xn (X i)) k) (-1) (fun p => nI (m_form (xfs (X i) p).1 (xfs (X i) p).2.1 (oy (m_fa (xfm (X i)) (xn (X i)) (k - 1)) (xbg (X i)).1 (fun p' => (xfs (X i) p').1)))) else -3)
def k_shared (X : Nat → mM) (a p : Int32) : Int32 := oy (m_ix a 8) (-1) (fun i => oy (m_ix p (xn (X i))) (-1) (fun p => if xkn (X i) = true then nI (m_ct (fun q => m_lead (xK (X i)) (xgn (X i)) (xG (X i)) (xC (X i)).1 q p) (xn (X i))) else -3))
def k_max (X : Nat → mM) (a w : Int32) : Int32 := oy (m_ix a 8) (-1) (fun i => if w < 0 ∨ 1 < w then -1 else if xkn (X i) = true then (if w = 0 then nI (xR (X i)).1 else nI (xR (X i)).2.1) else -3)
def m_pty (T : mTr) (t : Int32) : Option Nat := if t = 0 then some 0 else if t = 1 then some 1 else if t = 4 then some 4 else if ¬ t < 10 ∧ t < nI (10 + T.1) then some t.toNatClampNeg else none
def k_pl1 (x : mM) (p : Nat) (s : mSn) : mM := (x.1, x.2.1, x.2.2.1, x.2.2.2.1, x.2.2.2.2.1, (xfm x, nup (xfs x) p s))
def k_pl (x : mM) (p : Nat) (y : Int32) (t : Nat) : Option (Nat × mM) :=
  if ¬ y < 0 ∧ y < 8 then (if ¬ y.toNatClampNeg < xpc x ∨ (xfs x p).1 y.toNatClampNeg = 2 ∨ (xfs x p).1 y.toNatClampNeg = 3 then none else some ((xfs x p).1 y.toNatClampNeg, k_pl1 x p (nup (xfs x p).1 y.toNatClampNeg t, (xfs x p).2)))
  else (if ¬ y.toNatClampNeg - 100 < (xfs x p).2.1 ∨ (xfs x p).2.2 (y.toNatClampNeg - 100) = 2 ∨ t = 0 then none else some ((xfs x p).2.2 (y.toNatClampNeg - 100), k_pl1 x p ((xfs x p).1, (xfs x p).2.1, nup (xfs x p).2.2 (y.toNatClampNeg - 100) t)))
def k_plant (T : mTr) (X : Nat → mM) (a k y t : Int32) : Int32 × (Nat → mM) := oy (m_ix a 8) (-1, X) (fun i => oy (m_pty T t) (-1, X) (fun t => if (¬ y < 0 ∧ y < 8) ∨ (¬ y < 100 ∧ y < 110) then (if xkn (X i) = true then oy (m_fa (xfm (X i)) (xn (X i)) k) (-1, X) (fun p => match k_pl (X i) p y t with
  | none => (-1, X)
  | some r => (nI r.1, nup X i r.2)) else (-3, X)) else (-1, X)))
def m_ver (T : mTr) (x : mM) : Nat × Nat := m_vf T (xpc x) (xn x) (xK x) (xgn x) (xG x) (xfm x) (xfs x) (xn x) 0 true (xbg x)
def k_verify (T : mTr) (X : Nat → mM) (f : Nat) (a : Int32) : Int32 × Nat := oy (m_ix a 8) (-1, f) (fun i => if xkn (X i) = true then (if (m_ver T (X i)).1 = 0 then (0, 0) else (-10 - nI (m_ver T (X i)).2, (m_ver T (X i)).1)) else (-3, f))
def k_told (T : mTr) (X : Nat → mM) (w : Int32) : Int32 := if w = 0 then nI T.1 else if ¬ w < 1 ∧ w < 9 then nI (xn (X (w.toNatClampNeg - 1))) else if ¬ w < 11 ∧ w < 19 then nI (xgn (X (w.toNatClampNeg - 11))) else if ¬ w < 21 ∧ w < 29 then nI (xpc (X (w.toNatClampNeg - 21))) else if ¬ w < 31 ∧ w < 39 then (if xkn (X (w.toNatClampNeg - 31)) = true then nI (m_ct (xfm (X (w.toNatClampNeg - 31))) (xn (X (w.toNatClampNeg - 31)))) else -4) else -1
/-- nothing of the reference's cells has changed -/
def fX (B : Nat) (I I' : zI) : Prop := ∀ b, B + 68 ≤ b → b < B + 94 → I' b = I b
section KX
variable {F : Nat} {S : zS} {I : zI} {B : Nat} {T : mTr} {X : Nat → mM} {f : Nat}
theorem fM.toX {I' : zI} {i : Nat} (hL : cLay S B) (hi : i < 8) (h : fM S B i I I') : fX B I I' := fun b h1 h2 => h b (fun ho => by
  rcases ho with ho | ⟨k, q, hk, e, k1, k2⟩
  · omega
  · have := (hL.2.2.2.2.1 i k q hi hk e).1
    omega) (by omega) (by omega)
theorem x_mAt (hL : cLay S B) {i : Nat} (hi : i < 8) : z_X8_methodAt F S I B (nI i) = some (some (B + 5 + 6 * i)) := by
  unfold z_X8_methodAt
  rw [if_neg (nn (by omega)), nl8', if_pos ((nI_ltI (by omega) (by omega)).mpr hi), ob_mk hL.2.2.1.2.1, hL.2.2.1.2.2.2.2, if_neg (ni_in hi (by omega)), nc (by omega), (hL.2.2.2.1 i hi).1]
theorem x_mAt_n {a : Int32} (h : a < 0 ∨ nI 8 ≤ a) : z_X8_methodAt F S I B a = some none := by
  unfold z_X8_methodAt
  by_cases h0 : a < 0
  · rw [if_pos h0]
  · rw [if_neg h0, nl8', if_neg (fun g => by
      rcases h with h | h
      · exact h0 h
      · exact Int32.lt_irrefl (Int32.lt_of_lt_of_le g h))]
theorem t_has_c (hT : cT S I (B + 1) T) (a : Int32) : z_X1_has F S I (B + 1) a = some (oy (m_ix a T.1) 0 (fun _ => 1)) := by
  have h16 := hT.2.2.2.2.2.1.2.1
  refine ix_cases a T.1 (by omega) (fun h e => ?_) (fun j hj ea e => ?_)
  · rw [e, oy_n]; exact t_has_n hT h
  · rw [e, oy_s, ea]; exact t_has hT hj
theorem p_joined (hF : 100 ≤ F) (hA : cAll S I B T X f) (a b : Int32) : z_X8_joined F S I B a b = some (k_joined T a b) := by
  have hT := hA.2.1
  have h16 := hT.2.2.2.2.2.1.2.1
  unfold z_X8_joined k_joined
  rw [ob_mk hA.1.2.2.1.1, ob_mk (t_has_c hT a), t_has_c (F := F) hT b]
  refine ix_cases a T.1 (by omega) (fun h e => ?_) (fun j hj ea e => ?_)
  · rw [e, oy_n, oy_n, if_pos rfl]
  · rw [e, oy_s, oy_s, if_neg (show ¬ (1 : Int32) = 0 by decide)]
    refine ix_cases b T.1 (by omega) (fun h e => ?_) (fun j' hj' ea' e' => ?_)
    · rw [e, oy_n, oy_n, ob_mk rfl, if_pos rfl]
    · rw [e', oy_s, oy_s, ob_mk rfl, if_neg (show ¬ (1 : Int32) = 0 by decide), ea, ea', ob_mk (t_near (by omega) hT hj hj')]
theorem p_is (hA : cAll S I B T X f) (a b : Int32) : z_X8_is F S I B a b = some (k_is T a b) := by
  have hT := hA.2.1
  have h16 := hT.2.2.2.2.2.1.2.1
  unfold z_X8_is k_is
  rw [ob_mk hA.1.2.2.1.1, ob_mk (t_has_c hT a), t_has_c (F := F) hT b]
  refine ix_cases a T.1 (by omega) (fun h e => ?_) (fun j hj ea e => ?_)
  · rw [e, oy_n, oy_n, if_pos rfl]
  · rw [e, oy_s, oy_s, if_neg (show ¬ (1 : Int32) = 0 by decide)]
    refine ix_cases b T.1 (by omega) (fun h e => ?_) (fun j' hj' ea' e' => ?_)
    · rw [e, oy_n, oy_n, ob_mk rfl, if_pos rfl]
    · rw [e', oy_s, oy_s, ob_mk rfl, if_neg (show ¬ (1 : Int32) = 0 by decide), ea, ea', ob_mk (t_kind hT hj hj')]
      cases m_is T j j'
      · rw [if_pos (show b2i false = 0 from rfl)]; rfl
      · rw [if_neg (show ¬ b2i true = 0 by decide)]; rfl
theorem act_c {i : Nat} {x : mM} (hV : cV S I B i T (xpc x) (xn x) (xK x) (cQf S (B + 5 + 6 * i)) (xgn x) (xG x)) (a : Int32) : z_X5_actAt F S I (B + 5 + 6 * i) a = some (oy (m_ix a (xn x)) none (fun p => some (cQf S (B + 5 + 6 * i) p))) := by
  have h40 := hV.2.2.2.2.1.2.2.2.1
  refine ix_cases a (xn x) (by omega) (fun h e => ?_) (fun j hj ea e => ?_)
  · rw [e, oy_n]; exact x_actAt_n hV.2.2.2.2.1 h
  · rw [e, oy_s, ea]; exact (hV.act hj).1
theorem p_state (hA : cAll S I B T X f) (hX : ∀ j, j < 8 → mMs T (X j)) (a p x : Int32) : z_X8_state F S I B a p x = some (k_state X a p x) := by
  unfold z_X8_state k_state
  refine ix_cases a 8 (by omega) (fun h e => ?_) (fun i hi ea e => ?_)
  · rw [e, oy_n, ob_mk (x_mAt_n h), ob2_none]
  · have hN := hA.2.2.1 i hi
    have hV := hN.toV hA.1 hA.2.1 hi (hX i hi)
    have hn := (hX i hi).1
    rw [e, oy_s, ea, ob_mk (x_mAt hA.1 hi), ob2_mk rfl, ob_mk (act_c hV p)]
    refine ix_cases p (xn (X i)) (by omega) (fun h e => ?_) (fun j hj ea e => ?_)
    · rw [e, oy_n, oy_n, ob2_none]
    · rw [e, oy_s, oy_s, ob2_mk rfl]
      have key : z_X8_state_49 F S I x (B + 5 + 6 * i) (cQf S (B + 5 + 6 * i) j) = some (if xkn (X i) = true then (if (xC (X i)).1 j = true then m_ans ((xC (X i)).2.2 j) x else -4) else -3) := by
        unfold z_X8_state_49
        rw [hN.1.2.2.2.2]
        cases hk : xkn (X i)
        · rw [if_pos (show b2i false = 0 from rfl), if_neg (show ¬ false = true by decide)]
        · obtain ⟨k1, k2, k3⟩ := hN.2.2.2.2 hk
          rw [if_neg (show ¬ b2i true = 0 by decide), if_pos (show true = true from rfl), (k1 j hj).1]
          cases hr : (xC (X i)).1 j
          · rw [if_pos (show b2i false = 0 from rfl), if_neg (show ¬ false = true by decide)]
          · obtain ⟨q1, q2, q3, q4, q5, q6⟩ := hV.2.2.2.2.2.1.1 j hj
            rw [if_neg (show ¬ b2i true = 0 by decide), if_pos (show true = true from rfl), ob_mk q3, ob_mk (s_ans q5 ((k1 j hj).2.2 hr))]
      unfold z_X8_isPlace z_X8_isOnStack
      by_cases h0 : x < 0
      · have h99 : ¬ x = 99 := fun e => by subst e; exact absurd h0 (by decide)
        have h100 : x < 100 := Int32.lt_trans h0 (by decide)
        rw [if_pos h0, ob_mk rfl, if_pos rfl, if_pos h100, ob_mk rfl, if_pos rfl, if_neg h99, if_neg (by rintro ((g | g) | g); exact g.1 h0; exact g.1 h100; exact h99 g)]
      · rw [if_neg h0]
        by_cases h8 : x < 8
        · rw [if_pos h8, ob_mk rfl, if_neg (show ¬ (1 : Int32) = 0 by decide), if_pos (show ((¬ x < 0 ∧ x < 8) ∨ (¬ x < 100 ∧ x < 110)) ∨ x = 99 from Or.inl (Or.inl ⟨h0, h8⟩))]
          exact key
        · rw [if_neg h8, ob_mk rfl, if_pos rfl]
          by_cases h100 : x < 100
          · rw [if_pos h100, ob_mk rfl, if_pos rfl]
            by_cases h99 : x = 99
            · rw [if_pos h99, if_pos (show ((¬ x < 0 ∧ x < 8) ∨ (¬ x < 100 ∧ x < 110)) ∨ x = 99 from Or.inr h99)]
              exact key
            · rw [if_neg h99, if_neg (by rintro ((g | g) | g); exact h8 g.2; exact g.1 h100; exact h99 g)]
          · rw [if_neg h100]
            by_cases h110 : x < 110
            · rw [if_pos h110, ob_mk rfl, if_neg (show ¬ (1 : Int32) = 0 by decide), if_pos (show ((¬ x < 0 ∧ x < 8) ∨ (¬ x < 100 ∧ x < 110)) ∨ x = 99 from Or.inl (Or.inr ⟨h100, h110⟩))]
              exact key
            · have h99 : ¬ x = 99 := fun e => by subst e; exact h100 (by decide)
              rw [if_neg h110, ob_mk rfl, if_pos rfl, if_neg h99, if_neg (by rintro ((g | g) | g); exact h8 g.2; exact h110 g.2; exact h99 g)]
theorem fa_c (hF : 100 ≤ F) {i : Nat} {x : mM} (hV : cV S I B i T (xpc x) (xn x) (xK x) (cQf S (B + 5 + 6 * i)) (xgn x) (xG x)) (hf : cFr I (xn x) (cQf S (B + 5 + 6 * i)) (xfm x) (xfs x)) (k : Int32) : z_X5_actOfFrame F S I (B + 5 + 6 * i) k = some (m_oi (m_fa (xfm x) (xn x) k)) ∧ z_X5_actAt F S I (B + 5 + 6 * i) (m_oi (m_fa (xfm x) (xn x) k)) = some (oy (m_fa (xfm x) (xn x) k) none (fun p => some (cQf S (B + 5 + 6 * i) p))) := by
  refine ⟨c_fa hF hV (fun p hp => (hf p hp).1), ?_⟩
  cases hfa : m_fa (xfm x) (xn x) k with
  | none => exact x_actAt_n hV.2.2.2.2.1 (Or.inl (by decide))
  | some p => exact (hV.act (m_fa_some hfa).1).1
theorem p_frame (hF : 100 ≤ F) (hA : cAll S I B T X f) (hX : ∀ j, j < 8 → mMs T (X j)) (a k x : Int32) : z_X8_frame F S I B a k x = some (k_frame X a k x) := by
  unfold z_X8_frame k_frame
  refine ix_cases a 8 (by omega) (fun h e => ?_) (fun i hi ea e => ?_)
  · rw [e, oy_n, ob_mk (x_mAt_n h), ob2_none]
  · have hN := hA.2.2.1 i hi
    have hV := hN.toV hA.1 hA.2.1 hi (hX i hi)
    rw [e, oy_s, ea, ob_mk (x_mAt hA.1 hi), ob2_mk rfl, hN.1.2.2.2.2]
    cases hk : xkn (X i)
    · rw [if_pos (show b2i false = 0 from rfl), if_neg (show ¬ false = true by decide)]
    · obtain ⟨k1, k2, k3⟩ := hN.2.2.2.2 hk
      obtain ⟨g1, g2⟩ := fa_c (F := F) hF hV k2 k
      rw [if_neg (show ¬ b2i true = 0 by decide), if_pos (show true = true from rfl), ob_mk g1, ob_mk g2]
      cases hfa : m_fa (xfm (X i)) (xn (X i)) k with
      | none => rw [oy_n, oy_n, ob2_none]
      | some p =>
        obtain ⟨hp, hfm⟩ := m_fa_some hfa
        obtain ⟨q1, q2, q3, q4, q5, q6⟩ := hV.2.2.2.2.2.1.1 p hp
        rw [oy_s, oy_s, ob2_mk rfl]
        by_cases h98 : x = 98
        · rw [if_pos h98, if_pos h98]; rfl
        · rw [if_neg h98, if_neg h98, ob_mk q4, ob_mk (s_ans q6 ((k2 p hp).2 hfm))]
theorem p_form (hF : 100 ≤ F) (hA : cAll S I B T X f) (hX : ∀ j, j < 8 → mMs T (X j)) (a k : Int32) : z_X8_form F S I B a k = some (k_form X a k) := by
  unfold z_X8_form k_form
  refine ix_cases a 8 (by omega) (fun h e => ?_) (fun i hi ea e => ?_)
  · rw [e, oy_n, ob_mk (x_mAt_n h), ob2_none]
  · have hN := hA.2.2.1 i hi
    have hV := hN.toV hA.1 hA.2.1 hi (hX i hi)
    rw [e, oy_s, ea, ob_mk (x_mAt hA.1 hi), ob2_mk rfl, hN.1.2.2.2.2]
    cases hk : xkn (X i)
    · rw [if_pos (show b2i false = 0 from rfl), if_neg (show ¬ false = true by decide)]
    · obtain ⟨k1, k2, k3⟩ := hN.2.2.2.2 hk
      obtain ⟨g1, g2⟩ := fa_c (F := F) hF hV k2 k
      obtain ⟨g3, g4⟩ := fa_c (F := F) hF hV k2 (k - 1)
      rw [if_neg (show ¬ b2i true = 0 by decide), if_pos (show true = true from rfl), ob_mk g1, ob_mk g2]
      cases hfa : m_fa (xfm (X i)) (xn (X i)) k with
      | none => rw [oy_n, oy_n, ob2_none]
      | some p =>
        obtain ⟨hp, hfm⟩ := m_fa_some hfa
        obtain ⟨q1, q2, q3, q4, q5, q6⟩ := hV.2.2.2.2.2.1.1 p hp
        have hs := (k2 p hp).2 hfm
        rw [oy_s, oy_s, ob2_mk rfl, ob_mk g3, ob_mk g4]
        cases hfb : m_fa (xfm (X i)) (xn (X i)) (k - 1) with
        | none =>
          rw [oy_n, oy_n, ob2_none, ob_mk q4, ob_mk hV.2.2.1.2.2.2.1]
          unfold z_X8_form_75
          rw [ob_mk (s_form (by omega) q6 hV.2.2.1.2.2.2.2.2.2 hs hN.2.2.2.1)]
        | some p' =>
          obtain ⟨hp', hfm'⟩ := m_fa_some hfb
          obtain ⟨r1, r2, r3, r4, r5, r6⟩ := hV.2.2.2.2.2.1.1 p' hp'
          rw [oy_s, oy_s, ob2_mk rfl, ob_mk q4, ob_mk r4]
          unfold z_X8_form_75
          rw [ob_mk (s_form (by omega) q6 r6 hs ((k2 p' hp').2 hfm'))]
theorem p_shared (hF : 100 ≤ F) (hA : cAll S I B T X f) (hX : ∀ j, j < 8 → mMs T (X j)) (a p : Int32) : z_X8_shared F S I B a p = some (k_shared X a p) := by
  unfold z_X8_shared k_shared
  refine ix_cases a 8 (by omega) (fun h e => ?_) (fun i hi ea e => ?_)
  · rw [e, oy_n, ob_mk (x_mAt_n h), ob2_none]
  · have hN := hA.2.2.1 i hi
    have hV := hN.toV hA.1 hA.2.1 hi (hX i hi)
    have hn := (hX i hi).1
    rw [e, oy_s, ea, ob_mk (x_mAt hA.1 hi), ob2_mk rfl, ob_mk (act_c hV p)]
    refine ix_cases p (xn (X i)) (by omega) (fun h e => ?_) (fun j hj ea e => ?_)
    · rw [e, oy_n, oy_n, ob2_none]
    · rw [e, oy_s, oy_s, ob2_mk rfl, hN.1.2.2.2.2]
      cases hk : xkn (X i)
      · rw [if_pos (show b2i false = 0 from rfl), if_neg (show ¬ false = true by decide)]
      · obtain ⟨k1, k2, k3⟩ := hN.2.2.2.2 hk
        rw [if_neg (show ¬ b2i true = 0 by decide), if_pos (show true = true from rfl), ea, ob_mk (c_src hF hV (rc := (xC (X i)).1) (fun q hq => (k1 q hq).1) (by omega))]
theorem p_max (hA : cAll S I B T X f) (a w : Int32) : z_X8_maximum F S I B a w = some (k_max X a w) := by
  unfold z_X8_maximum k_max
  refine ix_cases a 8 (by omega) (fun h e => ?_) (fun i hi ea e => ?_)
  · rw [e, oy_n, ob_mk (x_mAt_n h), ob2_none]
  · have hN := hA.2.2.1 i hi
    rw [e, oy_s, ea, ob_mk (x_mAt hA.1 hi), ob2_mk rfl, hN.1.2.2.2.2]
    by_cases h0 : w < 0
    · rw [if_pos h0, if_pos (show w < 0 ∨ 1 < w from Or.inl h0)]
    · rw [if_neg h0]
      by_cases h1 : 1 < w
      · rw [if_pos h1, if_pos (show w < 0 ∨ 1 < w from Or.inr h1)]
      · rw [if_neg h1, if_neg (show ¬ (w < 0 ∨ 1 < w) by rintro (g | g); exact h0 g; exact h1 g)]
        cases hk : xkn (X i)
        · rw [if_pos (show b2i false = 0 from rfl), if_neg (show ¬ false = true by decide)]
        · obtain ⟨k1, k2, k3, k4⟩ := hN.2.2.2.2 hk
          rw [if_neg (show ¬ b2i true = 0 by decide), if_pos (show true = true from rfl), k3, k4]
          by_cases hw : w = 0
          · rw [if_pos hw, if_pos hw]
          · rw [if_neg hw, if_neg hw]
theorem p_told (hF : 100 ≤ F) (hA : cAll S I B T X f) (hX : ∀ j, j < 8 → mMs T (X j)) (w : Int32) : z_X8_told F S I B w = some (k_told T X w) := by
  have hask : ∀ d : Nat, d < 100 → z_X8_isAskedFrom F S I (nI d) w = some (if ¬ w < nI d ∧ w < nI (d + 8) then 1 else 0) := fun d hd => by
    unfold z_X8_isAskedFrom
    by_cases h0 : w < nI d
    · rw [if_pos h0, if_neg (fun g => g.1 h0)]
    · rw [if_neg h0, nl8', nI_add]
      by_cases h1 : w < nI (d + 8)
      · rw [if_pos h1, if_pos ⟨h0, h1⟩]
      · rw [if_neg h1, if_neg (fun g => h1 g.2)]
  have hidx : ∀ d : Nat, d < 100 → ¬ w < nI d → w < nI (d + 8) → ∃ j, j < 8 ∧ w.toNatClampNeg - d = j ∧ w - nI d = nI j := fun d hd h0 h1 => by
    have hw0 : ¬ w < 0 := fun g => h0 (Int32.lt_of_lt_of_le g (nI_pos' (by omega)))
    obtain ⟨j, hj, e⟩ := nI_in8 (N := d + 8) (by omega) hw0 h1
    subst e
    have hjd : d ≤ j := by
      by_cases g : j < d
      · exact absurd ((nI_ltI (by omega) (by omega)).mpr g) h0
      · omega
    exact ⟨j - d, by omega, by rw [nc (by omega)], pk_sub hjd⟩
  unfold z_X8_told k_told
  by_cases hw : w = 0
  · rw [if_pos hw, if_pos hw, ob_mk hA.1.2.2.1.1, hA.2.1.2.2.2.2.1]
  · rw [if_neg hw, if_neg hw, nl1, ob_mk (hask 1 (by omega)), show (9 : Int32) = nI (1 + 8) from rfl]
    by_cases c1 : ¬ w < nI 1 ∧ w < nI (1 + 8)
    · obtain ⟨j, hj, e1, e2⟩ := hidx 1 (by omega) c1.1 c1.2
      rw [if_pos c1, if_pos c1, if_neg (show ¬ (1 : Int32) = 0 by decide), e2, e1]
      unfold z_X8_toldActs
      rw [ob_mk (x_mAt hA.1 hj), ob2_mk rfl, ob_mk rfl, (hA.2.2.1 j hj).1.1]
    · rw [if_neg c1, if_neg c1, if_pos rfl, nl11, ob_mk (hask 11 (by omega)), show (19 : Int32) = nI (11 + 8) from rfl]
      by_cases c2 : ¬ w < nI 11 ∧ w < nI (11 + 8)
      · obtain ⟨j, hj, e1, e2⟩ := hidx 11 (by omega) c2.1 c2.2
        rw [if_pos c2, if_pos c2, if_neg (show ¬ (1 : Int32) = 0 by decide), e2, e1]
        unfold z_X8_toldGuards
        rw [ob_mk (x_mAt hA.1 hj), ob2_mk rfl, ob_mk rfl, (hA.2.2.1 j hj).1.2.1]
      · rw [if_neg c2, if_neg c2, if_pos rfl, nl21, ob_mk (hask 21 (by omega)), show (29 : Int32) = nI (21 + 8) from rfl]
        by_cases c3 : ¬ w < nI 21 ∧ w < nI (21 + 8)
        · obtain ⟨j, hj, e1, e2⟩ := hidx 21 (by omega) c3.1 c3.2
          rw [if_pos c3, if_pos c3, if_neg (show ¬ (1 : Int32) = 0 by decide), e2, e1]
          unfold z_X8_toldPlaces
          rw [ob_mk (x_mAt hA.1 hj), ob2_mk rfl, ob_mk rfl, (hA.2.2.1 j hj).1.2.2.1]
        · rw [if_neg c3, if_neg c3, if_pos rfl, nl31, ob_mk (hask 31 (by omega)), show (39 : Int32) = nI (31 + 8) from rfl]
          by_cases c4 : ¬ w < nI 31 ∧ w < nI (31 + 8)
          · obtain ⟨j, hj, e1, e2⟩ := hidx 31 (by omega) c4.1 c4.2
            have hN := hA.2.2.1 j hj
            rw [if_pos c4, if_pos c4, if_neg (show ¬ (1 : Int32) = 0 by decide), e2, e1]
            unfold z_X8_toldFrames
            rw [ob_mk (x_mAt hA.1 hj), ob2_mk rfl, hN.1.2.2.2.2]
            cases hk : xkn (X j)
            · rw [if_pos (show b2i false = 0 from rfl), if_neg (show ¬ false = true by decide), ob_mk rfl]
            · obtain ⟨k1, k2, k3, k4⟩ := hN.2.2.2.2 hk
              rw [if_neg (show ¬ b2i true = 0 by decide), if_pos (show true = true from rfl), ob_mk (c_fc hF (hN.toV hA.1 hA.2.1 hj (hX j hj)) (fun q hq => (k2 q hq).1)), ob_mk rfl]
          · rw [if_neg c4, if_neg c4, if_pos rfl]
end KX
