/-! the reference: the calls that only read -/
abbrev m_askd (x : Int32) : Prop := ((¬ x < 0 ∧ x < 8) ∨ (¬ x < 100 ∧ x < 110)) ∨ x = 99
def pA (s : mSn) (x : Int32) : Int32 := if ¬ x < 0 ∧ x < 8 then nI (s.1 x.toNatClampNeg) else if x = 99 then nI s.2.1 else if x.toNatClampNeg - 100 < s.2.1 then nI (s.2.2 (x.toNatClampNeg - 100)) else -5
section RRD
variable {F : Nat} {S : zS} {I : zI} {A : Nat} {T : mTr} {X : Nat → mM} {f : Nat}
theorem r_asked (x : Int32) : z_X9_isAsked F S I x = some (if m_askd x then 1 else 0) := by
  unfold z_X9_isAsked
  rw [ob_mk (show z_X9_in F S I x 0 7 = _ from r_inN x 0 (b := 7) (by omega)), b01, ob_mk (show z_X9_in F S I x 100 109 = _ from r_inN x 100 (b := 109) (by omega)), b01]
  by_cases h1 : ¬ x < 0 ∧ x < 8
  · rw [if_pos (show ¬ x < 0 ∧ x < nI (7 + 1) from h1), if_pos (show m_askd x from Or.inl (Or.inl h1))]
  · rw [if_neg (show ¬ (¬ x < 0 ∧ x < nI (7 + 1)) from h1)]
    by_cases h2 : x = 99
    · rw [if_pos h2, if_pos (show m_askd x from Or.inr h2)]
    · rw [if_neg h2]
      by_cases h3 : ¬ x < 100 ∧ x < 110
      · rw [if_pos (show ¬ x < 100 ∧ x < nI (109 + 1) from h3), if_pos (show m_askd x from Or.inl (Or.inr h3))]
      · rw [if_neg (show ¬ (¬ x < 100 ∧ x < nI (109 + 1)) from h3), if_neg (show ¬ m_askd x by rintro ((g | g) | g); exact h1 g; exact h3 g; exact h2 g)]
theorem r_part {s : mSn} {a o len : Nat} (hn : (S.2.1 a).2 = len) (ho : o + 20 ≤ len) (hl : len < 10000) (hs : rSn I a o s) (hh : s.2.1 ≤ 10) {x : Int32} (hx : m_askd x) : z_X9_part F S I A a (nI o) x = some (pA s x) := by
  unfold z_X9_part pA
  rw [ob_mk (show z_X9_in F S I x 0 7 = _ from r_inN x 0 (b := 7) (by omega)), b01]
  by_cases h1 : ¬ x < 0 ∧ x < 8
  · obtain ⟨j, hj, ej⟩ := nI_in8 (N := 8) (by omega) h1.1 h1.2
    rw [if_pos (show ¬ x < 0 ∧ x < nI (7 + 1) from h1), if_pos h1, ej, nI_add, ixk hn (by omega) (by omega), nc (by omega), nc (by omega), hs.1 j hj]
  · rw [if_neg (show ¬ (¬ x < 0 ∧ x < nI (7 + 1)) from h1), if_neg h1, nl8, nI_add, ixk hn (by omega) (by omega), ixk hn (by omega) (by omega), nc (by omega), hs.2.1]
    by_cases h2 : x = 99
    · rw [if_pos h2, if_pos h2]
    · rw [if_neg h2, if_neg h2]
      have h3 : ¬ x < 100 ∧ x < 110 := by
        rcases hx with (g | g) | g
        · exact absurd g h1
        · exact g
        · exact absurd g h2
      obtain ⟨j, hj, ej⟩ := nI_in8 (N := 110) (by omega) (fun g => h3.1 (Int32.lt_trans g (by decide))) h3.2
      have h100 : 100 ≤ j := by
        by_cases g : j < 100
        · exact absurd (show x < nI 100 by rw [ej]; exact (nI_ltI (by omega) (by omega)).mpr g) h3.1
        · omega
      rw [ej, nc (by omega), nl100, pk_sub h100]
      by_cases h0 : s.2.1 = 0
      · rw [h0, if_neg (show ¬ j - 100 < 0 by omega), show nI 0 - 1 = (-1 : Int32) from rfl, ob_mk (r_in _ _ _), b01, if_neg (show ¬ (¬ nI (j - 100) < 0 ∧ ¬ (-1 : Int32) < nI (j - 100)) from fun g => g.2 (Int32.lt_of_lt_of_le (show (-1 : Int32) < 0 by decide) (nI_pos' (by omega))))]
      · rw [n_pred (by omega), ob_mk (r_inN _ _ (by omega)), b01, show s.2.1 - 1 + 1 = s.2.1 by omega]
        by_cases h4 : j - 100 < s.2.1
        · rw [if_pos (show ¬ nI (j - 100) < 0 ∧ nI (j - 100) < nI s.2.1 from ⟨nn (by omega), (nI_ltI (by omega) (by omega)).mpr h4⟩), if_pos h4, nl9, nI_add, nI_add, pk_sub (show 100 ≤ o + 9 + j by omega), show o + 9 + j - 100 = o + 9 + (j - 100) by omega, ixk hn (by omega) (by omega), nc (by omega), hs.2.2 _ h4]
        · rw [if_neg (show ¬ (¬ nI (j - 100) < 0 ∧ nI (j - 100) < nI s.2.1) from fun g => h4 ((nI_ltI (by omega) (by omega)).mp g.2)), if_neg h4]
theorem pA_ans {s : mSn} {x : Int32} (hx : m_askd x) (hb : (∀ y, y < 8 → s.1 y < 200) ∧ s.2.1 ≤ 10 ∧ ∀ j, j < s.2.1 → s.2.2 j < 200) : (if pA s x < (-4) then (-1 : Int32) else pA s x) = m_ans s x := by
  have hpos : ∀ v, v < 200 → ¬ nI v < (-4 : Int32) := fun v hv g => nn (x := v) (by omega) (Int32.lt_trans g (by decide))
  unfold pA m_ans
  by_cases h1 : ¬ x < 0 ∧ x < 8
  · obtain ⟨j, hj, ej⟩ := nI_in8 (N := 8) (by omega) h1.1 h1.2
    rw [if_pos h1, if_pos h1, if_neg (hpos _ (hb.1 _ (by rw [ej, nc (by omega)]; exact hj)))]
  · rw [if_neg h1, if_neg h1]
    by_cases h2 : x = 99
    · rw [if_pos h2, if_pos h2, if_neg (hpos _ (by omega))]
    · rw [if_neg h2, if_neg h2]
      have h3 : ¬ x < 100 ∧ x < 110 := by
        rcases hx with (g | g) | g
        · exact absurd g h1
        · exact g
        · exact absurd g h2
      by_cases h4 : x.toNatClampNeg - 100 < s.2.1
      · rw [if_pos h4, if_pos (show (¬ x < 100 ∧ x < 110) ∧ x.toNatClampNeg - 100 < s.2.1 from ⟨h3, h4⟩), if_neg (hpos _ (hb.2.2 _ h4))]
      · rw [if_neg h4, if_neg (show ¬ ((¬ x < 100 ∧ x < 110) ∧ x.toNatClampNeg - 100 < s.2.1) from fun g => h4 g.2), if_pos (show (-5 : Int32) < -4 by decide)]
theorem mVs.lt {n : Nat} {K : Nat → mAc} {s : mSn} (h : mVs T n K s) (hT : T.1 ≤ 16) (hn : n ≤ 40) : (∀ y, y < 8 → s.1 y < 200) ∧ s.2.1 ≤ 10 ∧ ∀ j, j < s.2.1 → s.2.2 j < 200 := ⟨fun y hy => ((h.1 y hy).ob hT hn).1, h.h, fun j hj => ((h.2.1 j hj).1.ob hT hn).1⟩
theorem r_inIx (x : Int32) {n : Nat} (hn : n < 1000) : z_X9_in F S I x 0 (nI n - 1) = some (oy (m_ix x n) 0 (fun _ => 1)) := by
  by_cases h0 : n = 0
  · rw [h0, show nI 0 - 1 = (-1 : Int32) from rfl, r_in]
    have : m_ix x 0 = none := m_ix_n (by
      by_cases g : x < 0
      · exact Or.inl g
      · exact Or.inr (Int32.not_lt.mp g))
    rw [this, oy_n, if_neg (fun g => g.2 (Int32.lt_of_lt_of_le (show (-1 : Int32) < 0 by decide) (Int32.not_lt.mp g.1)))]
  · rw [n_pred (by omega), r_inN _ _ (by omega), show n - 1 + 1 = n by omega, ← m_ixP]
theorem r_state (hA : rAll S I A T X f) (hX : ∀ j, j < 8 → mSz (X j)) (hO : ∀ j, j < 8 → mOk T (X j)) (a p x : Int32) : z_X9_state F S I A a p x = some (k_state X a p x) := by
  have hL := hA.1
  have h16 := hA.2.1.2.1.2.1
  unfold z_X9_state k_state
  rw [ob_mk (r_isM_c a)]
  refine ix_cases a 8 (by omega) (fun h e => ?_) (fun i hi ea e => ?_)
  · rw [e, oy_n, oy_n, if_pos rfl]
  · have hR := hA.2.2.1 i hi
    obtain ⟨z1, z2, z3, z4, z5⟩ := hX i hi
    rw [e, oy_s, oy_s, if_neg (show ¬ (1 : Int32) = 0 by decide), ea, ob_mk hL.f6, ixk hL.n6 hi (by omega), nc (by omega), hR.1.2.2.1, ob_mk (r_inIx p (by omega))]
    refine ix_cases p (xn (X i)) (by omega) (fun h e => ?_) (fun j hj ep e => ?_)
    · rw [e, oy_n, oy_n, if_pos rfl]
    · rw [e, oy_s, oy_s, if_neg (show ¬ (1 : Int32) = 0 by decide), ob_mk (r_asked x), b01]
      by_cases hx : m_askd x
      · rw [if_pos hx, if_pos hx, ob_mk hL.f15, ixc hL.n15 hi (by omega), hR.1.2.2.2.2]
        cases hk : xkn (X i)
        · rw [if_pos (show b2i false = 0 from rfl), if_neg (show ¬ false = true by decide)]
        · obtain ⟨r1, r2, r3, r4⟩ := hR.2.2.2.2 hk j hj
          rw [if_neg (show ¬ b2i true = 0 by decide), if_pos rfl, ep, ob_mk hL.f16, nl40, pk_mul, nI_add, ixk hL.n16 (by omega) (by omega), nc (by omega), r1]
          cases hr : (xC (X i)).1 j
          · rw [if_pos (show b2i false = 0 from rfl), if_neg (show ¬ false = true by decide)]
          · have hv := ((hO i hi).2.2.2 hk).2.1.1 j hj hr
            rw [if_neg (show ¬ b2i true = 0 by decide), if_pos rfl, ob_mk hL.f17, nl20, pk_mul, ob_mk (r_part hL.n17 (by omega) (by omega) (r2 hr) hv.h hx)]
            have := pA_ans (s := (xC (X i)).2.2 j) hx (hv.lt h16 z2)
            rw [← this]
            split <;> rfl
      · rw [if_neg hx, if_neg hx]
theorem r_of_lp (hL : rL S A) {i n : Nat} (hi : i < 8) (hn : n ≤ 40) (e6 : I (A + 6) i = nI n) {fm : Nat → Bool} (hf : ∀ p, p < n → I (A + 18) (40 * i + p) = b2i (fm p)) {k : Nat} (hk : k < 2 ^ 31) : ∀ (fuel m j c : Nat), j + m = n → m < fuel → c ≤ k → z_X9_actOf_14 F S I fuel A (nI i) (nI (k - c)) (nI j) = some (m_oi (m_of fm m j c k)) := by
  intro fuel
  induction fuel with
  | zero => intro m j c h1 h2; omega
  | succ fuel ih =>
    intro m j c h1 h2 hc
    show z_X9_actOf_14B F S I (z_X9_actOf_14 F S I fuel) A (nI i) (nI (k - c)) (nI j) = _
    unfold z_X9_actOf_14B
    rw [ob_mk hL.f6, ixk hL.n6 hi (by omega), nc (by omega), e6]
    cases m with
    | zero => rw [if_neg (fun d => (by have := (nI_ltI (by omega) (by omega)).mp d; omega : False))]; rfl
    | succ m =>
      rw [if_pos ((nI_ltI (by omega) (by omega)).mpr (by omega)), ob_mk hL.f18, nl40, pk_mul, nI_add, ixk hL.n18 (by omega) (by omega), nc (by omega), hf j (by omega), nI_1]
      simp only [m_of]
      cases hfj : fm j
      · rw [if_pos (show b2i false = 0 from rfl), if_neg (show ¬ false = true by decide)]
        exact ih m (j + 1) c (by omega) (by omega) hc
      · rw [if_neg (show ¬ b2i true = 0 by decide), if_pos rfl]
        by_cases e : c = k
        · rw [if_pos (show nI (k - c) = 0 by rw [e, Nat.sub_self]; rfl), if_pos e]; rfl
        · rw [if_neg (fun d => e (by have := (nI_eq (by omega) (by omega)).mp (d.trans nl0); omega)), if_neg e]
          have : nI (k - c) + (-1) = nI (k - (c + 1)) := by
            obtain ⟨b, hb⟩ : ∃ b, k - c = b + 1 := ⟨k - c - 1, by omega⟩
            rw [hb, pk_m1]
            congr 1
            omega
          rw [this]
          exact ih m (j + 1) (c + 1) (by omega) (by omega) (by omega)
theorem m_of_big {fm : Nat → Bool} {k : Nat} : ∀ (m j c : Nat), c + m ≤ k → m_of fm m j c k = none := by
  intro m
  induction m with
  | zero => intro j c _; rfl
  | succ m ih =>
    intro j c h
    simp only [m_of]
    split
    · rw [if_neg (by omega)]; exact ih _ _ (by omega)
    · exact ih _ _ (by omega)
theorem r_actOf (hF : 50 ≤ F) (hL : rL S A) {i n : Nat} (hi : i < 8) (hn : n ≤ 40) (e6 : I (A + 6) i = nI n) {fm : Nat → Bool} (hf : ∀ p, p < n → I (A + 18) (40 * i + p) = b2i (fm p)) (k : Int32) : z_X9_actOf F S I A (nI i) k = some (m_oi (m_fa fm n k)) := by
  unfold z_X9_actOf z_X9_actOf_10 m_fa
  by_cases h : k < 0
  · rw [if_pos h, if_pos h]
    have := r_of_lp (F := F) hL hi hn e6 hf (k := 99) (by omega) F n 0 0 (by omega) (by omega) (by omega)
    rw [m_of_big n 0 0 (by omega)] at this
    exact this
  · rw [if_neg h, if_neg h]
    obtain ⟨j, hj, ej⟩ := nI_of h
    have := r_of_lp (F := F) hL hi hn e6 hf (k := j) hj F n 0 0 (by omega) (by omega) (by omega)
    rw [ej, nc hj]
    exact this
theorem r_frame (hF : 50 ≤ F) (hA : rAll S I A T X f) (hX : ∀ j, j < 8 → mSz (X j)) (hO : ∀ j, j < 8 → mOk T (X j)) (a k x : Int32) : z_X9_frame F S I A a k x = some (k_frame X a k x) := by
  have hL := hA.1
  have h16 := hA.2.1.2.1.2.1
  unfold z_X9_frame k_frame
  rw [ob_mk (r_isM_c a)]
  refine ix_cases a 8 (by omega) (fun h e => ?_) (fun i hi ea e => ?_)
  · rw [e, oy_n, oy_n, if_pos rfl]
  · have hR := hA.2.2.1 i hi
    obtain ⟨z1, z2, z3, z4, z5⟩ := hX i hi
    rw [e, oy_s, oy_s, if_neg (show ¬ (1 : Int32) = 0 by decide), ea, ob_mk hL.f15, ixk hL.n15 hi (by omega), nc (by omega), hR.1.2.2.2.2]
    cases hk : xkn (X i)
    · rw [if_pos (show b2i false = 0 from rfl), if_neg (show ¬ false = true by decide)]
    · have hK := hR.2.2.2.2 hk
      rw [if_neg (show ¬ b2i true = 0 by decide), if_pos rfl, ob_mk (r_actOf hF hL hi z2 hR.1.2.2.1 (fun p hp => (hK p hp).2.2.1) k)]
      cases hfa : m_fa (xfm (X i)) (xn (X i)) k with
      | none => rw [oy_n, if_pos (show m_oi none < 0 by decide)]
      | some p =>
        obtain ⟨hp, hfm⟩ := m_fa_some hfa
        have hv := ((hO i hi).2.2.2 hk).2.2.2 p hp hfm
        rw [show m_oi (some p) = nI p from rfl, oy_s, if_neg (nn (by omega))]
        have e49 : ∀ x', z_X9_frame_49 F S I A (nI i) x' (nI p) = if x' = 98 then some (nI p) else ob (z_X9_part F S I A (A + 19) (nI (20 * (40 * i + p))) x') (fun q2 => if q2 < (-4) then some (-1) else some q2) := fun x' => by
          unfold z_X9_frame_49 z_X9_frame_79
          rw [ob_mk hL.f19, nl40, pk_mul, nI_add, nl20, pk_mul, if_neg (show ¬ nI p < (-4 : Int32) from fun g => nn (x := p) (by omega) (Int32.lt_trans g (by decide)))]
        by_cases h98 : x = 98
        · rw [if_pos h98, if_pos h98, e49, if_pos h98]
        · rw [if_neg h98, if_neg h98, ob_mk (r_asked x), b01]
          by_cases hx : m_askd x
          · rw [if_pos hx, e49, if_neg h98, ob_mk (r_part hL.n19 (by omega) (by omega) ((hK p hp).2.2.2 hfm) hv.h hx), ← pA_ans (s := xfs (X i) p) hx (hv.lt h16 z2)]
            split <;> rfl
          · rw [if_neg hx]
            unfold m_ans
            rw [if_neg (fun g => hx (Or.inl (Or.inl g))), if_neg (fun g => hx (Or.inr g)), if_neg (fun g => hx (Or.inl (Or.inr g.1)))]
theorem r_fc_lp (hL : rL S A) {i n : Nat} (hi : i < 8) (hn : n ≤ 40) (e6 : I (A + 6) i = nI n) {fm : Nat → Bool} (hf : ∀ p, p < n → I (A + 18) (40 * i + p) = b2i (fm p)) : ∀ (fuel m j : Nat), j + m = n → m < fuel → z_X9_frameCount_4 F S I fuel A (nI i) (nI (m_ct fm j)) (nI j) = some (nI (m_ct fm n)) := by
  intro fuel
  induction fuel with
  | zero => intro m j h1 h2; omega
  | succ fuel ih =>
    intro m j h1 h2
    show z_X9_frameCount_4B F S I (z_X9_frameCount_4 F S I fuel) A (nI i) (nI (m_ct fm j)) (nI j) = _
    unfold z_X9_frameCount_4B z_X9_frameCount_34
    rw [ob_mk hL.f6, ixk hL.n6 hi (by omega), nc (by omega), e6]
    cases m with
    | zero =>
      rw [if_neg (fun d => (by have := (nI_ltI (by omega) (by omega)).mp d; omega : False))]
      rw [show j = n by omega]
    | succ m =>
      rw [if_pos ((nI_ltI (by omega) (by omega)).mpr (by omega)), ob_mk hL.f18, nl40, pk_mul, nI_add, ixk hL.n18 (by omega) (by omega), nc (by omega), hf j (by omega), nI_1]
      have key := ih m (j + 1) (by omega) (by omega)
      cases hfj : fm j
      · rw [if_pos (show b2i false = 0 from rfl), nl0, nI_add]
        have e : m_ct fm (j + 1) = m_ct fm j + 0 := by show m_ct fm j + (if fm j = true then 1 else 0) = _; rw [hfj, if_neg (show ¬ false = true by decide)]
        rw [← e]; exact key
      · rw [if_neg (show ¬ b2i true = 0 by decide), nI_1]
        have e : m_ct fm (j + 1) = m_ct fm j + 1 := by show m_ct fm j + (if fm j = true then 1 else 0) = _; rw [hfj, if_pos rfl]
        rw [← e]; exact key
theorem r_fault (hA : rAll S I A T X f) : z_X9_fault F S I A = some (nI f) := by
  unfold z_X9_fault
  rw [hA.2.2.2]
end RRD
