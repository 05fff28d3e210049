/-! the model: a class more -/
def mGr (T T' : mTr) : Prop := mTok T ∧ mTok T' ∧ T.1 ≤ T'.1 ∧ T'.1 ≤ T.1 + 1 ∧ (∀ c, c < T.1 → T'.2.1 c = T.2.1 c ∧ T'.2.2 c = T.2.2 c)
section GR
variable {T T' : mTr} {n pc : Nat} {K : Nat → mAc} {s : mSn}
theorem mGr.ty (g : mGr T T') {t : Nat} (h : mTy T n K t) : mTy T' n K t := by
  obtain ⟨_, _, g3, _⟩ := g
  rcases h with h | h | h
  · exact Or.inl h
  · exact Or.inr (Or.inl (by omega))
  · exact Or.inr (Or.inr h)
theorem mGr.vs (g : mGr T T') (h : mVs T n K s) : mVs T' n K s := ⟨fun x hx => g.ty (h.1 x hx), fun j hj => ⟨g.ty (h.2.1 j hj).1, (h.2.1 j hj).2⟩, h.2.2.1, h.2.2.2⟩
theorem mGr.aok (g : mGr T T') {x : mAc} (h : mAok T x) : mAok T' x := by
  obtain ⟨_, _, g3, _⟩ := g
  refine ⟨h.1, h.2.1, fun q => ?_, h.2.2.2⟩
  obtain ⟨a, ha, ea⟩ := h.2.2.1 q
  exact ⟨a, by omega, ea⟩
theorem mGr.gok (g : mGr T T') {x : mGd} (h : mGok T x) : mGok T' x := by
  obtain ⟨_, _, g3, _⟩ := g
  exact ⟨h.1, h.2.1, h.2.2.1, by have := h.2.2.2; omega⟩
theorem mGr.is (g : mGr T T') {a b : Nat} (ha : a < T.1) (hb : b < T.1) : m_is T' a b = m_is T a b := by
  obtain ⟨g1, g2, g3, g4, g5⟩ := g
  unfold m_is
  rw [(g5 b hb).2, m_anc_congr (par := T.2.1) a b (fun c c1 c2 => g1.2.2.1 c c1 (by omega)) (fun c hc => (g5 c (by omega)).1)]
theorem mGr.fr (g : mGr T T') {t c : Nat} (h : mTy T n K t) (hc : c < T.1) : m_for T' t c = m_for T t c := by
  have g0 := g
  obtain ⟨g1, g2, g3, g4, g5⟩ := g
  have h16 := g2.2.1
  unfold m_for
  by_cases c4 : t = 4
  · rw [decide_eq_true c4, Bool.true_or, Bool.true_or]
  · rw [decide_eq_false c4, Bool.false_or, Bool.false_or]
    by_cases c1 : 10 ≤ t ∧ t < 10 + T.1
    · rw [decide_eq_true c1, decide_eq_true (show 10 ≤ t ∧ t < 10 + T'.1 by omega), Bool.true_and, Bool.true_and]
      exact g0.is (by omega) hc
    · have : ¬ (10 ≤ t ∧ t < 10 + T'.1) := by
        rcases h with h | h | h <;> omega
      rw [decide_eq_false c1, decide_eq_false this, Bool.false_and, Bool.false_and]
theorem mGr.takeO (g : mGr T T') (h : mVs T n K s) {c : Nat} (hc : c < T.1) : m_takeO T' s c = m_takeO T s c := by
  unfold m_takeO
  by_cases h0 : s.2.1 = 0
  · rw [if_pos h0, if_pos h0]
  · rw [if_neg h0, if_neg h0, g.fr (h.2.1 (s.2.1 - 1) (by omega)).1 hc]
theorem m_bd_cg {r : Nat × mSn} {f g : mSn → Nat × mSn} (h : r.1 = 0 → f r.2 = g r.2) : m_bd r f = m_bd r g := by
  unfold m_bd
  by_cases c : r.1 = 0
  · rw [if_pos c, if_pos c, h c]
  · rw [if_neg c, if_neg c]
theorem mGr.wd (g : mGr T T') {p : Nat} (ok : mAok T (K p)) (h : mVs T n K s) : m_wd T' pc n K p s = m_wd T pc n K p s := by
  unfold m_wd m_ta
  obtain ⟨o1, o2, o3, o4⟩ := ok
  have h16 := g.1.2.1
  have h1 := g.1.1
  generalize (K p).2.1 = x at o2 o3 o4
  generalize (K p).1 = k at o1 o2 o3 o4
  have ac : (((9 ≤ k ∧ k ≤ 13) ∨ k = 18 ∨ k = 19)) → x.toNatClampNeg < T.1 := fun q => by
    obtain ⟨a, ha, ea⟩ := o3 q
    rw [ea, nc (by omega)]; exact ha
  have : k = 0 ∨ k = 1 ∨ k = 2 ∨ k = 3 ∨ k = 4 ∨ k = 5 ∨ k = 6 ∨ k = 7 ∨ k = 8 ∨ k = 9 ∨ k = 10 ∨ k = 11 ∨ k = 12 ∨ k = 13 ∨ k = 14 ∨ k = 15 ∨ k = 16 ∨ k = 17 ∨ k = 18 ∨ k = 19 ∨ k = 20 := by omega
  rcases this with rfl | rfl | rfl | rfl | rfl | rfl | rfl | rfl | rfl | rfl | rfl | rfl | rfl | rfl | rfl | rfl | rfl | rfl | rfl | rfl | rfl
  · rfl
  · rfl
  · rfl
  · rfl
  · rfl
  · rfl
  · rfl
  · rfl
  · rfl
  · rfl
  · rfl
  · show m_bd (m_takeO T' s x.toNatClampNeg) (fun s => m_push s 1) = m_bd (m_takeO T s x.toNatClampNeg) (fun s => m_push s 1)
    rw [g.takeO h (ac (by omega))]
  · show m_bd (m_take s 1) (fun s => m_bd (m_takeO T' s _) _) = m_bd (m_take s 1) (fun s => m_bd (m_takeO T s _) _)
    refine m_bd_cg (fun q => ?_)
    rw [g.takeO (mVr.take h 1 q) (ac (by omega))]
  · show m_bd (m_takeO T' s 0) (fun s => m_push s (10 + x.toNatClampNeg)) = m_bd (m_takeO T s 0) (fun s => m_push s (10 + x.toNatClampNeg))
    rw [g.takeO h (by omega)]
  · rfl
  · rfl
  · rfl
  · rfl
  · exact g.takeO h (ac (by omega))
  · exact g.takeO h (ac (by omega))
  · rfl
theorem mGr.fn (g : mGr T T') {gn us : Nat} {G : Nat → mGd} {R : mR} (hK : ∀ p, p < n → mAok T (K p)) (h : mFn T pc n K gn G us R) : mFn T' pc n K gn G us R := by
  obtain ⟨h1, h2, L, l1, l2, l3⟩ := h
  have ew : ∀ p, p < n → R.2.2.1 p = true → m_wd T' pc n K p (L p) = m_wd T pc n K p (L p) := fun p hp hr => g.wd (hK p hp) (l1 p hp hr).2.2
  refine ⟨fun p hp hr => g.vs (h1 p hp hr), h2, L, fun p hp hr => ⟨by rw [ew p hp hr]; exact (l1 p hp hr).1, (l1 p hp hr).2.1, g.vs (l1 p hp hr).2.2⟩, ?_, ?_⟩
  · rw [l2]
    refine m_mx_cg n (fun p hp => ?_)
    show (if R.2.2.1 p = true then _ else 0) = (if R.2.2.1 p = true then _ else 0)
    by_cases c : R.2.2.1 p = true
    · rw [if_pos c, if_pos c, ew p hp c]
    · rw [if_neg c, if_neg c]
  · rw [l3]
    congr 1
    refine m_mx_cg n (fun p hp => ?_)
    show (if R.2.2.1 p = true then _ else 0) = (if R.2.2.1 p = true then _ else 0)
    by_cases c : R.2.2.1 p = true
    · rw [if_pos c, if_pos c, ew p hp c]
    · rw [if_neg c, if_neg c]
theorem mGr.i1 (g : mGr T T') {x : mM} (h : mI1 T x) : mI1 T' x := by
  obtain ⟨⟨m1, m2, m3, m4, m5, m6⟩, ⟨o1, o2, o3, o4⟩, o5⟩ := h
  exact ⟨⟨m1, m2, m3, m4, fun p hp => g.aok (m5 p hp), fun j hj => g.gok (m6 j hj)⟩, ⟨o1, o2, g.vs o3, fun hk => ⟨(o4 hk).1, g.fn m5 (o4 hk).2.1, (o4 hk).2.2.1, fun p hp q => g.vs ((o4 hk).2.2.2 p hp q)⟩⟩, o5⟩
theorem i_cls {X : Nat → mM} (h : mInv T X) (a : Int32) (fc : Bool) : mInv (k_cls T a fc).2 X := by
  obtain ⟨⟨o1, o2, o3, o4⟩, h2⟩ := h
  have h : mInv T X := ⟨⟨o1, o2, o3, o4⟩, h2⟩
  unfold k_cls
  refine ix_cases a T.1 (by omega) (fun hh e => ?_) (fun i hi ea e => ?_)
  · rw [e, oy_n]; exact h
  · rw [e, oy_s]
    by_cases c1 : T.2.2 i = true ∨ (fc = true ∧ i ≠ 0)
    · rw [if_pos c1]; exact h
    · rw [if_neg c1]
      by_cases c2 : T.1 < 16
      · rw [if_pos c2]
        have hT' : mTok (T.1 + 1, nup T.2.1 T.1 i, nup T.2.2 T.1 fc) := by
          refine ⟨by show 1 ≤ T.1 + 1; omega, by show T.1 + 1 ≤ 16; omega, fun c c1 c2 => ?_, ?_⟩
          · have hc2 : c < T.1 + 1 := c2
            show nup T.2.1 T.1 i c < c
            by_cases g : c = T.1
            · subst g; rw [nup_at]; exact hi
            · rw [nup_ne g]; exact o3 c c1 (by omega)
          · show nup T.2.2 T.1 fc 0 = false
            rw [nup_ne (by omega)]; exact o4
        have g : mGr T (T.1 + 1, nup T.2.1 T.1 i, nup T.2.2 T.1 fc) := ⟨h.1, hT', by show T.1 ≤ T.1 + 1; omega, by show T.1 + 1 ≤ T.1 + 1; omega, fun c hc => ⟨nup_ne (by omega), nup_ne (by omega)⟩⟩
        exact ⟨hT', fun j hj => g.i1 (h2 j hj)⟩
      · rw [if_neg c2]; exact h
end GR
