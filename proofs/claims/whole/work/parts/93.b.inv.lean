/-! the model: what every call keeps -/
def mI1 (T : mTr) (x : mM) : Prop := mMs T x ∧ mOk T x ∧ (xkn x = true → (xC x).1 0 = true)
def mInv (T : mTr) (X : Nat → mM) : Prop := mTok T ∧ ∀ j, j < 8 → mI1 T (X j)
theorem mI1.sz {T : mTr} {x : mM} (h : mI1 T x) : mSz x := by
  obtain ⟨⟨m1, m2, m3, m4, m5, m6⟩, ⟨o1, o2, o3, o4⟩, _⟩ := h
  refine ⟨by omega, m1, m2, m3.2, fun hk p hp => ⟨fun g => ?_, fun g => ?_⟩⟩
  · exact ((o4 hk).2.1.1 p hp g).h
  · exact ((o4 hk).2.2.2 p hp g).h
theorem mInv.upd {T : mTr} {X : Nat → mM} {i : Nat} {y : mM} (h : mInv T X) (hy : mI1 T y) : mInv T (nup X i y) := by
  refine ⟨h.1, fun j hj => ?_⟩
  by_cases e : j = i
  · subst e; rw [nup_at]; exact hy
  · rw [nup_ne e]; exact h.2 j hj
/-- a method of which nothing is computed -/
theorem mI1.new {T : mTr} {y : mM} (h1 : mMs T y) (h2 : (xbg y).2.1 = 0) (h3 : ∀ z, xus y ≤ z → (xbg y).1 z = 0) (h4 : mVs T 0 (fun _ => (0, 0, 0)) (xbg y)) (h5 : xkn y = false) : mI1 T y := ⟨h1, ⟨h2, h3, h4, fun g => by rw [h5] at g; cases g⟩, fun g => by rw [h5] at g; cases g⟩
theorem mVs.s0 {T : mTr} {n : Nat} {K : Nat → mAc} : mVs T n K (fun _ => 0, 0, fun _ => 0) := ⟨fun _ _ => Or.inl (by show 0 ≤ 4; omega), fun j hj => absurd hj (Nat.not_lt_zero _), by show 0 ≤ 10; omega, fun x _ => ⟨fun g => absurd g (by show ¬ 0 = 3; omega), fun g => absurd g (by show ¬ 0 = 2; omega)⟩⟩
theorem mI1.x0 {T : mTr} : mI1 T mX0 := by
  refine mI1.new ⟨?_, ?_, ⟨?_, ?_⟩, ?_, fun p hp => absurd hp (Nat.not_lt_zero _), fun p hp => absurd hp (Nat.not_lt_zero _)⟩ rfl (fun _ _ => rfl) mVs.s0 rfl
  · show 0 ≤ 40; omega
  · show 0 ≤ 4; omega
  · show 1 ≤ 4; omega
  · show 4 ≤ 8; omega
  · show 0 ≤ 4; omega
section IV
variable {T : mTr} {X : Nat → mM} {f : Nat}
theorem i_clear (h : mInv T X) (a n : Int32) : mInv T (k_clear X a n).2 := by
  unfold k_clear
  refine ix_cases a 8 (by omega) (fun hh e => ?_) (fun i hi ea e => ?_)
  · rw [e, oy_n]; exact h
  · rw [e, oy_s]
    by_cases hn : n < 1 ∨ 8 < n
    · rw [if_pos hn]; exact h
    · rw [if_neg hn]
      have h1 : ¬ n < 1 := fun g => hn (Or.inl g)
      have hn0 : ¬ n < 0 := fun g => h1 (Int32.lt_trans g (by decide))
      obtain ⟨j, hj, en⟩ := nI_of hn0
      have e1 : n.toNatClampNeg = j := by rw [en, nc hj]
      have j1 : 1 ≤ j := by
        by_cases g : j < 1
        · exact absurd (show n < nI 1 by rw [en]; exact (nI_ltI (by omega) (by omega)).mpr g) h1
        · omega
      have j8 : j ≤ 8 := by
        by_cases g : 8 < j
        · exact absurd (show nI 8 < n by rw [en]; exact (nI_ltI (by omega) hj).mpr g) (fun q => hn (Or.inr q))
        · omega
      rw [e1]
      refine h.upd (mI1.new ⟨?_, ?_, ⟨j1, j8⟩, ?_, fun p hp => absurd hp (Nat.not_lt_zero _), fun p hp => absurd hp (Nat.not_lt_zero _)⟩ rfl (fun _ _ => rfl) mVs.s0 rfl)
      · show 0 ≤ 40; omega
      · show 0 ≤ 4; omega
      · show 0 ≤ j; omega
theorem i_arg (h : mInv T X) (a t : Int32) : mInv T (k_arg T X a t).2 := by
  have h16 := h.1.2.1
  unfold k_arg
  refine ix_cases a 8 (by omega) (fun hh e => ?_) (fun i hi ea e => ?_)
  · rw [e, oy_n]; exact h
  · rw [e, oy_s]
    cases ht : m_aty T t with
    | none => rw [oy_n]; exact h
    | some ty =>
      rw [oy_s]
      have hty : mTy T 0 (fun _ => (0, 0, 0)) ty ∧ ty ≠ 3 ∧ (1 ≤ ty) := by
        unfold m_aty at ht
        by_cases c1 : t = 1
        · rw [if_pos c1] at ht
          have := Option.some.inj ht
          exact ⟨Or.inl (by omega), by omega, by omega⟩
        · rw [if_neg c1] at ht
          by_cases c2 : t = 2
          · rw [if_pos c2] at ht
            have := Option.some.inj ht
            exact ⟨Or.inl (by omega), by omega, by omega⟩
          · rw [if_neg c2] at ht
            by_cases c3 : ¬ t < 10 ∧ t < nI (10 + T.1)
            · rw [if_pos c3] at ht
              have e1 := Option.some.inj ht
              obtain ⟨j, hj, ej⟩ := nI_in8 (N := 10 + T.1) (by omega) (fun g => c3.1 (Int32.lt_trans g (by decide))) c3.2
              have hj10 : 10 ≤ j := by
                by_cases g : j < 10
                · exact absurd (show t < nI 10 by rw [ej]; exact (nI_ltI (by omega) (by omega)).mpr g) c3.1
                · omega
              rw [ej, nc (by omega)] at e1
              exact ⟨Or.inr (Or.inl (by omega)), by omega, by omega⟩
            · rw [if_neg c3] at ht; cases ht
      by_cases hf : xpc (X i) < xus (X i) + m_t ty
      · rw [if_pos hf]; exact h
      · rw [if_neg hf]
        obtain ⟨⟨m1, m2, m3, m4, m5, m6⟩, ⟨o1, o2, o3, o4⟩, _⟩ := h.2 i hi
        have hmt := m_t_pos ty
        have hu8 : xus (X i) < 8 := by omega
        have h28 : ty = 2 → xus (X i) + 1 < 8 := fun g => by
          have : m_t ty = 2 := by unfold m_t; rw [if_pos g]
          omega
        refine h.upd (mI1.new ⟨m1, m2, m3, ?_, m5, m6⟩ o1 (fun z hz => ?_) ⟨?_, ?_, ?_, ?_⟩ rfl)
        · show xus (X i) + m_t ty ≤ xpc (X i); omega
        · have hz' : xus (X i) + m_t ty ≤ z := hz
          show m_sto (xbg (X i)).1 (xus (X i)) ty z = 0
          have z0 := o2 z (by omega)
          have b1 := m_brk0 (o2 (xus (X i)) (Nat.le_refl _))
          have b2 := m_brk0 (o2 (xus (X i) + 1) (by omega))
          unfold m_sto
          by_cases c : ty = 2
          · have : m_t ty = 2 := by unfold m_t; rw [if_pos c]
            rw [if_pos c, b1, b2, nup_ne (by omega), nup_ne (by omega)]; exact z0
          · rw [if_neg c, b1, nup_ne (by omega)]; exact z0
        · exact m_sto_P (P := mTy T 0 (fun _ => (0, 0, 0))) (Or.inl (by omega)) (Or.inl (by omega)) (Or.inl (by omega)) hty.1 o3.1
        · intro j hj
          have hj' : j < (xbg (X i)).2.1 := hj
          rw [o1] at hj'; exact absurd hj' (Nat.not_lt_zero _)
        · exact o3.2.2.1
        · exact o3.2.2.2.sto hu8 hty.2.1 h28
theorem i_act (h : mInv T X) (a k x y : Int32) : mInv T (k_act T X a k x y).2 := by
  have h16 := h.1.2.1
  unfold k_act
  refine ix_cases a 8 (by omega) (fun hh e => ?_) (fun i hi ea e => ?_)
  · rw [e, oy_n]; exact h
  · rw [e, oy_s]
    by_cases hk : m_kok T k x y
    · rw [if_pos hk]
      by_cases hn : xn (X i) < 40
      · rw [if_pos hn]
        obtain ⟨⟨m1, m2, m3, m4, m5, m6⟩, ⟨o1, o2, o3, o4⟩, _⟩ := h.2 i hi
        refine h.upd (mI1.new ⟨by show xn (X i) + 1 ≤ 40; omega, m2, m3, m4, fun p hp => ?_, m6⟩ o1 o2 o3 rfl)
        have hp' : p < xn (X i) + 1 := hp
        show mAok T (nup (xK (X i)) (xn (X i)) (k.toNatClampNeg, x, y) p)
        by_cases e : p = xn (X i)
        · rw [e, nup_at]
          obtain ⟨k1, k2, k3, k4, k5⟩ := hk
          obtain ⟨j, hj, ej⟩ := nI_in8 (N := 21) (by omega) k1.1 k1.2
          have ek : k.toNatClampNeg = j := by rw [ej, nc (by omega)]
          have kl : ∀ c : Nat, c < 100 → j = c → k = nI c := fun c _ g => by rw [ej, g]
          refine ⟨by show k.toNatClampNeg ≤ 20; omega, fun g => ?_, fun g => ?_, fun g => ?_⟩
          · have g' : j = 3 ∨ j = 4 ∨ j = 20 := by rw [← ek]; exact g
            obtain ⟨q1, q2⟩ := k2 (by
              rcases g' with g' | g' | g'
              · exact Or.inl (kl 3 (by omega) g')
              · exact Or.inr (Or.inl (kl 4 (by omega) g'))
              · exact Or.inr (Or.inr (kl 20 (by omega) g')))
            exact nI_in8 (N := 8) (by omega) q1 q2
          · have g' : (9 ≤ j ∧ j ≤ 13) ∨ j = 18 ∨ j = 19 := by rw [← ek]; exact g
            obtain ⟨q1, q2⟩ := k3 (by
              rcases g' with g' | g' | g'
              · refine Or.inl ⟨fun d => ?_, ?_⟩
                · have := (nI_ltI (a := j) (b := 9) (by omega) (by omega)).mp (by rw [← ej]; exact d)
                  omega
                · show k < nI 14
                  rw [ej]; exact (nI_ltI (by omega) (by omega)).mpr (by omega)
              · exact Or.inr (Or.inl (kl 18 (by omega) g'))
              · exact Or.inr (Or.inr (kl 19 (by omega) g')))
            exact nI_in8 (N := T.1) (by omega) q1 q2
          · have g' : 14 ≤ j ∧ j ≤ 16 := by rw [← ek]; exact g
            obtain ⟨q1, q2⟩ := k4 (by
              refine ⟨fun d => ?_, ?_⟩
              · have := (nI_ltI (a := j) (b := 14) (by omega) (by omega)).mp (by rw [← ej]; exact d)
                omega
              · show k < nI 17
                rw [ej]; exact (nI_ltI (by omega) (by omega)).mpr (by omega))
            obtain ⟨b, hb, eb⟩ := nI_in8 (N := 40) (by omega) q1 q2
            refine ⟨b, hb, eb, fun g16 => ?_⟩
            have g16' : j = 16 := by rw [← ek]; exact g16
            obtain ⟨r1, r2⟩ := k5 (kl 16 (by omega) g16')
            have hy0 : ¬ y < 0 := fun d => r1 (Int32.lt_of_lt_of_le d (Int32.not_lt.mp q1))
            obtain ⟨c, hc, ec⟩ := nI_in8 (N := 40) (by omega) hy0 r2
            refine ⟨c, hc, ?_, ec⟩
            by_cases d : b ≤ c
            · exact d
            · exact absurd (by rw [ec, eb]; exact (nI_ltI (by omega) (by omega)).mpr (by omega)) r1
        · rw [nup_ne e]; exact m5 p (by omega)
      · rw [if_neg hn]; exact h
    · rw [if_neg hk]; exact h
theorem i_guard (h : mInv T X) (a u v w c : Int32) : mInv T (k_guard T X a u v w c).2 := by
  have h16 := h.1.2.1
  unfold k_guard
  refine ix_cases a 8 (by omega) (fun hh e => ?_) (fun i hi ea e => ?_)
  · rw [e, oy_n]; exact h
  · rw [e, oy_s]
    by_cases hg : m_gok T u v w c
    · rw [if_pos hg]
      by_cases hn : xgn (X i) < 4
      · rw [if_pos hn]
        obtain ⟨⟨m1, m2, m3, m4, m5, m6⟩, ⟨o1, o2, o3, o4⟩, _⟩ := h.2 i hi
        refine h.upd (mI1.new ⟨m1, by show xgn (X i) + 1 ≤ 4; omega, m3, m4, m5, fun p hp => ?_⟩ o1 o2 o3 rfl)
        have hp' : p < xgn (X i) + 1 := hp
        show mGok T (nup (xG (X i)) (xgn (X i)) (u.toNatClampNeg, v.toNatClampNeg, w.toNatClampNeg, c.toNatClampNeg) p)
        by_cases e : p = xgn (X i)
        · rw [e, nup_at]
          obtain ⟨g1, g2, g3, g4, g5⟩ := hg
          have hv0 : ¬ v < 0 := fun g => g1 (Int32.lt_trans g2 g)
          obtain ⟨ju, hju, eu⟩ := nI_of g1
          obtain ⟨jv, hjv, ev⟩ := nI_of hv0
          obtain ⟨jh, hjh, eh⟩ := nI_in8 (N := 40) (by omega) g4.1 g4.2
          obtain ⟨jc, hjc, ec⟩ := nI_in8 (N := T.1) (by omega) g5.1 g5.2
          have huv : ju < jv := (nI_ltI hju hjv).mp (by rw [← eu, ← ev]; exact g2)
          have hv40 : jv ≤ 40 := by
            by_cases q : 40 < jv
            · exact absurd (show nI 40 < v by rw [ev]; exact (nI_ltI (by omega) hjv).mpr q) g3
            · omega
          show u.toNatClampNeg < v.toNatClampNeg ∧ v.toNatClampNeg ≤ 40 ∧ w.toNatClampNeg < 40 ∧ c.toNatClampNeg < T.1
          rw [eu, ev, eh, ec, nc hju, nc hjv, nc (by omega), nc (by omega)]
          exact ⟨huv, hv40, hjh, hjc⟩
        · rw [nup_ne e]; exact m6 p (by omega)
      · rw [if_neg hn]; exact h
    · rw [if_neg hg]; exact h
theorem m_run_0 {pc n gn : Nat} {K : Nat → mAc} {G : Nat → mGd} : ∀ (f : Nat) (R : mR) (r : Nat × Nat × mR), m_run T pc n K gn G f R = some r → R.2.2.1 0 = true → r.2.2.2.2.1 0 = true := by
  intro f
  induction f with
  | zero => intro R r h; cases h
  | succ f ih =>
    intro R r h h0
    simp only [m_run] at h
    cases hl : m_ld R.2.2.2.1 n 0 with
    | none =>
      rw [hl] at h
      have e : (0, 0, R) = r := Option.some.inj h
      subst e; exact h0
    | some p =>
      rw [hl, ob2_mk rfl] at h
      by_cases hw : (m_work T pc n K gn G p R.2.2).1 = 0
      · rw [if_pos hw] at h
        exact ih _ r h (((m_work_ge hw).1 0).1 h0).1
      · rw [if_neg hw] at h
        have e := Option.some.inj h
        subst e; exact h0
theorem i_compute (h : mInv T X) (a : Int32) : mInv T (k_compute T X f a).2.1 := by
  unfold k_compute
  refine ix_cases a 8 (by omega) (fun hh e => ?_) (fun i hi ea e => ?_)
  · rw [e, oy_n]; exact h
  · rw [e, oy_s]
    by_cases hn : xn (X i) = 0
    · rw [if_pos hn]; exact h
    · rw [if_neg hn]
      obtain ⟨⟨m1, m2, m3, m4, m5, m6⟩, ⟨o1, o2, o3, o4⟩, _⟩ := h.2 i hi
      cases hr : m_cp T (X i) with
      | none => exact h
      | some r =>
        dsimp only
        by_cases hz : r.1 = 0
        · rw [if_pos hz]
          have hb5 : mVs T (xn (X i)) (xK (X i)) (xbg (X i)) := o3.bg
          obtain ⟨fin1, fin2⟩ := mRi.run (us := xus (X i)) h.1 m3.2 m5 m6 24641 _ r (mRi.c0 hb5) hr hz
          have hfn := fin1.fin fin2
          refine h.upd ⟨⟨m1, m2, m3, m4, m5, m6⟩, ⟨o1, o2, o3, fun _ => ⟨by show 0 < xn (X i); omega, hfn, fun p => rfl, fun p hp g => ?_⟩⟩, fun _ => ?_⟩
          · have g' : m_fm (xK (X i)) (xgn (X i)) (xG (X i)) r.2.2.2.2.1 (xn (X i)) p = true := g
            unfold m_fm at g'
            rw [Bool.and_eq_true] at g'
            exact hfn.1 p hp g'.1
          · exact m_run_0 24641 _ r hr (show nup (fun _ => false) 0 true 0 = true from nup_at _ _ _)
        · rw [if_neg hz]
          exact h.upd (mI1.new ⟨m1, m2, m3, m4, m5, m6⟩ o1 o2 o3 rfl)
theorem i_plant (h : mInv T X) (a k y t : Int32) : mInv T (k_plant T X a k y t).2 := by
  have h16 := h.1.2.1
  unfold k_plant
  refine ix_cases a 8 (by omega) (fun hh e => ?_) (fun i hi ea e => ?_)
  · rw [e, oy_n]; exact h
  · rw [e, oy_s]
    cases ht : m_pty T t with
    | none => rw [oy_n]; exact h
    | some ty =>
      rw [oy_s]
      have hty : ∀ n K, mTy T n K ty ∧ ty ≠ 3 ∧ ty ≠ 2 := fun n K => by
        unfold m_pty at ht
        by_cases c0 : t = 0
        · rw [if_pos c0] at ht
          have := Option.some.inj ht
          exact ⟨Or.inl (by omega), by omega, by omega⟩
        · rw [if_neg c0] at ht
          by_cases c1 : t = 1
          · rw [if_pos c1] at ht
            have := Option.some.inj ht
            exact ⟨Or.inl (by omega), by omega, by omega⟩
          · rw [if_neg c1] at ht
            by_cases c2 : t = 4
            · rw [if_pos c2] at ht
              have := Option.some.inj ht
              exact ⟨Or.inl (by omega), by omega, by omega⟩
            · rw [if_neg c2] at ht
              by_cases c3 : ¬ t < 10 ∧ t < nI (10 + T.1)
              · rw [if_pos c3] at ht
                have e1 := Option.some.inj ht
                obtain ⟨j, hj, ej⟩ := nI_in8 (N := 10 + T.1) (by omega) (fun g => c3.1 (Int32.lt_trans g (by decide))) c3.2
                have hj10 : 10 ≤ j := by
                  by_cases g : j < 10
                  · exact absurd (show t < nI 10 by rw [ej]; exact (nI_ltI (by omega) (by omega)).mpr g) c3.1
                  · omega
                rw [ej, nc (by omega)] at e1
                exact ⟨Or.inr (Or.inl (by omega)), by omega, by omega⟩
              · rw [if_neg c3] at ht; cases ht
      by_cases hy : (¬ y < 0 ∧ y < 8) ∨ (¬ y < 100 ∧ y < 110)
      · rw [if_pos hy]
        cases hk : xkn (X i)
        · rw [if_neg (show ¬ false = true by decide)]; exact h
        · rw [if_pos rfl]
          cases hfa : m_fa (xfm (X i)) (xn (X i)) k with
          | none => rw [oy_n]; exact h
          | some p =>
            obtain ⟨hp, hfm⟩ := m_fa_some hfa
            rw [oy_s]
            obtain ⟨⟨m1, m2, m3, m4, m5, m6⟩, ⟨o1, o2, o3, o4⟩, o5⟩ := h.2 i hi
            obtain ⟨n0, fn, fmE, fv⟩ := o4 hk
            have hv := fv p hp hfm
            have up : ∀ s', mVs T (xn (X i)) (xK (X i)) s' → mInv T (nup X i (k_pl1 (X i) p s')) := fun s' hs' => h.upd ⟨⟨m1, m2, m3, m4, m5, m6⟩, ⟨o1, o2, o3, fun _ => ⟨n0, fn, fmE, fun q hq g => by
              show mVs T (xn (X i)) (xK (X i)) (nup (xfs (X i)) p s' q)
              by_cases e : q = p
              · subst e; rw [nup_at]; exact hs'
              · rw [nup_ne e]; exact fv q hq g⟩⟩, fun _ => o5 hk⟩
            obtain ⟨ty1, ty3, ty2⟩ := hty (xn (X i)) (xK (X i))
            unfold k_pl
            by_cases hpl : ¬ y < 0 ∧ y < 8
            · rw [if_pos hpl]
              generalize y.toNatClampNeg = j
              by_cases c : ¬ j < xpc (X i) ∨ (xfs (X i) p).1 j = 2 ∨ (xfs (X i) p).1 j = 3
              · rw [if_pos c]; exact h
              · rw [if_neg c]
                refine up _ ⟨fun x hx => ?_, hv.2.1, hv.2.2.1, fun x hx => ⟨fun g => ?_, fun g => ?_⟩⟩
                · show mTy T (xn (X i)) (xK (X i)) (nup (xfs (X i) p).1 j ty x)
                  by_cases e : x = j
                  · subst e; rw [nup_at]; exact ty1
                  · rw [nup_ne e]; exact hv.1 x hx
                · have g' : nup (xfs (X i) p).1 j ty x = 3 := g
                  by_cases e : x = j
                  · subst e; rw [nup_at] at g'; exact absurd g' ty3
                  · rw [nup_ne e] at g'
                    obtain ⟨q1, q2⟩ := (hv.2.2.2 x hx).1 g'
                    refine ⟨q1, ?_⟩
                    show nup (xfs (X i) p).1 j ty (x - 1) = 2
                    rw [nup_ne (fun e2 => by rw [e2] at q2; omega)]; exact q2
                · have g' : nup (xfs (X i) p).1 j ty x = 2 := g
                  by_cases e : x = j
                  · subst e; rw [nup_at] at g'; exact absurd g' ty2
                  · rw [nup_ne e] at g'
                    obtain ⟨q1, q2⟩ := (hv.2.2.2 x hx).2 g'
                    refine ⟨q1, ?_⟩
                    show nup (xfs (X i) p).1 j ty (x + 1) = 3
                    rw [nup_ne (fun e2 => by rw [e2] at q2; omega)]; exact q2
            · rw [if_neg hpl]
              generalize y.toNatClampNeg - 100 = j
              by_cases c : ¬ j < (xfs (X i) p).2.1 ∨ (xfs (X i) p).2.2 j = 2 ∨ ty = 0
              · rw [if_pos c]; exact h
              · rw [if_neg c]
                refine up _ ⟨hv.1, fun x hx => ?_, ?_, hv.2.2.2⟩
                · show mTy T (xn (X i)) (xK (X i)) (nup (xfs (X i) p).2.2 j ty x) ∧ nup (xfs (X i) p).2.2 j ty x ≠ 3
                  by_cases e : x = j
                  · subst e; rw [nup_at]; exact ⟨ty1, ty3⟩
                  · rw [nup_ne e]; exact hv.2.1 x hx
                · have hw : mHw ((xfs (X i) p).1, (xfs (X i) p).2.1, nup (xfs (X i) p).2.2 j ty) (xfs (X i) p) := ⟨rfl, fun x hx => by
                    show nup (xfs (X i) p).2.2 j ty x = 2 ↔ (xfs (X i) p).2.2 x = 2
                    by_cases e : x = j
                    · subst e; rw [nup_at]; exact ⟨fun g => absurd g ty2, fun g => by omega⟩
                    · rw [nup_ne e]⟩
                  rw [hw.w]; exact hv.2.2.1
      · rw [if_neg hy]; exact h
end IV
