/-! the reference: a call on one method leaves the others -/
def rWd (a : Nat) : Nat := if a = 3 ∨ a = 4 ∨ a = 6 ∨ a = 10 ∨ a = 15 then 1 else if a = 5 then 8 else if 11 ≤ a ∧ a ≤ 14 then 4 else if a = 17 ∨ a = 19 then 800 else 40
def fR (A i : Nat) (I I' : zI) : Prop := I' A 0 = I A 0 ∧ I' (A + 1) = I (A + 1) ∧ I' (A + 2) = I (A + 2) ∧ (∀ a, 3 ≤ a → a ≤ 19 → ∀ k, (k < rWd a * i ∨ rWd a * i + rWd a ≤ k) → I' (A + a) k = I (A + a) k) ∧ fY A I I'
theorem fR.rf {A i : Nat} {I : zI} : fR A i I I := ⟨rfl, rfl, rfl, fun _ _ _ _ _ => rfl, fY.rf⟩
theorem fR.trans {A i : Nat} {I I1 I2 : zI} (h : fR A i I I1) (g : fR A i I1 I2) : fR A i I I2 := ⟨g.1.trans h.1, g.2.1.trans h.2.1, g.2.2.1.trans h.2.2.1, fun a h1 h2 k hk => (g.2.2.2.1 a h1 h2 k hk).trans (h.2.2.2.1 a h1 h2 k hk), h.2.2.2.2.trans g.2.2.2.2⟩
theorem fR.up {A i a k : Nat} {I I' : zI} {x : Int32} (h : fR A i I I') (h1 : 3 ≤ a) (h2 : a ≤ 19) (h3 : rWd a * i ≤ k) (h4 : k < rWd a * i + rWd a) : fR A i I (z_up I' (A + a) k x) := by
  refine ⟨by rw [z_up_off (by omega)]; exact h.1, by rw [z_up_off (by omega)]; exact h.2.1, by rw [z_up_off (by omega)]; exact h.2.2.1, fun a' g1 g2 k' hk => ?_, h.2.2.2.2.up (by omega) (by omega)⟩
  by_cases e : a' = a
  · subst e
    rw [z_up_ne (Or.inr (by omega))]; exact h.2.2.2.1 a' g1 g2 k' hk
  · rw [z_up_off (by omega)]; exact h.2.2.2.1 a' g1 g2 k' hk
theorem fR.upA {A i k : Nat} {I I' : zI} {x : Int32} (h : fR A i I I') (hk : k ≠ 0) : fR A i I (z_up I' A k x) := ⟨by rw [z_up_ne (Or.inr (by omega))]; exact h.1, by rw [z_up_off (by omega)]; exact h.2.1, by rw [z_up_off (by omega)]; exact h.2.2.1, fun a' g1 g2 k' hk => by rw [z_up_off (by omega)]; exact h.2.2.2.1 a' g1 g2 k' hk, h.2.2.2.2.up (by omega) (by omega)⟩
theorem fR.upW {A i a k : Nat} {I I' : zI} {x : Int32} (h : fR A i I I') (h1 : 20 ≤ a) (h2 : a ≤ 25) : fR A i I (z_up I' (A + a) k x) := ⟨by rw [z_up_off (by omega)]; exact h.1, by rw [z_up_off (by omega)]; exact h.2.1, by rw [z_up_off (by omega)]; exact h.2.2.1, fun a' g1 g2 k' hk => by rw [z_up_off (by omega)]; exact h.2.2.2.1 a' g1 g2 k' hk, h.2.2.2.2.up (by omega) (by omega)⟩
/-- sizes that the rows of the reference bear -/
def mSz (x : mM) : Prop := xus x ≤ 8 ∧ xn x ≤ 40 ∧ xgn x ≤ 4 ∧ xpc x ≤ 8 ∧ (xkn x = true → ∀ p, p < xn x → ((xC x).1 p = true → ((xC x).2.2 p).2.1 ≤ 10) ∧ (xfm x p = true → (xfs x p).2.1 ≤ 10))
theorem rSn.keptK {I I' : zI} {a o : Nat} {s : mSn} (h : rSn I a o s) (hs : s.2.1 ≤ 11) (e : ∀ k, o ≤ k → k < o + 20 → I' a k = I a k) : rSn I' a o s := ⟨fun x hx => by rw [e _ (by omega) (by omega)]; exact h.1 x hx, by rw [e _ (by omega) (by omega)]; exact h.2.1, fun j hj => by rw [e _ (by omega) (by omega)]; exact h.2.2 j hj⟩
theorem rM.other {A i j : Nat} {I I' : zI} {x : mM} (h : rM I A j x) (hz : mSz x) (hf : fR A i I I') (hne : j ≠ i) : rM I' A j x := by
  obtain ⟨z1, z2, z3, _, z4⟩ := hz
  obtain ⟨f0, f1, f2, f3, f4⟩ := hf
  obtain ⟨⟨a1, a2, a3, a4, a5⟩, b, c, d, e⟩ := h
  have w1 : ∀ a, 3 ≤ a → a ≤ 19 → rWd a = 1 → I' (A + a) j = I (A + a) j := fun a h1 h2 hw => f3 a h1 h2 j (by rw [hw]; omega)
  have w40 : ∀ a p, 3 ≤ a → a ≤ 19 → rWd a = 40 → p < 40 → I' (A + a) (40 * j + p) = I (A + a) (40 * j + p) := fun a p h1 h2 hw hp => f3 a h1 h2 _ (by rw [hw]; omega)
  have w4 : ∀ a p, 3 ≤ a → a ≤ 19 → rWd a = 4 → p < 4 → I' (A + a) (4 * j + p) = I (A + a) (4 * j + p) := fun a p h1 h2 hw hp => f3 a h1 h2 _ (by rw [hw]; omega)
  have w800 : ∀ a p k, 3 ≤ a → a ≤ 19 → rWd a = 800 → p < 40 → 20 * (40 * j + p) ≤ k → k < 20 * (40 * j + p) + 20 → I' (A + a) k = I (A + a) k := fun a p k h1 h2 hw hp k1 k2 => f3 a h1 h2 _ (by rw [hw]; omega)
  refine ⟨⟨?_, ?_, ?_, ?_, ?_⟩, fun y hy => ?_, fun p hp => ?_, fun p hp => ?_, fun hk p hp => ?_⟩
  · rw [w1 3 (by omega) (by omega) rfl]; exact a1
  · rw [w1 4 (by omega) (by omega) rfl]; exact a2
  · rw [w1 6 (by omega) (by omega) rfl]; exact a3
  · rw [w1 10 (by omega) (by omega) rfl]; exact a4
  · rw [w1 15 (by omega) (by omega) rfl]; exact a5
  · rw [f3 5 (by omega) (by omega) _ (by rw [show rWd 5 = 8 from rfl]; omega)]; exact b y hy
  · rw [w40 7 p (by omega) (by omega) rfl (by omega), w40 8 p (by omega) (by omega) rfl (by omega), w40 9 p (by omega) (by omega) rfl (by omega)]; exact c p hp
  · rw [w4 11 p (by omega) (by omega) rfl (by omega), w4 12 p (by omega) (by omega) rfl (by omega), w4 13 p (by omega) (by omega) rfl (by omega), w4 14 p (by omega) (by omega) rfl (by omega)]; exact d p hp
  · obtain ⟨e1, e2, e3, e4⟩ := e hk p hp
    have zz := z4 hk p hp
    rw [w40 16 p (by omega) (by omega) rfl (by omega), w40 18 p (by omega) (by omega) rfl (by omega)]
    exact ⟨e1, fun g => (e2 g).keptK (by have := zz.1 g; omega) (fun k k1 k2 => w800 17 p k (by omega) (by omega) rfl (by omega) k1 k2), e3, fun g => (e4 g).keptK (by have := zz.2 g; omega) (fun k k1 k2 => w800 19 p k (by omega) (by omega) rfl (by omega) k1 k2)⟩
theorem rAll.upd {S : zS} {I I' : zI} {A i : Nat} {T : mTr} {X : Nat → mM} {f f' : Nat} {y : mM} (hA : rAll S I A T X f) (hX : ∀ j, j < 8 → mSz (X j)) (hf : fR A i I I') (hy : rM I' A i y) (h20 : I' A 20 = nI f') : rAll S I' A T (nup X i y) f' := by
  refine ⟨hA.1, hA.2.1.kept hf.1 hf.2.1 hf.2.2.1, fun j hj => ?_, h20⟩
  by_cases e : j = i
  · subst e; rw [nup_at]; exact hy
  · rw [nup_ne e]; exact (hA.2.2.1 j hj).other (hX j hj) hf e
theorem m_brk0 {pl : Nat → Nat} {x : Nat} (h : pl x = 0) : m_brk pl x = pl := by
  have e : m_b1 pl x = pl := by unfold m_b1; rw [if_neg (by omega)]
  unfold m_brk; rw [e]; unfold m_b2; rw [if_neg (by omega)]
section RM
variable {F : Nat} {S : zS} {I : zI} {A : Nat} {T : mTr} {X : Nat → mM} {f : Nat}
theorem r_clear (hA : rAll S I A T X f) (hX : ∀ j, j < 8 → mSz (X j)) (a n : Int32) : ∃ I', z_X9_clear F S I A a n = some ((k_clear X a n).1, I') ∧ rAll S I' A T (k_clear X a n).2 f ∧ fY A I I' := by
  have hL := hA.1
  unfold z_X9_clear k_clear
  rw [ob_mk (r_isM_c a)]
  refine ix_cases a 8 (by omega) (fun h e => ?_) (fun i hi ea e => ?_)
  · rw [e, oy_n, oy_n, if_pos rfl]; exact ⟨I, rfl, hA, fY.rf⟩
  · rw [e, oy_s, oy_s, if_neg (show ¬ (1 : Int32) = 0 by decide), ob_mk (r_in n 1 8), b01]
    by_cases hn : n < 1 ∨ 8 < n
    · rw [if_neg (fun g => by rcases hn with hn | hn; exact g.1 hn; exact g.2 hn), if_pos hn]; exact ⟨I, rfl, hA, fY.rf⟩
    · have h1 : ¬ n < 1 := fun g => hn (Or.inl g)
      have hn0 : ¬ n < 0 := fun g => h1 (Int32.lt_trans g (by decide))
      obtain ⟨j, hj, en⟩ := nI_of hn0
      rw [if_pos ⟨h1, fun g => hn (Or.inr g)⟩, if_neg hn, ea, ob_mk hL.f6, ixk hL.n6 hi (by omega), ob_mk hL.f3, ixk hL.n3 hi (by omega), ob_mk hL.f4, ixk hL.n4 hi (by omega), ixk hL.n6 hi (by omega), ob_mk hL.f10, ixk hL.n10 hi (by omega), ob_mk hL.f15, ixk hL.n15 hi (by omega), nc (by omega), (hA.2.2.1 i hi).1.2.2.1]
      refine ⟨_, rfl, ?_⟩
      generalize hI' : z_up (z_up (z_up (z_up (z_up I (A + 3) i n) (A + 4) i 0) (A + 6) i 0) (A + 10) i 0) (A + 15) i 0 = I'
      have hR : fR A i I I' := by
        rw [← hI']
        exact ((((fR.rf.up (a := 3) (by omega) (by omega) (by rw [show rWd 3 = 1 from rfl]; omega) (by rw [show rWd 3 = 1 from rfl]; omega)).up (a := 4) (by omega) (by omega) (by rw [show rWd 4 = 1 from rfl]; omega) (by rw [show rWd 4 = 1 from rfl]; omega)).up (a := 6) (by omega) (by omega) (by rw [show rWd 6 = 1 from rfl]; omega) (by rw [show rWd 6 = 1 from rfl]; omega)).up (a := 10) (by omega) (by omega) (by rw [show rWd 10 = 1 from rfl]; omega) (by rw [show rWd 10 = 1 from rfl]; omega)).up (a := 15) (by omega) (by omega) (by rw [show rWd 15 = 1 from rfl]; omega) (by rw [show rWd 15 = 1 from rfl]; omega)
      refine ⟨hA.upd hX hR ⟨⟨?_, ?_, ?_, ?_, ?_⟩, fun y hy => absurd hy (Nat.not_lt_zero _), fun y hy => absurd hy (Nat.not_lt_zero _), fun y hy => absurd hy (Nat.not_lt_zero _), fun g => absurd g (by show ¬ false = true; decide)⟩ ?_, hR.2.2.2.2⟩
      · rw [← hI', z_up_off (by omega), z_up_off (by omega), z_up_off (by omega), z_up_off (by omega), z_up_at]
        show n = nI n.toNatClampNeg
        rw [en, nc hj]
      · rw [← hI', z_up_off (by omega), z_up_off (by omega), z_up_off (by omega), z_up_at]; rfl
      · rw [← hI', z_up_off (by omega), z_up_off (by omega), z_up_at]; rfl
      · rw [← hI', z_up_off (by omega), z_up_at]; rfl
      · rw [← hI', z_up_at]; rfl
      · rw [← hI', z_up_off (by omega), z_up_off (by omega), z_up_off (by omega), z_up_off (by omega), z_up_off (by omega)]; exact hA.2.2.2
theorem r_arg57 (hA : rAll S I A T X f) (hX : ∀ j, j < 8 → mSz (X j)) (hbg : ∀ j, j < 8 → ∀ y, xus (X j) ≤ y → (xbg (X j)).1 y = 0) {i : Nat} (hi : i < 8) {ty : Nat} (hty : ty < 200) (ht3 : ty ≠ 3) {t : Int32} (et : t = nI ty) :
    ∃ I', z_X9_argument_57 F S A (nI i) t (nI (m_t ty)) I = some ((if xpc (X i) < xus (X i) + m_t ty then ((-2 : Int32), X) else (nI (xus (X i)), nup X i (k_arg1 (X i) ty))).1, I') ∧ rAll S I' A T (if xpc (X i) < xus (X i) + m_t ty then ((-2 : Int32), X) else (nI (xus (X i)), nup X i (k_arg1 (X i) ty))).2 f ∧ fY A I I' := by
  have hL := hA.1
  have hM := hA.2.2.1 i hi
  obtain ⟨z1, z2, z3, z5, z4⟩ := hX i hi
  have hmt := m_t_pos ty
  unfold z_X9_argument_57
  rw [ob_mk hL.f4, ixk hL.n4 hi (by omega), ob_mk hL.f3, ixk hL.n3 hi (by omega), nc (by omega), hM.1.1, hM.1.2.1, nI_add]
  by_cases hf : xpc (X i) < xus (X i) + m_t ty
  · rw [if_pos ((nI_ltI (by omega) (by omega)).mpr hf), if_pos hf]; exact ⟨I, rfl, hA, fY.rf⟩
  · rw [if_neg (fun d => hf ((nI_ltI (by omega) (by omega)).mp d)), if_neg hf, ixc hL.n4 hi (by omega), ob_mk hL.f5, nl8, pk_mul, nI_add, nI_1, ixk hL.n5 (by omega) (by omega), nc (show 8 * i + xus (X i) < 2 ^ 31 by omega), nc (show 8 * i + xus (X i) + 1 < 2 ^ 31 by omega), et]
    have bg1 : m_brk (xbg (X i)).1 (xus (X i)) = (xbg (X i)).1 := m_brk0 (hbg i hi _ (Nat.le_refl _))
    have bg2 : m_brk (xbg (X i)).1 (xus (X i) + 1) = (xbg (X i)).1 := m_brk0 (hbg i hi _ (Nat.le_succ _))
    have key : ∀ J, fR A i I J → (∀ k, J A k = I A k) → (∀ a, a ≠ 5 → J (A + a) = I (A + a)) → (∀ y, y < xus (X i) + m_t ty → J (A + 5) (8 * i + y) = nI (m_sto (xbg (X i)).1 (xus (X i)) ty y)) → ∃ I', z_X9_argument_122 F S A (nI i) (nI (m_t ty)) (nI (xus (X i))) J = some (nI (xus (X i)), I') ∧ rAll S I' A T (nup X i (k_arg1 (X i) ty)) f ∧ fY A I I' := fun J hJ hJA hJo hJ5 => by
      unfold z_X9_argument_122
      rw [ob_mk hL.f4, ixk hL.n4 hi (by omega), ixk hL.n4 hi (by omega), ob_mk hL.f15, ixk hL.n15 hi (by omega), nc (by omega), hJo 4 (by omega), hM.1.2.1, nI_add]
      refine ⟨_, rfl, ?_⟩
      generalize hI' : z_up (z_up J (A + 4) i (nI (xus (X i) + m_t ty))) (A + 15) i 0 = I'
      have hR : fR A i I I' := by
        rw [← hI']
        exact (hJ.up (a := 4) (by omega) (by omega) (by rw [show rWd 4 = 1 from rfl]; omega) (by rw [show rWd 4 = 1 from rfl]; omega)).up (a := 15) (by omega) (by omega) (by rw [show rWd 15 = 1 from rfl]; omega) (by rw [show rWd 15 = 1 from rfl]; omega)
      have ho : ∀ a, a ≠ 4 → a ≠ 5 → a ≠ 15 → I' (A + a) = I (A + a) := fun a h4 h5 h15 => by rw [← hI', z_up_off (by omega), z_up_off (by omega)]; exact hJo a h5
      refine ⟨hA.upd hX hR ⟨⟨?_, ?_, ?_, ?_, ?_⟩, fun y hy => ?_, ?_, ?_, fun g => absurd g (by show ¬ false = true; decide)⟩ ?_, hR.2.2.2.2⟩
      · rw [ho 3 (by omega) (by omega) (by omega)]; exact hM.1.1
      · rw [← hI', z_up_off (by omega), z_up_at]; rfl
      · rw [ho 6 (by omega) (by omega) (by omega)]; exact hM.1.2.2.1
      · rw [ho 10 (by omega) (by omega) (by omega)]; exact hM.1.2.2.2.1
      · rw [← hI', z_up_at]; rfl
      · rw [← hI', z_up_off (by omega), z_up_off (by omega)]; exact hJ5 y hy
      · rw [ho 7 (by omega) (by omega) (by omega), ho 8 (by omega) (by omega) (by omega), ho 9 (by omega) (by omega) (by omega)]; exact hM.2.2.1
      · rw [ho 11 (by omega) (by omega) (by omega), ho 12 (by omega) (by omega) (by omega), ho 13 (by omega) (by omega) (by omega), ho 14 (by omega) (by omega) (by omega)]; exact hM.2.2.2.1
      · rw [← hI', z_up_off (by omega), z_up_off (by omega), hJA]; exact hA.2.2.2
    by_cases h2 : ty = 2
    · have e2 : m_t ty = 2 := by unfold m_t; rw [if_pos h2]
      have hf' : xus (X i) + 2 ≤ xpc (X i) := by omega
      rw [if_pos (show nI (m_t ty) = 2 by rw [e2]; rfl), ixc hL.n5 (by omega) (by omega)]
      refine key _ ((fR.rf.up (a := 5) (by omega) (by omega) (by rw [show rWd 5 = 8 from rfl]; omega) (by rw [show rWd 5 = 8 from rfl]; omega)).up (a := 5) (by omega) (by omega) (by rw [show rWd 5 = 8 from rfl]; omega) (by rw [show rWd 5 = 8 from rfl]; omega)) (fun k => by rw [z_up_off (by omega), z_up_off (by omega)]) (fun a ha => by rw [z_up_off (by omega), z_up_off (by omega)]) (fun y hy => ?_)
      unfold m_sto
      rw [if_pos h2, bg1, bg2]
      by_cases y1 : y = xus (X i)
      · subst y1
        rw [nup_at, z_up_ne (Or.inr (by omega)), z_up_at, h2]
      · rw [nup_ne y1]
        by_cases y2 : y = xus (X i) + 1
        · subst y2
          rw [nup_at, show 8 * i + (xus (X i) + 1) = 8 * i + xus (X i) + 1 by omega, z_up_at]; rfl
        · rw [nup_ne y2, z_up_ne (Or.inr (by omega)), z_up_ne (Or.inr (by omega))]
          exact hM.2.1 y (by omega)
    · have e2 : m_t ty = 1 := by unfold m_t; rw [if_neg h2]
      rw [if_neg (show ¬ nI (m_t ty) = 2 by rw [e2]; decide)]
      refine key _ (fR.rf.up (a := 5) (by omega) (by omega) (by rw [show rWd 5 = 8 from rfl]; omega) (by rw [show rWd 5 = 8 from rfl]; omega)) (fun k => by rw [z_up_off (by omega)]) (fun a ha => by rw [z_up_off (by omega)]) (fun y hy => ?_)
      unfold m_sto
      rw [if_neg h2, bg1]
      by_cases y1 : y = xus (X i)
      · subst y1
        rw [nup_at, z_up_at]
      · rw [nup_ne y1, z_up_ne (Or.inr (by omega))]
        exact hM.2.1 y (by omega)
theorem r_arg (hA : rAll S I A T X f) (hX : ∀ j, j < 8 → mSz (X j)) (hbg : ∀ j, j < 8 → ∀ y, xus (X j) ≤ y → (xbg (X j)).1 y = 0) (a t : Int32) : ∃ I', z_X9_argument F S I A a t = some ((k_arg T X a t).1, I') ∧ rAll S I' A T (k_arg T X a t).2 f ∧ fY A I I' := by
  have h16 := hA.2.1.2.1.2.1
  have k33 : ∀ z : Int32, z = 0 ∨ z = 1 → ∀ ty, ty < 200 → ty ≠ 3 → t = nI ty → ∃ I', z_X9_argument_33 F S A a t z I = some ((oy (m_ix a 8) ((-1 : Int32), X) (fun i => if z = 0 then (-1, X) else if xpc (X i) < xus (X i) + m_t ty then ((-2 : Int32), X) else (nI (xus (X i)), nup X i (k_arg1 (X i) ty)))).1, I') ∧ rAll S I' A T (oy (m_ix a 8) ((-1 : Int32), X) (fun i => if z = 0 then (-1, X) else if xpc (X i) < xus (X i) + m_t ty then ((-2 : Int32), X) else (nI (xus (X i)), nup X i (k_arg1 (X i) ty)))).2 f ∧ fY A I I' := fun z hz ty hty ht3 et => by
    unfold z_X9_argument_33
    rw [ob_mk (r_isM_c a)]
    refine ix_cases a 8 (by omega) (fun h e => ?_) (fun i hi ea e => ?_)
    · rw [e, oy_n, oy_n, if_pos rfl]; exact ⟨I, rfl, hA, fY.rf⟩
    · rw [e, oy_s, oy_s, if_neg (show ¬ (1 : Int32) = 0 by decide)]
      by_cases z0 : z = 0
      · rw [if_pos z0, if_pos z0]; exact ⟨I, rfl, hA, fY.rf⟩
      · rw [if_neg z0, if_neg z0, ea]
        have k57 := r_arg57 (F := F) hA hX hbg hi hty ht3 et
        by_cases h2 : ty = 2
        · have e2 : m_t ty = 2 := by unfold m_t; rw [if_pos h2]
          rw [if_pos (show t = 2 by rw [et, h2]; rfl)]
          rw [e2] at k57 ⊢
          exact k57
        · have e2 : m_t ty = 1 := by unfold m_t; rw [if_neg h2]
          rw [if_neg (show ¬ t = 2 from fun d => h2 ((nI_eq (by omega) (by omega)).mp ((et.symm.trans d).trans nl2)))]
          rw [e2] at k57 ⊢
          exact k57
  unfold z_X9_argument k_arg m_aty
  by_cases h1 : t = 1
  · rw [if_pos h1, if_pos h1]
    have := k33 1 (Or.inr rfl) 1 (by omega) (by omega) h1
    simp only [oy_s, if_neg (show ¬ (1 : Int32) = 0 by decide)] at this ⊢
    exact this
  · rw [if_neg h1, if_neg h1]
    by_cases h2 : t = 2
    · rw [if_pos h2, if_pos h2]
      have := k33 1 (Or.inr rfl) 2 (by omega) (by omega) h2
      simp only [oy_s, if_neg (show ¬ (1 : Int32) = 0 by decide)] at this ⊢
      exact this
    · rw [if_neg h2, if_neg h2]
      have bad : ∃ I', z_X9_argument_33 F S A a t 0 I = some ((oy (m_ix a 8) ((-1 : Int32), X) (fun _ => (-1, X))).1, I') ∧ rAll S I' A T (oy (m_ix a 8) ((-1 : Int32), X) (fun _ => (-1, X))).2 f ∧ fY A I I' := by
        unfold z_X9_argument_33
        rw [ob_mk (r_isM_c a), if_pos (show (0 : Int32) = 0 from rfl)]
        refine ix_cases a 8 (by omega) (fun h e => ?_) (fun i hi ea e => ?_)
        · rw [e, oy_n, oy_n, if_pos rfl]; exact ⟨I, rfl, hA, fY.rf⟩
        · rw [e, oy_s, oy_s, if_neg (show ¬ (1 : Int32) = 0 by decide)]; exact ⟨I, rfl, hA, fY.rf⟩
      unfold z_X9_isObject
      by_cases h10 : t < 10
      · rw [if_pos h10, ob_mk rfl, if_pos rfl, if_neg (show ¬ (¬ t < 10 ∧ t < nI (10 + T.1)) from fun g => g.1 h10)]
        exact bad
      · rw [if_neg h10]
        have ht0 : ¬ t < 0 := fun g => h10 (Int32.lt_trans g (by decide))
        obtain ⟨j, hj, ej⟩ := nI_of ht0
        have hj10 : 10 ≤ j := by
          by_cases g : j < 10
          · exact absurd (show t < nI 10 by rw [ej]; exact (nI_ltI (by omega) (by omega)).mpr g) h10
          · omega
        by_cases h100 : t < 100
        · have hj100 : j < 100 := by
            have : t < nI 100 := h100
            rw [ej] at this
            exact (nI_ltI (by omega) (by omega)).mp this
          rw [if_pos h100, ob_mk rfl, if_neg (show ¬ (1 : Int32) = 0 by decide), ob_mk (r_isC hA.2.1 _), b01]
          have e10 : t - 10 = nI (j - 10) := by rw [ej, nl10, pk_sub hj10]
          rw [e10]
          by_cases hc : j < 10 + T.1
          · rw [if_pos ⟨nn (by omega), (nI_ltI (by omega) (by omega)).mpr (by omega)⟩, if_pos (show ¬ t < 10 ∧ t < nI (10 + T.1) from ⟨h10, by rw [ej]; exact (nI_ltI (by omega) (by omega)).mpr hc⟩)]
            have ec : t.toNatClampNeg = j := by rw [ej, nc hj]
            have := k33 1 (Or.inr rfl) j (by omega) (by omega) ej
            rw [ec]
            simp only [oy_s, if_neg (show ¬ (1 : Int32) = 0 by decide)] at this ⊢
            exact this
          · rw [if_neg (fun g => hc (by have := (nI_ltI (by omega) (by omega)).mp g.2; omega)), if_neg (show ¬ (¬ t < 10 ∧ t < nI (10 + T.1)) from fun g => hc ((nI_ltI (by omega) (by omega)).mp (by rw [← ej]; exact g.2)))]
            exact bad
        · rw [if_neg h100, ob_mk rfl, if_pos rfl, if_neg (show ¬ (¬ t < 10 ∧ t < nI (10 + T.1)) from fun g => h100 (Int32.lt_trans g.2 (show nI (10 + T.1) < nI 100 from (nI_ltI (by omega) (by omega)).mpr (by omega))))]
          exact bad
end RM
