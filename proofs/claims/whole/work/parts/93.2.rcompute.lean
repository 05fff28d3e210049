/-! the reference: compute -/
def fV (A i : Nat) (I I' : zI) : Prop := (∀ k, k ≠ 20 → k ≠ 21 → k ≠ 24 → I' A k = I A k) ∧ (∀ b, b ≠ A → (b < A + 15 ∨ A + 26 ≤ b) → I' b = I b) ∧ (∀ k, k ≠ i → I' (A + 15) k = I (A + 15) k) ∧ (∀ k, (k < 40 * i ∨ 40 * i + 40 ≤ k) → I' (A + 16) k = I (A + 16) k) ∧ (∀ k, (k < 800 * i ∨ 800 * i + 800 ≤ k) → I' (A + 17) k = I (A + 17) k) ∧ (∀ k, (k < 40 * i ∨ 40 * i + 40 ≤ k) → I' (A + 18) k = I (A + 18) k) ∧ (∀ k, (k < 800 * i ∨ 800 * i + 800 ≤ k) → I' (A + 19) k = I (A + 19) k)
theorem fV.rf {A i : Nat} {I : zI} : fV A i I I := ⟨fun _ _ _ _ => rfl, fun _ _ _ => rfl, fun _ _ => rfl, fun _ _ => rfl, fun _ _ => rfl, fun _ _ => rfl, fun _ _ => rfl⟩
theorem fV.tr {A i : Nat} {I I1 I2 : zI} (h : fV A i I I1) (g : fV A i I1 I2) : fV A i I I2 := ⟨fun k a b c => (g.1 k a b c).trans (h.1 k a b c), fun b b1 b2 => (g.2.1 b b1 b2).trans (h.2.1 b b1 b2), fun k hk => (g.2.2.1 k hk).trans (h.2.2.1 k hk), fun k hk => (g.2.2.2.1 k hk).trans (h.2.2.2.1 k hk), fun k hk => (g.2.2.2.2.1 k hk).trans (h.2.2.2.2.1 k hk), fun k hk => (g.2.2.2.2.2.1 k hk).trans (h.2.2.2.2.2.1 k hk), fun k hk => (g.2.2.2.2.2.2 k hk).trans (h.2.2.2.2.2.2 k hk)⟩
theorem fV.upA {A i k : Nat} {I : zI} {x : Int32} (hk : k = 20 ∨ k = 21 ∨ k = 24) : fV A i I (z_up I A k x) := ⟨fun j a b c => z_up_ne (Or.inr (by omega)), fun b b1 _ => z_up_off b1, fun _ _ => by rw [z_up_off (by omega)], fun _ _ => by rw [z_up_off (by omega)], fun _ _ => by rw [z_up_off (by omega)], fun _ _ => by rw [z_up_off (by omega)], fun _ _ => by rw [z_up_off (by omega)]⟩
theorem fV.up15 {A i : Nat} {I : zI} {x : Int32} : fV A i I (z_up I (A + 15) i x) := ⟨fun j a b c => by rw [z_up_off (by omega)], fun b b1 b2 => z_up_off (by omega), fun _ h => z_up_ne (Or.inr h), fun _ _ => by rw [z_up_off (by omega)], fun _ _ => by rw [z_up_off (by omega)], fun _ _ => by rw [z_up_off (by omega)], fun _ _ => by rw [z_up_off (by omega)]⟩
/-- only some of the cells A+16 .. A+25 have changed, and of the first four the method's block -/
theorem fV.of {A i : Nat} {I I' : zI} (h : ∀ b, (b < A + 16 ∨ A + 26 ≤ b) → I' b = I b) (h16 : ∀ k, (k < 40 * i ∨ 40 * i + 40 ≤ k) → I' (A + 16) k = I (A + 16) k) (h17 : ∀ k, (k < 800 * i ∨ 800 * i + 800 ≤ k) → I' (A + 17) k = I (A + 17) k) (h18 : ∀ k, (k < 40 * i ∨ 40 * i + 40 ≤ k) → I' (A + 18) k = I (A + 18) k) (h19 : ∀ k, (k < 800 * i ∨ 800 * i + 800 ≤ k) → I' (A + 19) k = I (A + 19) k) : fV A i I I' := ⟨fun k _ _ _ => by rw [h A (by omega)], fun b b1 b2 => h b (by omega), fun k _ => by rw [h _ (by omega)], h16, h17, h18, h19⟩
theorem fWk.toV {A i : Nat} {I I' : zI} (h : fWk A i I I') : fV A i I I' := ⟨fun k _ _ c => h.2.1 k c, fun b b1 b2 => h.1 b b1 (by omega) (by omega) (by omega) (by omega) (by omega) (by omega), fun k _ => by rw [h.1 _ (by omega) (by omega) (by omega) (by omega) (by omega) (by omega) (by omega)], h.2.2.1, h.2.2.2, fun k _ => by rw [h.1 _ (by omega) (by omega) (by omega) (by omega) (by omega) (by omega) (by omega)], fun k _ => by rw [h.1 _ (by omega) (by omega) (by omega) (by omega) (by omega) (by omega) (by omega)]⟩
theorem fV.toR {A i : Nat} {I I' : zI} (h : fV A i I I') : fR A i I I' := by
  obtain ⟨a1, a2, a3, a4, a5, a6, a7⟩ := h
  refine ⟨a1 0 (by omega) (by omega) (by omega), a2 _ (by omega) (by omega), a2 _ (by omega) (by omega), fun a h1 h2 k hk => ?_, fun b hb => a2 b (by omega) (by omega)⟩
  by_cases c : a < 15
  · rw [a2 (A + a) (by omega) (by omega)]
  · have : a = 15 ∨ a = 16 ∨ a = 17 ∨ a = 18 ∨ a = 19 := by omega
    rcases this with rfl | rfl | rfl | rfl | rfl
    · exact a3 k (by rw [show rWd 15 = 1 from rfl] at hk; omega)
    · exact a4 k (by rw [show rWd 16 = 40 from rfl] at hk; exact hk)
    · exact a5 k (by rw [show rWd 17 = 800 from rfl] at hk; exact hk)
    · exact a6 k (by rw [show rWd 18 = 40 from rfl] at hk; exact hk)
    · exact a7 k (by rw [show rWd 19 = 800 from rfl] at hk; exact hk)
theorem rM.toWk {S : zS} {I J : zI} {A i : Nat} {T : mTr} {x : mM} (hL : rL S A) (hT : rT I A T) (hi : i < 8) (hx : mMs T x) (h : rM I A i x) (h21 : J A 21 = nI i) (h0 : J A 0 = I A 0) (ho : ∀ a, 1 ≤ a → a ≤ 14 → J (A + a) = I (A + a)) : rWk S J A i T (xpc x) (xn x) (xK x) (xgn x) (xG x) := by
  obtain ⟨m1, m2, m3, m4, m5, m6⟩ := hx
  obtain ⟨⟨a1, a2, a3, a4, a5⟩, b, c, d, _⟩ := h
  refine ⟨⟨hL, hT.kept h0 (ho 1 (by omega) (by omega)) (ho 2 (by omega) (by omega)), ⟨h21, hi⟩, ⟨by rw [ho 3 (by omega) (by omega)]; exact a1, m3.2⟩, m1, fun p hp => ⟨m5 p hp, ?_⟩⟩, by rw [ho 6 (by omega) (by omega)]; exact a3, ⟨by rw [ho 10 (by omega) (by omega)]; exact a4, m2⟩, fun j hj => ⟨m6 j hj, ?_⟩⟩
  · rw [ho 7 (by omega) (by omega), ho 8 (by omega) (by omega), ho 9 (by omega) (by omega)]; exact c p hp
  · rw [ho 11 (by omega) (by omega), ho 12 (by omega) (by omega), ho 13 (by omega) (by omega), ho 14 (by omega) (by omega)]; exact d j hj
/-- what is told of a method stays -/
theorem rM.told {I J : zI} {A i : Nat} {x y : mM} (h : rM I A i x) (ho : ∀ a, 1 ≤ a → a ≤ 14 → J (A + a) = I (A + a)) (e1 : y.1 = x.1) (e2 : y.2.1 = x.2.1) (e3 : y.2.2.1 = x.2.2.1) (h15 : J (A + 15) i = b2i (xkn y)) (hk : xkn y = true → rK J A i y) : rM J A i y := by
  obtain ⟨⟨a1, a2, a3, a4, a5⟩, b, c, d, _⟩ := h
  obtain ⟨y1, y2, y3, y4⟩ := y
  have e1' : y1 = x.1 := e1
  have e2' : y2 = x.2.1 := e2
  have e3' : y3 = x.2.2.1 := e3
  subst e1' e2' e3'
  refine ⟨⟨?_, ?_, ?_, ?_, h15⟩, fun y hy => ?_, fun p hp => ?_, fun j hj => ?_, hk⟩
  · rw [ho 3 (by omega) (by omega)]; exact a1
  · rw [ho 4 (by omega) (by omega)]; exact a2
  · rw [ho 6 (by omega) (by omega)]; exact a3
  · rw [ho 10 (by omega) (by omega)]; exact a4
  · rw [ho 5 (by omega) (by omega)]; exact b y hy
  · rw [ho 7 (by omega) (by omega), ho 8 (by omega) (by omega), ho 9 (by omega) (by omega)]; exact c p hp
  · rw [ho 11 (by omega) (by omega), ho 12 (by omega) (by omega), ho 13 (by omega) (by omega), ho 14 (by omega) (by omega)]; exact d j hj
theorem ix0 {α : Type} {S : zS} {a n : Nat} {e : Option α} (hn : (S.2.1 a).2 = n) (hj : 0 < n) (h31 : n < 2 ^ 31) : (if (0 : Int32) < 0 ∨ (S.2.1 a).2 ≤ (0 : Int32).toNatClampNeg then none else e) = e := ixk (j := 0) hn hj h31
section RCO
variable {F : Nat} {S : zS} {I : zI} {A : Nat} {T : mTr} {X : Nat → mM} {f : Nat}
theorem r_compute (hF : 30000 ≤ F) (hA : rAll S I A T X f) (hX : ∀ j, j < 8 → mSz (X j)) (hM : ∀ j, j < 8 → mMs T (X j)) (hO : ∀ j, j < 8 → mOk T (X j)) (a : Int32) : ∃ I', z_X9_compute F S I A a = some ((k_compute T X f a).1, I') ∧ rAll S I' A T (k_compute T X f a).2.1 (k_compute T X f a).2.2 ∧ fY A I I' := by
  have hL := hA.1
  unfold z_X9_compute k_compute
  rw [ob_mk (r_isM_c a)]
  refine ix_cases a 8 (by omega) (fun h e => ?_) (fun i hi ea e => ?_)
  · rw [e, oy_n, oy_n, if_pos rfl]; exact ⟨I, rfl, hA, fY.rf⟩
  · have hR := hA.2.2.1 i hi
    have hms := hM i hi
    obtain ⟨m1, m2, m3, m4, m5, m6⟩ := hM i hi
    obtain ⟨o1, o2, o3, _⟩ := hO i hi
    rw [e, oy_s, oy_s, if_neg (show ¬ (1 : Int32) = 0 by decide), ea, ob_mk hL.f6, ixk hL.n6 hi (by omega), nc (by omega), hR.1.2.2.1]
    by_cases hn : xn (X i) = 0
    · rw [if_pos (show nI (xn (X i)) = 0 by rw [hn]; rfl), if_pos hn]; exact ⟨I, rfl, hA, fY.rf⟩
    · rw [if_neg (fun d => hn ((nI_eq (by omega) (by omega)).mp (d.trans nl0))), if_neg hn, ob_mk hL.f15, ixc hL.n15 hi (by omega)]
      obtain ⟨r, hr⟩ : ∃ r, m_cp T (X i) = some r := m_run_ends hA.2.1.2.1 24641 _ (m_c0_I (by rw [o1]; omega)) (by have := m_ph_max (C := m_c0 (xbg (X i))) m1 (m_c0_I (by rw [o1]; omega)); show m_ph (xn (X i)) (m_c0 (xbg (X i))) < 24641; omega)
      rw [hr]
      dsimp only
      generalize hJ0 : z_up (z_up I A 21 (nI i)) (A + 15) i 0 = J0
      have v0 : fV A i I J0 := by rw [← hJ0]; exact (fV.upA (by omega)).tr fV.up15
      have j021 : J0 A 21 = nI i := by rw [← hJ0, z_up_off (by omega), z_up_at]
      obtain ⟨J1, c1, c2, c3, c4⟩ := r_c32 (F := F) hL hi (I := J0) F 40 0 J0 (by omega) (by omega) (fun q hq => absurd hq (Nat.not_lt_zero _)) (fun _ _ _ _ => rfl) (fun _ _ => ⟨rfl, rfl⟩)
      have v1 : fV A i J0 J1 := fV.of (fun b hb => c3 b (by omega) (by omega) (by omega)) (fun k hk => (c4 k hk).1) (fun k _ => by rw [c3 _ (by omega) (by omega) (by omega)]) (fun k hk => (c4 k hk).2) (fun k _ => by rw [c3 _ (by omega) (by omega) (by omega)])
      have c1' : z_X9_compute_32 F S F A (nI i) 0 J0 = _ := c1
      rw [c1']
      have v01 := v0.tr v1
      have j121 : J1 A 21 = nI i := by rw [c3 A (by omega) (by omega) (by omega)]; exact j021
      have o1' : ∀ a, 1 ≤ a → a ≤ 14 → J1 (A + a) = I (A + a) := fun a h1 h2 => v01.2.1 _ (by omega) (by omega)
      unfold z_X9_compute_32B
      rw [if_neg (show ¬ nI 40 < 40 by decide), ob_mk hL.f23]
      obtain ⟨J2, d1, d2, d3⟩ := r_beg (F := F) (I := J1) (x1 := A + 21) (bg := xbg (X i)) (by omega) hL j121 hi (by rw [o1' 4 (by omega) (by omega)]; exact hR.1.2.1) (by omega) (fun y hy => by rw [o1' 5 (by omega) (by omega)]; exact hR.2.1 y hy) o2 o1 (Or.inr rfl) hL.n23
      have v2 : fV A i J1 J2 := fV.of (fun b hb => d3 b (by omega)) (fun k _ => by rw [d3 _ (by omega)]) (fun k _ => by rw [d3 _ (by omega)]) (fun k _ => by rw [d3 _ (by omega)]) (fun k _ => by rw [d3 _ (by omega)])
      rw [ob_mk d1, ob_mk hL.f16, nl40, pk_mul, ixk hL.n16 (by omega) (by omega), nc (by omega), ob_mk hL.f17, nl800, pk_mul]
      generalize hJ3 : z_up J2 (A + 16) (40 * i) 1 = J3
      have v3 : fV A i J2 J3 := by
        rw [← hJ3]
        exact fV.of (fun b hb => z_up_off (by omega)) (fun k hk => z_up_ne (Or.inr (by omega))) (fun k _ => by rw [z_up_off (by omega)]) (fun k _ => by rw [z_up_off (by omega)]) (fun k _ => by rw [z_up_off (by omega)])
      obtain ⟨J4, e1, e2, e3, e4⟩ := r_copy (F := F) (I := J3) (i := 0) (j := 800 * i) (by omega) hL.n23 hL.n17 (by omega) (by omega) (by omega) (by omega) (show A + 21 ≠ A + 17 by omega)
      have v4 : fV A i J3 J4 := fV.of (fun b hb => e4 b (by omega)) (fun k _ => by rw [e4 _ (by omega)]) (fun k hk => e3 k (by omega)) (fun k _ => by rw [e4 _ (by omega)]) (fun k _ => by rw [e4 _ (by omega)])
      rw [ob_mk (show z_X9_copy F S J3 (A + 21) 0 (A + 17) (nI (800 * i)) = some J4 from e1), ob_mk hL.f25, ix0 hL.n25 (by omega) (by omega), tn0]
      generalize hJ5 : z_up J4 (A + 22) 0 1 = J5
      have v5 : fV A i J4 J5 := by
        rw [← hJ5]
        exact fV.of (fun b hb => z_up_off (by omega)) (fun k hk => by rw [z_up_off (by omega)]) (fun k _ => by rw [z_up_off (by omega)]) (fun k _ => by rw [z_up_off (by omega)]) (fun k _ => by rw [z_up_off (by omega)])
      have v := (((v01.tr v2).tr v3).tr v4).tr v5
      have j5a : ∀ b, b ≠ A + 16 → b ≠ A + 17 → b ≠ A + 21 → b ≠ A + 22 → J5 b = J1 b := fun b b1 b2 b3 b4 => by rw [← hJ5, z_up_off b4, e4 b b2, ← hJ3, z_up_off b1, d3 b b3]
      have hC5 : rC J5 A i (xn (X i)) (m_c0 (xbg (X i))) := fun q hq => by
        refine ⟨?_, ?_, fun g => ?_⟩
        · show J5 (A + 16) (40 * i + q) = b2i (nup (fun _ => false) 0 true q)
          rw [← hJ5, z_up_off (by omega), e4 _ (by omega), ← hJ3]
          by_cases c : q = 0
          · subst c
            show z_up J2 (A + 16) (40 * i) 1 (A + 16) (40 * i) = _
            rw [z_up_at, nup_at]; rfl
          · rw [z_up_ne (Or.inr (by omega)), nup_ne c, d3 _ (by omega), (c2 q (by omega)).1]; rfl
        · show J5 (A + 22) q = b2i (nup (fun _ => false) 0 true q)
          rw [← hJ5]
          by_cases c : q = 0
          · subst c; rw [z_up_at, nup_at]; rfl
          · rw [z_up_ne (Or.inr c), nup_ne c, e4 _ (by omega), ← hJ3, z_up_off (by omega), d3 _ (by omega), (c2 q (by omega)).2.2]; rfl
        · have g' : nup (fun _ => false) 0 true q = true := g
          have c : q = 0 := by
            by_cases c : q = 0
            · exact c
            · rw [nup_ne c] at g'; cases g'
          subst c
          show rSn J5 (A + 17) (20 * (40 * i + 0)) (nup (fun _ => xbg (X i)) 0 (xbg (X i)) 0)
          rw [nup_at, show 20 * (40 * i + 0) = 800 * i by omega]
          exact ((d2.kept (I' := J3) (by rw [← hJ3, z_up_off (by omega)])).copy (by omega) e2).kept (by rw [← hJ5, z_up_off (by omega)])
      have j521 : J5 A 21 = nI i := by rw [j5a A (by omega) (by omega) (by omega) (by omega)]; exact j121
      have hW5 := hR.toWk (J := J5) hL hA.2.1 hi hms j521 (v.1 0 (by omega) (by omega) (by omega)) (fun a h1 h2 => v.2.1 _ (by omega) (by omega))
      have hb5 : mVs T (xn (X i)) (xK (X i)) (xbg (X i)) := o3.bg
      have hi0 : mRi T (xpc (X i)) (xn (X i)) (xK (X i)) (xgn (X i)) (xG (X i)) (xus (X i)) (0, xus (X i), m_c0 (xbg (X i))) := mRi.c0 hb5
      obtain ⟨J6, w1, w2, w3⟩ := r_run_lp (F := F) (by omega) 24641 F (0, xus (X i), m_c0 (xbg (X i))) J5 r (by omega) hr hW5 hC5 hi0.2.1 hi0.1
      have hld : m_ld (m_c0 (xbg (X i))).2.1 (xn (X i)) 0 = some 0 := by
        obtain ⟨n', hn'⟩ : ∃ n', xn (X i) = n' + 1 := ⟨xn (X i) - 1, by omega⟩
        rw [hn']
        show (if nup (fun _ => false) 0 true 0 = true then some 0 else _) = some 0
        rw [nup_at, if_pos rfl]
      have hld' : m_oi (m_ld (0, xus (X i), m_c0 (xbg (X i))).2.2.2.1 (xn (X i)) 0) = (0 : Int32) := by
        show m_oi (m_ld (m_c0 (xbg (X i))).2.1 (xn (X i)) 0) = (0 : Int32)
        rw [hld]; rfl
      rw [hld'] at w2 w3
      have v6 := v.tr w1.toV
      by_cases hz : r.1 = 0
      · obtain ⟨hC6, hlay⟩ := w2 hz
        rw [if_pos hz, hlay]
        obtain ⟨fin1, fin2⟩ := mRi.run hA.2.1.2.1 m3.2 m5 m6 24641 _ r hi0 hr hz
        have hfn := fin1.fin fin2
        generalize hJ7 : z_up (z_up J6 A 20 0) (A + 15) i 1 = J7
        have v7 : fV A i J6 J7 := by rw [← hJ7]; exact (fV.upA (by omega)).tr fV.up15
        have v67 := v6.tr v7
        have o7 : ∀ b, b ≠ A → b ≠ A + 15 → J7 b = J6 b := fun b b1 b2 => by rw [← hJ7, z_up_off b2, z_up_off b1]
        have hW7 := hR.toWk (J := J7) hL hA.2.1 hi hms (by rw [← hJ7, z_up_off (by omega), z_up_ne (Or.inr (by omega)), w1.2.1 21 (by omega)]; exact j521) (v67.1 0 (by omega) (by omega) (by omega)) (fun a h1 h2 => v67.2.1 _ (by omega) (by omega))
        obtain ⟨J8, l1, l2, l3, l4, l5⟩ := r_lay (F := F) (J := J7) (C := r.2.2.2.2) (by omega) hW7 (fun q hq => by rw [o7 _ (by omega) (by omega)]; exact (hC6 q hq).1) (fun q hq g => ((hC6 q hq).2.2 g).kept (o7 _ (by omega) (by omega))) (fun q hq => by
          rw [o7 _ (by omega) (by omega), w1.1 _ (by omega) (by omega) (by omega) (by omega) (by omega) (by omega) (by omega), j5a _ (by omega) (by omega) (by omega) (by omega), (c2 q hq).2.1]; rfl) hfn.1 hfn.2.1
        have v8 : fV A i J7 J8 := fV.of (fun b hb => l3 b (by omega) (by omega)) (fun k _ => by rw [l3 _ (by omega) (by omega)]) (fun k _ => by rw [l3 _ (by omega) (by omega)]) l4 l5
        have v78 := v67.tr v8
        rw [ob_mk l1]
        refine ⟨J8, rfl, hA.upd hX v78.toR (hR.told (fun a h1 h2 => v78.2.1 _ (by omega) (by omega)) rfl rfl rfl ?_ (fun _ p hp => ?_)) ?_, v78.toR.2.2.2.2⟩
        · rw [l3 _ (by omega) (by omega), ← hJ7, z_up_at]; rfl
        · obtain ⟨u1, u2, u3⟩ := hC6 p hp
          have u18 : J8 (A + 16) = J6 (A + 16) := by rw [l3 _ (by omega) (by omega), o7 _ (by omega) (by omega)]
          have u17 : J8 (A + 17) = J6 (A + 17) := by rw [l3 _ (by omega) (by omega), o7 _ (by omega) (by omega)]
          exact ⟨by rw [u18]; exact u1, fun g => (u3 g).kept u17, (l2 p hp).1, (l2 p hp).2⟩
        · rw [l3 _ (by omega) (by omega), ← hJ7, z_up_off (by omega), z_up_at]; rfl
      · rw [if_neg hz, w3 hz]
        have v7 := v6.tr (fV.upA (k := 20) (x := nI r.1) (by omega))
        refine ⟨_, rfl, hA.upd hX v7.toR (hR.told (fun a h1 h2 => v7.2.1 _ (by omega) (by omega)) rfl rfl rfl ?_ (fun g => absurd g (by show ¬ false = true; decide))) (z_up_at _ _ _ _), v7.toR.2.2.2.2⟩
        rw [z_up_off (by omega), w1.1 _ (by omega) (by omega) (by omega) (by omega) (by omega) (by omega) (by omega), j5a _ (by omega) (by omega) (by omega) (by omega), c3 _ (by omega) (by omega) (by omega), ← hJ0, z_up_at]; rfl
end RCO
