/-! the reference: an act is worked -/
def rWk (S : zS) (I : zI) (A i : Nat) (T : mTr) (pc n : Nat) (K : Nat → mAc) (gn : Nat) (G : Nat → mGd) : Prop := rE S I A i T pc n K ∧ I (A + 6) i = nI n ∧ (I (A + 10) i = nI gn ∧ gn ≤ 4) ∧ ∀ j, j < gn → mGok T (G j) ∧ I (A + 11) (4 * i + j) = nI (G j).1 ∧ I (A + 12) (4 * i + j) = nI (G j).2.1 ∧ I (A + 13) (4 * i + j) = nI (G j).2.2.1 ∧ I (A + 14) (4 * i + j) = nI (G j).2.2.2
def fWk (A i : Nat) (I I' : zI) : Prop := (∀ b, b ≠ A → b ≠ A + 16 → b ≠ A + 17 → b ≠ A + 20 → b ≠ A + 21 → b ≠ A + 22 → b ≠ A + 23 → I' b = I b) ∧ (∀ k, k ≠ 24 → I' A k = I A k) ∧ (∀ k, (k < 40 * i ∨ 40 * i + 40 ≤ k) → I' (A + 16) k = I (A + 16) k) ∧ ∀ k, (k < 800 * i ∨ 800 * i + 800 ≤ k) → I' (A + 17) k = I (A + 17) k
theorem fWk.rf {A i : Nat} {I : zI} : fWk A i I I := ⟨fun _ _ _ _ _ _ _ _ => rfl, fun _ _ => rfl, fun _ _ => rfl, fun _ _ => rfl⟩
theorem fWk.trans {A i : Nat} {I I1 I2 : zI} (h : fWk A i I I1) (g : fWk A i I1 I2) : fWk A i I I2 := ⟨fun b b1 b2 b3 b4 b5 b6 b7 => (g.1 b b1 b2 b3 b4 b5 b6 b7).trans (h.1 b b1 b2 b3 b4 b5 b6 b7), fun k hk => (g.2.1 k hk).trans (h.2.1 k hk), fun k hk => (g.2.2.1 k hk).trans (h.2.2.1 k hk), fun k hk => (g.2.2.2 k hk).trans (h.2.2.2 k hk)⟩
theorem fK.toW {A i : Nat} {I I' : zI} (h : fK A i I I') : fWk A i I I' := ⟨fun b b1 b2 b3 _ _ b6 b7 => h.1 b b1 b2 b3 b6 b7, h.2.1, h.2.2.1, h.2.2.2⟩
theorem fN.toW {A i : Nat} {I I' : zI} (h : fN A I I') : fWk A i I I' := ⟨fun b b1 _ _ b4 _ _ _ => h.1 b b1 b4, h.2, fun k _ => by rw [h.1 _ (by omega) (by omega)], fun k _ => by rw [h.1 _ (by omega) (by omega)]⟩
theorem fWk.of1 {A i a : Nat} {I I' : zI} (ha : a = A + 20 ∨ a = A + 21) (h : ∀ b, b ≠ a → I' b = I b) : fWk A i I I' := ⟨fun b _ _ _ b4 b5 _ _ => h b (by omega), fun k _ => by rw [h A (by omega)], fun k _ => by rw [h _ (by omega)], fun k _ => by rw [h _ (by omega)]⟩
theorem rWk.keep {S : zS} {I I' : zI} {A i pc n gn : Nat} {T : mTr} {K : Nat → mAc} {G : Nat → mGd} (h : rWk S I A i T pc n K gn G) (f : fWk A i I I') : rWk S I' A i T pc n K gn G := by
  obtain ⟨⟨h1, h2, h3, h4, h5, h6⟩, g1, g2, g3⟩ := h
  have o : ∀ a, a < 16 → a ≠ 0 → I' (A + a) = I (A + a) := fun a ha h0 => f.1 _ (by omega) (by omega) (by omega) (by omega) (by omega) (by omega) (by omega)
  refine ⟨⟨h1, h2.kept (f.2.1 0 (by omega)) (o 1 (by omega) (by omega)) (o 2 (by omega) (by omega)), by rw [f.2.1 21 (by omega)]; exact h3, by rw [o 3 (by omega) (by omega)]; exact h4, h5, ?_⟩, by rw [o 6 (by omega) (by omega)]; exact g1, by rw [o 10 (by omega) (by omega)]; exact g2, ?_⟩
  · rw [o 7 (by omega) (by omega), o 8 (by omega) (by omega), o 9 (by omega) (by omega)]; exact h6
  · rw [o 11 (by omega) (by omega), o 12 (by omega) (by omega), o 13 (by omega) (by omega), o 14 (by omega) (by omega)]; exact g3
theorem rC.kp {I I' : zI} {A i n : Nat} {C : mC} (h : rC I A i n C) (e1 : I' (A + 16) = I (A + 16)) (e2 : I' (A + 22) = I (A + 22)) (e3 : I' (A + 17) = I (A + 17)) : rC I' A i n C := fun p hp => by
  obtain ⟨h1, h2, h3⟩ := h p hp
  exact ⟨by rw [e1]; exact h1, by rw [e2]; exact h2, fun g => (h3 g).kept e3⟩
section RWK
variable {F : Nat} {S : zS} {A i n pc gn : Nat} {T : mTr} {K : Nat → mAc} {G : Nat → mGd} {s : mSn}
theorem r_grd_lp (hF : 40 ≤ F) {p : Nat} (hp : p < 40) (hs : mVs T n K s) (kk : Int32) : ∀ (fuel m j : Nat) (J : zI) (C : mC), j + m = gn → m < fuel → rWk S J A i T pc n K gn G → rC J A i n C → mCv T n K C → J A 24 = nI 0 → rSn J (A + 20) 0 s → ∃ J', z_X9_works_38 F S fuel A (nI p) kk (nI (4 * i + j)) J = z_X9_works_97 F S A (nI p) kk J' ∧ J' A 24 = nI (m_grd T n G p s m j C).1 ∧ ((m_grd T n G p s m j C).1 = 0 → rC J' A i n (m_grd T n G p s m j C).2 ∧ mCv T n K (m_grd T n G p s m j C).2) ∧ fWk A i J J' ∧ J' (A + 20) = J (A + 20) := by
  intro fuel
  induction fuel with
  | zero => intro m j J C h1 h2; omega
  | succ fuel ih =>
    intro m j J C h1 h2 hW hC hCv h24 hsn
    have hW0 := hW
    obtain ⟨⟨hL, hT, ⟨e21, hi⟩, e3, hn40, hK⟩, e6, ⟨e10, hgn⟩, hG⟩ := hW
    have h16 := hT.2.1.2.1
    show ∃ J', z_X9_works_38B F S (z_X9_works_38 F S fuel) A (nI p) kk (nI (4 * i + j)) J = _ ∧ _
    unfold z_X9_works_38B
    rw [ob_mk hL.f10, e21, ixk hL.n10 hi (by omega), nc (by omega), e10, nl4, pk_mul, nI_add]
    cases m with
    | zero =>
      rw [if_neg (fun d => (by have := (nI_ltI (by omega) (by omega)).mp d; omega : False))]
      exact ⟨J, rfl, h24, fun _ => ⟨hC, hCv⟩, fWk.rf, rfl⟩
    | succ m =>
      obtain ⟨gok, q1, q2, q3, q4⟩ := hG j (by omega)
      obtain ⟨o1, o2, o3, o4⟩ := gok
      rw [if_pos ((nI_ltI (by omega) (by omega)).mpr (by omega)), h24, if_pos (show nI 0 = 0 from rfl), ob_mk (r_holds hL (by omega) (by omega) q1 q2 (by omega) (by omega)), b01, nI_1]
      simp only [m_grd]
      by_cases hh : (G j).1 ≤ p ∧ p < (G j).2.1
      · rw [if_pos hh, if_pos hh]
        obtain ⟨J1, c1, c2, c3⟩ := r_caught (F := F) hF hL hsn (by have := hs.h; omega) (hs.b h16 hn40) (g := 4 * i + j) (by omega) q4
        have f1 : fWk A i J J1 := fWk.of1 (Or.inr rfl) c3
        have hW1 := hW0.keep f1
        have hcv := hs.cau o4
        rw [ob_mk c1, ob_mk hL.f13, ixk hL.n13 (by omega) (by omega), nc (by omega), c3 (A + 13) (by omega), q3]
        obtain ⟨J2, d1, d2, d3, d4⟩ := r_comes (F := F) (a := (G j).2.2.1) (p := p) (x := 1) hF hL hW1.1.2.1 hW1.1.2.2.1.1 hi hW1.2.1 hn40 (by omega) hp c2 (by show 1 ≤ 10; omega) (hcv.b h16 hn40) (hC.kp (c3 _ (by omega)) (c3 _ (by omega)) (c3 _ (by omega))) (hCv.b h16 hn40) (by rw [c3 A (by omega)]; exact h24) (Or.inr ⟨rfl, m_cau_unm s (by omega)⟩)
        rw [ob_mk d1]
        have f2 := f1.trans d4.toW
        have n20 : J2 (A + 20) = J (A + 20) := by rw [d4.1 _ (by omega) (by omega) (by omega) (by omega) (by omega), c3 _ (by omega)]
        have hW2 := hW0.keep f2
        generalize hr : m_arr T n (decide ((G j).2.2.1 ≤ p)) (G j).2.2.1 (m_cau s (G j).2.2.2) C = r at d2 d3
        by_cases hr0 : r.1 = 0
        · rw [if_pos hr0]
          have hcv2 : mCv T n K r.2 := by
            have := mCv.arr (a := (G j).2.2.1) (chk := decide ((G j).2.2.1 ≤ p)) hT.2.1 hCv hcv (by rw [hr]; exact hr0)
            rw [hr] at this
            exact this
          obtain ⟨J3, k1, k2, k3, k4, k5⟩ := ih m (j + 1) J2 r.2 (by omega) (by omega) hW2 (d3 hr0) hcv2 (by rw [d2, hr0]) (hsn.kept n20)
          exact ⟨J3, k1, k2, k3, f2.trans k4, by rw [k5, n20]⟩
        · rw [if_neg hr0]
          have hr20 : r.1 < 20 := by rw [← hr]; exact m_arr_lt _ _ _ _ _ _
          refine ⟨J2, ?_, d2, fun g => absurd g hr0, f2, n20⟩
          obtain ⟨fuel', rfl⟩ : ∃ f', fuel = f' + 1 := ⟨fuel - 1, by omega⟩
          show z_X9_works_38B F S (z_X9_works_38 F S fuel') A (nI p) kk (nI (4 * i + j + 1)) J2 = _
          unfold z_X9_works_38B
          rw [ob_mk hL.f10, hW2.1.2.2.1.1, ixk hL.n10 hi (by omega), d2, if_neg (show ¬ nI r.1 = 0 from fun d => hr0 ((nI_eq (by omega) (by omega)).mp (d.trans nl0)))]
          split <;> rfl
      · rw [if_neg hh, if_neg hh]
        exact ih m (j + 1) J C (by omega) (by omega) hW0 hC hCv h24 hsn
theorem r_tg_lp (hF : 40 ≤ F) {p : Nat} (hp : p < n) (hs : mVs T n K s) {e : Nat} (he : e ≤ 40) (hj : m_jmp (K p).1 = true) : ∀ (fuel m j : Nat) (J : zI) (r : Nat × mC), j + m = e → 0 < e → m < fuel → rWk S J A i T pc n K gn G → J (A + 9) (40 * i + p) = nI (e - 1) → J A 24 = nI r.1 → r.1 < 20 → (r.1 = 0 → rC J A i n r.2 ∧ mCv T n K r.2) → rSn J (A + 21) 0 s → ∃ J', z_X9_works_158 F S fuel A (nI p) (nI (40 * i + p)) (nI j) J = some J' ∧ J' A 24 = nI (m_tg T n p s m j r).1 ∧ ((m_tg T n p s m j r).1 = 0 → rC J' A i n (m_tg T n p s m j r).2 ∧ mCv T n K (m_tg T n p s m j r).2) ∧ fWk A i J J' := by
  intro fuel
  induction fuel with
  | zero => intro m j J r h1 h0 h2; omega
  | succ fuel ih =>
    intro m j J r h1 h0 h2 hW hb h24 h20 hC hsn
    have hW0 := hW
    obtain ⟨⟨hL, hT, ⟨e21, hi⟩, e3, hn40, hK⟩, e6, ⟨e10, hgn⟩, hG⟩ := hW
    have h16 := hT.2.1.2.1
    obtain ⟨ok, k7, k8, k9⟩ := hK p hp
    show ∃ J', z_X9_works_158B F S (z_X9_works_158 F S fuel) A (nI p) (nI (40 * i + p)) (nI j) J = _ ∧ _
    unfold z_X9_works_158B
    rw [ob_mk hL.f7, ixk hL.n7 (by omega) (by omega), nc (by omega), k7, ob_mk (r_jumps ok.1), hj, if_neg (show ¬ b2i true = 0 by decide), ob_mk hL.f9, ixc hL.n9 (by omega) (by omega), hb]
    cases m with
    | zero =>
      rw [if_pos ((nI_ltI (by omega) (by omega)).mpr (by omega))]
      exact ⟨J, rfl, h24, hC, fWk.rf⟩
    | succ m =>
      rw [if_neg (fun d => (by have := (nI_ltI (by omega) (by omega)).mp d; omega : False)), h24]
      simp only [m_tg]
      by_cases hr0 : r.1 = 0
      · obtain ⟨hC1, hC2⟩ := hC hr0
        rw [if_pos (show nI r.1 = 0 by rw [hr0]; rfl), if_pos hr0, nI_1]
        obtain ⟨J2, d1, d2, d3, d4⟩ := r_comes (F := F) (a := j) (p := p) (x := 0) hF hL hT e21 hi e6 hn40 (by omega) (by omega) hsn hs.h (hs.b h16 hn40) hC1 (hC2.b h16 hn40) (by rw [h24, hr0]) (Or.inl rfl)
        rw [ob_mk d1]
        have o : ∀ b, b ≠ A → b ≠ A + 16 → b ≠ A + 17 → b ≠ A + 22 → b ≠ A + 23 → J2 b = J b := d4.1
        obtain ⟨J3, k1, k2, k3, k4⟩ := ih m (j + 1) J2 (m_arr T n (decide (j ≤ p)) j s r.2) (by omega) h0 (by omega) (hW0.keep d4.toW) (by rw [o _ (by omega) (by omega) (by omega) (by omega) (by omega)]; exact hb) d2 (m_arr_lt _ _ _ _ _ _) (fun g => ⟨d3 g, mCv.arr hT.2.1 hC2 hs g⟩) (hsn.kept (o _ (by omega) (by omega) (by omega) (by omega) (by omega)))
        exact ⟨J3, k1, k2, k3, d4.toW.trans k4⟩
      · rw [if_neg (fun d => hr0 ((nI_eq (by omega) (by omega)).mp (d.trans nl0))), if_neg hr0]
        exact ⟨J, rfl, h24, fun g => absurd g hr0, fWk.rf⟩
theorem r_tg (hF : 50 ≤ F) {p : Nat} (hp : p < n) (hs : mVs T n K s) {J : zI} {r : Nat × mC} (hW : rWk S J A i T pc n K gn G) (h24 : J A 24 = nI r.1) (h20 : r.1 < 20) (hC : r.1 = 0 → rC J A i n r.2 ∧ mCv T n K r.2) (hsn : rSn J (A + 21) 0 s) : ∃ J', z_X9_works_151 F S A (nI p) (nI (40 * i + p)) J = some J' ∧ J' A 24 = nI (m_tg T n p s (m_tn (K p)) (m_ta (K p)) r).1 ∧ ((m_tg T n p s (m_tn (K p)) (m_ta (K p)) r).1 = 0 → rC J' A i n (m_tg T n p s (m_tn (K p)) (m_ta (K p)) r).2 ∧ mCv T n K (m_tg T n p s (m_tn (K p)) (m_ta (K p)) r).2) ∧ fWk A i J J' := by
  have hW0 := hW
  obtain ⟨⟨hL, hT, ⟨e21, hi⟩, e3, hn40, hK⟩, e6, ⟨e10, hgn⟩, hG⟩ := hW
  obtain ⟨ok, k7, k8, k9⟩ := hK p hp
  unfold z_X9_works_151
  rw [ob_mk hL.f8, ixk hL.n8 (by omega) (by omega), nc (by omega), k8]
  cases hj : m_jmp (K p).1
  · have hne := of_decide_eq_false hj
    have e0 : m_tn (K p) = 0 := by unfold m_tn; rw [if_neg (by omega), if_neg (by omega)]
    rw [e0]
    obtain ⟨f, rfl⟩ : ∃ f, F = f + 1 := ⟨F - 1, by omega⟩
    show ∃ J', z_X9_works_158B (f + 1) S (z_X9_works_158 (f + 1) S f) A (nI p) (nI (40 * i + p)) _ J = _ ∧ _
    unfold z_X9_works_158B
    rw [ob_mk hL.f7, ixk hL.n7 (by omega) (by omega), nc (by omega), k7, ob_mk (r_jumps ok.1), hj, if_pos (show b2i false = 0 from rfl)]
    exact ⟨J, rfl, h24, hC, fWk.rf⟩
  · have hne := of_decide_eq_true hj
    obtain ⟨a, ha, ea, eb⟩ := ok.2.2.2 (by omega)
    have ta : m_ta (K p) = a := by unfold m_ta; rw [ea, nc (by omega)]
    rw [ta, ea]
    by_cases h16 : (K p).1 = 16
    · obtain ⟨b, hb, hab, eb⟩ := eb h16
      have tn : m_tn (K p) = b + 1 - a := by unfold m_tn; rw [if_pos h16, eb, ea, nc (by omega), nc (by omega)]
      rw [tn]
      rw [if_pos h16, eb] at k9
      exact r_tg_lp (by omega) hp hs (e := b + 1) (by omega) hj F (b + 1 - a) a J r (by omega) (by omega) (by omega) hW0 (by rw [k9]; rfl) h24 h20 hC hsn
    · have h145 : (K p).1 = 14 ∨ (K p).1 = 15 := by
        rcases hne with h | h | h
        · exact Or.inl h
        · exact Or.inr h
        · exact absurd h h16
      have tn : m_tn (K p) = 1 := by unfold m_tn; rw [if_neg h16, if_pos h145]
      rw [tn]
      rw [if_neg h16, ea] at k9
      exact r_tg_lp (by omega) hp hs (e := a + 1) (by omega) hj F 1 a J r (by omega) (by omega) (by omega) hW0 (by rw [k9]; rfl) h24 h20 hC hsn
theorem r_work (hF : 50 ≤ F) {p : Nat} (hp : p < n) {I : zI} {C : mC} (hW : rWk S I A i T pc n K gn G) (hC : rC I A i n (C.1, nup C.2.1 p false, C.2.2)) (hCv : mCv T n K C) (hr : C.1 p = true) : ∃ I', z_X9_works F S I A (nI p) = some I' ∧ I' A 24 = nI (m_work T pc n K gn G p C).1 ∧ ((m_work T pc n K gn G p C).1 = 0 → rC I' A i n (m_work T pc n K gn G p C).2 ∧ mCv T n K (m_work T pc n K gn G p C).2) ∧ fWk A i I I' := by
  have hW0 := hW
  obtain ⟨⟨hL, hT, ⟨e21, hi⟩, ⟨e3, hpc⟩, hn40, hK⟩, e6, ⟨e10, hgn⟩, hG⟩ := hW
  have h16 := hT.2.1.2.1
  obtain ⟨ok, k7, k8, k9⟩ := hK p hp
  have hs := hCv p hp hr
  have hst : rSn I (A + 17) (20 * (40 * i + p)) (C.2.2 p) := (hC p hp).2.2 hr
  unfold z_X9_works
  rw [ob_mk hL.f17, ob_mk hL.f22, e21, nl40, pk_mul, nI_add, nl20, pk_mul]
  obtain ⟨J, c1, c2, c3, c4⟩ := r_copy (F := F) (I := I) (i := 20 * (40 * i + p)) (j := 0) (by omega) hL.n17 hL.n22 (by omega) (by omega) (by omega) (by omega) (show A + 17 ≠ A + 20 by omega)
  rw [ob_mk (show z_X9_copy F S I (A + 17) (nI (20 * (40 * i + p))) (A + 20) 0 = some J from c1)]
  generalize hJ0 : z_up J A 24 0 = J0
  have f0 : fWk A i I J0 := by
    rw [← hJ0]
    exact (fWk.of1 (Or.inl rfl) c4).trans (fN.toW fN.rf.upW)
  have j21 : J0 A 21 = nI i := by rw [f0.2.1 21 (by omega)]; exact e21
  have hW1 := hW0.keep f0
  have s0 : rSn J0 (A + 20) 0 (C.2.2 p) := (hst.copy (x2 := A + 20) (j := 0) (by have := hs.h; omega) c2).kept (by rw [← hJ0, z_up_off (by omega)])
  have hC1 : rC J0 A i n (C.1, nup C.2.1 p false, C.2.2) := hC.kp (by rw [← hJ0, z_up_off (by omega), c4 _ (by omega)]) (by rw [← hJ0, z_up_off (by omega), c4 _ (by omega)]) (by rw [← hJ0, z_up_off (by omega), c4 _ (by omega)])
  obtain ⟨J1, d1, d2, d3, d4, d5⟩ := r_grd_lp (F := F) (by omega) (p := p) (by omega) hs (nI (40 * i + p)) F gn 0 J0 (C.1, nup C.2.1 p false, C.2.2) (by omega) (by omega) hW1 hC1 hCv (by rw [← hJ0, z_up_at]; rfl) s0
  have e4 : 4 * J0 A 21 = nI (4 * i + 0) := by rw [j21, nl4, pk_mul, Nat.add_zero]
  rw [e4, d1]
  have hg0 : m_grd T n G p (C.2.2 p) gn 0 (C.1, nup C.2.1 p false, C.2.2) = m_wg T n gn G p C := rfl
  rw [hg0] at d2 d3
  have hg20 : (m_wg T n gn G p C).1 < 20 := m_grd_lt _ _ _ _ _ _ _ _
  unfold z_X9_works_97 m_work
  rw [d2]
  by_cases hg : (m_wg T n gn G p C).1 = 0
  · obtain ⟨hC2, hCv2⟩ := d3 hg
    rw [if_neg (show ¬ (0 : Int32) < nI (m_wg T n gn G p C).1 by rw [hg]; decide), if_pos hg]
    have hW2 := hW1.keep d4
    obtain ⟨J2, g1, g2, g3, g4⟩ := r_does (F := F) (by omega) hW2.1 hp (s0.kept d5) hs
    have hd20 : (m_wd T pc n K p (C.2.2 p)).1 < 20 := m_do_lt _ _ _ _ _ _ _ _
    rw [ob_mk g1, g3]
    have f2 : fWk A i I J2 := (f0.trans d4).trans g2.toW
    by_cases hd : (m_wd T pc n K p (C.2.2 p)).1 = 0
    · have hvd : mVs T n K (m_wd T pc n K p (C.2.2 p)).2 := (mVr.wd hT.2.1 hpc hp ok hs) hd
      rw [if_pos (show nI (m_wd T pc n K p (C.2.2 p)).1 = 0 by rw [hd]; rfl), if_pos hd, ob_mk hL.f22, ob_mk hL.f23]
      obtain ⟨J3, k1, k2, k3, k4⟩ := r_copy (F := F) (I := J2) (i := 0) (j := 0) (by omega) hL.n22 hL.n23 (by omega) (by omega) (by omega) (by omega) (show A + 20 ≠ A + 21 by omega)
      rw [ob_mk (show z_X9_copy F S J2 (A + 20) 0 (A + 21) 0 = some J3 from k1)]
      have f3 : fWk A i I J3 := f2.trans (fWk.of1 (Or.inr rfl) k4)
      have hW3 := hW0.keep f3
      have s3 : rSn J3 (A + 21) 0 (m_wd T pc n K p (C.2.2 p)).2 := (g4 hd).copy (by have := hvd.h; omega) k2
      have o3 : ∀ b, b ≠ A → b ≠ A + 20 → b ≠ A + 21 → J3 b = J1 b := fun b b1 b2 b3 => by rw [k4 b b3, g2.1 b b1 b2]
      have hC3 : rC J3 A i n (m_wg T n gn G p C).2 := hC2.kp (o3 _ (by omega) (by omega) (by omega)) (o3 _ (by omega) (by omega) (by omega)) (o3 _ (by omega) (by omega) (by omega))
      have h24 : J3 A 24 = nI 0 := by rw [k4 A (by omega), g3, hd]
      rw [ob_mk hL.f7, ixk hL.n7 (by omega) (by omega), nc (by omega), (hW3.1.2.2.2.2.2 p hp).2.1, ob_mk (r_goes ok.1)]
      unfold m_on
      cases hgo : m_goes (K p).1
      · rw [if_pos (show b2i false = 0 from rfl), if_neg (show ¬ false = true by decide)]
        obtain ⟨J4, l1, l2, l3, l4⟩ := r_tg (F := F) hF hp hvd (r := (0, (m_wg T n gn G p C).2)) hW3 h24 (by show 0 < 20; omega) (fun _ => ⟨hC3, hCv2⟩) s3
        exact ⟨J4, l1, l2, l3, f3.trans l4⟩
      · rw [if_neg (show ¬ b2i true = 0 by decide), if_pos rfl, nI_1]
        obtain ⟨J4, l1, l2, l3, l4⟩ := r_comes (F := F) (a := p + 1) (p := p) (x := 0) (by omega) hL hW3.1.2.1 hW3.1.2.2.1.1 hi hW3.2.1 hn40 (by omega) (by omega) s3 hvd.h (hvd.b h16 hn40) hC3 (hCv2.b h16 hn40) h24 (Or.inl rfl)
        rw [decide_eq_false (show ¬ p + 1 ≤ p by omega)] at l2 l3
        rw [ob_mk l1]
        obtain ⟨J5, n1, n2, n3, n4⟩ := r_tg (F := F) hF hp hvd (r := m_arr T n false (p + 1) (m_wd T pc n K p (C.2.2 p)).2 (m_wg T n gn G p C).2) (hW3.keep l4.toW) l2 (m_arr_lt _ _ _ _ _ _) (fun g => ⟨l3 g, mCv.arr hT.2.1 hCv2 hvd g⟩) (s3.kept (l4.1 _ (by omega) (by omega) (by omega) (by omega) (by omega)))
        exact ⟨J5, n1, n2, n3, (f3.trans l4.toW).trans n4⟩
    · rw [if_neg (show ¬ nI (m_wd T pc n K p (C.2.2 p)).1 = 0 from fun d => hd ((nI_eq (by omega) (by omega)).mp (d.trans nl0))), if_neg hd]
      exact ⟨J2, rfl, g3, fun g => absurd g hd, f2⟩
  · rw [if_pos (show (0 : Int32) < nI (m_wg T n gn G p C).1 from (nI_ltI (a := 0) (by omega) (by omega)).mpr (by omega)), if_neg hg]
    exact ⟨J1, rfl, d2, fun g => absurd g hg, f0.trans d4⟩
end RWK
