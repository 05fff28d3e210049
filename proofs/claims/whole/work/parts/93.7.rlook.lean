/-! the reference: verify -/
def rFr (J : zI) (A i n : Nat) (fm : Nat → Bool) (fs : Nat → mSn) : Prop := ∀ q, q < n → J (A + 18) (40 * i + q) = b2i (fm q) ∧ (fm q = true → rSn J (A + 19) (20 * (40 * i + q)) (fs q))
theorem rFr.kp {J J' : zI} {A i n : Nat} {fm : Nat → Bool} {fs : Nat → mSn} (h : rFr J A i n fm fs) (e1 : J' (A + 18) = J (A + 18)) (e2 : J' (A + 19) = J (A + 19)) : rFr J' A i n fm fs := fun q hq => ⟨by rw [e1]; exact (h q hq).1, fun g => ((h q hq).2 g).kept e2⟩
def fL (A : Nat) (J J' : zI) : Prop := (∀ b, b ≠ A → b ≠ A + 20 → b ≠ A + 21 → J' b = J b) ∧ ∀ k, k ≠ 24 → J' A k = J A k
theorem fL.rf {A : Nat} {J : zI} : fL A J J := ⟨fun _ _ _ _ => rfl, fun _ _ => rfl⟩
theorem fL.tr {A : Nat} {J J1 J2 : zI} (h : fL A J J1) (g : fL A J1 J2) : fL A J J2 := ⟨fun b b1 b2 b3 => (g.1 b b1 b2 b3).trans (h.1 b b1 b2 b3), fun k hk => (g.2 k hk).trans (h.2 k hk)⟩
theorem fL.toW {A i : Nat} {J J' : zI} (h : fL A J J') : fWk A i J J' := ⟨fun b b1 _ _ b4 b5 _ _ => h.1 b b1 b4 b5, h.2, fun k _ => by rw [h.1 _ (by omega) (by omega) (by omega)], fun k _ => by rw [h.1 _ (by omega) (by omega) (by omega)]⟩
theorem fN.toL {A : Nat} {J J' : zI} (h : fN A J J') : fL A J J' := ⟨fun b b1 b2 _ => h.1 b b1 b2, h.2⟩
theorem fL.of1 {A a : Nat} {J J' : zI} (ha : a = A + 20 ∨ a = A + 21) (h : ∀ b, b ≠ a → J' b = J b) : fL A J J' := ⟨fun b _ b2 b3 => h b (by omega), fun k _ => by rw [h A (by omega)]⟩
/-- only wrong has changed -/
def f24 (A : Nat) (J J' : zI) : Prop := (∀ b, b ≠ A → J' b = J b) ∧ ∀ k, k ≠ 24 → J' A k = J A k
theorem f24.toL {A : Nat} {J J' : zI} (h : f24 A J J') : fL A J J' := ⟨fun b b1 _ _ => h.1 b b1, h.2⟩
theorem f24.rf {A : Nat} {J : zI} : f24 A J J := ⟨fun _ _ => rfl, fun _ _ => rfl⟩
theorem f24.up {A : Nat} {J : zI} {x : Int32} : f24 A J (z_up J A 24 x) := ⟨fun _ h => z_up_off h, fun _ h => z_up_ne (Or.inr h)⟩
section RLK
variable {F : Nat} {S : zS} {A i n pc gn : Nat} {T : mTr} {K : Nat → mAc} {G : Nat → mGd} {fm : Nat → Bool} {fs : Nat → mSn}
theorem m_fits_V {s w : mSn} (he : s.2.1 = w.2.1) : m_fits T s w = !anyN (fun k => decide (k ≠ 8) && !m_fit T (pV s k) (pV w k)) (9 + s.2.1) := by
  have := pV_any s (fun k v => !m_fit T v (pV w k))
  rw [this]
  unfold m_fits
  rw [decide_eq_true he, Bool.true_and, Bool.not_or]
  have e1 : anyN (fun x => !m_fit T (s.1 x) (pV w x)) 8 = anyN (fun x => !m_fit T (s.1 x) (w.1 x)) 8 := anyN_congr (fun x hx => by show (!m_fit T (s.1 x) (pV w x)) = _; unfold pV; rw [if_pos hx])
  have e2 : anyN (fun j => !m_fit T (s.2.2 j) (pV w (9 + j))) s.2.1 = anyN (fun j => !m_fit T (s.2.2 j) (w.2.2 j)) s.2.1 := anyN_congr (fun j hj => by show (!m_fit T (s.2.2 j) (pV w (9 + j))) = _; unfold pV; rw [if_neg (by omega), show 9 + j - 9 = j by omega])
  rw [e1, e2]
theorem r_fit_lp (hF : 50 ≤ F) (hL : rL S A) {J : zI} (hT : rT J A T) {x1 kk : Nat} (hn : (S.2.1 x1).2 = 20) (hkk : kk < 320) {s w : mSn} (hs : rSn J x1 0 s) (hw : rSn J (A + 19) (20 * kk) w) (he : s.2.1 = w.2.1) (hh : s.2.1 ≤ 10) (bs : mB T s) (bw : mB T w) : ∀ (fuel k : Nat), k ≤ 9 + s.2.1 → 9 + s.2.1 < k + fuel → (∀ y, y < k → y ≠ 8 → m_fit T (pV s y) (pV w y) = true) → z_X9_allFit_28 F S J fuel A x1 (nI kk) 1 (nI k) = some (b2i (!anyN (fun k => decide (k ≠ 8) && !m_fit T (pV s k) (pV w k)) (9 + s.2.1))) := by
  have h8 : J x1 8 = nI s.2.1 := hs.2.1
  intro fuel
  induction fuel with
  | zero => intro k h1 h2; omega
  | succ fuel ih =>
    intro k h1 h2 hall
    show z_X9_allFit_28B F S J (z_X9_allFit_28 F S J fuel) A x1 (nI kk) 1 (nI k) = _
    unfold z_X9_allFit_28B z_X9_allFit_79
    rw [ix8 hn (by omega) (by omega), tn8, h8, nl9, nI_add, if_neg (show ¬ (1 : Int32) = 0 by decide)]
    by_cases hk : k < 9 + s.2.1
    · rw [if_pos ((nI_ltI (by omega) (by omega)).mpr hk), nI_1]
      by_cases e8 : k = 8
      · rw [if_pos (show nI k = 8 by rw [e8]; rfl)]
        exact ih (k + 1) (by omega) (by omega) (fun y hy hy8 => hall y (by omega) hy8)
      · have vs := hs.pv hk e8
        rw [Nat.zero_add] at vs
        have vw := hw.pv (k := k) (by omega) e8
        rw [if_neg (fun d => e8 ((nI_eq (by omega) (by omega)).mp (d.trans nl8))), ixk hn (by omega) (by omega), nc (by omega), ob_mk hL.f19, nl20, pk_mul, nI_add, ixk hL.n19 (by omega) (by omega), nc (by omega), vs, vw, ob_mk (r_fits (by omega) hL hT (bs.pv hk e8) (bw.pv (k := k) (by omega) e8))]
        cases hf : m_fit T (pV s k) (pV w k)
        · rw [if_pos (show b2i false = 0 from rfl)]
          have hany : anyN (fun k => decide (k ≠ 8) && !m_fit T (pV s k) (pV w k)) (9 + s.2.1) = true := anyN_iff.mpr ⟨k, hk, by show (decide (k ≠ 8) && !m_fit T (pV s k) (pV w k)) = true; rw [hf, decide_eq_true e8]; rfl⟩
          rw [hany]
          obtain ⟨fu, rfl⟩ : ∃ fu, fuel = fu + 1 := ⟨fuel - 1, by omega⟩
          show z_X9_allFit_28B F S J (z_X9_allFit_28 F S J fu) A x1 (nI kk) 0 (nI (k + 1)) = _
          unfold z_X9_allFit_28B
          rw [ix8 hn (by omega) (by omega), if_pos (show (0 : Int32) = 0 from rfl), if_pos (show (0 : Int32) = 0 ∨ (0 : Int32) = 1 from Or.inl rfl)]
          split <;> rfl
        · rw [if_neg (show ¬ b2i true = 0 by decide)]
          exact ih (k + 1) (by omega) (by omega) (fun y hy hy8 => by
            by_cases e : y = k
            · subst e; exact hf
            · exact hall y (by omega) hy8)
    · rw [if_neg (fun d => hk ((nI_ltI (by omega) (by omega)).mp d)), if_pos (show (1 : Int32) = 0 ∨ (1 : Int32) = 1 from Or.inr rfl)]
      have hany : anyN (fun k => decide (k ≠ 8) && !m_fit T (pV s k) (pV w k)) (9 + s.2.1) = false := anyN_f.mpr (fun y hy => by
        show (decide (y ≠ 8) && !m_fit T (pV s y) (pV w y)) = false
        by_cases e : y = 8
        · rw [decide_eq_false (fun g => g e)]; rfl
        · rw [hall y (by omega) e]; cases decide (y ≠ 8) <;> rfl)
      rw [hany]; rfl
theorem r_allFit (hF : 50 ≤ F) (hL : rL S A) {J : zI} (hT : rT J A T) {x1 kk : Nat} (hn : (S.2.1 x1).2 = 20) (hkk : kk < 320) {s w : mSn} (hs : rSn J x1 0 s) (hw : rSn J (A + 19) (20 * kk) w) (hh : s.2.1 ≤ 10) (hw10 : w.2.1 ≤ 10) (bs : mB T s) (bw : mB T w) : z_X9_allFit F S J A x1 (nI kk) = some (b2i (m_fits T s w)) := by
  have h8 : J x1 8 = nI s.2.1 := hs.2.1
  have w8 : J (A + 19) (20 * kk + 8) = nI w.2.1 := hw.2.1
  unfold z_X9_allFit z_X9_allFit_24
  rw [ix8 hn (by omega) (by omega), tn8, h8, ob_mk hL.f19, nl20, pk_mul, nl8, nI_add, ixk hL.n19 (by omega) (by omega), nc (by omega), w8]
  by_cases he : s.2.1 = w.2.1
  · rw [if_pos (by rw [he]), m_fits_V he]
    exact r_fit_lp hF hL hT hn hkk hs hw he hh bs bw F 0 (by omega) (by omega) (fun y hy => absurd hy (Nat.not_lt_zero _))
  · rw [if_neg (nI_ne (by omega) (by omega) he)]
    have : m_fits T s w = false := by unfold m_fits; rw [decide_eq_false he]; rfl
    rw [this]
    obtain ⟨fu, rfl⟩ : ∃ fu, F = fu + 1 := ⟨F - 1, by omega⟩
    show z_X9_allFit_28B (fu + 1) S J (z_X9_allFit_28 (fu + 1) S J fu) A x1 (nI kk) 0 0 = _
    unfold z_X9_allFit_28B
    rw [ix8 hn (by omega) (by omega), if_pos (show (0 : Int32) = 0 from rfl), if_pos (show (0 : Int32) = 0 ∨ (0 : Int32) = 1 from Or.inl rfl)]
    split <;> rfl
/-- what a look at a frame finds -/
def m_see (T : mTr) (n : Nat) (fm : Nat → Bool) (fs : Nat → mSn) (p a : Nat) (s : mSn) : Nat := if ¬ a < n then 5 else if (decide (a ≤ p) && m_unm s) = true then 6 else m_meet T n fm fs a s
theorem m_see_lt : ∀ (p a : Nat) (s : mSn), m_see T n fm fs p a s < 20 := fun p a s => by
  unfold m_see
  split
  · omega
  · split
    · omega
    · exact m_meet_lt _ _ _ _ _ _
theorem r_looks (hF : 50 ≤ F) {J : zI} (hW : rWk S J A i T pc n K gn G) (hR : rFr J A i n fm fs) (hfv : ∀ q, q < n → fm q = true → mVs T n K (fs q)) {x1 a p : Nat} (hn : (S.2.1 x1).2 = 20) (ha : a ≤ 40) (hp : p < 40) {s : mSn} (hs : rSn J x1 0 s) (hv : mVs T n K s) (h24 : J A 24 = nI 0) {x : Int32} (hx : x = 0 ∨ (x = 1 ∧ m_unm s = false)) : ∃ J', z_X9_looks F S J A x1 (nI a) (nI p) x = some J' ∧ J' A 24 = nI (m_see T n fm fs p a s) ∧ f24 A J J' := by
  obtain ⟨⟨hL, hT, ⟨e21, hi⟩, e3, hn40, hK⟩, e6, ⟨e10, hgn⟩, hG⟩ := hW
  have h16 := hT.2.1.2.1
  unfold z_X9_looks m_see
  rw [ob_mk hL.f6, e21, ixk hL.n6 hi (by omega), nc (by omega), e6]
  by_cases han : a < n
  · rw [if_pos ((nI_ltI (by omega) (by omega)).mpr han), if_neg (show ¬ ¬ a < n from fun g => g han)]
    have e48 : ∃ J', z_X9_looks_48 F S A x1 (nI a) J = some J' ∧ J' A 24 = nI (m_meet T n fm fs a s) ∧ f24 A J J' := by
      unfold z_X9_looks_48 m_meet
      rw [ob_mk hL.f18, e21, nl40, pk_mul, nI_add, ixk hL.n18 (by omega) (by omega), nc (by omega), (hR a han).1]
      cases hf : fm a
      · rw [if_pos (show b2i false = 0 from rfl), if_neg (fun g => by cases g.2), ob_mk (r_fails0 h24 8)]
        exact ⟨_, rfl, by rw [z_up_at]; rfl, f24.up⟩
      · have hvf := hfv a han hf
        rw [if_neg (show ¬ b2i true = 0 by decide), if_pos ⟨han, rfl⟩, ob_mk (r_allFit hF hL hT hn (by omega) hs ((hR a han).2 hf) hv.h hvf.h (hv.b h16 hn40) (hvf.b h16 hn40))]
        cases m_fits T s (fs a)
        · rw [if_pos (show b2i false = 0 from rfl), if_neg (show ¬ false = true by decide), ob_mk (r_fails0 h24 9)]
          exact ⟨_, rfl, by rw [z_up_at]; rfl, f24.up⟩
        · rw [if_neg (show ¬ b2i true = 0 by decide), if_pos rfl]
          exact ⟨J, rfl, h24, f24.rf⟩
    have eno : (decide (a ≤ p) && m_unm s) = false → ∃ J', z_X9_looks_48 F S A x1 (nI a) J = some J' ∧ J' A 24 = nI (if (decide (a ≤ p) && m_unm s) = true then 6 else m_meet T n fm fs a s) ∧ f24 A J J' := fun hg => by
      rw [if_neg (show ¬ (decide (a ≤ p) && m_unm s) = true by rw [hg]; decide)]; exact e48
    rcases hx with hx | ⟨hx, hu⟩
    · rw [if_pos hx]
      by_cases hpa : p < a
      · rw [if_pos ((nI_ltI (by omega) (by omega)).mpr hpa)]
        exact eno (by rw [decide_eq_false (show ¬ a ≤ p by omega)]; rfl)
      · rw [if_neg (fun d => hpa ((nI_ltI (by omega) (by omega)).mp d)), ob_mk (r_hasUnm (by omega) hn hs (by have := hv.h; omega) (hv.b h16 hn40))]
        cases hu : m_unm s
        · rw [if_pos (show b2i false = 0 from rfl)]
          rw [hu] at eno
          exact eno (by rw [Bool.and_false])
        · rw [if_neg (show ¬ b2i true = 0 by decide), decide_eq_true (show a ≤ p by omega), ob_mk (r_fails0 h24 6), if_pos (show (true && true) = true from rfl)]
          exact ⟨_, rfl, by rw [z_up_at]; rfl, f24.up⟩
    · rw [if_neg (show ¬ x = 0 by rw [hx]; decide)]
      exact eno (by rw [hu, Bool.and_false])
  · rw [if_neg (fun d => han ((nI_ltI (by omega) (by omega)).mp d)), if_pos han, ob_mk (r_fails0 h24 5)]
    exact ⟨_, rfl, by rw [z_up_at]; rfl, f24.up⟩
theorem r_lg_lp (hF : 50 ≤ F) (hfv : ∀ q, q < n → fm q = true → mVs T n K (fs q)) {p : Nat} (hp : p < 40) (hcl : ∀ j, j < gn → m_hld G j p = true → (G j).2.2.1 < n) {s : mSn} (hv : mVs T n K s) (kk : Int32) : ∀ (fuel m j : Nat) (J : zI), j + m = gn → m < fuel → rWk S J A i T pc n K gn G → rFr J A i n fm fs → J A 24 = nI 0 → rSn J (A + 20) 0 s → ∃ J', z_X9_looksAt_83 F S fuel A (nI p) kk (nI (4 * i + j)) J = z_X9_looksAt_150 F S A (nI p) kk J' ∧ J' A 24 = nI (m_lg T n G fm fs p s m j) ∧ fL A J J' ∧ J' (A + 20) = J (A + 20) := by
  intro fuel
  induction fuel with
  | zero => intro m j J h1 h2; omega
  | succ fuel ih =>
    intro m j J h1 h2 hW hR h24 hsn
    have hW0 := hW
    obtain ⟨⟨hL, hT, ⟨e21, hi⟩, e3, hn40, hK⟩, e6, ⟨e10, hgn⟩, hG⟩ := hW
    have h16 := hT.2.1.2.1
    show ∃ J', z_X9_looksAt_83B F S (z_X9_looksAt_83 F S fuel) A (nI p) kk (nI (4 * i + j)) J = _ ∧ _
    unfold z_X9_looksAt_83B
    rw [ob_mk hL.f10, e21, ixk hL.n10 hi (by omega), nc (by omega), e10, nl4, pk_mul, nI_add]
    cases m with
    | zero =>
      rw [if_neg (fun d => (by have := (nI_ltI (by omega) (by omega)).mp d; omega : False))]
      exact ⟨J, rfl, h24, fL.rf, rfl⟩
    | succ m =>
      obtain ⟨gok, q1, q2, q3, q4⟩ := hG j (by omega)
      obtain ⟨o1, o2, o3, o4⟩ := gok
      rw [if_pos ((nI_ltI (by omega) (by omega)).mpr (by omega)), h24, if_pos (show nI 0 = 0 from rfl), ob_mk (r_holds hL (by omega) (by omega) q1 q2 (by omega) (by omega)), b01, nI_1]
      simp only [m_lg]
      by_cases hh : (G j).1 ≤ p ∧ p < (G j).2.1
      · have hat : (G j).2.2.1 < n := hcl j (by omega) (decide_eq_true hh)
        rw [if_pos hh, if_pos hh]
        obtain ⟨J1, c1, c2, c3⟩ := r_caught (F := F) (by omega) hL hsn (by have := hv.h; omega) (hv.b h16 hn40) (g := 4 * i + j) (by omega) q4
        have f1 : fL A J J1 := fL.of1 (Or.inr rfl) c3
        have hW1 := hW0.keep (i := i) f1.toW
        have hR1 := hR.kp (c3 _ (by omega)) (c3 _ (by omega))
        have hcv := hv.cau o4
        rw [ob_mk c1, ob_mk hL.f23, ob_mk hL.f13, ixk hL.n13 (by omega) (by omega), nc (by omega), c3 (A + 13) (by omega), q3]
        obtain ⟨J2, d1, d2, d3⟩ := r_looks (F := F) (x1 := A + 21) (a := (G j).2.2.1) (p := p) (x := 1) hF hW1 hR1 hfv hL.n23 (by omega) hp c2 hcv (by rw [c3 A (by omega)]; exact h24) (Or.inr ⟨rfl, m_cau_unm s (by omega)⟩)
        have esee : m_see T n fm fs p (G j).2.2.1 (m_cau s (G j).2.2.2) = m_meet T n fm fs (G j).2.2.1 (m_cau s (G j).2.2.2) := by
          unfold m_see
          rw [if_neg (fun g => g hat), m_cau_unm s (by omega), Bool.and_false, if_neg (show ¬ false = true by decide)]
        rw [esee] at d2
        rw [ob_mk d1]
        have f2 := f1.tr d3.toL
        have n20 : J2 (A + 20) = J (A + 20) := by rw [d3.1 _ (by omega), c3 _ (by omega)]
        have hW2 := hW0.keep (i := i) f2.toW
        have hR2 := hR.kp (f2.1 _ (by omega) (by omega) (by omega)) (f2.1 _ (by omega) (by omega) (by omega))
        have hlt := m_meet_lt T n fm fs (G j).2.2.1 (m_cau s (G j).2.2.2)
        by_cases hr0 : m_meet T n fm fs (G j).2.2.1 (m_cau s (G j).2.2.2) = 0
        · rw [if_pos hr0]
          obtain ⟨J3, k1, k2, k3, k4⟩ := ih m (j + 1) J2 (by omega) (by omega) hW2 hR2 (by rw [d2, hr0]) (hsn.kept n20)
          exact ⟨J3, k1, k2, f2.tr k3, by rw [k4, n20]⟩
        · rw [if_neg hr0]
          refine ⟨J2, ?_, d2, f2, n20⟩
          obtain ⟨fuel', rfl⟩ : ∃ f', fuel = f' + 1 := ⟨fuel - 1, by omega⟩
          show z_X9_looksAt_83B F S (z_X9_looksAt_83 F S fuel') A (nI p) kk (nI (4 * i + j + 1)) J2 = _
          unfold z_X9_looksAt_83B
          rw [ob_mk hL.f10, hW2.1.2.2.1.1, ixk hL.n10 hi (by omega), d2, if_neg (show ¬ nI (m_meet T n fm fs (G j).2.2.1 (m_cau s (G j).2.2.2)) = 0 from fun d => hr0 ((nI_eq (by omega) (by omega)).mp (d.trans nl0)))]
          split <;> rfl
      · rw [if_neg hh, if_neg hh]
        exact ih m (j + 1) J (by omega) (by omega) hW0 hR h24 hsn
theorem r_lt_lp (hF : 50 ≤ F) (hfv : ∀ q, q < n → fm q = true → mVs T n K (fs q)) {p : Nat} (hp : p < n) {s : mSn} (hv : mVs T n K s) {e : Nat} (he : e ≤ 40) (hj : m_jmp (K p).1 = true) : ∀ (fuel m j : Nat) (J : zI), j + m = e → 0 < e → m < fuel → rWk S J A i T pc n K gn G → rFr J A i n fm fs → J (A + 9) (40 * i + p) = nI (e - 1) → J A 24 = nI 0 → rSn J (A + 20) 0 s → ∃ J', z_X9_looksAt_210 F S fuel A (nI p) (nI (40 * i + p)) (nI j) J = some J' ∧ J' A 24 = nI (m_lt T n fm fs p s m j) ∧ f24 A J J' := by
  intro fuel
  induction fuel with
  | zero => intro m j J h1 h0 h2; omega
  | succ fuel ih =>
    intro m j J h1 h0 h2 hW hR hb h24 hsn
    have hW0 := hW
    obtain ⟨⟨hL, hT, ⟨e21, hi⟩, e3, hn40, hK⟩, e6, ⟨e10, hgn⟩, hG⟩ := hW
    obtain ⟨ok, k7, k8, k9⟩ := hK p hp
    show ∃ J', z_X9_looksAt_210B F S (z_X9_looksAt_210 F S fuel) A (nI p) (nI (40 * i + p)) (nI j) J = _ ∧ _
    unfold z_X9_looksAt_210B
    rw [ob_mk hL.f7, ixk hL.n7 (by omega) (by omega), nc (by omega), k7, ob_mk (r_jumps ok.1), hj, if_neg (show ¬ b2i true = 0 by decide), ob_mk hL.f9, ixc hL.n9 (by omega) (by omega), hb]
    cases m with
    | zero =>
      rw [if_pos ((nI_ltI (by omega) (by omega)).mpr (by omega))]
      exact ⟨J, rfl, h24, f24.rf⟩
    | succ m =>
      rw [if_neg (fun d => (by have := (nI_ltI (by omega) (by omega)).mp d; omega : False)), h24, if_pos (show nI 0 = 0 from rfl), ob_mk hL.f22, nI_1]
      obtain ⟨J2, d1, d2, d3⟩ := r_looks (F := F) (x1 := A + 20) (a := j) (p := p) (x := 0) hF hW0 hR hfv hL.n22 (by omega) (by omega) hsn hv h24 (Or.inl rfl)
      rw [ob_mk d1]
      have hW2 := hW0.keep (i := i) d3.toL.toW
      have hlt := m_see_lt (T := T) (n := n) (fm := fm) (fs := fs) p j s
      have stop : m_see T n fm fs p j s ≠ 0 → z_X9_looksAt_210 F S fuel A (nI p) (nI (40 * i + p)) (nI (j + 1)) J2 = some J2 := fun hne => by
        obtain ⟨fu, rfl⟩ : ∃ fu, fuel = fu + 1 := ⟨fuel - 1, by omega⟩
        show z_X9_looksAt_210B F S (z_X9_looksAt_210 F S fu) A (nI p) (nI (40 * i + p)) (nI (j + 1)) J2 = _
        unfold z_X9_looksAt_210B
        rw [ob_mk hL.f7, ixk hL.n7 (by omega) (by omega), nc (by omega), (hW2.1.2.2.2.2.2 p hp).2.1, ob_mk (r_jumps ok.1), hj, if_neg (show ¬ b2i true = 0 by decide), ob_mk hL.f9, ixc hL.n9 (by omega) (by omega), d2, if_neg (show ¬ nI (m_see T n fm fs p j s) = 0 from fun d => hne ((nI_eq (by omega) (by omega)).mp (d.trans nl0)))]
        split <;> rfl
      simp only [m_lt]
      unfold m_see at d2 hlt stop
      by_cases c1 : ¬ j < n
      · rw [if_pos c1] at d2 stop ⊢
        exact ⟨J2, stop (by omega), d2, d3⟩
      · rw [if_neg c1] at d2 stop hlt ⊢
        by_cases c2 : (decide (j ≤ p) && m_unm s) = true
        · rw [if_pos c2] at d2 stop ⊢
          exact ⟨J2, stop (by omega), d2, d3⟩
        · rw [if_neg c2] at d2 stop hlt ⊢
          by_cases c3 : m_meet T n fm fs j s = 0
          · rw [if_pos c3]
            obtain ⟨J3, u1, u2, u3⟩ := ih m (j + 1) J2 (by omega) h0 (by omega) hW2 (hR.kp (d3.1 _ (by omega)) (d3.1 _ (by omega))) (by rw [d3.1 _ (by omega)]; exact hb) (by rw [d2, c3]) (hsn.kept (d3.1 _ (by omega)))
            exact ⟨J3, u1, u2, fun b hb => (u3.1 b hb).trans (d3.1 b hb), fun k hk => (u3.2 k hk).trans (d3.2 k hk)⟩
          · rw [if_neg c3]
            exact ⟨J2, stop c3, d2, d3⟩
theorem r_lt (hF : 50 ≤ F) (hfv : ∀ q, q < n → fm q = true → mVs T n K (fs q)) {p : Nat} (hp : p < n) {s : mSn} {J : zI} {w : Nat} (hw20 : w < 20) (hW : rWk S J A i T pc n K gn G) (hR : rFr J A i n fm fs) (h24 : J A 24 = nI w) (hs : w = 0 → mVs T n K s ∧ rSn J (A + 20) 0 s) : ∃ J', z_X9_looksAt_202 F S A (nI p) (nI (40 * i + p)) J = some J' ∧ J' A 24 = nI (if w = 0 then m_lt T n fm fs p s (m_tn (K p)) (m_ta (K p)) else w) ∧ f24 A J J' := by
  have hW0 := hW
  obtain ⟨⟨hL, hT, ⟨e21, hi⟩, e3, hn40, hK⟩, e6, ⟨e10, hgn⟩, hG⟩ := hW
  obtain ⟨ok, k7, k8, k9⟩ := hK p hp
  unfold z_X9_looksAt_202
  rw [ob_mk hL.f8, ixk hL.n8 (by omega) (by omega), nc (by omega), k8]
  by_cases hw0 : w = 0
  · obtain ⟨hv, hsn⟩ := hs hw0
    rw [if_pos hw0]
    rw [hw0] at h24
    cases hj : m_jmp (K p).1
    · have hne := of_decide_eq_false hj
      have e0 : m_tn (K p) = 0 := by unfold m_tn; rw [if_neg (by omega), if_neg (by omega)]
      rw [e0]
      obtain ⟨f, rfl⟩ : ∃ f, F = f + 1 := ⟨F - 1, by omega⟩
      show ∃ J', z_X9_looksAt_210B (f + 1) S (z_X9_looksAt_210 (f + 1) S f) A (nI p) (nI (40 * i + p)) _ J = _ ∧ _
      unfold z_X9_looksAt_210B
      rw [ob_mk hL.f7, ixk hL.n7 (by omega) (by omega), nc (by omega), k7, ob_mk (r_jumps ok.1), hj, if_pos (show b2i false = 0 from rfl)]
      exact ⟨J, rfl, h24, f24.rf⟩
    · have hne := of_decide_eq_true hj
      obtain ⟨a, ha, ea, eb⟩ := ok.2.2.2 (by omega)
      have ta : m_ta (K p) = a := by unfold m_ta; rw [ea, nc (by omega)]
      rw [ta, ea]
      by_cases h16 : (K p).1 = 16
      · obtain ⟨b, hb, hab, eb⟩ := eb h16
        have tn : m_tn (K p) = b + 1 - a := by unfold m_tn; rw [if_pos h16, eb, ea, nc (by omega), nc (by omega)]
        rw [tn]
        rw [if_pos h16, eb] at k9
        exact r_lt_lp hF hfv hp hv (e := b + 1) (by omega) hj F (b + 1 - a) a J (by omega) (by omega) (by omega) hW0 hR (by rw [k9]; rfl) h24 hsn
      · have h145 : (K p).1 = 14 ∨ (K p).1 = 15 := by
          rcases hne with h | h | h
          · exact Or.inl h
          · exact Or.inr h
          · exact absurd h h16
        have tn : m_tn (K p) = 1 := by unfold m_tn; rw [if_neg h16, if_pos h145]
        rw [tn]
        rw [if_neg h16, ea] at k9
        exact r_lt_lp hF hfv hp hv (e := a + 1) (by omega) hj F 1 a J (by omega) (by omega) (by omega) hW0 hR (by rw [k9]; rfl) h24 hsn
  · rw [if_neg hw0]
    refine ⟨J, ?_, h24, f24.rf⟩
    obtain ⟨f, rfl⟩ : ∃ f, F = f + 1 := ⟨F - 1, by omega⟩
    show z_X9_looksAt_210B (f + 1) S (z_X9_looksAt_210 (f + 1) S f) A (nI p) (nI (40 * i + p)) _ J = _
    unfold z_X9_looksAt_210B
    rw [ob_mk hL.f7, ixk hL.n7 (by omega) (by omega), nc (by omega), k7, ob_mk (r_jumps ok.1), ob_mk hL.f9, ixc hL.n9 (by omega) (by omega), h24, if_neg (show ¬ nI w = 0 from fun d => hw0 ((nI_eq (by omega) (by omega)).mp (d.trans nl0)))]
    split
    · rfl
    · split <;> rfl
end RLK
