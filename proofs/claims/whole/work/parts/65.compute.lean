/-! computing as a whole: class side -/
def m_fm (K : Nat → mAc) (gn : Nat) (G : Nat → mGd) (rc : Nat → Bool) (n p : Nat) : Bool := rc p && decide (0 < m_ct (fun q => m_lead K gn G rc q p) n)
def m_c0 (bg : mSn) : mC := (nup (fun _ => false) 0 true, nup (fun _ => false) 0 true, nup (fun _ => bg) 0 bg)
/-- what compute may change -/
def fC (B i n : Nat) (Q : Nat → Nat) (I I' : zI) : Prop := (∀ b, b ≠ B + 5 + 6 * i → (b < B + 54 ∨ B + 61 ≤ b) → (∀ p, p < n → b < Q p ∨ Q p + 7 ≤ b) → I' b = I b) ∧ (∀ k, k ≠ 7 → k ≠ 8 → k ≠ 9 → I' (B + 5 + 6 * i) k = I (B + 5 + 6 * i) k) ∧ ∀ p, p < n → ∀ k, k < 3 → I' (Q p) k = I (Q p) k
theorem fC.rf {B i n : Nat} {Q : Nat → Nat} {I : zI} : fC B i n Q I I := ⟨fun _ _ _ _ => rfl, fun _ _ _ _ => rfl, fun _ _ _ _ => rfl⟩
theorem fC.trans {B i n : Nat} {Q : Nat → Nat} {I I1 I2 : zI} (h : fC B i n Q I I1) (g : fC B i n Q I1 I2) : fC B i n Q I I2 := ⟨fun b h1 h2 h3 => (g.1 b h1 h2 h3).trans (h.1 b h1 h2 h3), fun k h1 h2 h3 => (g.2.1 k h1 h2 h3).trans (h.2.1 k h1 h2 h3), fun p hp k hk => (g.2.2 p hp k hk).trans (h.2.2 p hp k hk)⟩
theorem fW.toC {B i n : Nat} {Q : Nat → Nat} {I I' : zI} (h : fW B i n Q I I') : fC B i n Q I I' := ⟨fun b h1 h2 h3 => h.1 b h1 h2 (fun p hp => by have := h3 p hp; omega), fun k _ h2 h3 => h.2.1 k h2 h3, fun p hp k hk => h.2.2 p hp k (by omega) (by omega)⟩
/-- only flags 5 and frames have changed -/
def fF (n : Nat) (Q : Nat → Nat) (I I' : zI) : Prop := (∀ b, (∀ p, p < n → b ≠ Q p ∧ (b < Q p + 4 ∨ Q p + 7 ≤ b)) → I' b = I b) ∧ ∀ p, p < n → ∀ k, k ≠ 5 → I' (Q p) k = I (Q p) k
theorem fF.rf {n : Nat} {Q : Nat → Nat} {I : zI} : fF n Q I I := ⟨fun _ _ => rfl, fun _ _ _ _ => rfl⟩
theorem fF.trans {n : Nat} {Q : Nat → Nat} {I I1 I2 : zI} (h : fF n Q I I1) (g : fF n Q I1 I2) : fF n Q I I2 := ⟨fun b h1 => (g.1 b h1).trans (h.1 b h1), fun p hp k hk => (g.2 p hp k hk).trans (h.2 p hp k hk)⟩
section CC
variable {F : Nat} {S : zS} {I I' : zI} {B i n pc gn : Nat} {T : mTr} {K : Nat → mAc} {Q : Nat → Nat} {G : Nat → mGd} {C : mC}
theorem cV.keepC (hV : cV S I B i T pc n K Q gn G) (f : fC B i n Q I I') : cV S I' B i T pc n K Q gn G := by
  obtain ⟨h1, h2, h3, h4, ⟨a1, a2, a3, a4, a5⟩, h6, h7, h8, ⟨g1, g2, g3⟩⟩ := hV
  have hq : ∀ b, b < B + 94 → ∀ p, p < n → b < Q p ∨ Q p + 7 ≤ b := fun b hb p hp => by have := (h6.1 p hp).1; omega
  refine ⟨h1, h2, h3, h4.kept (f.1 _ (by omega) (by omega) (hq _ (by omega))) (f.1 _ (by omega) (by omega) (hq _ (by omega))) (f.1 _ (by omega) (by omega) (hq _ (by omega))), ⟨a1, a2, by rw [f.2.1 3 (by omega) (by omega) (by omega)]; exact a3, a4, fun p hp => ?_⟩, h6, ⟨by rw [f.2.1 5 (by omega) (by omega) (by omega)]; exact h7.1, h7.2⟩, h8, ⟨by rw [f.2.1 4 (by omega) (by omega) (by omega)]; exact g1, g2, fun j hj => ?_⟩⟩
  · obtain ⟨q, e0, e1, e2, e3⟩ := a5 p hp
    have hqq : Q p = q := Option.some.inj ((h6.1 p hp).2.1.symm.trans e0)
    subst hqq
    exact ⟨Q p, e0, by rw [f.2.2 p hp 0 (by omega)]; exact e1, by rw [f.2.2 p hp 1 (by omega)]; exact e2, by rw [f.2.2 p hp 2 (by omega)]; exact e3⟩
  · obtain ⟨k0, g, k1, k2, k3, k4, k5, k6, k7⟩ := g3 j hj
    have e : I' g = I g := f.1 g (by omega) (by omega) (fun p hp => k3 p hp)
    exact ⟨k0, g, k1, k2, k3, by rw [e]; exact k4, by rw [e]; exact k5, by rw [e]; exact k6, by rw [e]; exact k7⟩
theorem fF.toC (hV : cV S I B i T pc n K Q gn G) {I1 I2 : zI} (h : fF n Q I1 I2) : fC B i n Q I1 I2 := by
  have h8 := hV.2.1
  refine ⟨fun b _ _ hb => h.1 b (fun p hp => by have := hb p hp; omega), fun k _ _ _ => ?_, fun p hp k hk => h.2 p hp k (by omega)⟩
  rw [h.1 (B + 5 + 6 * i) (fun p hp => by have := (hV.2.2.2.2.2.1.1 p hp).1; omega)]
theorem cC.keepF (hV : cV S I B i T pc n K Q gn G) {I1 I2 : zI} (hC : cC I1 n Q C) (h : fF n Q I1 I2) : cC I2 n Q C := by
  intro p hp
  obtain ⟨c1, c2, c3⟩ := hC p hp
  have hk : ∀ d, 1 ≤ d → d < 4 → I2 (Q p + d) = I1 (Q p + d) := fun d h1 h4 => h.1 _ (fun p' hp' => by
    by_cases e : p' = p
    · subst e; omega
    · have := hV.2.2.2.2.2.1.2 p' p hp' hp e; omega)
  exact ⟨by rw [h.2 p hp 3 (by omega)]; exact c1, by rw [h.2 p hp 4 (by omega)]; exact c2, fun g => (c3 g).kept (hk 1 (by omega) (by omega)) (hk 2 (by omega) (by omega)) (hk 3 (by omega) (by omega))⟩
theorem c_fgt_lp (hV0 : cV S I B i T pc n K Q gn G) : ∀ (k m j : Nat) (J : zI), j + m = n → m < k → cV S J B i T pc n K Q gn G → (∀ p, p < j → J (Q p) 3 = 0 ∧ J (Q p) 4 = 0 ∧ J (Q p) 5 = 0) →
    ∃ I', z_X5_forgetComputed_20 F S k (B + 5 + 6 * i) (nI j) J = some I' ∧ (∀ p, p < n → I' (Q p) 3 = 0 ∧ I' (Q p) 4 = 0 ∧ I' (Q p) 5 = 0) ∧ (∀ b, (∀ p, p < n → b ≠ Q p) → I' b = J b) ∧ ∀ p, p < n → ∀ k, k < 3 → I' (Q p) k = J (Q p) k := by
  have h40 := hV0.2.2.2.2.1.2.2.2.1
  have hi8 := hV0.2.1
  intro k
  induction k with
  | zero => intro m j J _ h; omega
  | succ k ih =>
    intro m j J hjm hmk hV hz
    show ∃ I', z_X5_forgetComputed_20B F S (z_X5_forgetComputed_20 F S k) (B + 5 + 6 * i) (nI j) J = some I' ∧ _
    unfold z_X5_forgetComputed_20B
    rw [hV.2.2.2.2.1.2.2.1]
    by_cases hj : j < n
    · obtain ⟨e0, e1, e2, e3⟩ := hV.act (F := F) hj
      rw [if_pos ((nI_ltI (by omega) (by omega)).mpr hj), ob_mk e0, ob2_mk rfl]
      show ∃ I', z_X5_forgetComputed_20 F S k (B + 5 + 6 * i) (nI j + 1) (z_up (z_up (z_up J (Q j) 3 0) (Q j) 4 0) (Q j) 5 0) = some I' ∧ _
      generalize hJ1 : z_up (z_up (z_up J (Q j) 3 0) (Q j) 4 0) (Q j) 5 0 = J1
      have hoff : ∀ b, b ≠ Q j → J1 b = J b := fun b hb => by rw [← hJ1, z_up_off hb, z_up_off hb, z_up_off hb]
      have hat : ∀ k, k < 3 → J1 (Q j) k = J (Q j) k := fun k hk => by rw [← hJ1, z_up_ne (Or.inr (by omega)), z_up_ne (Or.inr (by omega)), z_up_ne (Or.inr (by omega))]
      have hQj := (hV.2.2.2.2.2.1.1 j hj).1
      have hne : ∀ p, p < n → p ≠ j → Q p ≠ Q j := fun p hp e => by have := hV.2.2.2.2.2.1.2 p j hp hj e; omega
      have hk3 : ∀ p, p < n → ∀ k, k < 3 → J1 (Q p) k = J (Q p) k := fun p hp k hk => by
        by_cases e : p = j
        · subst e; exact hat k hk
        · rw [hoff _ (hne p hp e)]
      have fc : fC B i n Q J J1 := ⟨fun b _ _ hb => hoff b (fun e => by have := hb j hj; omega), fun k _ _ _ => by rw [hoff _ (by omega)], hk3⟩
      rw [nI_1]
      obtain ⟨I', g1, g2, g3, g4⟩ := ih (m - 1) (j + 1) J1 (by omega) (by omega) (hV.keepC fc) (fun p hp => by
        by_cases e : p = j
        · subst e
          rw [← hJ1]
          exact ⟨by rw [z_up_ne (Or.inr (by omega)), z_up_ne (Or.inr (by omega)), z_up_at], by rw [z_up_ne (Or.inr (by omega)), z_up_at], by rw [z_up_at]⟩
        · rw [hoff _ (hne p (by omega) e)]; exact hz p (by omega))
      exact ⟨I', g1, g2, fun b hb => (g3 b hb).trans (hoff b (hb j hj)), fun p hp k hk => (g4 p hp k hk).trans (hk3 p hp k hk)⟩
    · rw [if_neg (fun d => hj ((nI_ltI (by omega) (by omega)).mp d))]
      exact ⟨J, rfl, fun p hp => hz p (by omega), fun _ _ => rfl, fun _ _ _ _ => rfl⟩
theorem c_fgt (hF : 100 ≤ F) (hV : cV S I B i T pc n K Q gn G) : ∃ I', z_X5_forgetComputed F S I (B + 5 + 6 * i) = some I' ∧ fC B i n Q I I' ∧ (∀ p, p < n → I' (Q p) 3 = 0 ∧ I' (Q p) 4 = 0 ∧ I' (Q p) 5 = 0) ∧ I' (B + 5 + 6 * i) 7 = 0 ∧ I' (B + 5 + 6 * i) 8 = 0 ∧ I' (B + 5 + 6 * i) 9 = I (B + 5 + 6 * i) 6 ∧ I' (B + 54) = I (B + 54) := by
  have h40 := hV.2.2.2.2.1.2.2.2.1
  have hi8 := hV.2.1
  unfold z_X5_forgetComputed
  generalize hJ : z_up (z_up (z_up I (B + 5 + 6 * i) 7 0) (B + 5 + 6 * i) 8 0) (B + 5 + 6 * i) 9 ((z_up (z_up I (B + 5 + 6 * i) 7 0) (B + 5 + 6 * i) 8 0) (B + 5 + 6 * i) 6) = J
  have hQ := hV.2.2.2.2.2.1.1
  have hoff : ∀ b, b ≠ B + 5 + 6 * i → J b = I b := fun b hb => by rw [← hJ, z_up_off hb, z_up_off hb, z_up_off hb]
  have f1 : fC B i n Q I J := ⟨fun b hb _ _ => hoff b hb, fun k h7 h8 h9 => by rw [← hJ, z_up_ne (Or.inr h9), z_up_ne (Or.inr h8), z_up_ne (Or.inr h7)], fun p hp k _ => by have := (hQ p hp).1; rw [hoff _ (by omega)]⟩
  obtain ⟨I', g1, g2, g3, g4⟩ := c_fgt_lp (F := F) hV F n 0 J (by omega) (by omega) (hV.keepC f1) (fun p hp => by omega)
  have hM : I' (B + 5 + 6 * i) = J (B + 5 + 6 * i) := g3 _ (fun p hp => by have := (hQ p hp).1; omega)
  refine ⟨I', g1, f1.trans ⟨fun b _ _ hb => g3 b (fun p hp => by have := hb p hp; omega), fun k _ _ _ => by rw [hM], g4⟩, g2, ?_, ?_, ?_, ?_⟩
  · rw [hM, ← hJ, z_up_ne (Or.inr (by omega)), z_up_ne (Or.inr (by omega)), z_up_at]
  · rw [hM, ← hJ, z_up_ne (Or.inr (by omega)), z_up_at]
  · rw [hM, ← hJ, z_up_at, z_up_ne (Or.inr (by omega)), z_up_ne (Or.inr (by omega))]
  · rw [g3 _ (fun p hp => by have := (hQ p hp).1; omega), hoff _ (by omega)]
theorem c_setF_lp (hF : 100 ≤ F) (hV0 : cV S I B i T pc n K Q gn G) : ∀ (k m j : Nat) (J : zI), j + m = n → m < k → cV S J B i T pc n K Q gn G → cC J n Q C → (∀ p, p < n → J (Q p) 5 = b2i (decide (p < j) && m_fm K gn G C.1 n p)) → (∀ p, p < j → m_fm K gn G C.1 n p = true → cSn J (Q p + 4) (C.2.2 p)) →
    ∃ I', z_X5_setFrames_2 F S k (B + 5 + 6 * i) (nI j) J = some I' ∧ fF n Q J I' ∧ (∀ p, p < n → I' (Q p) 5 = b2i (m_fm K gn G C.1 n p)) ∧ ∀ p, p < n → m_fm K gn G C.1 n p = true → cSn I' (Q p + 4) (C.2.2 p) := by
  have h40 := hV0.2.2.2.2.1.2.2.2.1
  have hi8 := hV0.2.1
  have hQd := hV0.2.2.2.2.2.1.2
  intro k
  induction k with
  | zero => intro m j J _ h; omega
  | succ k ih =>
    intro m j J hjm hmk hV hC h5 hf
    show ∃ I', z_X5_setFrames_2B F S (z_X5_setFrames_2 F S k) (B + 5 + 6 * i) (nI j) J = some I' ∧ _
    unfold z_X5_setFrames_2B
    rw [hV.2.2.2.2.1.2.2.1]
    by_cases hj : j < n
    · obtain ⟨e0, e1, e2, e3⟩ := hV.act (F := F) hj
      obtain ⟨q1, q2, q3, q4, q5, q6⟩ := hV.2.2.2.2.2.1.1 j hj
      rw [if_pos ((nI_ltI (by omega) (by omega)).mpr hj), ob_mk e0, ob2_mk rfl, (hC j hj).1, nI_1]
      have skip : m_fm K gn G C.1 n j = false → ∃ I', z_X5_setFrames_2 F S k (B + 5 + 6 * i) (nI (j + 1)) J = some I' ∧ fF n Q J I' ∧ (∀ p, p < n → I' (Q p) 5 = b2i (m_fm K gn G C.1 n p)) ∧ ∀ p, p < n → m_fm K gn G C.1 n p = true → cSn I' (Q p + 4) (C.2.2 p) := fun hno => by
        refine ih (m - 1) (j + 1) J (by omega) (by omega) hV hC (fun p hp => ?_) (fun p hp hfm => ?_)
        · rw [h5 p hp]
          by_cases e : p = j
          · subst e; rw [hno, Bool.and_false, Bool.and_false]
          · have e9 : decide (p < j) = decide (p < j + 1) := decide_eq_decide.mpr (by omega)
            rw [e9]
        · by_cases e : p = j
          · subst e; rw [hno] at hfm; cases hfm
          · exact hf p (by omega) hfm
      cases hr : C.1 j
      · rw [if_pos (show b2i false = 0 from rfl)]
        exact skip (by unfold m_fm; rw [hr, Bool.false_and])
      · rw [if_neg (show ¬ b2i true = 0 by decide), ob_mk (c_src hF hV (rc := C.1) (fun p hp => (hC p hp).1) (to_ := j) (by omega))]
        have hle := m_ct_le (fun p => m_lead K gn G C.1 p j) n
        by_cases hc : 0 < m_ct (fun p => m_lead K gn G C.1 p j) n
        · have hfm : m_fm K gn G C.1 n j = true := by unfold m_fm; rw [hr, decide_eq_true hc]; rfl
          rw [nl0, if_pos ((nI_ltI (by omega) (by omega)).mpr hc), ob_mk q4, ob_mk q3]
          have hs1 : cSn (z_up J (Q j) 5 1) (Q j + 1) (C.2.2 j) := ((hC j hj).2.2 hr).kept (z_up_off (by omega)) (z_up_off (by omega)) (z_up_off (by omega))
          obtain ⟨J1, g1, g2, g3⟩ := s_become (F := F) (a := Q j + 4) q6 q5 hs1 (by omega)
          rw [ob_mk g1]
          have fJ : fF n Q J J1 := by
            refine ⟨fun b hb => ?_, fun p hp k hk => ?_⟩
            · have := hb j hj
              rw [g3 b (by omega), z_up_off (by omega)]
            · by_cases e : p = j
              · subst e; rw [g3 (Q p) (by omega), z_up_ne (Or.inr hk)]
              · have := hQd p j hp hj e
                rw [g3 (Q p) (by omega), z_up_off (by omega)]
          obtain ⟨I', d1, d2, d3, d4⟩ := ih (m - 1) (j + 1) J1 (by omega) (by omega) (hV.keepC (fF.toC hV0 fJ)) (hC.keepF hV0 fJ) (fun p hp => by
            by_cases e : p = j
            · subst e; rw [g3 (Q p) (by omega), z_up_at, hfm, decide_eq_true (show p < p + 1 by omega)]; rfl
            · have := hQd p j hp hj e
              rw [g3 (Q p) (by omega), z_up_off (by omega), h5 p hp]
              have e9 : decide (p < j) = decide (p < j + 1) := decide_eq_decide.mpr (by omega)
              rw [e9]) (fun p hp hfp => by
            by_cases e : p = j
            · subst e; exact g2
            · have hd := hQd p j (by omega) hj e
              exact ((hf p (by omega) hfp).kept (I' := z_up J (Q j) 5 1) (z_up_off (by omega)) (z_up_off (by omega)) (z_up_off (by omega))).fr g3 (by omega))
          exact ⟨I', d1, fJ.trans d2, d3, d4⟩
        · rw [nl0, if_neg (fun d => hc ((nI_ltI (by omega) (by omega)).mp d))]
          exact skip (by unfold m_fm; rw [hr, decide_eq_false hc]; rfl)
    · rw [if_neg (fun d => hj ((nI_ltI (by omega) (by omega)).mp d))]
      refine ⟨J, rfl, fF.rf, fun p hp => ?_, fun p hp => hf p (by omega)⟩
      rw [h5 p hp, decide_eq_true (show p < j by omega), Bool.true_and]
theorem m_c0_I {bg : mSn} {n : Nat} (hb : bg.2.1 ≤ 10) : mI n (m_c0 bg) := by
  intro p hp
  unfold m_c0
  by_cases e : p = 0
  · subst e
    exact ⟨fun _ => by show nup (fun _ => false) 0 true 0 = true; rw [nup_at], fun _ => by show (nup (fun _ => bg) 0 bg 0).2.1 ≤ 10; rw [nup_at]; exact hb⟩
  · refine ⟨fun h => ?_, fun h => ?_⟩
    · have h' : nup (fun _ => false) 0 true p = true := h
      rw [nup_ne e] at h'; cases h'
    · have h' : nup (fun _ => false) 0 true p = true := h
      rw [nup_ne e] at h'; cases h'
theorem m_c0_arr {T : mTr} {bg : mSn} {n : Nat} (hn : 0 < n) : m_arr T n false 0 bg (fun _ => false, fun _ => false, fun _ => bg) = (0, m_c0 bg) := by
  unfold m_arr
  rw [if_neg (show ¬ ¬ 0 < n by omega), if_neg (show ¬ (false && m_unm bg) = true by simp), if_pos (show false = false from rfl)]; rfl
theorem c_run (hF : 30000 ≤ F) (hV : cV S I B i T pc n K Q gn G) (hn : 0 < n) {bg : mSn} {us : Nat} (hbg : cSn I (B + 5 + 6 * i + 3) bg) (hus : I (B + 5 + 6 * i) 6 = nI us) (h20 : us ≤ 20) {x : Nat × Nat × mR} (hx : m_run T pc n K gn G 24641 (0, us, m_c0 bg) = some x) :
    ∃ I', fC B i n Q I I' ∧ (x.1 = 0 → z_X2_run F S I (B + 54) (B + 5 + 6 * i) = some (-1, I') ∧ cC I' n Q x.2.2.2.2 ∧ mI n x.2.2.2.2 ∧ I' (B + 5 + 6 * i) 8 = nI x.2.2.1 ∧ x.2.2.1 ≤ 20 ∧ I' (B + 5 + 6 * i) 9 = nI x.2.2.2.1 ∧ x.2.2.2.1 ≤ 20 ∧ I' (B + 54) 4 = 0 ∧ I' (B + 5 + 6 * i) 7 = 1 ∧ (∀ p, p < n → I' (Q p) 5 = b2i (m_fm K gn G x.2.2.2.2.1 n p)) ∧ ∀ p, p < n → m_fm K gn G x.2.2.2.2.1 n p = true → cSn I' (Q p + 4) (x.2.2.2.2.2.2 p)) ∧
      (x.1 ≠ 0 → z_X2_run F S I (B + 54) (B + 5 + 6 * i) = some (nI x.2.1, I') ∧ I' (B + 54) 4 = nI x.1 ∧ x.1 < 20 ∧ x.2.1 < n ∧ I' (B + 5 + 6 * i) 7 = 0) := by
  have h40 := hV.2.2.2.2.1.2.2.2.1
  have hi8 := hV.2.1
  have hQ := hV.2.2.2.2.2.1.1
  have hbh := hbg.2.2.1
  obtain ⟨I1, a1, a2, a3, a4, a5, a6, a7⟩ := c_fgt (F := F) (by omega) hV
  have hV1 := hV.keepC a2
  have hbg1 : cSn I1 (B + 5 + 6 * i + 3) bg := by
    have hk : ∀ d, d < 3 → I1 (B + 5 + 6 * i + 3 + d) = I (B + 5 + 6 * i + 3 + d) := fun d hd => a2.1 _ (by omega) (by omega) (fun p hp => by have := (hQ p hp).1; omega)
    exact hbg.kept (hk 0 (by omega)) (hk 1 (by omega)) (hk 2 (by omega))
  have hC1 : cC I1 n Q (fun _ => false, fun _ => false, fun _ => bg) := fun p hp => ⟨(a3 p hp).1, (a3 p hp).2.1, fun h => by cases h⟩
  obtain ⟨I2, b1, b2, b3⟩ := c_arr (F := F) (by omega) hV1 (a := B + 5 + 6 * i + 3) hV.2.2.1.2.2.2.2.2.2 (by omega) hbg1 hC1 (xp := -1) (x := 0) (by omega) (chk := false) ⟨fun _ => rfl, fun _ => by decide⟩
  rw [m_c0_arr hn] at b1 b2
  have hC2 := b2 rfl
  have w2 := b3.W hV1
  have hMn : ∀ p, p < n → B + 5 + 6 * i < Q p ∨ Q p + 4 ≤ B + 5 + 6 * i := fun p hp => by have := (hQ p hp).1; omega
  have w3 : fW B i n Q I1 (z_up I2 (B + 54) 4 0) := w2.trans ⟨fun b _ hb _ => z_up_off (by omega), fun j _ _ => z_up_ne (Or.inl (by omega)), fun p hp j _ _ => by have := (hQ p hp).1; exact z_up_ne (Or.inl (by omega))⟩
  have hC3 : cC (z_up I2 (B + 54) 4 0) n Q (m_c0 bg) := fun p hp => by
    have hb := (hQ p hp).1
    rw [z_up_off (by omega)]
    exact ⟨(hC2 p hp).1, (hC2 p hp).2.1, fun q => ((hC2 p hp).2.2 q).kept (z_up_off (by omega)) (z_up_off (by omega)) (z_up_off (by omega))⟩
  have hV3 := hV1.W w3
  have ld : z_X5_leastDue F S (z_up I2 (B + 54) 4 0) (B + 5 + 6 * i) = some (m_oi (m_ld (m_c0 bg).2.1 n 0)) := c_ld hV3 hC3 F n 0 (by omega) (by omega)
  have hM8 : (z_up I2 (B + 54) 4 0) (B + 5 + 6 * i) = I1 (B + 5 + 6 * i) := by rw [z_up_off (by omega), b3.1 _ hMn]
  obtain ⟨I3, c1, c2, c3⟩ := c_run_lp (F := F) (by omega) 24641 F 0 (z_up I2 (B + 54) 4 0) (0, us, m_c0 bg) x hx (by omega) (by omega) hV3 hC3 (m_c0_I hbh) (by rw [hM8, a5]; rfl) (by show 0 ≤ 20; omega) (by rw [hM8, a6, hus]) h20 (by rw [z_up_at])
  have eq : z_X2_run F S I (B + 54) (B + 5 + 6 * i) = z_X2_run_26 F S F (B + 54) (B + 5 + 6 * i) (m_oi (m_ld (m_c0 bg).2.1 n 0)) 0 (z_up I2 (B + 54) 4 0) := by
    unfold z_X2_run
    rw [ob_mk a1, ob_mk hV.2.2.1.2.2.2.1]
    have b1' : z_X2_arrive F S I1 (B + 54) (B + 5 + 6 * i) (-1) 0 (B + 5 + 6 * i + 3) = some (0, I2) := b1
    rw [ob_mk b1', ob_mk ld]
  have wAll : fC B i n Q I I3 := a2.trans (w3.trans c1).toC
  have h7 : I3 (B + 5 + 6 * i) 7 = 0 := by rw [(w3.trans c1).2.1 7 (by omega) (by omega)]; exact a4
  by_cases hz : x.1 = 0
  · obtain ⟨d1, d2, d3, d4, d5, d6, d7, d8⟩ := c2 hz
    have h5 : ∀ p, p < n → I3 (Q p) 5 = b2i (decide (p < 0) && m_fm K gn G x.2.2.2.2.1 n p) := fun p hp => by
      rw [(w3.trans c1).2.2 p hp 5 (by omega) (by omega), (a3 p hp).2.2]; rfl
    obtain ⟨I4, s1, s2, s3, s4⟩ := c_setF_lp (F := F) (by omega) (hV.keepC wAll) F n 0 I3 (by omega) (by omega) (hV.keepC wAll) d2 h5 (fun p hp => by omega)
    have hV4 := hV.keepC (wAll.trans (fF.toC hV s2))
    have hM4 : I4 (B + 5 + 6 * i) = I3 (B + 5 + 6 * i) := s2.1 _ (fun p hp => by have := (hQ p hp).1; omega)
    have hC4 := d2.keepF hV s2
    refine ⟨z_up I4 (B + 5 + 6 * i) 7 1, (wAll.trans (fF.toC hV s2)).trans ⟨fun b hb _ _ => z_up_off hb, fun k hk _ _ => z_up_ne (Or.inr hk), fun p hp k _ => by have := (hQ p hp).1; exact z_up_ne (Or.inl (by omega))⟩, fun _ => ⟨?_, ?_, d3, ?_, d5, ?_, d7, ?_, z_up_at _ _ _ _, fun p hp => ?_, fun p hp hf => ?_⟩, fun g => absurd hz g⟩
    · rw [eq]
      have : z_X2_run_67 F S (B + 5 + 6 * i) I3 = some (-1, z_up I4 (B + 5 + 6 * i) 7 1) := by
        unfold z_X2_run_67
        have s1' : z_X5_setFrames F S I3 (B + 5 + 6 * i) = some I4 := s1
        rw [ob_mk s1']
      exact d1.trans this
    · exact cC.upK hV hC4
    · rw [z_up_ne (Or.inr (by omega)), hM4]; exact d4
    · rw [z_up_ne (Or.inr (by omega)), hM4]; exact d6
    · rw [z_up_off (by omega), s2.1 _ (fun p hp => by have := (hQ p hp).1; omega)]; exact d8
    · have := (hQ p hp).1
      rw [z_up_off (by omega)]; exact s3 p hp
    · have := (hQ p hp).1
      exact (s4 p hp hf).kept (z_up_off (by omega)) (z_up_off (by omega)) (z_up_off (by omega))
  · obtain ⟨d1, d2, d3, d4⟩ := c3 hz
    exact ⟨I3, wAll, fun g => absurd g hz, fun _ => ⟨eq.trans d1, d2, d3, d4, h7⟩⟩
end CC
