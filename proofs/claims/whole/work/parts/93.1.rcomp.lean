/-! the reference: frames are laid; compute as a whole -/
theorem m_ct_cg {f g : Nat → Bool} : ∀ n, (∀ p, p < n → f p = g p) → m_ct f n = m_ct g n := by
  intro n
  induction n with
  | zero => intro _; rfl
  | succ n ih => intro h; simp only [m_ct]; rw [ih (fun p hp => h p (by omega)), h n (by omega)]
theorem m_ct_any (f : Nat → Bool) : ∀ n, anyN f n = decide (0 < m_ct f n) := by
  intro n
  induction n with
  | zero => rfl
  | succ n ih =>
    show (anyN f n || f n) = decide (0 < m_ct f n + (if f n = true then 1 else 0))
    cases h : f n
    · rw [Bool.or_false, ih, if_neg (show ¬ false = true by decide), Nat.add_zero]
    · rw [Bool.or_true, if_pos rfl, decide_eq_true (by omega)]
theorem nl800 : (800 : Int32) = nI 800 := rfl
section RCP
variable {F : Nat} {S : zS} {A i n pc gn : Nat} {T : mTr} {K : Nat → mAc} {G : Nat → mGd}
theorem r_l142 (hF : 50 ≤ F) (hL : rL S A) (hi : i < 8) (hn : n ≤ 40) {B : Nat → Bool} {st : Nat → mSn} : ∀ (fuel m q : Nat) (J : zI), q + m = n → m < fuel → J (A + 6) i = nI n → rB J A i B → (∀ q, q < n → B q = true → rSn J (A + 17) (20 * (40 * i + q)) (st q) ∧ (st q).2.1 ≤ 10) → (∀ q', q' < q → B q' = true → rSn J (A + 19) (20 * (40 * i + q')) (st q')) → ∃ J', z_X9_layFrames_142 F S fuel A (nI i) (nI (m_ct B q)) (nI q) J = some (nI (m_ct B n), J') ∧ (∀ q, q < n → B q = true → rSn J' (A + 19) (20 * (40 * i + q)) (st q)) ∧ (∀ b, b ≠ A + 19 → J' b = J b) ∧ ∀ k, (k < 800 * i ∨ 800 * i + 800 ≤ k) → J' (A + 19) k = J (A + 19) k := by
  intro fuel
  induction fuel with
  | zero => intro m q J h1 h2; omega
  | succ fuel ih =>
    intro m q J h1 h2 e6 hB hst hfr
    show ∃ J', z_X9_layFrames_142B F S (z_X9_layFrames_142 F S fuel) A (nI i) (nI (m_ct B q)) (nI q) J = _ ∧ _
    unfold z_X9_layFrames_142B
    rw [ob_mk hL.f6, ixk hL.n6 hi (by omega), nc (by omega), e6]
    cases m with
    | zero =>
      rw [if_neg (fun d => (by have := (nI_ltI (by omega) (by omega)).mp d; omega : False))]
      have : q = n := by omega
      subst this
      exact ⟨J, rfl, hfr, fun _ _ => rfl, fun _ _ => rfl⟩
    | succ m =>
      have hq : q < n := by omega
      rw [if_pos ((nI_ltI (by omega) (by omega)).mpr (by omega)), ob_mk hL.f18, nl40, pk_mul, nI_add, ixk hL.n18 (by omega) (by omega), nc (by omega), hB q (by omega), nI_1, nI_1]
      cases hb : B q
      · rw [if_pos (show b2i false = 0 from rfl)]
        have e : m_ct B (q + 1) = m_ct B q := by show m_ct B q + (if B q = true then 1 else 0) = _; rw [hb, if_neg (show ¬ false = true by decide), Nat.add_zero]
        rw [← e]
        exact ih m (q + 1) J (by omega) (by omega) e6 hB hst (fun q' hq' g => by
          by_cases c : q' = q
          · subst c; rw [hb] at g; cases g
          · exact hfr q' (by omega) g)
      · rw [if_neg (show ¬ b2i true = 0 by decide), ob_mk hL.f17, ob_mk hL.f19, nl20, pk_mul]
        obtain ⟨s1, s2⟩ := hst q hq hb
        obtain ⟨J1, c1, c2, c3, c4⟩ := r_copy (F := F) (I := J) (i := 20 * (40 * i + q)) (j := 20 * (40 * i + q)) (by omega) hL.n17 hL.n19 (by omega) (by omega) (by omega) (by omega) (show A + 17 ≠ A + 19 by omega)
        rw [ob_mk c1]
        have e : m_ct B (q + 1) = m_ct B q + 1 := by show m_ct B q + (if B q = true then 1 else 0) = _; rw [hb, if_pos rfl]
        rw [← e]
        obtain ⟨J2, d1, d2, d3, d4⟩ := ih m (q + 1) J1 (by omega) (by omega) (by rw [c4 _ (by omega)]; exact e6) (fun q' hq' => by rw [c4 _ (by omega)]; exact hB q' hq') (fun q' hq' g => ⟨((hst q' hq' g).1).kept (c4 _ (by omega)), (hst q' hq' g).2⟩) (fun q' hq' g => by
          by_cases c : q' = q
          · subst c; exact s1.copy (by omega) c2
          · exact (hfr q' (by omega) g).keptK (by have := (hst q' (by omega) g).2; omega) (fun k k1 k2 => c3 k (by omega)))
        exact ⟨J2, d1, d2, fun b hb => by rw [d3 b hb, c4 b hb], fun k hk => by rw [d4 k hk, c3 k (by omega)]⟩
theorem r_lay (hF : 50 ≤ F) {J : zI} {C : mC} (hW : rWk S J A i T pc n K gn G) (hrc : ∀ q, q < n → J (A + 16) (40 * i + q) = b2i (C.1 q)) (hst : ∀ q, q < n → C.1 q = true → rSn J (A + 17) (20 * (40 * i + q)) (C.2.2 q)) (hB0 : rB J A i (fun _ => false)) (hCv : mCv T n K C) (hSc : ∀ p, p < n → C.1 p = true → mSc n K gn G C.1 p) : ∃ J', z_X9_layFrames F S J A (nI i) = some (nI (m_ct (m_fm K gn G C.1 n) n), J') ∧ (∀ q, q < n → J' (A + 18) (40 * i + q) = b2i (m_fm K gn G C.1 n q) ∧ (m_fm K gn G C.1 n q = true → rSn J' (A + 19) (20 * (40 * i + q)) (C.2.2 q))) ∧ (∀ b, b ≠ A + 18 → b ≠ A + 19 → J' b = J b) ∧ (∀ k, (k < 40 * i ∨ 40 * i + 40 ≤ k) → J' (A + 18) k = J (A + 18) k) ∧ ∀ k, (k < 800 * i ∨ 800 * i + 800 ≤ k) → J' (A + 19) k = J (A + 19) k := by
  have hL := hW.1.1
  have hi := hW.1.2.2.1.2
  have hn := hW.1.2.2.2.2.1
  obtain ⟨J1, a1, a2, a3⟩ := r_l2 (F := F) (rc := C.1) hF F n 0 J (by omega) (by omega) hW hrc hB0
  have efm : ∀ q, q < n → anyN (fun p' => m_lead K gn G C.1 p' q) n = m_fm K gn G C.1 n q := fun q hq => by
    unfold m_fm
    rw [← m_ct_any]
    cases h : anyN (fun p' => m_lead K gn G C.1 p' q) n
    · rw [Bool.and_false]
    · obtain ⟨p, hp, hl⟩ := anyN_iff.mp h
      have hl' : (C.1 p && (m_gon (K p) q || anyN (fun j => m_hld G j p && decide ((G j).2.2.1 = q)) gn)) = true := hl
      rw [Bool.and_eq_true] at hl'
      obtain ⟨l1, l2⟩ := hl'
      obtain ⟨s1, s2, s3⟩ := hSc p hp l1
      have : C.1 q = true := by
        rw [Bool.or_eq_true] at l2
        rcases l2 with l2 | l2
        · exact (s2 q l2).2
        · obtain ⟨j, hj, hh⟩ := anyN_iff.mp l2
          rw [Bool.and_eq_true] at hh
          have e := of_decide_eq_true hh.2
          have := (s3 j hj hh.1).2
          rw [e] at this
          exact this
      rw [this]; rfl
  have hreach : ∀ q, q < n → anyN (fun p' => m_lead K gn G C.1 p' q) n = true → C.1 q = true := fun q hq h => by
    rw [efm q hq] at h
    unfold m_fm at h
    rw [Bool.and_eq_true] at h
    exact h.1
  obtain ⟨J2, b1, b2, b3, b4⟩ := r_l142 (F := F) hF hL hi hn (B := fun q => anyN (fun p' => m_lead K gn G C.1 p' q) n) (st := C.2.2) F n 0 J1 (by omega) (by omega) (by rw [a3.1 _ (by omega)]; exact hW.2.1) a2 (fun q hq g => ⟨(hst q hq (hreach q hq g)).kept (a3.1 _ (by omega)), (hCv q hq (hreach q hq g)).h⟩) (fun q' hq' => absurd hq' (Nat.not_lt_zero _))
  refine ⟨J2, ?_, fun q hq => ⟨?_, fun g => ?_⟩, fun b h1 h2 => by rw [b3 b h2, a3.1 b h1], fun k hk => by rw [b3 _ (by omega), a3.2 k hk], fun k hk => by rw [b4 k hk, a3.1 _ (by omega)]⟩
  · unfold z_X9_layFrames
    rw [show (0 : Int32) = nI 0 from rfl, a1]
    have b1' : z_X9_layFrames_142 F S F A (nI i) 0 0 J1 = _ := b1
    rw [b1']
    rw [m_ct_cg n efm]
  · rw [b3 _ (by omega), a2 q (by omega)]
    show b2i (anyN (fun p' => m_lead K gn G C.1 p' q) n) = _
    rw [efm q hq]
  · exact b2 q hq (by show anyN (fun p' => m_lead K gn G C.1 p' q) n = true; rw [efm q hq]; exact g)
theorem r_c32 (hL : rL S A) (hi : i < 8) {I : zI} : ∀ (fuel m k : Nat) (J : zI), k + m = 40 → m < fuel → (∀ q, q < k → J (A + 16) (40 * i + q) = 0 ∧ J (A + 18) (40 * i + q) = 0 ∧ J (A + 22) q = 0) → (∀ b, b ≠ A + 16 → b ≠ A + 18 → b ≠ A + 22 → J b = I b) → (∀ k, (k < 40 * i ∨ 40 * i + 40 ≤ k) → J (A + 16) k = I (A + 16) k ∧ J (A + 18) k = I (A + 18) k) → ∃ J', z_X9_compute_32 F S fuel A (nI i) (nI k) J = z_X9_compute_32B F S (fun _ _ _ _ => none) A (nI i) (nI 40) J' ∧ (∀ q, q < 40 → J' (A + 16) (40 * i + q) = 0 ∧ J' (A + 18) (40 * i + q) = 0 ∧ J' (A + 22) q = 0) ∧ (∀ b, b ≠ A + 16 → b ≠ A + 18 → b ≠ A + 22 → J' b = I b) ∧ (∀ k, (k < 40 * i ∨ 40 * i + 40 ≤ k) → J' (A + 16) k = I (A + 16) k ∧ J' (A + 18) k = I (A + 18) k) := by
  intro fuel
  induction fuel with
  | zero => intro m k J h1 h2; omega
  | succ fuel ih =>
    intro m k J h1 h2 e1 e2 e3
    cases m with
    | zero =>
      have : k = 40 := by omega
      subst this
      refine ⟨J, ?_, e1, e2, e3⟩
      show z_X9_compute_32B F S (z_X9_compute_32 F S fuel) A (nI i) (nI 40) J = _
      unfold z_X9_compute_32B
      rw [if_neg (show ¬ nI 40 < 40 by decide), if_neg (show ¬ nI 40 < 40 by decide)]
    | succ m =>
      show ∃ J', z_X9_compute_32B F S (z_X9_compute_32 F S fuel) A (nI i) (nI k) J = _ ∧ _
      have hstep : z_X9_compute_32B F S (z_X9_compute_32 F S fuel) A (nI i) (nI k) J = z_X9_compute_32 F S fuel A (nI i) (nI (k + 1)) (z_up (z_up (z_up J (A + 16) (40 * i + k) 0) (A + 18) (40 * i + k) 0) (A + 22) k 0) := by
        unfold z_X9_compute_32B
        rw [if_pos (show nI k < 40 from (nI_ltI (b := 40) (by omega) (by omega)).mpr (by omega)), ob_mk hL.f16, nl40, pk_mul, nI_add, ixk hL.n16 (by omega) (by omega), nc (by omega), ob_mk hL.f18, ixc hL.n18 (by omega) (by omega), ob_mk hL.f25, ixk hL.n25 (by omega) (by omega), nc (by omega), nI_1]
      rw [hstep]
      refine ih m (k + 1) _ (by omega) (by omega) (fun q hq => ?_) (fun b b1 b2 b3 => by rw [z_up_off b3, z_up_off b2, z_up_off b1]; exact e2 b b1 b2 b3) (fun y hy => ?_)
      · by_cases c : q = k
        · subst c
          exact ⟨by rw [z_up_off (by omega), z_up_off (by omega), z_up_at], by rw [z_up_off (by omega), z_up_at], by rw [z_up_at]⟩
        · obtain ⟨u1, u2, u3⟩ := e1 q (by omega)
          exact ⟨by rw [z_up_off (by omega), z_up_off (by omega), z_up_ne (Or.inr (by omega))]; exact u1, by rw [z_up_off (by omega), z_up_ne (Or.inr (by omega)), z_up_off (by omega)]; exact u2, by rw [z_up_ne (Or.inr c), z_up_off (by omega), z_up_off (by omega)]; exact u3⟩
      · obtain ⟨u1, u2⟩ := e3 y hy
        exact ⟨by rw [z_up_off (by omega), z_up_off (by omega), z_up_ne (Or.inr (by omega))]; exact u1, by rw [z_up_off (by omega), z_up_ne (Or.inr (by omega)), z_up_off (by omega)]; exact u2⟩
/-- what a method must be for its computing -/
def mOk (T : mTr) (x : mM) : Prop := (xbg x).2.1 = 0 ∧ (∀ y, xus x ≤ y → (xbg x).1 y = 0) ∧ mVs T 0 (fun _ => (0, 0, 0)) (xbg x) ∧ (xkn x = true → 0 < xn x ∧ mFn T (xpc x) (xn x) (xK x) (xgn x) (xG x) (xus x) (xR x) ∧ (∀ p, xfm x p = m_fm (xK x) (xgn x) (xG x) (xC x).1 (xn x) p) ∧ ∀ p, p < xn x → xfm x p = true → mVs T (xn x) (xK x) (xfs x p))
theorem mVs.bg {x : mSn} (h : mVs T 0 (fun _ => (0, 0, 0)) x) : mVs T n K x := by
  have l : ∀ t, mTy T 0 (fun _ => (0, 0, 0)) t → mTy T n K t := fun t ht => by
    rcases ht with ht | ht | ht
    · exact Or.inl ht
    · exact Or.inr (Or.inl ht)
    · omega
  exact ⟨fun y hy => l _ (h.1 y hy), fun j hj => ⟨l _ (h.2.1 j hj).1, (h.2.1 j hj).2⟩, h.2.2.1, h.2.2.2⟩
end RCP
