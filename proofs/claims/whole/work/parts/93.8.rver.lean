/-! the reference: verify, as a whole -/
section RVF
variable {F : Nat} {S : zS} {A i n pc gn : Nat} {T : mTr} {K : Nat → mAc} {G : Nat → mGd} {fm : Nat → Bool} {fs : Nat → mSn}
theorem r_75w {J : zI} (hF : 50 ≤ F) (hL : rL S A) (e21 : J A 21 = nI i) (hi : i < 8) {w p : Nat} (hw : w ≠ 0 ∧ w < 20) (h24 : J A 24 = nI w) (kk : Int32) : z_X9_looksAt_75 F S A (nI p) kk J = some J := by
  unfold z_X9_looksAt_75
  obtain ⟨f, rfl⟩ : ∃ f, F = f + 1 := ⟨F - 1, by omega⟩
  show z_X9_looksAt_83B (f + 1) S (z_X9_looksAt_83 (f + 1) S f) A (nI p) kk _ J = some J
  unfold z_X9_looksAt_83B z_X9_looksAt_150
  rw [ob_mk hL.f10, e21, ixk hL.n10 hi (by omega), h24, if_neg (show ¬ nI w = 0 from fun d => hw.1 ((nI_eq (by omega) (by omega)).mp (d.trans nl0))), if_pos (show (0 : Int32) < nI w from (nI_ltI (a := 0) (by omega) (by omega)).mpr (by omega))]
  split <;> rfl
theorem r_75 (hF : 50 ≤ F) (hfv : ∀ q, q < n → fm q = true → mVs T n K (fs q)) {p : Nat} (hp : p < n) {rc : Nat → Bool} (hsc : mSc n K gn G rc p) {s : mSn} (hv : mVs T n K s) {J : zI} (hW : rWk S J A i T pc n K gn G) (hR : rFr J A i n fm fs) (h24 : J A 24 = nI 0) (hsn : rSn J (A + 20) 0 s) : ∃ J', z_X9_looksAt_75 F S A (nI p) (nI (40 * i + p)) J = some J' ∧ J' A 24 = nI (if m_lg T n G fm fs p s gn 0 = 0 then m_bd (m_wd T pc n K p s) (fun s => (m_lt T n fm fs p s (m_tn (K p)) (m_ta (K p)), s)) else (m_lg T n G fm fs p s gn 0, s)).1 ∧ ((if m_lg T n G fm fs p s gn 0 = 0 then m_bd (m_wd T pc n K p s) (fun s => (m_lt T n fm fs p s (m_tn (K p)) (m_ta (K p)), s)) else (m_lg T n G fm fs p s gn 0, s)).1 = 0 → rSn J' (A + 20) 0 (if m_lg T n G fm fs p s gn 0 = 0 then m_bd (m_wd T pc n K p s) (fun s => (m_lt T n fm fs p s (m_tn (K p)) (m_ta (K p)), s)) else (m_lg T n G fm fs p s gn 0, s)).2 ∧ mVs T n K (if m_lg T n G fm fs p s gn 0 = 0 then m_bd (m_wd T pc n K p s) (fun s => (m_lt T n fm fs p s (m_tn (K p)) (m_ta (K p)), s)) else (m_lg T n G fm fs p s gn 0, s)).2) ∧ fL A J J' := by
  have hW0 := hW
  obtain ⟨⟨hL, hT, ⟨e21, hi⟩, ⟨e3, hpc⟩, hn40, hK⟩, e6, ⟨e10, hgn⟩, hG⟩ := hW
  obtain ⟨ok, k7, k8, k9⟩ := hK p hp
  unfold z_X9_looksAt_75
  rw [e21, nl4, pk_mul]
  obtain ⟨J1, a1, a2, a3, a4⟩ := r_lg_lp (F := F) hF hfv (p := p) (by omega) (fun j hj hh => (hsc.2.2 j hj hh).1) hv (nI (40 * i + p)) F gn 0 J (by omega) (by omega) hW0 hR h24 hsn
  rw [Nat.add_zero] at a1
  rw [a1]
  have hlg := m_lg_lt T n G fm fs p s gn 0
  unfold z_X9_looksAt_150
  rw [a2]
  by_cases h0 : m_lg T n G fm fs p s gn 0 = 0
  · rw [h0, if_neg (show ¬ (0 : Int32) < nI 0 by decide), if_pos rfl]
    have hW1 := hW0.keep (i := i) a3.toW
    obtain ⟨J2, d1, d2, d3, d4⟩ := r_does (F := F) (by omega) hW1.1 hp (hsn.kept a4) hv
    have hd20 : (m_wd T pc n K p s).1 < 20 := m_do_lt _ _ _ _ _ _ _ _
    have f2 := a3.tr d2.toL
    have hW2 := hW0.keep (i := i) f2.toW
    have hR2 := hR.kp (f2.1 _ (by omega) (by omega) (by omega)) (f2.1 _ (by omega) (by omega) (by omega))
    rw [ob_mk d1, d3]
    obtain ⟨J3, u1, u2, u3⟩ := r_lt (F := F) (s := (m_wd T pc n K p s).2) hF hfv hp hd20 hW2 hR2 d3 (fun g => ⟨(mVr.wd hT.2.1 hpc hp ok hv) g, d4 g⟩)
    have to202 : (if nI (m_wd T pc n K p s).1 = 0 then (ob (S.1 A 7) (fun r2 => if (nI (40 * i + p)) < 0 ∨ (S.2.1 r2).2 ≤ (nI (40 * i + p)).toNatClampNeg then none else (ob (z_X9_goesOn F S J2 (J2 r2 (nI (40 * i + p)).toNatClampNeg)) (fun q4 => if q4 = 0 then (z_X9_looksAt_202 F S A (nI p) (nI (40 * i + p)) J2) else (ob (S.1 A 6) (fun r5 => if (J2 A 21) < 0 ∨ (S.2.1 r5).2 ≤ (J2 A 21).toNatClampNeg then none else (if (nI p + 1) = (J2 r5 (J2 A 21).toNatClampNeg) then (ob (z_X9_fails F S J2 A 5) (fun q7 => z_X9_looksAt_202 F S A (nI p) (nI (40 * i + p)) q7)) else (z_X9_looksAt_202 F S A (nI p) (nI (40 * i + p)) J2)))))))) else (z_X9_looksAt_202 F S A (nI p) (nI (40 * i + p)) J2)) = z_X9_looksAt_202 F S A (nI p) (nI (40 * i + p)) J2 := by
      by_cases hz : (m_wd T pc n K p s).1 = 0
      · rw [if_pos (show nI (m_wd T pc n K p s).1 = 0 by rw [hz]; rfl), ob_mk hL.f7, ixk hL.n7 (by omega) (by omega), nc (by omega), (hW2.1.2.2.2.2.2 p hp).2.1, ob_mk (r_goes ok.1)]
        cases hg : m_goes (K p).1
        · rw [if_pos (show b2i false = 0 from rfl)]
        · have hp1 := (hsc.1 hg).1
          rw [if_neg (show ¬ b2i true = 0 by decide), ob_mk hL.f6, hW2.1.2.2.1.1, ixk hL.n6 hi (by omega), nc (by omega), hW2.2.1, nI_1, if_neg (nI_ne (by omega) (by omega) (by omega))]
      · rw [if_neg (show ¬ nI (m_wd T pc n K p s).1 = 0 from fun d => hz ((nI_eq (by omega) (by omega)).mp (d.trans nl0)))]
    rw [to202, u1]
    refine ⟨J3, rfl, ?_, ?_, f2.tr u3.toL⟩
    · rw [u2]
      unfold m_bd
      by_cases hz : (m_wd T pc n K p s).1 = 0
      · rw [if_pos hz, if_pos hz]
      · rw [if_neg hz, if_neg hz]
    · unfold m_bd
      by_cases hz : (m_wd T pc n K p s).1 = 0
      · rw [if_pos hz]
        exact fun _ => ⟨(d4 hz).kept (u3.1 _ (by omega)), (mVr.wd hT.2.1 hpc hp ok hv) hz⟩
      · rw [if_neg hz]; exact fun g => absurd g hz
  · rw [if_pos (show (0 : Int32) < nI (m_lg T n G fm fs p s gn 0) from (nI_ltI (a := 0) (by omega) (by omega)).mpr (by omega)), if_neg h0]
    exact ⟨J1, rfl, a2, fun g => absurd g h0, a3⟩
theorem r_lookAt (hF : 50 ≤ F) (hfv : ∀ q, q < n → fm q = true → mVs T n K (fs q)) {p : Nat} (hp : p < n) {rc : Nat → Bool} {s : mSn} {pr : Bool} (hre : mSc n K gn G rc p ∨ (fm p = false ∧ pr = false)) {J : zI} (hW : rWk S J A i T pc n K gn G) (hR : rFr J A i n fm fs) (hpr : pr = true → mVs T n K s ∧ rSn J (A + 20) 0 s) : ∃ J', z_X9_looksAt F S J A (nI p) (b2i pr) = some J' ∧ J' A 24 = nI (m_lk T pc n K gn G fm fs p pr s).1 ∧ ((m_lk T pc n K gn G fm fs p pr s).1 = 0 → rSn J' (A + 20) 0 (m_lk T pc n K gn G fm fs p pr s).2 ∧ mVs T n K (m_lk T pc n K gn G fm fs p pr s).2) ∧ fL A J J' := by
  have hW0 := hW
  obtain ⟨⟨hL, hT, ⟨e21, hi⟩, ⟨e3, hpc⟩, hn40, hK⟩, e6, ⟨e10, hgn⟩, hG⟩ := hW
  have h16 := hT.2.1.2.1
  unfold z_X9_looksAt
  rw [ob_mk hL.f18, e21, nl40, pk_mul, nI_add, ixk hL.n18 (by omega) (by omega), nc (by omega)]
  generalize hJ0 : z_up J A 24 0 = J0
  have f0 : f24 A J J0 := by rw [← hJ0]; exact f24.up
  have h24 : J0 A 24 = nI 0 := by rw [← hJ0, z_up_at]; rfl
  have hW1 := hW0.keep (i := i) f0.toL.toW
  have hR1 := hR.kp (f0.1 _ (by omega)) (f0.1 _ (by omega))
  have e21' : J0 A 21 = nI i := hW1.1.2.2.1.1
  rw [(hR1 p hp).1]
  unfold m_lk m_tf
  cases hf : fm p
  · rw [if_pos (show b2i false = 0 from rfl), if_pos rfl]
    cases hpp : pr
    · rw [if_pos (show b2i false = 0 from rfl), if_pos rfl, ob_mk (r_fails0 h24 8), r_75w (w := 8) hF hL (by rw [z_up_ne (Or.inr (by omega))]; exact e21') hi (by omega) (by rw [z_up_at]; rfl)]
      refine ⟨_, rfl, ?_, fun g => ?_, f0.toL.tr f24.up.toL⟩
      · rw [z_up_at]; rfl
      · exact absurd g (by show ¬ 8 = 0; omega)
    · rw [if_neg (show ¬ b2i true = 0 by decide), if_neg (show ¬ true = false by decide)]
      obtain ⟨v1, v2⟩ := hpr hpp
      have hsc : mSc n K gn G rc p := by
        rcases hre with h | h
        · exact h
        · rw [hpp] at h; exact absurd h.2 (by decide)
      obtain ⟨J', u1, u2, u3, u4⟩ := r_75 (F := F) hF hfv hp hsc v1 hW1 hR1 h24 (v2.kept (f0.1 _ (by omega)))
      exact ⟨J', u1, u2, u3, f0.toL.tr u4⟩
  · have hsc : mSc n K gn G rc p := by
      rcases hre with h | h
      · exact h
      · rw [hf] at h; exact absurd h.1 (by decide)
    have hvf := hfv p hp hf
    have snf := (hR1 p hp).2 hf
    rw [if_neg (show ¬ b2i true = 0 by decide), if_neg (show ¬ true = false by decide)]
    have e46 : ∀ {J1 : zI} {w : Nat}, w < 20 → f24 A J J1 → J1 A 24 = nI w → ∃ J2, z_X9_looksAt_46 F S A (nI p) (nI (40 * i + p)) J1 = z_X9_looksAt_75 F S A (nI p) (nI (40 * i + p)) J2 ∧ fL A J J2 ∧ J2 A 24 = nI w ∧ rSn J2 (A + 20) 0 (fs p) := fun {J1 w} hw ff h => by
      unfold z_X9_looksAt_46
      rw [ob_mk hL.f19, ob_mk hL.f22, nl20, pk_mul]
      obtain ⟨J2, c1, c2, c3, c4⟩ := r_copy (F := F) (I := J1) (i := 20 * (40 * i + p)) (j := 0) (by omega) hL.n19 hL.n22 (by omega) (by omega) (by omega) (by omega) (show A + 19 ≠ A + 20 by omega)
      rw [ob_mk (show z_X9_copy F S J1 (A + 19) (nI (20 * (40 * i + p))) (A + 20) 0 = some J2 from c1)]
      exact ⟨J2, rfl, ff.toL.tr (fL.of1 (Or.inl rfl) c4), by rw [c4 A (by omega)]; exact h, (((hR p hp).2 hf).kept (ff.1 _ (by omega))).copy (by have := hvf.h; omega) c2⟩
    have ok46 : ∃ J', z_X9_looksAt_46 F S A (nI p) (nI (40 * i + p)) J0 = some J' ∧ J' A 24 = nI (m_bd (0, fs p) (fun s => if m_lg T n G fm fs p s gn 0 = 0 then m_bd (m_wd T pc n K p s) (fun s => (m_lt T n fm fs p s (m_tn (K p)) (m_ta (K p)), s)) else (m_lg T n G fm fs p s gn 0, s))).1 ∧ ((m_bd (0, fs p) (fun s => if m_lg T n G fm fs p s gn 0 = 0 then m_bd (m_wd T pc n K p s) (fun s => (m_lt T n fm fs p s (m_tn (K p)) (m_ta (K p)), s)) else (m_lg T n G fm fs p s gn 0, s))).1 = 0 → rSn J' (A + 20) 0 (m_bd (0, fs p) (fun s => if m_lg T n G fm fs p s gn 0 = 0 then m_bd (m_wd T pc n K p s) (fun s => (m_lt T n fm fs p s (m_tn (K p)) (m_ta (K p)), s)) else (m_lg T n G fm fs p s gn 0, s))).2 ∧ mVs T n K (m_bd (0, fs p) (fun s => if m_lg T n G fm fs p s gn 0 = 0 then m_bd (m_wd T pc n K p s) (fun s => (m_lt T n fm fs p s (m_tn (K p)) (m_ta (K p)), s)) else (m_lg T n G fm fs p s gn 0, s))).2) ∧ fL A J J' := by
      obtain ⟨J2, b1, b2, b3, b4⟩ := e46 (w := 0) (by omega) f0 h24
      rw [b1]
      obtain ⟨J', u1, u2, u3, u4⟩ := r_75 (F := F) hF hfv hp hsc hvf (hW0.keep (i := i) b2.toW) (hR.kp (b2.1 _ (by omega) (by omega) (by omega)) (b2.1 _ (by omega) (by omega) (by omega))) b3 b4
      exact ⟨J', u1, u2, u3, b2.tr u4⟩
    cases hpp : pr
    · rw [if_pos (show b2i false = 0 from rfl), if_neg (show ¬ (false && !m_fits T s (fs p)) = true by rw [Bool.false_and]; decide)]
      exact ok46
    · obtain ⟨v1, v2⟩ := hpr hpp
      rw [if_neg (show ¬ b2i true = 0 by decide), ob_mk hL.f22, ob_mk (r_allFit hF hL hW1.1.2.1 hL.n22 (by omega) (v2.kept (f0.1 _ (by omega))) snf v1.h hvf.h (v1.b h16 hn40) (hvf.b h16 hn40))]
      cases hfit : m_fits T s (fs p)
      · rw [if_pos (show b2i false = 0 from rfl), if_pos (show (true && !false) = true from rfl), ob_mk (r_fails0 h24 9)]
        obtain ⟨J2, b1, b2, b3, b4⟩ := e46 (J1 := z_up J0 A 24 9) (w := 9) (by omega) ⟨fun b hb => by rw [z_up_off hb]; exact f0.1 b hb, fun k hk => by rw [z_up_ne (Or.inr hk)]; exact f0.2 k hk⟩ (by rw [z_up_at]; rfl)
        rw [b1, r_75w (w := 9) hF hL (by rw [b2.2 21 (by omega)]; exact e21) hi (by omega) b3]
        refine ⟨J2, rfl, b3, fun g => ?_, b2⟩
        exact absurd g (by show ¬ 9 = 0; omega)
      · rw [if_neg (show ¬ b2i true = 0 by decide), if_neg (show ¬ (true && !true) = true by decide)]
        exact ok46
theorem r_vf_lp (hF : 50 ≤ F) (hfv : ∀ q, q < n → fm q = true → mVs T n K (fs q)) {rc : Nat → Bool} (hrf : ∀ q, q < n → fm q = true → rc q = true) (hsc : ∀ q, q < n → rc q = true → mSc n K gn G rc q) : ∀ (fuel m j : Nat) (J : zI) (pr : Bool) (s : mSn), j + m = n → m < fuel → rWk S J A i T pc n K gn G → rFr J A i n fm fs → (pr = true → (j < n ∧ rc j = true) ∧ mVs T n K s ∧ rSn J (A + 20) 0 s) → ∃ J', fL A J J' ∧ z_X9_verify_38 F S fuel A (nI i) (b2i pr) (nI j) J = some ((if (m_vf T pc n K gn G fm fs m j pr s).1 = 0 then 0 else -10 - nI (m_vf T pc n K gn G fm fs m j pr s).2), z_up J' A 20 (nI (m_vf T pc n K gn G fm fs m j pr s).1)) := by
  intro fuel
  induction fuel with
  | zero => intro m j J pr s h1 h2; omega
  | succ fuel ih =>
    intro m j J pr s h1 h2 hW hR hpr
    have hW0 := hW
    obtain ⟨⟨hL, hT, ⟨e21, hi⟩, ⟨e3, hpc⟩, hn40, hK⟩, e6, ⟨e10, hgn⟩, hG⟩ := hW
    show ∃ J', fL A J J' ∧ z_X9_verify_38B F S (z_X9_verify_38 F S fuel) A (nI i) (b2i pr) (nI j) J = _
    unfold z_X9_verify_38B
    rw [ob_mk hL.f6, ixk hL.n6 hi (by omega), nc (by omega), e6]
    cases m with
    | zero =>
      rw [if_neg (fun d => (by have := (nI_ltI (by omega) (by omega)).mp d; omega : False))]
      cases hpp : pr
      · refine ⟨J, fL.rf, ?_⟩
        show _ = some ((if (if false = true then (5, j - 1) else (0, 0) : Nat × Nat).1 = 0 then 0 else -10 - nI (if false = true then (5, j - 1) else (0, 0) : Nat × Nat).2), z_up J A 20 (nI (if false = true then (5, j - 1) else (0, 0) : Nat × Nat).1))
        rw [if_neg (show ¬ false = true by decide)]
        rfl
      · have := (hpr hpp).1.1
        omega
    | succ m =>
      have hj : j < n := by omega
      obtain ⟨ok, k7, k8, k9⟩ := hK j hj
      have hre : mSc n K gn G rc j ∨ (fm j = false ∧ pr = false) := by
        cases hr : rc j
        · right
          refine ⟨?_, ?_⟩
          · cases hf : fm j
            · rfl
            · have := hrf j hj hf; rw [hr] at this; cases this
          · cases hp : pr
            · rfl
            · have := (hpr hp).1.2; rw [hr] at this; cases this
        · left; exact hsc j hj hr
      obtain ⟨J1, u1, u2, u3, u4⟩ := r_lookAt (F := F) (rc := rc) (s := s) (pr := pr) hF hfv hj hre hW0 hR (fun g => (hpr g).2)
      rw [if_pos ((nI_ltI (by omega) (by omega)).mpr (by omega)), ob_mk u1, u2]
      have hlk20 : (m_lk T pc n K gn G fm fs j pr s).1 < 20 := by
        unfold m_lk
        have hb : ∀ (r : Nat × mSn) (g : mSn → Nat × mSn), r.1 < 20 → (∀ s, (g s).1 < 20) → (m_bd r g).1 < 20 := fun r g h1 h2 => by
          unfold m_bd
          split
          · exact h2 _
          · exact h1
        refine hb _ _ (m_tf_lt _ _ _ _) (fun s => ?_)
        split
        · exact hb _ _ (m_do_lt _ _ _ _ _ _ _ _) (fun s => m_lt_lt _ _ _ _ _ _ _ _)
        · exact m_lg_lt _ _ _ _ _ _ _ _ _
      have hvf : m_vf T pc n K gn G fm fs (m + 1) j pr s = if (m_lk T pc n K gn G fm fs j pr s).1 = 0 then m_vf T pc n K gn G fm fs m (j + 1) (m_goes (K j).1) (m_lk T pc n K gn G fm fs j pr s).2 else ((m_lk T pc n K gn G fm fs j pr s).1, j) := rfl
      rw [hvf]
      by_cases h0 : (m_lk T pc n K gn G fm fs j pr s).1 = 0
      · obtain ⟨s1, s2⟩ := u3 h0
        have hW1 := hW0.keep (i := i) u4.toW
        have hR1 := hR.kp (u4.1 _ (by omega) (by omega) (by omega)) (u4.1 _ (by omega) (by omega) (by omega))
        rw [h0, if_neg (show ¬ (0 : Int32) < nI 0 by decide), if_pos rfl, ob_mk hL.f7, nl40, pk_mul, nI_add, ixk hL.n7 (by omega) (by omega), nc (by omega), (hW1.1.2.2.2.2.2 j hj).2.1, ob_mk (r_goes ok.1), nI_1]
        have hscj : m_goes (K j).1 = true → j + 1 < n ∧ rc (j + 1) = true := fun g => by
          rcases hre with h | ⟨h1, h2⟩
          · exact h.1 g
          · exfalso
            have : m_lk T pc n K gn G fm fs j pr s = (8, s) := by
              unfold m_lk m_tf m_bd
              rw [h1, if_pos rfl, h2, if_pos rfl, if_neg (show ¬ (8, s).1 = 0 by show ¬ 8 = 0; omega)]
            rw [this] at h0
            exact absurd h0 (by show ¬ 8 = 0; omega)
        obtain ⟨J2, v1, v2⟩ := ih m (j + 1) J1 (m_goes (K j).1) (m_lk T pc n K gn G fm fs j pr s).2 (by omega) (by omega) hW1 hR1 (fun g => ⟨hscj g, s2, s1⟩)
        exact ⟨J2, u4.tr v1, v2⟩
      · rw [if_pos (show (0 : Int32) < nI (m_lk T pc n K gn G fm fs j pr s).1 from (nI_ltI (a := 0) (by omega) (by omega)).mpr (by omega)), if_neg h0]
        refine ⟨J1, u4, ?_⟩
        rw [if_neg (show ¬ ((m_lk T pc n K gn G fm fs j pr s).1, j).1 = 0 from h0)]
end RVF
section RVG
variable {F : Nat} {S : zS} {I : zI} {A : Nat} {T : mTr} {X : Nat → mM} {f : Nat}
theorem r_verify (hF : 50 ≤ F) (hA : rAll S I A T X f) (hX : ∀ j, j < 8 → mSz (X j)) (hM : ∀ j, j < 8 → mMs T (X j)) (hO : ∀ j, j < 8 → mOk T (X j)) (hZ : ∀ j, j < 8 → xkn (X j) = true → (xC (X j)).1 0 = true) (a : Int32) : ∃ I', z_X9_verify F S I A a = some ((k_verify T X f a).1, I') ∧ rAll S I' A T X (k_verify T X f a).2 ∧ fY A I I' := by
  have hL := hA.1
  unfold z_X9_verify k_verify
  rw [ob_mk (r_isM_c a)]
  refine ix_cases a 8 (by omega) (fun h e => ?_) (fun i hi ea e => ?_)
  · rw [e, oy_n, oy_n, if_pos rfl]; exact ⟨I, rfl, hA, fY.rf⟩
  · have hR := hA.2.2.1 i hi
    obtain ⟨m1, m2, m3, m4, m5, m6⟩ := hM i hi
    obtain ⟨o1, o2, o3, o4⟩ := hO i hi
    rw [e, oy_s, oy_s, if_neg (show ¬ (1 : Int32) = 0 by decide), ea, ob_mk hL.f15, ixk hL.n15 hi (by omega), nc (by omega), hR.1.2.2.2.2]
    cases hk : xkn (X i)
    · rw [if_pos (show b2i false = 0 from rfl), if_neg (show ¬ false = true by decide)]; exact ⟨I, rfl, hA, fY.rf⟩
    · obtain ⟨n0, ⟨fn1, fn2, _⟩, fmE, fv⟩ := o4 hk
      have hK := hR.2.2.2.2 hk
      rw [if_neg (show ¬ b2i true = 0 by decide), if_pos rfl, ob_mk hL.f22]
      have o' : ∀ b, b ≠ A → z_up I A 21 (nI i) b = I b := fun b hb => z_up_off hb
      obtain ⟨J, d1, d2, d3⟩ := r_beg (F := F) (I := z_up I A 21 (nI i)) (x1 := A + 20) (bg := xbg (X i)) (by omega) hL (z_up_at _ _ _ _) hi (by rw [o' _ (by omega)]; exact hR.1.2.1) (by omega) (fun y hy => by rw [o' _ (by omega)]; exact hR.2.1 y hy) o2 o1 (Or.inl rfl) hL.n22
      rw [ob_mk d1]
      have oJ : ∀ b, b ≠ A → b ≠ A + 20 → J b = I b := fun b b1 b2 => by rw [d3 b b2, o' b b1]
      have jA : ∀ k, k ≠ 21 → J A k = I A k := fun k hk => by rw [d3 A (by omega), z_up_ne (Or.inr hk)]
      have hW := hR.toWk (J := J) hL hA.2.1 hi (hM i hi) (by rw [d3 A (by omega), z_up_at]) (jA 0 (by omega)) (fun a h1 h2 => oJ _ (by omega) (by omega))
      have hRf : rFr J A i (xn (X i)) (xfm (X i)) (xfs (X i)) := fun q hq => ⟨by rw [oJ _ (by omega) (by omega)]; exact (hK q hq).2.2.1, fun g => ((hK q hq).2.2.2 g).kept (oJ _ (by omega) (by omega))⟩
      obtain ⟨J2, u1, u2⟩ := r_vf_lp (F := F) (rc := (xC (X i)).1) hF fv (fun q hq g => by
        rw [fmE q] at g
        unfold m_fm at g
        rw [Bool.and_eq_true] at g
        exact g.1) fn2 F (xn (X i)) 0 J true (xbg (X i)) (by omega) (by omega) hW hRf (fun _ => ⟨⟨n0, hZ i hi hk⟩, o3.bg, d2⟩)
      have u2' : z_X9_verify_38 F S F A (nI i) 1 0 J = some ((if (m_ver T (X i)).1 = 0 then 0 else -10 - nI (m_ver T (X i)).2), z_up J2 A 20 (nI (m_ver T (X i)).1)) := u2
      rw [u2']
      have fin : rAll S (z_up J2 A 20 (nI (m_ver T (X i)).1)) A T X (m_ver T (X i)).1 ∧ fY A I (z_up J2 A 20 (nI (m_ver T (X i)).1)) := by
        refine ⟨hA.same hX (fun b b1 b2 => by rw [z_up_off b1, u1.1 b b1 (by omega) (by omega), oJ b b1 (by omega)]) (by rw [z_up_ne (Or.inr (by omega)), u1.2 0 (by omega), jA 0 (by omega)]) (z_up_at _ _ _ _), fun b hb => by rw [z_up_off (by omega), u1.1 b (by omega) (by omega) (by omega), oJ b (by omega) (by omega)]⟩
      by_cases hz : (m_ver T (X i)).1 = 0
      · rw [if_pos hz, if_pos hz]
        rw [hz] at fin ⊢
        exact ⟨_, rfl, fin.1, fin.2⟩
      · rw [if_neg hz, if_neg hz]
        exact ⟨_, rfl, fin.1, fin.2⟩
end RVG
