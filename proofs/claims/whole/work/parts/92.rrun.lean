/-! the reference: computing's loop, and the frames -/
section RRN
variable {F : Nat} {S : zS} {A i n pc gn : Nat} {T : mTr} {K : Nat → mAc} {G : Nat → mGd}
theorem r_ld_lp (hL : rL S A) {J : zI} {d : Nat → Bool} (e21 : J A 21 = nI i) (hi : i < 8) (e6 : J (A + 6) i = nI n) (hn : n ≤ 40) (hd : ∀ p, p < n → J (A + 22) p = b2i (d p)) : ∀ (fuel m j : Nat), j + m = n → m < fuel → z_X9_leastDue_2 F S J fuel A (nI j) = some (m_oi (m_ld d m j)) := by
  intro fuel
  induction fuel with
  | zero => intro m j h1 h2; omega
  | succ fuel ih =>
    intro m j h1 h2
    show z_X9_leastDue_2B F S J (z_X9_leastDue_2 F S J fuel) A (nI j) = _
    unfold z_X9_leastDue_2B
    rw [ob_mk hL.f6, e21, ixk hL.n6 hi (by omega), nc (by omega), e6]
    cases m with
    | zero => rw [if_neg (fun q => (by have := (nI_ltI (by omega) (by omega)).mp q; omega : False))]; rfl
    | succ m =>
      rw [if_pos ((nI_ltI (by omega) (by omega)).mpr (by omega)), ob_mk hL.f25, ixk hL.n25 (by omega) (by omega), nc (by omega), hd j (by omega)]
      simp only [m_ld]
      cases d j
      · rw [if_pos (show b2i false = 0 from rfl), if_neg (show ¬ false = true by decide), nI_1]
        exact ih m (j + 1) (by omega) (by omega)
      · rw [if_neg (show ¬ b2i true = 0 by decide), if_pos rfl]; rfl
theorem r_run_lp (hF : 50 ≤ F) : ∀ (f fuel : Nat) (R : mR) (J : zI) (r : Nat × Nat × mR), f ≤ fuel → m_run T pc n K gn G f R = some r → rWk S J A i T pc n K gn G → rC J A i n R.2.2 → mCv T n K R.2.2 → mI n R.2.2 → ∃ J', fWk A i J J' ∧ (r.1 = 0 → rC J' A i n r.2.2.2.2 ∧ z_X9_compute_119 F S fuel A (nI i) (m_oi (m_ld R.2.2.2.1 n 0)) J = ob (z_X9_layFrames F S (z_up (z_up J' A 20 0) (A + 15) i 1) A (nI i)) (fun q3 => some (q3.1, q3.2))) ∧ (r.1 ≠ 0 → z_X9_compute_119 F S fuel A (nI i) (m_oi (m_ld R.2.2.2.1 n 0)) J = some (-10 - nI r.2.1, z_up J' A 20 (nI r.1))) := by
  intro f
  induction f with
  | zero => intro fuel R J r _ h; cases h
  | succ f ih =>
    intro fuel R J r hfu h hW hC hCv hI
    have hW0 := hW
    obtain ⟨⟨hL, hT, ⟨e21, hi⟩, ⟨e3, hpc⟩, hn40, hK⟩, e6, ⟨e10, hgn⟩, hG⟩ := hW
    obtain ⟨fu, rfl⟩ : ∃ fu, fuel = fu + 1 := ⟨fuel - 1, by omega⟩
    simp only [m_run] at h
    cases hl : m_ld R.2.2.2.1 n 0 with
    | none =>
      rw [hl] at h
      have e : (0, 0, R) = r := Option.some.inj h
      subst e
      refine ⟨J, fWk.rf, fun _ => ⟨hC, ?_⟩, fun g => absurd rfl g⟩
      show z_X9_compute_119B F S (z_X9_compute_119 F S fu) A (nI i) (-1) J = _
      unfold z_X9_compute_119B
      rw [if_pos (show (-1 : Int32) < 0 by decide), ob_mk hL.f15, ixk hL.n15 hi (by omega), nc (by omega)]
    | some p =>
      obtain ⟨_, q1, q2⟩ := m_ld_some n 0 p hl
      have hp : p < n := by omega
      have hr : R.2.2.1 p = true := (hI p hp).1 q2
      rw [hl, ob2_mk rfl] at h
      have f1 : fWk A i J (z_up J (A + 22) p 0) := ⟨fun b _ _ _ _ _ b6 _ => z_up_off b6, fun k _ => by rw [z_up_off (by omega)], fun k _ => by rw [z_up_off (by omega)], fun k _ => by rw [z_up_off (by omega)]⟩
      have hC1 : rC (z_up J (A + 22) p 0) A i n (R.2.2.1, nup R.2.2.2.1 p false, R.2.2.2.2) := fun q hq => by
        obtain ⟨u1, u2, u3⟩ := hC q hq
        refine ⟨by rw [z_up_off (by omega)]; exact u1, ?_, fun g => (u3 g).kept (z_up_off (by omega))⟩
        show z_up J (A + 22) p 0 (A + 22) q = b2i (nup R.2.2.2.1 p false q)
        by_cases e : q = p
        · subst e; rw [z_up_at, nup_at]; rfl
        · rw [z_up_ne (Or.inr e), nup_ne e]; exact u2
      obtain ⟨J2, w1, w2, w3, w4⟩ := r_work (F := F) hF hp (hW0.keep f1) hC1 hCv hr
      have hw20 : (m_work T pc n K gn G p R.2.2).1 < 20 := by
        unfold m_work
        split
        · split
          · unfold m_on
            have : ∀ (m j : Nat) (s : mSn) (r : Nat × mC), r.1 < 20 → (m_tg T n p s m j r).1 < 20 := by
              intro m
              induction m with
              | zero => intro j s r h; exact h
              | succ m ihm =>
                intro j s r h
                simp only [m_tg]
                split
                · exact ihm _ _ _ (m_arr_lt _ _ _ _ _ _)
                · exact h
            refine this _ _ _ _ ?_
            split
            · exact m_arr_lt _ _ _ _ _ _
            · show 0 < 20; omega
          · exact m_do_lt _ _ _ _ _ _ _ _
        · exact m_grd_lt _ _ _ _ _ _ _ _
      have hstep : z_X9_compute_119 F S (fu + 1) A (nI i) (m_oi (some p)) J = if (0 : Int32) < J2 A 24 then some (-10 - nI p, z_up J2 A 20 (J2 A 24)) else ob (z_X9_leastDue F S J2 A) (fun q7 => z_X9_compute_119 F S fu A (nI i) q7 J2) := by
        show z_X9_compute_119B F S (z_X9_compute_119 F S fu) A (nI i) (nI p) J = _
        unfold z_X9_compute_119B
        rw [if_neg (nn (by omega)), ob_mk hL.f25, ixk hL.n25 (by omega) (by omega), nc (by omega), ob_mk w1]
      have f2 := f1.trans w4
      by_cases hw : (m_work T pc n K gn G p R.2.2).1 = 0
      · rw [if_pos hw] at h
        obtain ⟨d1, d2⟩ := w3 hw
        have hW2 := hW0.keep f2
        obtain ⟨J3, g1, g2, g3⟩ := ih fu (m_nx T pc n K gn G p R) J2 r (by omega) h hW2 d1 d2 (m_work_ph hT.2.1 hp hI q2 (m_wd_h hI hp hr) hw).2
        rw [hstep, w2, hw, if_neg (show ¬ (0 : Int32) < nI 0 by decide), ob_mk (show z_X9_leastDue F S J2 A = some (m_oi (m_ld (m_work T pc n K gn G p R.2.2).2.2.1 n 0)) from r_ld_lp hL hW2.1.2.2.1.1 hi hW2.2.1 hn40 (fun q hq => (d1 q hq).2.1) F n 0 (by omega) (by omega))]
        exact ⟨J3, f2.trans g1, g2, g3⟩
      · rw [if_neg hw] at h
        have e := Option.some.inj h
        subst e
        refine ⟨J2, f2, fun g => absurd g hw, fun _ => ?_⟩
        rw [hstep, w2, if_pos (show (0 : Int32) < nI (m_work T pc n K gn G p R.2.2).1 from (nI_ltI (a := 0) (by omega) (by omega)).mpr (by omega))]
/-- the marks of frames -/
def rB (J : zI) (A i : Nat) (B : Nat → Bool) : Prop := ∀ q, q < 40 → J (A + 18) (40 * i + q) = b2i (B q)
def f18 (A i : Nat) (J J' : zI) : Prop := (∀ b, b ≠ A + 18 → J' b = J b) ∧ ∀ k, (k < 40 * i ∨ 40 * i + 40 ≤ k) → J' (A + 18) k = J (A + 18) k
theorem f18.rf {J : zI} : f18 A i J J := ⟨fun _ _ => rfl, fun _ _ => rfl⟩
theorem f18.tr {J J1 J2 : zI} (h : f18 A i J J1) (g : f18 A i J1 J2) : f18 A i J J2 := ⟨fun b hb => (g.1 b hb).trans (h.1 b hb), fun k hk => (g.2 k hk).trans (h.2 k hk)⟩
theorem f18.up {J J1 : zI} {t : Nat} {x : Int32} (h : f18 A i J J1) (ht : t < 40) : f18 A i J (z_up J1 (A + 18) (40 * i + t) x) := ⟨fun b hb => by rw [z_up_off hb]; exact h.1 b hb, fun k hk => by rw [z_up_ne (Or.inr (by omega))]; exact h.2 k hk⟩
theorem rB.up {J : zI} {B : Nat → Bool} (h : rB J A i B) {t : Nat} : rB (z_up J (A + 18) (40 * i + t) 1) A i (fun q => B q || decide (q = t)) := fun q hq => by
  show _ = b2i (B q || decide (q = t))
  by_cases e : q = t
  · subst e; rw [z_up_at, decide_eq_true rfl, Bool.or_true]; rfl
  · rw [z_up_ne (Or.inr (by omega)), decide_eq_false e, Bool.or_false]; exact h q hq
theorem rB.cg {J : zI} {B B' : Nat → Bool} (h : rB J A i B) (e : ∀ q, q < 40 → B q = B' q) : rB J A i B' := fun q hq => by rw [← e q hq]; exact h q hq
theorem rWk.k18 {J J' : zI} (h : rWk S J A i T pc n K gn G) (f : ∀ b, b ≠ A + 18 → J' b = J b) : rWk S J' A i T pc n K gn G := by
  obtain ⟨⟨h1, h2, h3, h4, h5, h6⟩, g1, g2, g3⟩ := h
  refine ⟨⟨h1, h2.kept (by rw [f A (by omega)]) (f _ (by omega)) (f _ (by omega)), by rw [f A (by omega)]; exact h3, by rw [f _ (by omega)]; exact h4, h5, ?_⟩, by rw [f _ (by omega)]; exact g1, by rw [f _ (by omega)]; exact g2, ?_⟩
  · rw [f (A + 7) (by omega), f (A + 8) (by omega), f (A + 9) (by omega)]; exact h6
  · rw [f (A + 11) (by omega), f (A + 12) (by omega), f (A + 13) (by omega), f (A + 14) (by omega)]; exact g3
theorem r_l36 {k2 : Nat → Int32 → Int32 → zI → Option (Int32 × zI)} {p : Nat} (hp : p < n) {a e : Nat} (he : e ≤ 40) (hj : m_jmp (K p).1 = true) : ∀ (fuel m j : Nat) (J : zI) (B : Nat → Bool), j + m = e → a ≤ j → 0 < e → m < fuel → rWk S J A i T pc n K gn G → J (A + 9) (40 * i + p) = nI (e - 1) → rB J A i (fun q => B q || decide (a ≤ q ∧ q < j)) → ∃ J', z_X9_layFrames_36 F S k2 fuel A (nI i) (nI p) (nI (40 * i + p)) (nI j) J = z_X9_layFrames_78 F S k2 A (nI i) (nI p) J' ∧ rB J' A i (fun q => B q || decide (a ≤ q ∧ q < e)) ∧ f18 A i J J' := by
  intro fuel
  induction fuel with
  | zero => intro m j J B h1 _ _ h2; omega
  | succ fuel ih =>
    intro m j J B h1 haj h0 h2 hW hb hB
    have hW0 := hW
    obtain ⟨⟨hL, hT, ⟨e21, hi⟩, e3, hn40, hK⟩, e6, ⟨e10, hgn⟩, hG⟩ := hW
    obtain ⟨ok, k7, k8, k9⟩ := hK p hp
    show ∃ J', z_X9_layFrames_36B F S k2 (z_X9_layFrames_36 F S k2 fuel) A (nI i) (nI p) (nI (40 * i + p)) (nI j) J = _ ∧ _
    unfold z_X9_layFrames_36B
    rw [ob_mk hL.f7, ixk hL.n7 (by omega) (by omega), nc (by omega), k7, ob_mk (r_jumps ok.1), hj, if_neg (show ¬ b2i true = 0 by decide), ob_mk hL.f9, ixc hL.n9 (by omega) (by omega), hb]
    cases m with
    | zero =>
      rw [if_pos ((nI_ltI (by omega) (by omega)).mpr (by omega))]
      have : j = e := by omega
      subst this
      exact ⟨J, rfl, hB, f18.rf⟩
    | succ m =>
      rw [if_neg (fun d => (by have := (nI_ltI (by omega) (by omega)).mp d; omega : False)), ob_mk hL.f18, nl40, pk_mul, nI_add, ixk hL.n18 (by omega) (by omega), nc (by omega), nI_1]
      have hf : f18 A i J (z_up J (A + 18) (40 * i + j) 1) := f18.rf.up (by omega)
      obtain ⟨J', g1, g2, g3⟩ := ih m (j + 1) (z_up J (A + 18) (40 * i + j) 1) B (by omega) (by omega) h0 (by omega) (hW0.k18 hf.1) (by rw [hf.1 _ (by omega)]; exact hb) (hB.up.cg (fun q _ => by
        show ((B q || decide (a ≤ q ∧ q < j)) || decide (q = j)) = (B q || decide (a ≤ q ∧ q < j + 1))
        rw [Bool.or_assoc]
        congr 1
        by_cases c : q = j
        · subst c; rw [decide_eq_true rfl, Bool.or_true, decide_eq_true (show a ≤ q ∧ q < q + 1 by omega)]
        · rw [decide_eq_false c, Bool.or_false]
          by_cases c2 : a ≤ q ∧ q < j
          · rw [decide_eq_true c2, decide_eq_true (show a ≤ q ∧ q < j + 1 by omega)]
          · rw [decide_eq_false c2, decide_eq_false (show ¬ (a ≤ q ∧ q < j + 1) by omega)]))
      exact ⟨J', g1, g2, hf.tr g3⟩
theorem r_l83 {k2 : Nat → Int32 → Int32 → zI → Option (Int32 × zI)} {p : Nat} (hp : p < 40) : ∀ (fuel m j : Nat) (J : zI) (B : Nat → Bool), j + m = gn → m < fuel → rWk S J A i T pc n K gn G → rB J A i (fun q => B q || anyN (fun y => m_hld G y p && decide ((G y).2.2.1 = q)) j) → ∃ J', z_X9_layFrames_83 F S k2 fuel A (nI i) (nI p) (nI (4 * i + j)) J = k2 A (nI i) (nI (p + 1)) J' ∧ rB J' A i (fun q => B q || anyN (fun y => m_hld G y p && decide ((G y).2.2.1 = q)) gn) ∧ f18 A i J J' := by
  intro fuel
  induction fuel with
  | zero => intro m j J B h1 h2; omega
  | succ fuel ih =>
    intro m j J B h1 h2 hW hB
    have hW0 := hW
    obtain ⟨⟨hL, hT, ⟨e21, hi⟩, e3, hn40, hK⟩, e6, ⟨e10, hgn⟩, hG⟩ := hW
    show ∃ J', z_X9_layFrames_83B F S k2 (z_X9_layFrames_83 F S k2 fuel) A (nI i) (nI p) (nI (4 * i + j)) J = _ ∧ _
    unfold z_X9_layFrames_83B
    rw [ob_mk hL.f10, ixk hL.n10 hi (by omega), nc (by omega), e10, nl4, pk_mul, nI_add]
    cases m with
    | zero =>
      rw [if_neg (fun d => (by have := (nI_ltI (by omega) (by omega)).mp d; omega : False)), nI_1]
      have : j = gn := by omega
      subst this
      exact ⟨J, rfl, hB, f18.rf⟩
    | succ m =>
      obtain ⟨gok, q1, q2, q3, q4⟩ := hG j (by omega)
      obtain ⟨o1, o2, o3, o4⟩ := gok
      rw [if_pos ((nI_ltI (by omega) (by omega)).mpr (by omega)), ob_mk (r_holds hL (by omega) (by omega) q1 q2 (by omega) (by omega)), b01, nI_1]
      by_cases hh : (G j).1 ≤ p ∧ p < (G j).2.1
      · rw [if_pos hh, ob_mk hL.f18, ob_mk hL.f13, ixk hL.n13 (by omega) (by omega), nc (by omega), q3, nl40, pk_mul, nI_add, ixk hL.n18 (by omega) (by omega), nc (by omega)]
        have hf : f18 A i J (z_up J (A + 18) (40 * i + (G j).2.2.1) 1) := f18.rf.up o3
        obtain ⟨J', g1, g2, g3⟩ := ih m (j + 1) _ B (by omega) (by omega) (hW0.k18 hf.1) (hB.up.cg (fun q _ => by
          show ((B q || anyN (fun y => m_hld G y p && decide ((G y).2.2.1 = q)) j) || decide (q = (G j).2.2.1)) = (B q || (anyN (fun y => m_hld G y p && decide ((G y).2.2.1 = q)) j || (m_hld G j p && decide ((G j).2.2.1 = q))))
          rw [Bool.or_assoc]
          congr 2
          have : m_hld G j p = true := decide_eq_true hh
          rw [this, Bool.true_and]
          by_cases c : q = (G j).2.2.1
          · rw [decide_eq_true c, decide_eq_true c.symm]
          · rw [decide_eq_false c, decide_eq_false (fun g => c g.symm)]))
        exact ⟨J', g1, g2, hf.tr g3⟩
      · rw [if_neg hh]
        exact ih m (j + 1) J B (by omega) (by omega) hW0 (hB.cg (fun q _ => by
          show (B q || anyN (fun y => m_hld G y p && decide ((G y).2.2.1 = q)) j) = (B q || (anyN (fun y => m_hld G y p && decide ((G y).2.2.1 = q)) j || (m_hld G j p && decide ((G j).2.2.1 = q))))
          have : m_hld G j p = false := decide_eq_false hh
          rw [this, Bool.false_and, Bool.or_false]))
theorem r_l2 (hF : 50 ≤ F) {rc : Nat → Bool} : ∀ (fuel m p : Nat) (J : zI), p + m = n → m < fuel → rWk S J A i T pc n K gn G → (∀ q, q < n → J (A + 16) (40 * i + q) = b2i (rc q)) → rB J A i (fun q => anyN (fun p' => m_lead K gn G rc p' q) p) → ∃ J', z_X9_layFrames_2 F S fuel A (nI i) (nI p) J = z_X9_layFrames_142 F S F A (nI i) 0 0 J' ∧ rB J' A i (fun q => anyN (fun p' => m_lead K gn G rc p' q) n) ∧ f18 A i J J' := by
  intro fuel
  induction fuel with
  | zero => intro m p J h1 h2; omega
  | succ fuel ih =>
    intro m p J h1 h2 hW hrc hB
    have hW0 := hW
    obtain ⟨⟨hL, hT, ⟨e21, hi⟩, e3, hn40, hK⟩, e6, ⟨e10, hgn⟩, hG⟩ := hW
    show ∃ J', z_X9_layFrames_2B F S (z_X9_layFrames_2 F S fuel) A (nI i) (nI p) J = _ ∧ _
    unfold z_X9_layFrames_2B
    rw [ob_mk hL.f6, ixk hL.n6 hi (by omega), nc (by omega), e6]
    cases m with
    | zero =>
      rw [if_neg (fun d => (by have := (nI_ltI (by omega) (by omega)).mp d; omega : False))]
      have : p = n := by omega
      subst this
      exact ⟨J, rfl, hB, f18.rf⟩
    | succ m =>
      have hp : p < n := by omega
      obtain ⟨ok, k7, k8, k9⟩ := hK p hp
      rw [if_pos ((nI_ltI (by omega) (by omega)).mpr (by omega)), ob_mk hL.f16, nl40, pk_mul, nI_add, ixk hL.n16 (by omega) (by omega), nc (by omega), hrc p hp, nI_1]
      cases hr : rc p
      · rw [if_pos (show b2i false = 0 from rfl)]
        exact ih m (p + 1) J (by omega) (by omega) hW0 hrc (hB.cg (fun q _ => by
          show anyN (fun p' => m_lead K gn G rc p' q) p = (anyN (fun p' => m_lead K gn G rc p' q) p || m_lead K gn G rc p q)
          have : m_lead K gn G rc p q = false := by unfold m_lead; rw [hr, Bool.false_and]
          rw [this, Bool.or_false]))
      · rw [if_neg (show ¬ b2i true = 0 by decide), ob_mk hL.f8, ixc hL.n8 (by omega) (by omega), k8]
        have l78 : ∀ (J1 : zI), f18 A i J J1 → rB J1 A i (fun q => anyN (fun p' => m_lead K gn G rc p' q) p || m_gon (K p) q) → ∃ J', z_X9_layFrames_78 F S (z_X9_layFrames_2 F S fuel) A (nI i) (nI p) J1 = z_X9_layFrames_142 F S F A (nI i) 0 0 J' ∧ rB J' A i (fun q => anyN (fun p' => m_lead K gn G rc p' q) n) ∧ f18 A i J J' := fun J1 hf1 hB1 => by
          unfold z_X9_layFrames_78
          rw [nl4, pk_mul]
          obtain ⟨J2, g1, g2, g3⟩ := r_l83 (F := F) (k2 := z_X9_layFrames_2 F S fuel) (p := p) (by omega) F gn 0 J1 (fun q => anyN (fun p' => m_lead K gn G rc p' q) p || m_gon (K p) q) (by omega) (by omega) (hW0.k18 hf1.1) (hB1.cg (fun q _ => by show _ = (_ || false); rw [Bool.or_false]))
          rw [Nat.add_zero] at g1
          rw [g1]
          have hf2 := hf1.tr g3
          obtain ⟨J3, u1, u2, u3⟩ := ih m (p + 1) J2 (by omega) (by omega) (hW0.k18 hf2.1) (fun q hq => by rw [hf2.1 _ (by omega)]; exact hrc q hq) (g2.cg (fun q _ => by
            show ((anyN (fun p' => m_lead K gn G rc p' q) p || m_gon (K p) q) || anyN (fun y => m_hld G y p && decide ((G y).2.2.1 = q)) gn) = (anyN (fun p' => m_lead K gn G rc p' q) p || m_lead K gn G rc p q)
            have : m_lead K gn G rc p q = (m_gon (K p) q || anyN (fun y => m_hld G y p && decide ((G y).2.2.1 = q)) gn) := by unfold m_lead; rw [hr, Bool.true_and]
            rw [this, Bool.or_assoc]))
          exact ⟨J3, u1, u2, hf2.tr u3⟩
        cases hj : m_jmp (K p).1
        · have hne := of_decide_eq_false hj
          have e0 : m_tn (K p) = 0 := by unfold m_tn; rw [if_neg (by omega), if_neg (by omega)]
          obtain ⟨f, rfl⟩ : ∃ f, F = f + 1 := ⟨F - 1, by omega⟩
          show ∃ J', z_X9_layFrames_36B (f + 1) S (z_X9_layFrames_2 (f + 1) S fuel) (z_X9_layFrames_36 (f + 1) S (z_X9_layFrames_2 (f + 1) S fuel) f) A (nI i) (nI p) (nI (40 * i + p)) _ J = _ ∧ _
          unfold z_X9_layFrames_36B
          rw [ob_mk hL.f7, ixk hL.n7 (by omega) (by omega), nc (by omega), k7, ob_mk (r_jumps ok.1), hj, if_pos (show b2i false = 0 from rfl)]
          refine l78 J f18.rf (hB.cg (fun q _ => ?_))
          show _ = (_ || m_gon (K p) q)
          have : m_gon (K p) q = false := by unfold m_gon; rw [e0]; exact decide_eq_false (by omega)
          rw [this, Bool.or_false]
        · have hne := of_decide_eq_true hj
          obtain ⟨a, ha, ea, eb⟩ := ok.2.2.2 (by omega)
          have ta : m_ta (K p) = a := by unfold m_ta; rw [ea, nc (by omega)]
          rw [ea]
          have go : ∀ e, a < e → e ≤ 40 → m_tn (K p) = e - a → J (A + 9) (40 * i + p) = nI (e - 1) → ∃ J', z_X9_layFrames_36 F S (z_X9_layFrames_2 F S fuel) F A (nI i) (nI p) (nI (40 * i + p)) (nI a) J = z_X9_layFrames_142 F S F A (nI i) 0 0 J' ∧ rB J' A i (fun q => anyN (fun p' => m_lead K gn G rc p' q) n) ∧ f18 A i J J' := fun e he1 he2 tn hb => by
            obtain ⟨J1, g1, g2, g3⟩ := r_l36 (F := F) (k2 := z_X9_layFrames_2 F S fuel) (a := a) hp he2 hj F (e - a) a J (fun q => anyN (fun p' => m_lead K gn G rc p' q) p) (by omega) (by omega) (by omega) (by omega) hW0 hb (hB.cg (fun q _ => by rw [decide_eq_false (show ¬ (a ≤ q ∧ q < a) by omega), Bool.or_false]))
            rw [g1]
            refine l78 J1 g3 (g2.cg (fun q _ => ?_))
            show (_ || decide (a ≤ q ∧ q < e)) = (_ || m_gon (K p) q)
            congr 1
            unfold m_gon
            rw [ta, tn, show a + (e - a) = e by omega]
          by_cases h16 : (K p).1 = 16
          · obtain ⟨b, hb, hab, eb⟩ := eb h16
            have tn : m_tn (K p) = b + 1 - a := by unfold m_tn; rw [if_pos h16, eb, ea, nc (by omega), nc (by omega)]
            rw [if_pos h16, eb] at k9
            exact go (b + 1) (by omega) (by omega) tn (by rw [k9]; rfl)
          · have h145 : (K p).1 = 14 ∨ (K p).1 = 15 := by
              rcases hne with h | h | h
              · exact Or.inl h
              · exact Or.inr h
              · exact absurd h h16
            have tn : m_tn (K p) = 1 := by unfold m_tn; rw [if_neg h16, if_pos h145]
            rw [if_neg h16, ea] at k9
            exact go (a + 1) (by omega) (by omega) (by rw [tn]; omega) (by rw [k9]; rfl)
end RRN
