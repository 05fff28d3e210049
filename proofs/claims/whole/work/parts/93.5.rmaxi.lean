/-! the reference: maximum -/
def m_wide (x : mAc) (s : mSn) : Nat := if (x.1 = 3 ∧ s.1 (m_ta x) = 2) ∨ (x.1 = 4 ∧ s.2.1 ≠ 0 ∧ s.2.2 (s.2.1 - 1) = 2) then 2 else 1
theorem m_up_v {T : mTr} {pc n p : Nat} {K : Nat → mAc} {s : mSn} (h0 : (m_wd T pc n K p s).1 = 0) : m_up (K p) (m_wd T pc n K p s).2 = if (K p).1 = 3 ∨ (K p).1 = 4 ∨ (K p).1 = 20 then m_ta (K p) + m_wide (K p) s else 0 := by
  unfold m_up m_wide
  by_cases c : (K p).1 = 3 ∨ (K p).1 = 4 ∨ (K p).1 = 20
  · rw [if_pos c, if_pos c]
    unfold m_wd at h0 ⊢
    generalize m_ta (K p) = a at *
    generalize (K p).1 = k at *
    rcases c with rfl | rfl | rfl
    · have e : m_do T pc n K 3 a p s = m_load pc a s := rfl
      rw [e] at h0 ⊢
      unfold m_load at h0 ⊢
      by_cases q : ¬ a < pc ∨ s.1 a = 0 ∨ s.1 a = 3
      · rw [if_pos q] at h0; exact absurd h0 (by show ¬ 7 = 0; omega)
      · rw [if_neg q]
        have pl : (m_push s (s.1 a)).2.1 = s.1 := by unfold m_push; split <;> rfl
        rw [pl]
        by_cases g : s.1 a = 2
        · rw [if_pos g, if_pos (Or.inl ⟨rfl, g⟩)]
        · rw [if_neg g, if_neg (by rintro (q | q); exact g q.2; exact absurd q.1 (by omega))]
    · have e : m_do T pc n K 4 a p s = m_store pc a s := rfl
      rw [e] at h0 ⊢
      unfold m_store at h0 ⊢
      by_cases c1 : ¬ a < pc
      · rw [if_pos c1] at h0; exact absurd h0 (by show ¬ 7 = 0; omega)
      · rw [if_neg c1] at h0 ⊢
        by_cases c2 : s.2.1 = 0
        · rw [if_pos c2] at h0; exact absurd h0 (by show ¬ 1 = 0; omega)
        · rw [if_neg c2] at h0 ⊢
          by_cases c3 : s.2.2 (s.2.1 - 1) = 2 ∧ ¬ a + 1 < pc
          · rw [if_pos c3] at h0; exact absurd h0 (by show ¬ 7 = 0; omega)
          · rw [if_neg c3]
            show a + 1 + (if m_sto s.1 a (s.2.2 (s.2.1 - 1)) a = 2 then 1 else 0) = _
            rw [m_sto_a]
            by_cases g : s.2.2 (s.2.1 - 1) = 2
            · rw [if_pos g, if_pos (Or.inr ⟨rfl, c2, g⟩)]
            · rw [if_neg g, if_neg (by rintro (q | q); exact absurd q.1 (by omega); exact g q.2.2)]
    · have e : m_do T pc n K 20 a p s = m_more pc a s := rfl
      rw [e] at h0 ⊢
      unfold m_more at h0 ⊢
      by_cases c : a < pc ∧ s.1 a = 1
      · rw [if_pos c]
        show a + 1 + (if s.1 a = 2 then 1 else 0) = _
        rw [c.2, if_neg (by omega), if_neg (by rintro (q | q); exact absurd q.1 (by omega); exact absurd q.1 (by omega))]
      · rw [if_neg c] at h0; exact absurd h0 (by show ¬ 7 = 0; omega)
  · rw [if_neg c, if_neg c]
section RMY
variable {F : Nat} {S : zS} {A i n pc gn : Nat} {T : mTr} {K : Nat → mAc} {G : Nat → mGd}
theorem r_mx233 (hF : 50 ≤ F) {k48 : Nat → Int32 → Int32 → Int32 → Int32 → Int32 → zI → Option (Int32 × zI)} {J : zI} (hE : rE S J A i T pc n K) {p : Nat} (hp : p < n) {s : mSn} (hs : rSn J (A + 20) 0 s) (hv : mVs T n K s) (h0 : (m_wd T pc n K p s).1 = 0) {w : Int32} {st nd : Nat} (hst : st ≤ 100) : ∃ J2, fN A J J2 ∧ z_X9_maximum_233 F S k48 A (nI i) w (nI st) (nI p) (nI (m_w s)) (nI nd) J = k48 A (nI i) w (nI (max (max st (m_w s)) (m_w (m_wd T pc n K p s).2))) (nI nd) (nI (p + 1)) J2 := by
  have hE0 := hE
  obtain ⟨hL, hT, ⟨e21, hi⟩, ⟨e3, hpc⟩, hn40, hK⟩ := hE
  have h16 := hT.2.1.2.1
  obtain ⟨J2, d1, d2, d3, d4⟩ := r_does (F := F) (by omega) hE0 hp hs hv
  have hv2 : mVs T n K (m_wd T pc n K p s).2 := (mVr.wd hT.2.1 hpc hp (hK p hp).1 hv) h0
  refine ⟨J2, d2, ?_⟩
  unfold z_X9_maximum_233
  rw [ob_mk d1, ob_mk hL.f22, ob_mk (r_count (by omega) hL.n22 (d4 h0) (by have := hv2.h; omega) (hv2.lt h16 hn40).2.2)]
  have w1 : m_w s ≤ 10 := hv.2.2.1
  have w2 : m_w (m_wd T pc n K p s).2 ≤ 10 := hv2.2.2.1
  generalize m_w (m_wd T pc n K p s).2 = b at w2
  generalize m_w s = a at w1
  have e262 : ∀ v, v ≤ 100 → z_X9_maximum_262 F S k48 A (nI i) w (nI nd) (nI p) (nI b) (nI v) J2 = k48 A (nI i) w (nI (max v b)) (nI nd) (nI (p + 1)) J2 := fun v hv => by
    unfold z_X9_maximum_262 z_X9_maximum_275
    rw [nI_1]
    by_cases c : v < b
    · rw [if_pos ((nI_ltI (by omega) (by omega)).mpr c), show max v b = b by omega]
    · rw [if_neg (fun d => c ((nI_ltI (by omega) (by omega)).mp d)), show max v b = v by omega]
  by_cases c : st < a
  · rw [if_pos ((nI_ltI (by omega) (by omega)).mpr c), e262 a (by omega), show max st a = a by omega]
  · rw [if_neg (fun d => c ((nI_ltI (by omega) (by omega)).mp d)), e262 st hst, show max st a = st by omega]
theorem r_mx155 (hF : 50 ≤ F) {k48 : Nat → Int32 → Int32 → Int32 → Int32 → Int32 → zI → Option (Int32 × zI)} {J : zI} (hE : rE S J A i T pc n K) {p : Nat} (hp : p < n) {s : mSn} (hs : rSn J (A + 20) 0 s) (hv : mVs T n K s) (h0 : (m_wd T pc n K p s).1 = 0) {w : Int32} {st nd wd : Nat} (hst : st ≤ 100) (hnd : nd ≤ 100) (hwd : wd = m_wide (K p) s) : ∃ J2, fN A J J2 ∧ z_X9_maximum_155 F S k48 A (nI i) w (nI st) (nI nd) (nI p) (nI (40 * i + p)) (nI (m_w s)) (nI wd) J = k48 A (nI i) w (nI (max (max st (m_w s)) (m_w (m_wd T pc n K p s).2))) (nI (max nd (m_up (K p) (m_wd T pc n K p s).2))) (nI (p + 1)) J2 := by
  have hE0 := hE
  obtain ⟨hL, hT, ⟨e21, hi⟩, ⟨e3, hpc⟩, hn40, hK⟩ := hE
  obtain ⟨ok, k7, k8, k9⟩ := hK p hp
  have hw2 : wd ≤ 2 := by rw [hwd]; unfold m_wide; split <;> omega
  have hup := m_up_v h0
  rw [← hwd] at hup
  have k20 := ok.1
  have e196no : ¬ ((K p).1 = 3 ∨ (K p).1 = 4 ∨ (K p).1 = 20) → ∃ J2, fN A J J2 ∧ z_X9_maximum_196 F S k48 A (nI i) w (nI st) (nI nd) (nI p) (nI (40 * i + p)) (nI (m_w s)) (nI wd) 0 J = k48 A (nI i) w (nI (max (max st (m_w s)) (m_w (m_wd T pc n K p s).2))) (nI (max nd (m_up (K p) (m_wd T pc n K p s).2))) (nI (p + 1)) J2 := fun c => by
    unfold z_X9_maximum_196
    rw [if_pos rfl, hup, if_neg c, show max nd 0 = nd by omega]
    exact r_mx233 hF hE0 hp hs hv h0 hst
  have e196yes : (K p).1 = 3 ∨ (K p).1 = 4 ∨ (K p).1 = 20 → ∃ J2, fN A J J2 ∧ z_X9_maximum_196 F S k48 A (nI i) w (nI st) (nI nd) (nI p) (nI (40 * i + p)) (nI (m_w s)) (nI wd) 1 J = k48 A (nI i) w (nI (max (max st (m_w s)) (m_w (m_wd T pc n K p s).2))) (nI (max nd (m_up (K p) (m_wd T pc n K p s).2))) (nI (p + 1)) J2 := fun c => by
    obtain ⟨a, ha, ea⟩ := ok.2.1 c
    have ta : m_ta (K p) = a := by unfold m_ta; rw [ea, nc (by omega)]
    unfold z_X9_maximum_196
    rw [if_neg (show ¬ (1 : Int32) = 0 by decide), hup, if_pos c, ta, ob_mk hL.f8, ixk hL.n8 (by omega) (by omega), nc (by omega), k8, ea, nI_add, ixc hL.n8 (by omega) (by omega)]
    by_cases q : nd < a + wd
    · rw [if_pos ((nI_ltI (by omega) (by omega)).mpr q), show max nd (a + wd) = a + wd by omega]
      exact r_mx233 hF hE0 hp hs hv h0 hst
    · rw [if_neg (fun d => q ((nI_ltI (by omega) (by omega)).mp d)), show max nd (a + wd) = nd by omega]
      exact r_mx233 hF hE0 hp hs hv h0 hst
  unfold z_X9_maximum_155
  rw [ob_mk hL.f7, ixk hL.n7 (by omega) (by omega), nc (by omega), ixc hL.n7 (by omega) (by omega), ixc hL.n7 (by omega) (by omega), k7]
  by_cases c3 : (K p).1 = 3
  · rw [if_pos (show nI (K p).1 = 3 by rw [c3]; rfl)]; exact e196yes (Or.inl c3)
  · rw [if_neg (show ¬ nI (K p).1 = 3 from fun d => c3 ((nI_eq (by omega) (by omega)).mp (d.trans nl3)))]
    by_cases c4 : (K p).1 = 4
    · rw [if_pos (show nI (K p).1 = 4 by rw [c4]; rfl)]; exact e196yes (Or.inr (Or.inl c4))
    · rw [if_neg (show ¬ nI (K p).1 = 4 from fun d => c4 ((nI_eq (by omega) (by omega)).mp (d.trans nl4)))]
      by_cases c20 : (K p).1 = 20
      · rw [if_pos (show nI (K p).1 = 20 by rw [c20]; rfl)]; exact e196yes (Or.inr (Or.inr c20))
      · rw [if_neg (show ¬ nI (K p).1 = 20 from fun d => c20 ((nI_eq (by omega) (by omega)).mp (d.trans nl20)))]
        exact e196no (by rintro (q | q | q); exact c3 q; exact c4 q; exact c20 q)
theorem r_mx_lp (hF : 50 ≤ F) {us : Nat} (hus : us ≤ 8) {rc : Nat → Bool} {L : Nat → mSn} {w : Int32} (hLw : ∀ p, p < n → rc p = true → (m_wd T pc n K p (L p)).1 = 0 ∧ mVs T n K (L p)) : ∀ (fuel m p : Nat) (J : zI), p + m = n → m < fuel → rE S J A i T pc n K → J (A + 6) i = nI n → (∀ q, q < n → J (A + 16) (40 * i + q) = b2i (rc q) ∧ (rc q = true → rSn J (A + 17) (20 * (40 * i + q)) (L q))) → ∃ J', fN A J J' ∧ z_X9_maximum_48 F S fuel A (nI i) w (nI (m_mx (fun p => if rc p = true then max (m_w (L p)) (m_w (m_wd T pc n K p (L p)).2) else 0) p)) (nI (max us (m_mx (fun p => if rc p = true then m_up (K p) (m_wd T pc n K p (L p)).2 else 0) p))) (nI p) J = some (if w = 0 then nI (m_mx (fun p => if rc p = true then max (m_w (L p)) (m_w (m_wd T pc n K p (L p)).2) else 0) n) else nI (max us (m_mx (fun p => if rc p = true then m_up (K p) (m_wd T pc n K p (L p)).2 else 0) n)), J') := by
  intro fuel
  induction fuel with
  | zero => intro m p J h1 h2; omega
  | succ fuel ih =>
    intro m p J h1 h2 hE e6 hst
    have hE0 := hE
    obtain ⟨hL, hT, ⟨e21, hi⟩, ⟨e3, hpc⟩, hn40, hK⟩ := hE
    have h16 := hT.2.1.2.1
    show ∃ J', fN A J J' ∧ z_X9_maximum_48B F S (z_X9_maximum_48 F S fuel) A (nI i) w _ _ (nI p) J = _
    unfold z_X9_maximum_48B
    rw [ob_mk hL.f6, ixk hL.n6 hi (by omega), nc (by omega), e6]
    cases m with
    | zero =>
      rw [if_neg (fun d => (by have := (nI_ltI (by omega) (by omega)).mp d; omega : False)), show p = n by omega]
      refine ⟨J, fN.rf, ?_⟩
      split <;> rfl
    | succ m =>
      have hp : p < n := by omega
      obtain ⟨ok, k7, k8, k9⟩ := hK p hp
      have k20 := ok.1
      have f1b : m_mx (fun p => if rc p = true then max (m_w (L p)) (m_w (m_wd T pc n K p (L p)).2) else 0) p ≤ 100 := m_mx_bd p (fun q hq => by
        show (if rc q = true then _ else 0) ≤ 100
        by_cases c : rc q = true
        · obtain ⟨l1, l2⟩ := hLw q (by omega) c
          have hv2 := (mVr.wd hT.2.1 hpc (show q < n by omega) (hK q (by omega)).1 l2) l1
          have w1 : m_w (L q) ≤ 10 := l2.2.2.1
          have w2 : m_w (m_wd T pc n K q (L q)).2 ≤ 10 := hv2.2.2.1
          rw [if_pos c]; omega
        · rw [if_neg c]; omega)
      have f2b : m_mx (fun p => if rc p = true then m_up (K p) (m_wd T pc n K p (L p)).2 else 0) p ≤ 90 := m_mx_bd p (fun q hq => by
        show (if rc q = true then _ else 0) ≤ 90
        by_cases c : rc q = true
        · have := m_up_le (s := (m_wd T pc n K q (L q)).2) (hK q (by omega)).1
          rw [if_pos c]; omega
        · rw [if_neg c]; omega)
      have s1 : m_mx (fun p => if rc p = true then max (m_w (L p)) (m_w (m_wd T pc n K p (L p)).2) else 0) (p + 1) = max (m_mx (fun p => if rc p = true then max (m_w (L p)) (m_w (m_wd T pc n K p (L p)).2) else 0) p) (if rc p = true then max (m_w (L p)) (m_w (m_wd T pc n K p (L p)).2) else 0) := rfl
      have s2 : m_mx (fun p => if rc p = true then m_up (K p) (m_wd T pc n K p (L p)).2 else 0) (p + 1) = max (m_mx (fun p => if rc p = true then m_up (K p) (m_wd T pc n K p (L p)).2 else 0) p) (if rc p = true then m_up (K p) (m_wd T pc n K p (L p)).2 else 0) := rfl
      rw [if_pos ((nI_ltI (by omega) (by omega)).mpr (by omega)), ob_mk hL.f16, nl40, pk_mul, nI_add, ixk hL.n16 (by omega) (by omega), nc (by omega), (hst p hp).1, nI_1]
      cases hr : rc p
      · rw [if_pos (show b2i false = 0 from rfl)]
        have := ih m (p + 1) J (by omega) (by omega) hE0 e6 hst
        rw [s1, s2, hr, if_neg (show ¬ false = true by decide), if_neg (show ¬ false = true by decide), Nat.max_zero, Nat.max_zero] at this
        exact this
      · obtain ⟨l1, l2⟩ := hLw p hp hr
        rw [if_neg (show ¬ b2i true = 0 by decide), ob_mk hL.f17, ob_mk hL.f22, nl20, pk_mul]
        obtain ⟨J1, c1, c2, c3, c4⟩ := r_copy (F := F) (I := J) (i := 20 * (40 * i + p)) (j := 0) (by omega) hL.n17 hL.n22 (by omega) (by omega) (by omega) (by omega) (show A + 17 ≠ A + 20 by omega)
        rw [ob_mk (show z_X9_copy F S J (A + 17) (nI (20 * (40 * i + p))) (A + 20) 0 = some J1 from c1)]
        have f1 : fN A J J1 := ⟨fun b _ b2 => c4 b b2, fun k _ => by rw [c4 A (by omega)]⟩
        have hE1 := hE0.keep f1
        have sn : rSn J1 (A + 20) 0 (L p) := ((hst p hp).2 hr).copy (by have := l2.h; omega) c2
        have hlt := l2.lt h16 hn40
        have k7J : J1 (A + 7) (40 * i + p) = nI (K p).1 := (hE1.2.2.2.2.2 p hp).2.1
        rw [ob_mk (r_count (by omega) hL.n22 sn (by have := l2.h; omega) hlt.2.2), ob_mk hL.f7, ixc hL.n7 (by omega) (by omega), k7J]
        have go : ∀ wd, wd = m_wide (K p) (L p) → ∃ J', fN A J J' ∧ z_X9_maximum_155 F S (z_X9_maximum_48 F S fuel) A (nI i) w (nI (m_mx (fun p => if rc p = true then max (m_w (L p)) (m_w (m_wd T pc n K p (L p)).2) else 0) p)) (nI (max us (m_mx (fun p => if rc p = true then m_up (K p) (m_wd T pc n K p (L p)).2 else 0) p))) (nI p) (nI (40 * i + p)) (nI (m_w (L p))) (nI wd) J1 = some (if w = 0 then nI (m_mx (fun p => if rc p = true then max (m_w (L p)) (m_w (m_wd T pc n K p (L p)).2) else 0) n) else nI (max us (m_mx (fun p => if rc p = true then m_up (K p) (m_wd T pc n K p (L p)).2 else 0) n)), J') := fun wd hwd => by
          obtain ⟨J2, g1, g2⟩ := r_mx155 (F := F) (k48 := z_X9_maximum_48 F S fuel) (w := w) hF hE1 hp sn l2 l1 f1b (show max us (m_mx (fun p => if rc p = true then m_up (K p) (m_wd T pc n K p (L p)).2 else 0) p) ≤ 100 by omega) hwd
          have f2 := f1.trans g1
          obtain ⟨J3, u1, u2⟩ := ih m (p + 1) J2 (by omega) (by omega) (hE0.keep f2) (by rw [f2.1 _ (by omega) (by omega)]; exact e6) (fun q hq => ⟨by rw [f2.1 _ (by omega) (by omega)]; exact (hst q hq).1, fun g => ((hst q hq).2 g).kept (f2.1 _ (by omega) (by omega))⟩)
          rw [s1, s2, hr, if_pos rfl, if_pos rfl] at u2
          refine ⟨J3, f2.trans u1, ?_⟩
          rw [g2]
          rw [← Nat.max_assoc, ← Nat.max_assoc] at u2
          exact u2
        have go131 : ((K p).1 = 3 → ¬ (L p).1 (m_ta (K p)) = 2) → ∃ J', fN A J J' ∧ z_X9_maximum_131 F S (z_X9_maximum_48 F S fuel) A (nI i) w (nI (m_mx (fun p => if rc p = true then max (m_w (L p)) (m_w (m_wd T pc n K p (L p)).2) else 0) p)) (nI (max us (m_mx (fun p => if rc p = true then m_up (K p) (m_wd T pc n K p (L p)).2 else 0) p))) (nI p) (nI (40 * i + p)) (nI (m_w (L p))) J1 = some (if w = 0 then nI (m_mx (fun p => if rc p = true then max (m_w (L p)) (m_w (m_wd T pc n K p (L p)).2) else 0) n) else nI (max us (m_mx (fun p => if rc p = true then m_up (K p) (m_wd T pc n K p (L p)).2 else 0) n)), J') := fun hn3 => by
          unfold z_X9_maximum_131
          rw [ob_mk hL.f7, ixk hL.n7 (by omega) (by omega), nc (by omega), k7J]
          by_cases c4' : (K p).1 = 4
          · rw [if_pos (show nI (K p).1 = 4 by rw [c4']; rfl), ob_mk (r_top hL sn (by have := l2.h; omega))]
            by_cases z0 : (L p).2.1 = 0
            · rw [if_pos z0, if_neg (show ¬ (-1 : Int32) = 2 by decide)]
              exact go 1 (by unfold m_wide; rw [if_neg (by rintro (q | q); exact absurd q.1 (by omega); exact q.2.1 z0)])
            · have hb := hlt.2.2 ((L p).2.1 - 1) (by omega)
              rw [if_neg z0]
              by_cases t2 : (L p).2.2 ((L p).2.1 - 1) = 2
              · rw [if_pos (show nI ((L p).2.2 ((L p).2.1 - 1)) = 2 by rw [t2]; rfl)]
                exact go 2 (by unfold m_wide; rw [if_pos (Or.inr ⟨c4', z0, t2⟩)])
              · rw [if_neg (show ¬ nI ((L p).2.2 ((L p).2.1 - 1)) = 2 from fun d => t2 ((nI_eq (by omega) (by omega)).mp (d.trans nl2)))]
                exact go 1 (by unfold m_wide; rw [if_neg (by rintro (q | q); exact absurd q.1 (by omega); exact t2 q.2.2)])
          · rw [if_neg (show ¬ nI (K p).1 = 4 from fun d => c4' ((nI_eq (by omega) (by omega)).mp (d.trans nl4)))]
            exact go 1 (by unfold m_wide; rw [if_neg (by rintro (q | q); exact hn3 q.1 q.2; exact c4' q.1)])
        by_cases c3' : (K p).1 = 3
        · obtain ⟨a, ha, ea⟩ := ok.2.1 (Or.inl c3')
          have ta : m_ta (K p) = a := by unfold m_ta; rw [ea, nc (by omega)]
          have hb := hlt.1 a ha
          have hva := sn.1 a ha
          rw [Nat.zero_add] at hva
          rw [if_pos (show nI (K p).1 = 3 by rw [c3']; rfl), ob_mk hL.f8, ixc hL.n8 (by omega) (by omega), (hE1.2.2.2.2.2 p hp).2.2.1, ea, ixk hL.n22 (by omega) (by omega), nc (by omega), hva]
          by_cases t2 : (L p).1 a = 2
          · rw [if_pos (show nI ((L p).1 a) = 2 by rw [t2]; rfl)]
            exact go 2 (by unfold m_wide; rw [if_pos (Or.inl ⟨c3', by rw [ta]; exact t2⟩)])
          · rw [if_neg (show ¬ nI ((L p).1 a) = 2 from fun d => t2 ((nI_eq (by omega) (by omega)).mp (d.trans nl2)))]
            exact go131 (fun _ => by rw [ta]; exact t2)
        · rw [if_neg (show ¬ nI (K p).1 = 3 from fun d => c3' ((nI_eq (by omega) (by omega)).mp (d.trans nl3)))]
          exact go131 (fun g => absurd g c3')
end RMY
section RMZ
variable {F : Nat} {S : zS} {I : zI} {A : Nat} {T : mTr} {X : Nat → mM} {f : Nat}
theorem rAll.same {I' : zI} (hA : rAll S I A T X f) (hX : ∀ j, j < 8 → mSz (X j)) {f' : Nat} (ho : ∀ b, b ≠ A → b < A + 20 → I' b = I b) (h0 : I' A 0 = I A 0) (h20 : I' A 20 = nI f') : rAll S I' A T X f' := by
  refine ⟨hA.1, hA.2.1.kept h0 (ho _ (by omega) (by omega)) (ho _ (by omega) (by omega)), fun j hj => ?_, h20⟩
  refine (hA.2.2.1 j hj).told (fun a h1 h2 => ho _ (by omega) (by omega)) rfl rfl rfl (by rw [ho _ (by omega) (by omega)]; exact (hA.2.2.1 j hj).1.2.2.2.2) (fun hk p hp => ?_)
  obtain ⟨r1, r2, r3, r4⟩ := (hA.2.2.1 j hj).2.2.2.2 hk p hp
  exact ⟨by rw [ho _ (by omega) (by omega)]; exact r1, fun g => (r2 g).kept (ho _ (by omega) (by omega)), by rw [ho _ (by omega) (by omega)]; exact r3, fun g => (r4 g).kept (ho _ (by omega) (by omega))⟩
theorem r_max (hF : 50 ≤ F) (hA : rAll S I A T X f) (hX : ∀ j, j < 8 → mSz (X j)) (hM : ∀ j, j < 8 → mMs T (X j)) (hO : ∀ j, j < 8 → mOk T (X j)) (a w : Int32) : ∃ I', z_X9_maximum F S I A a w = some (k_max X a w, I') ∧ rAll S I' A T X f ∧ fY A I I' := by
  have hL := hA.1
  unfold z_X9_maximum k_max
  rw [ob_mk (r_isM_c a)]
  refine ix_cases a 8 (by omega) (fun h e => ?_) (fun i hi ea e => ?_)
  · rw [e, oy_n, oy_n, if_pos rfl]; exact ⟨I, rfl, hA, fY.rf⟩
  · have hR := hA.2.2.1 i hi
    obtain ⟨m1, m2, m3, m4, m5, m6⟩ := hM i hi
    rw [e, oy_s, oy_s, if_neg (show ¬ (1 : Int32) = 0 by decide), ob_mk (r_in w 0 1), b01]
    by_cases hw : w < 0 ∨ 1 < w
    · rw [if_neg (fun g => by rcases hw with hw | hw; exact g.1 hw; exact g.2 hw), if_pos hw]; exact ⟨I, rfl, hA, fY.rf⟩
    · rw [if_pos (show ¬ w < 0 ∧ ¬ 1 < w from ⟨fun g => hw (Or.inl g), fun g => hw (Or.inr g)⟩), if_neg hw, ea, ob_mk hL.f15, ixk hL.n15 hi (by omega), nc (by omega), hR.1.2.2.2.2]
      cases hk : xkn (X i)
      · rw [if_pos (show b2i false = 0 from rfl), if_neg (show ¬ false = true by decide)]; exact ⟨I, rfl, hA, fY.rf⟩
      · obtain ⟨_, ⟨fn1, fn2, L, l1, l2, l3⟩, _⟩ := (hO i hi).2.2.2 hk
        have hK := hR.2.2.2.2 hk
        rw [if_neg (show ¬ b2i true = 0 by decide), if_pos rfl, ob_mk hL.f4, ixc hL.n4 hi (by omega), z_up_off (show A + 4 ≠ A by omega), hR.1.2.1]
        have hW := hR.toWk (J := z_up I A 21 (nI i)) hL hA.2.1 hi (hM i hi) (z_up_at _ _ _ _) (z_up_ne (Or.inr (by omega))) (fun a _ _ => z_up_off (by omega))
        obtain ⟨J, g1, g2⟩ := r_mx_lp (F := F) (w := w) (us := xus (X i)) (rc := (xC (X i)).1) (L := L) hF (by omega) (fun p hp hr => ⟨(l1 p hp hr).1, (l1 p hp hr).2.2⟩) F (xn (X i)) 0 (z_up I A 21 (nI i)) (by omega) (by omega) hW.1 hW.2.1 (fun q hq => ⟨by rw [z_up_off (by omega)]; exact (hK q hq).1, fun g => (((l1 q hq g).2.1).sn ((hK q hq).2.1 g)).kept (z_up_off (by omega))⟩)
        rw [← l2, ← l3] at g2
        have g2' : z_X9_maximum_48 F S F A (nI i) w 0 (nI (xus (X i))) 0 (z_up I A 21 (nI i)) = some (if w = 0 then nI (xR (X i)).1 else nI (xR (X i)).2.1, J) := by
          have e0 : max (xus (X i)) (m_mx (fun p => if (xC (X i)).1 p = true then m_up (xK (X i) p) (m_wd T (xpc (X i)) (xn (X i)) (xK (X i)) p (L p)).2 else 0) 0) = xus (X i) := Nat.max_zero _
          rw [e0] at g2
          exact g2
        rw [g2']
        have ff : ∀ b, b ≠ A → b ≠ A + 20 → J b = I b := fun b b1 b2 => by rw [g1.1 b b1 b2, z_up_off b1]
        refine ⟨J, rfl, hA.same hX (fun b b1 b2 => ff b b1 (by omega)) (by rw [g1.2 0 (by omega), z_up_ne (Or.inr (by omega))]) (by rw [g1.2 20 (by omega), z_up_ne (Or.inr (by omega))]; exact hA.2.2.2), fun b hb => ff b (by omega) (by omega)⟩
end RMZ
