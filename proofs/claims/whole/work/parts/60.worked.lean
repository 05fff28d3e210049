/-! an act is worked: class side -/
def m_ld (d : Nat → Bool) : Nat → Nat → Option Nat
  | 0, _ => none
  | m + 1, j => if d j = true then some j else m_ld d m (j + 1)
def m_oi (o : Option Nat) : Int32 := match o with
  | none => -1
  | some p => nI p
def m_wg (T : mTr) (n gn : Nat) (G : Nat → mGd) (p : Nat) (C : mC) : Nat × mC := m_grd T n G p (C.2.2 p) gn 0 (C.1, nup C.2.1 p false, C.2.2)
def m_wd (T : mTr) (pc n : Nat) (K : Nat → mAc) (p : Nat) (s : mSn) : Nat × mSn := m_do T pc n K (K p).1 (m_ta (K p)) p s
def m_work (T : mTr) (pc n : Nat) (K : Nat → mAc) (gn : Nat) (G : Nat → mGd) (p : Nat) (C : mC) : Nat × mC := if (m_wg T n gn G p C).1 = 0 then (if (m_wd T pc n K p (C.2.2 p)).1 = 0 then m_on T n (K p) p (m_wd T pc n K p (C.2.2 p)).2 (m_wg T n gn G p C).2 else ((m_wd T pc n K p (C.2.2 p)).1, (m_wg T n gn G p C).2)) else m_wg T n gn G p C
def m_up (x : mAc) (s : mSn) : Nat := if x.1 = 3 ∨ x.1 = 4 ∨ x.1 = 20 then m_ta x + 1 + (if s.1 (m_ta x) = 2 then 1 else 0) else 0
section CX
variable {F : Nat} {S : zS} {I : zI} {B i n pc gn : Nat} {T : mTr} {K : Nat → mAc} {Q : Nat → Nat} {G : Nat → mGd} {C : mC} {s : mSn}
theorem a_jumps {q k : Nat} (hq : I q 0 = nI k) (hk : k ≤ 20) : z_X0_jumps F S I q = some (b2i (m_jmp k)) := by
  unfold z_X0_jumps m_jmp
  rw [hq, nl14, nl15, nl16]
  by_cases h1 : k = 14
  · rw [if_pos (by rw [h1]), decide_eq_true (Or.inl h1)]; rfl
  · rw [if_neg (fun e => h1 ((nI_eq (by omega) (by omega)).mp e))]
    by_cases h2 : k = 15
    · rw [if_pos (by rw [h2]), decide_eq_true (Or.inr (Or.inl h2))]; rfl
    · rw [if_neg (fun e => h2 ((nI_eq (by omega) (by omega)).mp e))]
      by_cases h3 : k = 16
      · rw [if_pos (by rw [h3]), decide_eq_true (Or.inr (Or.inr h3))]; rfl
      · rw [if_neg (fun e => h3 ((nI_eq (by omega) (by omega)).mp e)), decide_eq_false (by omega)]; rfl
theorem a_goes {q k : Nat} (hq : I q 0 = nI k) (hk : k ≤ 20) : z_X0_goesToNext F S I q = some (b2i (m_goes k)) := by
  unfold z_X0_goesToNext m_goes
  rw [hq, nl14, nl16, nl17, nl18, nl19]
  by_cases h1 : k = 14
  · rw [if_pos (by rw [h1]), decide_eq_true (Or.inl h1)]; rfl
  · rw [if_neg (fun e => h1 ((nI_eq (by omega) (by omega)).mp e))]
    by_cases h2 : k = 16
    · rw [if_pos (by rw [h2]), decide_eq_true (by omega)]; rfl
    · rw [if_neg (fun e => h2 ((nI_eq (by omega) (by omega)).mp e))]
      by_cases h3 : k = 17
      · rw [if_pos (by rw [h3]), decide_eq_true (by omega)]; rfl
      · rw [if_neg (fun e => h3 ((nI_eq (by omega) (by omega)).mp e))]
        by_cases h4 : k = 18
        · rw [if_pos (by rw [h4]), decide_eq_true (by omega)]; rfl
        · rw [if_neg (fun e => h4 ((nI_eq (by omega) (by omega)).mp e))]
          by_cases h5 : k = 19
          · rw [if_pos (by rw [h5]), decide_eq_true (by omega)]; rfl
          · rw [if_neg (fun e => h5 ((nI_eq (by omega) (by omega)).mp e)), decide_eq_false (by omega)]; rfl
theorem a_first {q k : Nat} (hq : I q 0 = nI k) (hk : k ≤ 20) : z_X0_firstTarget F S I q = some (if m_jmp k = true then I q 1 else 0) := by
  unfold z_X0_firstTarget
  rw [ob_mk (a_jumps (F := F) (S := S) hq hk)]
  cases m_jmp k
  · rw [if_pos (show b2i false = 0 from rfl), if_neg (show ¬ false = true by decide)]
  · rw [if_neg (show ¬ b2i true = 0 by decide), if_pos (show true = true from rfl)]
theorem a_last {q k : Nat} (hq : I q 0 = nI k) (hk : k ≤ 20) : z_X0_lastTarget F S I q = some (if m_jmp k = true then (if k = 16 then I q 2 else I q 1) else -1) := by
  unfold z_X0_lastTarget
  rw [ob_mk (a_jumps (F := F) (S := S) hq hk)]
  cases m_jmp k
  · rw [if_pos (show b2i false = 0 from rfl), if_neg (show ¬ false = true by decide)]
  · rw [if_neg (show ¬ b2i true = 0 by decide), if_pos (show true = true from rfl), hq, nl16]
    by_cases h : k = 16
    · rw [if_pos (show nI k = nI 16 by rw [h]), if_pos h]
    · rw [if_neg (fun e => h ((nI_eq (by omega) (by omega)).mp e)), if_neg h]
theorem c_on24 (hF : 100 ≤ F) (hV : cV S I B i T pc n K Q gn G) {p : Nat} (hp : p < n) (hs : cSn I (B + 55) s) {r : Nat × mC} (hr : r.1 < 20) (hC : r.1 = 0 → cC I n Q r.2) :
    ∃ I', z_X2_sendOn_24 F S (B + 54) (B + 5 + 6 * i) (nI p) (Q p) (nI r.1) I = some (nI (m_tg T n p s (m_tn (K p)) (m_ta (K p)) r).1, I') ∧ ((m_tg T n p s (m_tn (K p)) (m_ta (K p)) r).1 = 0 → cC I' n Q (m_tg T n p s (m_tn (K p)) (m_ta (K p)) r).2) ∧ fQ n Q I I' := by
  have h40 := hV.2.2.2.2.1.2.2.2.1
  obtain ⟨e0, e1, e2, e3⟩ := hV.act (F := F) hp
  obtain ⟨k20, hpl, hcl, hgo⟩ := hV.2.2.2.2.2.2.2.1 p hp
  unfold z_X2_sendOn_24
  rw [ob_mk (a_last (F := F) (S := S) e1 k20), ob_mk (a_first (F := F) (S := S) e1 k20)]
  by_cases hj : (K p).1 = 14 ∨ (K p).1 = 15 ∨ (K p).1 = 16
  · have hj2 : 14 ≤ (K p).1 ∧ (K p).1 ≤ 16 := by omega
    obtain ⟨al, ha, ea, hb⟩ := hgo hj2
    have eta : m_ta (K p) = al := by unfold m_ta; rw [ea]; exact nc (by omega)
    have ej : m_jmp (K p).1 = true := decide_eq_true hj
    rw [ej, if_pos (show true = true from rfl), if_pos (show true = true from rfl), e2, e3, ea, eta]
    by_cases h16 : (K p).1 = 16
    · obtain ⟨bl, hb1, hb2, hb3⟩ := hb h16
      have etn : m_tn (K p) = bl + 1 - al := by unfold m_tn; rw [if_pos h16, hb3, ea, nc (by omega), nc (by omega)]
      rw [if_pos h16, hb3, etn]
      exact c_tg (by omega) (by omega) hb1 F (bl + 1 - al) al I r (by omega) (by omega) hr hV hs hC
    · have h45 : (K p).1 = 14 ∨ (K p).1 = 15 := by
        rcases hj with h | h | h
        · exact Or.inl h
        · exact Or.inr h
        · exact absurd h h16
      have etn : m_tn (K p) = 1 := by unfold m_tn; rw [if_neg h16, if_pos h45]
      rw [if_neg h16, etn]
      exact c_tg (by omega) (by omega) ha F 1 al I r (by omega) (by omega) hr hV hs hC
  · have ej : m_jmp (K p).1 = false := decide_eq_false hj
    have etn : m_tn (K p) = 0 := by unfold m_tn; rw [if_neg (fun h => hj (Or.inr (Or.inr h))), if_neg (fun h => hj (h.elim Or.inl (fun g => Or.inr (Or.inl g))))]
    rw [ej, if_neg (show ¬ false = true by decide), if_neg (show ¬ false = true by decide), etn]
    obtain ⟨F', rfl⟩ : ∃ F', F = F' + 1 := ⟨F - 1, by omega⟩
    refine ⟨I, ?_, hC, fQ.rf⟩
    show z_X2_sendOn_38B (F' + 1) S (z_X2_sendOn_38 (F' + 1) S F') (B + 54) (B + 5 + 6 * i) (nI p) (nI r.1) (-1) 0 I = _
    unfold z_X2_sendOn_38B
    rw [if_pos (show (-1 : Int32) < 0 by decide)]; rfl
theorem c_on (hF : 100 ≤ F) (hV : cV S I B i T pc n K Q gn G) {p : Nat} (hp : p < n) (hs : cSn I (B + 55) s) (hC : cC I n Q C) :
    ∃ I', z_X2_sendOn F S I (B + 54) (B + 5 + 6 * i) (nI p) (Q p) = some (nI (m_on T n (K p) p s C).1, I') ∧ ((m_on T n (K p) p s C).1 = 0 → cC I' n Q (m_on T n (K p) p s C).2) ∧ fQ n Q I I' := by
  have h40 := hV.2.2.2.2.1.2.2.2.1
  obtain ⟨e0, e1, e2, e3⟩ := hV.act (F := F) hp
  have k20 := (hV.2.2.2.2.2.2.2.1 p hp).1
  unfold z_X2_sendOn m_on
  rw [ob_mk (a_goes (F := F) (S := S) e1 k20)]
  cases hg : m_goes (K p).1
  · rw [if_pos (show b2i false = 0 from rfl), if_neg (show ¬ false = true by decide)]
    exact c_on24 hF hV hp hs (r := (0, C)) (by show 0 < 20; omega) (fun _ => hC)
  · rw [if_neg (show ¬ b2i true = 0 by decide), if_pos (show true = true from rfl), ob_mk hV.1.2.2.2.1, nI_1]
    obtain ⟨J1, b1, b2, b3⟩ := c_arr (F := F) (by omega) hV hV.1.2.2.2.2.2.1 (by omega) hs hC (xp := nI p) (x := p + 1) (by omega) (chk := false) ⟨fun _ => rfl, fun _ => (nI_ltI (by omega) (by omega)).mpr (by omega)⟩
    rw [ob_mk b1]
    obtain ⟨J2, d1, d2, d3⟩ := c_on24 hF (hV.W (b3.W hV)) hp (cSn.keepG hV hs b3.toG) (m_arr_lt T n false (p + 1) s C) b2
    exact ⟨J2, d1, d2, b3.trans d3⟩
theorem c_ld (hV : cV S I B i T pc n K Q gn G) (hC : cC I n Q C) : ∀ (k m j : Nat), j + m = n → m < k → z_X5_leastDue_2 F S I k (B + 5 + 6 * i) (nI j) = some (m_oi (m_ld C.2.1 m j)) := by
  have h40 := hV.2.2.2.2.1.2.2.2.1
  have h3 := hV.2.2.2.2.1.2.2.1
  intro k
  induction k with
  | zero => intro m j _ h; omega
  | succ k ih =>
    intro m j hjm hmk
    show z_X5_leastDue_2B F S I (z_X5_leastDue_2 F S I k) (B + 5 + 6 * i) (nI j) = _
    unfold z_X5_leastDue_2B
    rw [h3]
    cases m with
    | zero => rw [if_neg (fun e => by rw [nI_ltI (by omega) (by omega)] at e; omega)]; rfl
    | succ m =>
      have hj : j < n := by omega
      obtain ⟨e0, e1, e2, e3⟩ := hV.act (F := F) hj
      rw [if_pos ((nI_ltI (by omega) (by omega)).mpr hj), ob_mk e0, ob2_mk rfl, (hC j hj).2.1]
      simp only [m_ld]
      cases hd : C.2.1 j
      · rw [if_pos (show b2i false = 0 from rfl), if_neg (show ¬ false = true by decide), nI_1]
        exact ih m (j + 1) (by omega) (by omega)
      · rw [if_neg (show ¬ b2i true = 0 by decide), if_pos (show true = true from rfl)]; rfl
theorem cC.frK (hV : cV S I B i T pc n K Q gn G) {I1 I2 : zI} {a : Nat} (hC : cC I1 n Q C) (f : fr a 3 I1 I2) (ha : a + 3 ≤ B + 94) : cC I2 n Q C := fun p hp => by
  have hb := (hV.2.2.2.2.2.1.1 p hp).1
  rw [f (Q p) (by omega)]
  exact ⟨(hC p hp).1, (hC p hp).2.1, fun hr => ((hC p hp).2.2 hr).fr f (by omega)⟩
theorem cC.upK (hV : cV S I B i T pc n K Q gn G) {I1 : zI} {k : Nat} {x : Int32} (hC : cC I1 n Q C) : cC (z_up I1 (B + 5 + 6 * i) k x) n Q C := fun p hp => by
  have hb := (hV.2.2.2.2.2.1.1 p hp).1
  have h8 := hV.2.1
  rw [z_up_off (by omega)]
  exact ⟨(hC p hp).1, (hC p hp).2.1, fun hr => ((hC p hp).2.2 hr).kept (z_up_off (by omega)) (z_up_off (by omega)) (z_up_off (by omega))⟩
theorem cV.upK (hV : cV S I B i T pc n K Q gn G) {I1 I2 : zI} {k : Nat} {x : Int32} (f : fW B i n Q I1 I2) (hk : k = 8 ∨ k = 9) : fW B i n Q I1 (z_up I2 (B + 5 + 6 * i) k x) := by
  refine f.trans ⟨fun b hb _ _ => z_up_off hb, fun j h8 h9 => z_up_ne (Or.inr (by omega)), fun p hp j _ _ => ?_⟩
  have hb := (hV.2.2.2.2.2.1.1 p hp).1
  have h8 := hV.2.1
  exact z_up_ne (Or.inl (by omega))
theorem x_noteS (hF : 20 ≤ F) {a M ms : Nat} (hO : cOK S a) (hs : cSn I a s) (hm : I M 8 = nI ms) (hb : ms < 1000) : z_X5_noteStack F S I M a = some (z_up I M 8 (nI (max ms (m_w s)))) := by
  have h1 := m_wt_le s.2.2 s.2.1
  have h2 := hs.2.2.1
  have h3 : m_w s ≤ 2 * s.2.1 := h1
  unfold z_X5_noteStack
  rw [ob_mk (s_weight hF hO hs), hm]
  by_cases h : ms < m_w s
  · rw [if_pos ((nI_ltI (by omega) (by omega)).mpr h), Nat.max_eq_right (by omega)]
  · rw [if_neg (fun e => h ((nI_ltI (by omega) (by omega)).mp e)), Nat.max_eq_left (by omega)]
theorem x_noteP (hV : cV S I B i T pc n K Q gn G) {p a mp : Nat} (hp : p < n) (hO : cOK S a) (hs : cSn I a s) (hm : I (B + 5 + 6 * i) 9 = nI mp) (hb : mp < 1000) : ∃ I', z_X5_notePlaces F S I (B + 5 + 6 * i) (Q p) a = some I' ∧ I' (B + 5 + 6 * i) 9 = nI (max mp (m_up (K p) s)) ∧ (I' = I ∨ ∃ x, I' = z_up I (B + 5 + 6 * i) 9 x) := by
  obtain ⟨e0, e1, e2, e3⟩ := hV.act (F := F) hp
  obtain ⟨k20, hpl, hcl, hgo⟩ := hV.2.2.2.2.2.2.2.1 p hp
  have hu : z_X0_usesPlace F S I (Q p) = some (b2i (decide ((K p).1 = 3 ∨ (K p).1 = 4 ∨ (K p).1 = 20))) := by
    unfold z_X0_usesPlace
    rw [e1, nl3, nl4, nl20]
    by_cases h1 : (K p).1 = 3
    · rw [if_pos (by rw [h1]), decide_eq_true (Or.inl h1)]; rfl
    · rw [if_neg (fun e => h1 ((nI_eq (by omega) (by omega)).mp e))]
      by_cases h2 : (K p).1 = 4
      · rw [if_pos (by rw [h2]), decide_eq_true (by omega)]; rfl
      · rw [if_neg (fun e => h2 ((nI_eq (by omega) (by omega)).mp e))]
        by_cases h3 : (K p).1 = 20
        · rw [if_pos (by rw [h3]), decide_eq_true (by omega)]; rfl
        · rw [if_neg (fun e => h3 ((nI_eq (by omega) (by omega)).mp e)), decide_eq_false (by omega)]; rfl
  unfold z_X5_notePlaces m_up
  rw [ob_mk hu]
  by_cases hk : (K p).1 = 3 ∨ (K p).1 = 4 ∨ (K p).1 = 20
  · obtain ⟨al, ha, ea⟩ := hpl hk
    have eta : m_ta (K p) = al := by unfold m_ta; rw [ea]; exact nc (by omega)
    have hbb := hs.1 al ha
    rw [decide_eq_true hk, if_neg (show ¬ b2i true = 0 by decide), e2, ea, ob_mk (s_inPlace hO ha), hbb.1, eta, if_pos hk]
    have fin : ∀ d, d < 2 → ∃ I', z_X5_notePlaces_24 F S (B + 5 + 6 * i) (Q p) (nI d) I = some I' ∧ I' (B + 5 + 6 * i) 9 = nI (max mp (al + 1 + d)) ∧ (I' = I ∨ ∃ x, I' = z_up I (B + 5 + 6 * i) 9 x) := by
      intro d hd
      unfold z_X5_notePlaces_24
      rw [hm, e2, ea, nI_1, nI_add]
      refine ⟨_, rfl, ?_, Or.inr ⟨_, rfl⟩⟩
      rw [z_up_at]
      by_cases h : mp < al + 1 + d
      · rw [if_pos ((nI_ltI (by omega) (by omega)).mpr h), Nat.max_eq_right (by omega)]
      · rw [if_neg (fun e => h ((nI_ltI (by omega) (by omega)).mp e)), Nat.max_eq_left (by omega)]
    by_cases h2 : s.1 al = 2
    · rw [if_pos (show nI (s.1 al) = 2 by rw [h2]; rfl), if_pos h2]
      exact fin 1 (by omega)
    · rw [if_neg (fun e => h2 ((nI_eq (by omega) (by omega)).mp (e.trans nl2))), if_neg h2]
      exact fin 0 (by omega)
  · rw [decide_eq_false hk, if_pos (show b2i false = 0 from rfl), if_neg hk, Nat.max_eq_left (Nat.zero_le mp)]
    exact ⟨I, rfl, hm, Or.inl rfl⟩
end CX
