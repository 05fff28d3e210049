/-! guards, and where an act goes on: class side -/
def m_grd (T : mTr) (n : Nat) (G : Nat → mGd) (p : Nat) (s : mSn) : Nat → Nat → mC → Nat × mC
  | 0, _, C => (0, C)
  | m + 1, j, C => if (G j).1 ≤ p ∧ p < (G j).2.1 then (if (m_arr T n (decide ((G j).2.2.1 ≤ p)) (G j).2.2.1 (m_cau s (G j).2.2.2) C).1 = 0 then m_grd T n G p s m (j + 1) (m_arr T n (decide ((G j).2.2.1 ≤ p)) (G j).2.2.1 (m_cau s (G j).2.2.2) C).2 else m_arr T n (decide ((G j).2.2.1 ≤ p)) (G j).2.2.1 (m_cau s (G j).2.2.2) C) else m_grd T n G p s m (j + 1) C
def m_tg (T : mTr) (n p : Nat) (s : mSn) : Nat → Nat → Nat × mC → Nat × mC
  | 0, _, r => r
  | m + 1, j, r => if r.1 = 0 then m_tg T n p s m (j + 1) (m_arr T n (decide (j ≤ p)) j s r.2) else r
def m_goes (k : Nat) : Bool := !decide (k = 14 ∨ k = 16 ∨ k = 17 ∨ k = 18 ∨ k = 19)
def m_jmp (k : Nat) : Bool := decide (k = 14 ∨ k = 15 ∨ k = 16)
def m_ta (x : mAc) : Nat := x.2.1.toNatClampNeg
def m_tn (x : mAc) : Nat := if x.1 = 16 then x.2.2.toNatClampNeg + 1 - x.2.1.toNatClampNeg else if x.1 = 14 ∨ x.1 = 15 then 1 else 0
def m_on (T : mTr) (n : Nat) (x : mAc) (p : Nat) (s : mSn) (C : mC) : Nat × mC := m_tg T n p s (m_tn x) (m_ta x) (if m_goes x.1 = true then m_arr T n false (p + 1) s C else (0, C))
theorem m_arr_lt (T : mTr) (n : Nat) (chk : Bool) (x : Nat) (s : mSn) (C : mC) : (m_arr T n chk x s C).1 < 20 := by
  unfold m_arr
  split
  · exact (by decide : 5 < 20)
  · split
    · exact (by decide : 6 < 20)
    · split
      · exact (by decide : 0 < 20)
      · split
        · exact (by decide : 4 < 20)
        · split
          · exact (by decide : 2 < 20)
          · exact (by decide : 0 < 20)
theorem chk_iff {p x : Nat} (hp : p < 2 ^ 31) (hx : x < 2 ^ 31) : nI p < nI x ↔ decide (x ≤ p) = false := by
  rw [nI_ltI hp hx, decide_eq_false_iff_not]
  omega
/-- acts' flags and states, and the caught state, have changed, nothing else -/
def fG (B n : Nat) (Q : Nat → Nat) (I I' : zI) : Prop := (∀ b, (b < B + 58 ∨ B + 61 ≤ b) → (∀ p, p < n → b < Q p ∨ Q p + 4 ≤ b) → I' b = I b) ∧ ∀ p, p < n → ∀ k, k ≠ 3 → k ≠ 4 → I' (Q p) k = I (Q p) k
theorem fG.rf {B n : Nat} {Q : Nat → Nat} {I : zI} : fG B n Q I I := ⟨fun _ _ _ => rfl, fun _ _ _ _ _ => rfl⟩
theorem fG.trans {B n : Nat} {Q : Nat → Nat} {I I1 I2 : zI} (h : fG B n Q I I1) (g : fG B n Q I1 I2) : fG B n Q I I2 := ⟨fun b h1 h2 => (g.1 b h1 h2).trans (h.1 b h1 h2), fun p hp k h1 h2 => (g.2 p hp k h1 h2).trans (h.2 p hp k h1 h2)⟩
theorem fQ.toG {B n : Nat} {Q : Nat → Nat} {I I' : zI} (h : fQ n Q I I') : fG B n Q I I' := ⟨fun b _ hb => h.1 b hb, h.2⟩
section CG
variable {F : Nat} {S : zS} {I : zI} {B i n pc gn : Nat} {T : mTr} {K : Nat → mAc} {Q : Nat → Nat} {G : Nat → mGd}
theorem fr.toG (hV : cV S I B i T pc n K Q gn G) {I1 I2 : zI} (h : fr (B + 58) 3 I1 I2) : fG B n Q I1 I2 := by
  refine ⟨fun b hb _ => h b (by omega), fun p hp k _ _ => ?_⟩
  have := (hV.2.2.2.2.2.1.1 p hp).1
  rw [h (Q p) (by omega)]
theorem fG.toW (hV : cV S I B i T pc n K Q gn G) {I1 I2 : zI} (h : fG B n Q I1 I2) : fW B i n Q I1 I2 := by
  refine ⟨fun b _ hb hq => h.1 b (by omega) hq, fun k _ _ => ?_, h.2⟩
  have h2 := hV.2.1
  rw [h.1 (B + 5 + 6 * i) (by omega) (fun p hp => by have := (hV.2.2.2.2.2.1.1 p hp).1; omega)]
theorem cSn.keepG (hV : cV S I B i T pc n K Q gn G) {I1 I2 : zI} {s : mSn} (hs : cSn I1 (B + 55) s) (h : fG B n Q I1 I2) : cSn I2 (B + 55) s := by
  have hq : ∀ b, b < B + 94 → ∀ p, p < n → b < Q p ∨ Q p + 4 ≤ b := fun b hb p hp => by have := (hV.2.2.2.2.2.1.1 p hp).1; omega
  exact hs.kept (h.1 _ (by omega) (hq _ (by omega))) (h.1 _ (by omega) (hq _ (by omega))) (h.1 _ (by omega) (hq _ (by omega)))
theorem g_over (hV : cV S I B i T pc n K Q gn G) {j p : Nat} (hj : j < gn) (hp : p < 2 ^ 31) : ∃ g, z_X5_guardOver F S I (B + 5 + 6 * i) (nI j) (nI p) = some (if (G j).1 ≤ p ∧ p < (G j).2.1 then some g else none) ∧ B + 94 ≤ g ∧ (∀ p', p' < n → g < Q p' ∨ Q p' + 7 ≤ g) ∧ I g 2 = nI (G j).2.2.1 ∧ I g 3 = nI (G j).2.2.2 := by
  obtain ⟨h1, h2, h3, h4, h5, h6, h7, h8, ⟨g1, g2, g3⟩⟩ := hV
  obtain ⟨⟨o1, o2, o3, o4⟩, g, k1, k2, k3, k4, k5, k6, k7⟩ := g3 j hj
  refine ⟨g, ?_, k2, k3, k6, k7⟩
  unfold z_X5_guardOver
  rw [if_neg (nn (by omega)), g1, if_pos ((nI_ltI (by omega) (by omega)).mpr hj), ob_mk h3.2.2.1, h3.2.2.2.2.2.1, if_neg (ni_in (by omega) (by omega)), nc (by omega), k1]
  unfold z_X5_guardOver_22 z_X3_holds
  rw [ob2_mk rfl, k4, k5]
  by_cases hf : p < (G j).1
  · rw [if_pos ((nI_ltI hp (by omega)).mpr hf), ob_mk rfl, if_pos rfl, if_neg (show ¬ ((G j).1 ≤ p ∧ p < (G j).2.1) by omega)]
  · rw [if_neg (fun e => hf ((nI_ltI hp (by omega)).mp e))]
    by_cases ht : p < (G j).2.1
    · rw [if_pos ((nI_ltI hp (by omega)).mpr ht), ob_mk rfl, if_neg (show ¬ (1 : Int32) = 0 by decide), if_pos (show (G j).1 ≤ p ∧ p < (G j).2.1 by omega)]
    · rw [if_neg (fun e => ht ((nI_ltI hp (by omega)).mp e)), ob_mk rfl, if_pos rfl, if_neg (show ¬ ((G j).1 ≤ p ∧ p < (G j).2.1) by omega)]
theorem c_grd (hF : 20 ≤ F) {p : Nat} (hp : p < 40) {s : mSn} : ∀ (k m j : Nat) (J : zI) (C : mC), j + m = gn → m < k → cV S J B i T pc n K Q gn G → cSn J (B + 55) s → cC J n Q C →
    ∃ I', z_X2_sendToGuards_2 F S k (B + 54) (B + 5 + 6 * i) (nI p) (nI j) J = some (nI (m_grd T n G p s m j C).1, I') ∧ ((m_grd T n G p s m j C).1 = 0 → cC I' n Q (m_grd T n G p s m j C).2) ∧ fG B n Q J I' := by
  intro k
  induction k with
  | zero => intro m j J C _ h; omega
  | succ k ih =>
    intro m j J C hjm hmk hV hs hC
    have hgn := hV.2.2.2.2.2.2.2.2
    have h4 := hgn.2.1
    show ∃ I', z_X2_sendToGuards_2B F S (z_X2_sendToGuards_2 F S k) (B + 54) (B + 5 + 6 * i) (nI p) (nI j) J = some (nI (m_grd T n G p s m j C).1, I') ∧ _
    unfold z_X2_sendToGuards_2B
    rw [hgn.1]
    cases m with
    | zero =>
      rw [if_neg (fun e => by rw [nI_ltI (by omega) (by omega)] at e; omega)]
      exact ⟨J, rfl, fun _ => hC, fG.rf⟩
    | succ m =>
      have hj : j < gn := by omega
      obtain ⟨o1, o2, o3, o4⟩ := (hgn.2.2 j hj).1
      have h16 := hV.2.2.2.1.2.2.2.2.2.1.2.1
      obtain ⟨g, e0, e1, e2, e3, e4⟩ := g_over (F := F) hV hj (show p < 2 ^ 31 by omega)
      rw [if_pos ((nI_ltI (by omega) (by omega)).mpr hj), ob_mk e0]
      by_cases hh : (G j).1 ≤ p ∧ p < (G j).2.1
      · have hm : m_grd T n G p s (m + 1) j C = if (m_arr T n (decide ((G j).2.2.1 ≤ p)) (G j).2.2.1 (m_cau s (G j).2.2.2) C).1 = 0 then m_grd T n G p s m (j + 1) (m_arr T n (decide ((G j).2.2.1 ≤ p)) (G j).2.2.1 (m_cau s (G j).2.2.2) C).2 else m_arr T n (decide ((G j).2.2.1 ≤ p)) (G j).2.2.1 (m_cau s (G j).2.2.2) C := by
          simp only [m_grd]
          rw [if_pos hh]
        rw [hm, if_pos hh, ob2_mk rfl, ob_mk hV.1.2.2.2.2.1, ob_mk hV.1.2.2.2.1, e4]
        obtain ⟨J1, a1, a2, a3⟩ := s_cau (I := J) hF hV.1.2.2.2.2.2.2 hV.1.2.2.2.2.2.1 hs (by omega) (show (G j).2.2.2 < 100 by omega)
        rw [ob_mk a1, a3 g (by omega), e3]
        have f1 : fG B n Q J J1 := fr.toG hV a3
        have hV1 := hV.W (f1.toW hV)
        have hC1 : cC J1 n Q C := fun p' hp' => by
          have hb := (hV.2.2.2.2.2.1.1 p' hp').1
          rw [a3 (Q p') (by omega)]
          exact ⟨(hC p' hp').1, (hC p' hp').2.1, fun hr => ((hC p' hp').2.2 hr).fr a3 (by omega)⟩
        obtain ⟨J2, b1, b2, b3⟩ := c_arr hF hV1 hV.1.2.2.2.2.2.2 (by omega) a2 hC1 (x := (G j).2.2.1) (by omega) (chk_iff (p := p) (by omega) (by omega))
        have hlt := m_arr_lt T n (decide ((G j).2.2.1 ≤ p)) (G j).2.2.1 (m_cau s (G j).2.2.2) C
        rw [ob_mk b1]
        have f2 : fG B n Q J J2 := f1.trans b3.toG
        by_cases hz : (m_arr T n (decide ((G j).2.2.1 ≤ p)) (G j).2.2.1 (m_cau s (G j).2.2.2) C).1 = 0
        · rw [if_pos (show nI (m_arr T n (decide ((G j).2.2.1 ≤ p)) (G j).2.2.1 (m_cau s (G j).2.2.2) C).1 = 0 by rw [hz]; rfl), if_pos hz, nI_1]
          obtain ⟨J3, d1, d2, d3⟩ := ih m (j + 1) J2 _ (by omega) (by omega) (hV.W (f2.toW hV)) (cSn.keepG hV hs f2) (b2 hz)
          exact ⟨J3, d1, d2, f2.trans d3⟩
        · rw [if_neg (fun e => hz ((nI_eq (by omega) (by omega)).mp (e.trans nl0))), if_neg hz]
          exact ⟨J2, rfl, fun e => absurd e hz, f2⟩
      · have hm : m_grd T n G p s (m + 1) j C = m_grd T n G p s m (j + 1) C := by
          simp only [m_grd]
          rw [if_neg hh]
        rw [hm, if_neg hh, ob2_none, nI_1]
        exact ih m (j + 1) J C (by omega) (by omega) hV hs hC
theorem c_tg (hF : 20 ≤ F) {p : Nat} (hp : p < 40) {s : mSn} {e : Nat} (he : e < 40) : ∀ (k m j : Nat) (J : zI) (r : Nat × mC), j + m = e + 1 → m < k → r.1 < 20 → cV S J B i T pc n K Q gn G → cSn J (B + 55) s → (r.1 = 0 → cC J n Q r.2) →
    ∃ I', z_X2_sendOn_38 F S k (B + 54) (B + 5 + 6 * i) (nI p) (nI r.1) (nI e) (nI j) J = some (nI (m_tg T n p s m j r).1, I') ∧ ((m_tg T n p s m j r).1 = 0 → cC I' n Q (m_tg T n p s m j r).2) ∧ fQ n Q J I' := by
  intro k
  induction k with
  | zero => intro m j J r _ h; omega
  | succ k ih =>
    intro m j J r hjm hmk hr hV hs hC
    show ∃ I', z_X2_sendOn_38B F S (z_X2_sendOn_38 F S k) (B + 54) (B + 5 + 6 * i) (nI p) (nI r.1) (nI e) (nI j) J = some (nI (m_tg T n p s m j r).1, I') ∧ _
    unfold z_X2_sendOn_38B
    cases m with
    | zero =>
      rw [if_pos ((nI_ltI (by omega) (by omega)).mpr (by omega))]
      exact ⟨J, rfl, hC, fQ.rf⟩
    | succ m =>
      rw [if_neg (fun d => by rw [nI_ltI (by omega) (by omega)] at d; omega)]
      by_cases hz : r.1 = 0
      · have hm : m_tg T n p s (m + 1) j r = m_tg T n p s m (j + 1) (m_arr T n (decide (j ≤ p)) j s r.2) := by
          simp only [m_tg]
          rw [if_pos hz]
        rw [hm, if_pos (show nI r.1 = 0 by rw [hz]; rfl), ob_mk hV.1.2.2.2.1]
        obtain ⟨J1, b1, b2, b3⟩ := c_arr hF hV hV.1.2.2.2.2.2.1 (by omega) hs (hC hz) (x := j) (by omega) (chk_iff (p := p) (by omega) (by omega))
        rw [ob_mk b1, nI_1]
        obtain ⟨J2, d1, d2, d3⟩ := ih m (j + 1) J1 (m_arr T n (decide (j ≤ p)) j s r.2) (by omega) (by omega) (m_arr_lt _ _ _ _ _ _) (hV.W (b3.W hV)) (cSn.keepG hV hs b3.toG) b2
        exact ⟨J2, d1, d2, b3.trans d3⟩
      · have hm : m_tg T n p s (m + 1) j r = r := by
          simp only [m_tg]
          rw [if_neg hz]
        rw [hm, if_neg (fun d => hz ((nI_eq (by omega) (by omega)).mp (d.trans nl0)))]
        exact ⟨J, rfl, hC, fQ.rf⟩
end CG
