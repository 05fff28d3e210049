/-! which acts need a frame: class side -/
def m_gon (x : mAc) (to_ : Nat) : Bool := decide (m_ta x ≤ to_ ∧ to_ < m_ta x + m_tn x)
def m_hld (G : Nat → mGd) (j p : Nat) : Bool := decide ((G j).1 ≤ p ∧ p < (G j).2.1)
def m_lead (K : Nat → mAc) (gn : Nat) (G : Nat → mGd) (rc : Nat → Bool) (p to_ : Nat) : Bool := rc p && (m_gon (K p) to_ || anyN (fun j => m_hld G j p && decide ((G j).2.2.1 = to_)) gn)
def m_ct (f : Nat → Bool) : Nat → Nat
  | 0 => 0
  | n + 1 => m_ct f n + (if f n = true then 1 else 0)
theorem m_ct_le (f : Nat → Bool) (n : Nat) : m_ct f n ≤ n := by
  induction n with
  | zero => exact Nat.le_refl _
  | succ n ih => simp only [m_ct]; split <;> omega
def m_of (fm : Nat → Bool) : Nat → Nat → Nat → Nat → Option Nat
  | 0, _, _, _ => none
  | m + 1, j, c, k => if fm j = true then (if c = k then some j else m_of fm m (j + 1) (c + 1) k) else m_of fm m (j + 1) c k
section CF
variable {F : Nat} {S : zS} {I : zI} {B i n pc gn : Nat} {T : mTr} {K : Nat → mAc} {Q : Nat → Nat} {G : Nat → mGd} {rc : Nat → Bool}
theorem a_gon (hV : cV S I B i T pc n K Q gn G) {p to_ : Nat} (hp : p < n) (ht : to_ < 2 ^ 31) : z_X0_goesOnAt F S I (Q p) (nI to_) = some (b2i (m_gon (K p) to_)) := by
  obtain ⟨e0, e1, e2, e3⟩ := hV.act (F := F) hp
  obtain ⟨k20, hpl, hcl, hgo⟩ := hV.2.2.2.2.2.2.2.1 p hp
  unfold z_X0_goesOnAt m_gon
  rw [ob_mk (a_first (F := F) (S := S) e1 k20)]
  by_cases hj : (K p).1 = 14 ∨ (K p).1 = 15 ∨ (K p).1 = 16
  · have hj2 : 14 ≤ (K p).1 ∧ (K p).1 ≤ 16 := by omega
    obtain ⟨al, ha, ea, hb⟩ := hgo hj2
    have eta : m_ta (K p) = al := by unfold m_ta; rw [ea]; exact nc (by omega)
    have ej : m_jmp (K p).1 = true := decide_eq_true hj
    rw [ej, if_pos (show true = true from rfl), e2, ea, eta, ob_mk (a_last (F := F) (S := S) e1 k20), ej, if_pos (show true = true from rfl), e2, e3, ea]
    have fin : ∀ e, e < 40 → al ≤ e → m_tn (K p) = e + 1 - al → (if nI to_ < nI al then some 0 else if nI e < nI to_ then some 0 else some 1) = some (b2i (decide (al ≤ to_ ∧ to_ < al + m_tn (K p)))) := by
      intro e he hae htn
      rw [htn]
      by_cases h1 : to_ < al
      · rw [if_pos ((nI_ltI ht (by omega)).mpr h1), decide_eq_false (by omega)]; rfl
      · rw [if_neg (fun g => h1 ((nI_ltI ht (by omega)).mp g))]
        by_cases h2 : e < to_
        · rw [if_pos ((nI_ltI (by omega) ht).mpr h2), decide_eq_false (by omega)]; rfl
        · rw [if_neg (fun g => h2 ((nI_ltI (by omega) ht).mp g)), decide_eq_true (by omega)]; rfl
    by_cases h16 : (K p).1 = 16
    · obtain ⟨bl, hb1, hb2, hb3⟩ := hb h16
      have etn : m_tn (K p) = bl + 1 - al := by unfold m_tn; rw [if_pos h16, hb3, ea, nc (by omega), nc (by omega)]
      rw [if_pos h16, hb3]
      exact fin bl hb1 hb2 etn
    · have h45 : (K p).1 = 14 ∨ (K p).1 = 15 := by
        rcases hj with h | h | h
        · exact Or.inl h
        · exact Or.inr h
        · exact absurd h h16
      have etn : m_tn (K p) = al + 1 - al := by unfold m_tn; rw [if_neg h16, if_pos h45]; omega
      rw [if_neg h16]
      exact fin al ha (Nat.le_refl _) etn
  · have ej : m_jmp (K p).1 = false := decide_eq_false hj
    have etn : m_tn (K p) = 0 := by unfold m_tn; rw [if_neg (fun h => hj (Or.inr (Or.inr h))), if_neg (fun h => hj (h.elim Or.inl (fun g => Or.inr (Or.inl g))))]
    rw [ej, if_neg (show ¬ false = true by decide), if_neg (nn ht), ob_mk (a_last (F := F) (S := S) e1 k20), ej, if_neg (show ¬ false = true by decide), etn, decide_eq_false (by omega)]
    rw [if_pos (show (-1 : Int32) < nI to_ from Int32.lt_of_lt_of_le (by decide) (nI_pos' ht))]; rfl
theorem c_lead_lp (hV : cV S I B i T pc n K Q gn G) {p to_ : Nat} (hp : p < 2 ^ 31) (ht : to_ < 2 ^ 31) : ∀ (k m j : Nat), j + m = gn → m < k → (∀ y, y < j → (m_hld G y p && decide ((G y).2.2.1 = to_)) = false) → z_X5_leads_32 F S I k (B + 5 + 6 * i) (nI p) (nI to_) (nI j) = some (b2i (anyN (fun y => m_hld G y p && decide ((G y).2.2.1 = to_)) gn)) := by
  have hgn := hV.2.2.2.2.2.2.2.2
  have h4 := hgn.2.1
  intro k
  induction k with
  | zero => intro m j _ h; omega
  | succ k ih =>
    intro m j hjm hmk hno
    show z_X5_leads_32B F S I (z_X5_leads_32 F S I k) (B + 5 + 6 * i) (nI p) (nI to_) (nI j) = _
    unfold z_X5_leads_32B
    rw [hgn.1]
    by_cases hj : j < gn
    · obtain ⟨g, e0, e1, e2, e3, e4⟩ := g_over (F := F) hV hj hp
      obtain ⟨o1, o2, o3, o4⟩ := (hgn.2.2 j hj).1
      rw [if_pos ((nI_ltI (by omega) (by omega)).mpr hj), ob_mk e0]
      have nxt : (m_hld G j p && decide ((G j).2.2.1 = to_)) = false → z_X5_leads_32 F S I k (B + 5 + 6 * i) (nI p) (nI to_) (nI j + 1) = some (b2i (anyN (fun y => m_hld G y p && decide ((G y).2.2.1 = to_)) gn)) := by
        intro hf
        rw [nI_1]
        refine ih (m - 1) (j + 1) (by omega) (by omega) (fun y hy => ?_)
        by_cases e : y = j
        · subst e; exact hf
        · exact hno y (by omega)
      by_cases hh : (G j).1 ≤ p ∧ p < (G j).2.1
      · have hl : m_hld G j p = true := decide_eq_true hh
        rw [if_pos hh, ob2_mk rfl, e3]
        by_cases ha : (G j).2.2.1 = to_
        · rw [if_pos (show nI (G j).2.2.1 = nI to_ by rw [ha])]
          have : anyN (fun y => m_hld G y p && decide ((G y).2.2.1 = to_)) gn = true := anyN_iff.mpr ⟨j, hj, by rw [hl, decide_eq_true ha]; rfl⟩
          rw [this]; rfl
        · rw [if_neg (fun d => ha ((nI_eq (by omega) ht).mp d))]
          exact nxt (by rw [decide_eq_false ha, Bool.and_false])
      · have hl : m_hld G j p = false := decide_eq_false hh
        rw [if_neg hh, ob2_none]
        exact nxt (by rw [hl, Bool.false_and])
    · rw [if_neg (fun d => hj ((nI_ltI (by omega) (by omega)).mp d))]
      have : anyN (fun y => m_hld G y p && decide ((G y).2.2.1 = to_)) gn = false := anyN_f.mpr (fun y hy => hno y (by omega))
      rw [this]; rfl
theorem c_lead (hF : 100 ≤ F) (hV : cV S I B i T pc n K Q gn G) (hR : ∀ p, p < n → I (Q p) 3 = b2i (rc p)) {p to_ : Nat} (hp : p < n) (ht : to_ < 2 ^ 31) : z_X5_leads F S I (B + 5 + 6 * i) (nI p) (nI to_) = some (b2i (m_lead K gn G rc p to_)) := by
  have h40 := hV.2.2.2.2.1.2.2.2.1
  have h4 := hV.2.2.2.2.2.2.2.2.2.1
  obtain ⟨e0, e1, e2, e3⟩ := hV.act (F := F) hp
  unfold z_X5_leads m_lead
  rw [ob_mk e0, ob2_mk rfl, hR p hp]
  cases rc p
  · rw [if_pos (show b2i false = 0 from rfl)]; rfl
  · rw [if_neg (show ¬ b2i true = 0 by decide), ob_mk (a_gon hV hp ht), Bool.true_and]
    cases m_gon (K p) to_
    · rw [if_pos (show b2i false = 0 from rfl), Bool.false_or]
      exact c_lead_lp hV (by omega) ht F gn 0 (by omega) (by omega) (fun y hy => by omega)
    · rw [if_neg (show ¬ b2i true = 0 by decide)]; rfl
theorem c_src_lp (hF : 100 ≤ F) (hV : cV S I B i T pc n K Q gn G) (hR : ∀ p, p < n → I (Q p) 3 = b2i (rc p)) {to_ : Nat} (ht : to_ < 2 ^ 31) : ∀ (k m j : Nat), j + m = n → m < k → z_X5_countSources_4 F S I k (B + 5 + 6 * i) (nI to_) (nI (m_ct (fun p => m_lead K gn G rc p to_) j)) (nI j) = some (nI (m_ct (fun p => m_lead K gn G rc p to_) n)) := by
  have h40 := hV.2.2.2.2.1.2.2.2.1
  have h3 := hV.2.2.2.2.1.2.2.1
  intro k
  induction k with
  | zero => intro m j _ h; omega
  | succ k ih =>
    intro m j hjm hmk
    show z_X5_countSources_4B F S I (z_X5_countSources_4 F S I k) (B + 5 + 6 * i) (nI to_) (nI (m_ct (fun p => m_lead K gn G rc p to_) j)) (nI j) = _
    unfold z_X5_countSources_4B
    rw [h3]
    by_cases hj : j < n
    · rw [if_pos ((nI_ltI (by omega) (by omega)).mpr hj), ob_mk (c_lead hF hV hR hj ht)]
      have key := ih (m - 1) (j + 1) (by omega) (by omega)
      simp only [m_ct] at key
      cases hl : m_lead K gn G rc j to_
      · rw [if_neg (show ¬ m_lead K gn G rc j to_ = true by rw [hl]; decide), Nat.add_zero] at key
        rw [if_pos (show b2i false = 0 from rfl), nI_1]; exact key
      · rw [if_pos hl] at key
        rw [if_neg (show ¬ b2i true = 0 by decide), nI_1, nI_1]; exact key
    · rw [if_neg (fun d => hj ((nI_ltI (by omega) (by omega)).mp d))]
      have e : j = n := by omega
      rw [e]
theorem c_src (hF : 100 ≤ F) (hV : cV S I B i T pc n K Q gn G) (hR : ∀ p, p < n → I (Q p) 3 = b2i (rc p)) {to_ : Nat} (ht : to_ < 2 ^ 31) : z_X5_countSources F S I (B + 5 + 6 * i) (nI to_) = some (nI (m_ct (fun p => m_lead K gn G rc p to_) n)) := by
  have h40 := hV.2.2.2.2.1.2.2.2.1
  exact c_src_lp hF hV hR ht F n 0 (by omega) (by omega)
theorem c_fc_lp {fm : Nat → Bool} (hV : cV S I B i T pc n K Q gn G) (hR : ∀ p, p < n → I (Q p) 5 = b2i (fm p)) : ∀ (k m j : Nat), j + m = n → m < k → z_X5_frameCount_4 F S I k (B + 5 + 6 * i) (nI (m_ct fm j)) (nI j) = some (nI (m_ct fm n)) := by
  have h40 := hV.2.2.2.2.1.2.2.2.1
  have h3 := hV.2.2.2.2.1.2.2.1
  intro k
  induction k with
  | zero => intro m j _ h; omega
  | succ k ih =>
    intro m j hjm hmk
    show z_X5_frameCount_4B F S I (z_X5_frameCount_4 F S I k) (B + 5 + 6 * i) (nI (m_ct fm j)) (nI j) = _
    unfold z_X5_frameCount_4B
    rw [h3]
    by_cases hj : j < n
    · obtain ⟨e0, e1, e2, e3⟩ := hV.act (F := F) hj
      rw [if_pos ((nI_ltI (by omega) (by omega)).mpr hj), ob_mk e0, ob2_mk rfl, hR j hj]
      have key := ih (m - 1) (j + 1) (by omega) (by omega)
      simp only [m_ct] at key
      cases hl : fm j
      · rw [hl, if_neg (show ¬ false = true by decide), Nat.add_zero] at key
        rw [if_pos (show b2i false = 0 from rfl), nI_1]; exact key
      · rw [hl, if_pos (show true = true from rfl)] at key
        rw [if_neg (show ¬ b2i true = 0 by decide), nI_1, nI_1]; exact key
    · rw [if_neg (fun d => hj ((nI_ltI (by omega) (by omega)).mp d))]
      have e : j = n := by omega
      rw [e]
theorem c_fc {fm : Nat → Bool} (hF : 100 ≤ F) (hV : cV S I B i T pc n K Q gn G) (hR : ∀ p, p < n → I (Q p) 5 = b2i (fm p)) : z_X5_frameCount F S I (B + 5 + 6 * i) = some (nI (m_ct fm n)) := by
  have h40 := hV.2.2.2.2.1.2.2.2.1
  exact c_fc_lp hV hR F n 0 (by omega) (by omega)
end CF
