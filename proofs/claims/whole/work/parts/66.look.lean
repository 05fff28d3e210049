/-! looking at told frames: class side -/
def m_meet (T : mTr) (n : Nat) (fm : Nat → Bool) (fs : Nat → mSn) (at_ : Nat) (s : mSn) : Nat := if at_ < n ∧ fm at_ = true then (if m_fits T s (fs at_) = true then 0 else 9) else 8
def m_lg (T : mTr) (n : Nat) (G : Nat → mGd) (fm : Nat → Bool) (fs : Nat → mSn) (p : Nat) (s : mSn) : Nat → Nat → Nat
  | 0, _ => 0
  | m + 1, j => if (G j).1 ≤ p ∧ p < (G j).2.1 then (if m_meet T n fm fs (G j).2.2.1 (m_cau s (G j).2.2.2) = 0 then m_lg T n G fm fs p s m (j + 1) else m_meet T n fm fs (G j).2.2.1 (m_cau s (G j).2.2.2)) else m_lg T n G fm fs p s m (j + 1)
def m_lt (T : mTr) (n : Nat) (fm : Nat → Bool) (fs : Nat → mSn) (p : Nat) (s : mSn) : Nat → Nat → Nat
  | 0, _ => 0
  | m + 1, j => if ¬ j < n then 5 else if (decide (j ≤ p) && m_unm s) = true then 6 else if m_meet T n fm fs j s = 0 then m_lt T n fm fs p s m (j + 1) else m_meet T n fm fs j s
def m_tf (T : mTr) (fm : Nat → Bool) (fs : Nat → mSn) (p : Nat) (pr : Bool) (s : mSn) : Nat × mSn := if fm p = false then (if pr = false then (8, s) else (0, s)) else if (pr && !m_fits T s (fs p)) = true then (9, s) else (0, fs p)
def m_lk (T : mTr) (pc n : Nat) (K : Nat → mAc) (gn : Nat) (G : Nat → mGd) (fm : Nat → Bool) (fs : Nat → mSn) (p : Nat) (pr : Bool) (s : mSn) : Nat × mSn := m_bd (m_tf T fm fs p pr s) (fun s => if m_lg T n G fm fs p s gn 0 = 0 then m_bd (m_wd T pc n K p s) (fun s => (m_lt T n fm fs p s (m_tn (K p)) (m_ta (K p)), s)) else (m_lg T n G fm fs p s gn 0, s))
def m_vf (T : mTr) (pc n : Nat) (K : Nat → mAc) (gn : Nat) (G : Nat → mGd) (fm : Nat → Bool) (fs : Nat → mSn) : Nat → Nat → Bool → mSn → Nat × Nat
  | 0, j, pr, _ => if pr = true then (5, j - 1) else (0, 0)
  | m + 1, j, pr, s => if (m_lk T pc n K gn G fm fs j pr s).1 = 0 then m_vf T pc n K gn G fm fs m (j + 1) (m_goes (K j).1) (m_lk T pc n K gn G fm fs j pr s).2 else ((m_lk T pc n K gn G fm fs j pr s).1, j)
def cLk (S : zS) (B : Nat) : Prop := S.1 (B + 61) 0 = some (B + 1) ∧ S.1 (B + 61) 1 = some (B + 53) ∧ S.1 (B + 61) 2 = some (B + 62) ∧ S.1 (B + 61) 3 = some (B + 65) ∧ cOK S (B + 62) ∧ cOK S (B + 65)
/-- the frames in the class's cells -/
def cFr (I : zI) (n : Nat) (Q : Nat → Nat) (fm : Nat → Bool) (fs : Nat → mSn) : Prop := ∀ p, p < n → I (Q p) 5 = b2i (fm p) ∧ (fm p = true → cSn I (Q p + 4) (fs p))
theorem m_meet_lt (T : mTr) (n : Nat) (fm : Nat → Bool) (fs : Nat → mSn) (x : Nat) (s : mSn) : m_meet T n fm fs x s < 20 := by unfold m_meet; split; split; decide; decide; decide
theorem m_lg_lt (T : mTr) (n : Nat) (G : Nat → mGd) (fm : Nat → Bool) (fs : Nat → mSn) (p : Nat) (s : mSn) : ∀ (m j : Nat), m_lg T n G fm fs p s m j < 20 := by
  intro m
  induction m with
  | zero => intro j; exact (by decide : 0 < 20)
  | succ m ih =>
    intro j
    simp only [m_lg]
    split
    · split
      · exact ih _
      · exact m_meet_lt _ _ _ _ _ _
    · exact ih _
theorem m_lt_lt (T : mTr) (n : Nat) (fm : Nat → Bool) (fs : Nat → mSn) (p : Nat) (s : mSn) : ∀ (m j : Nat), m_lt T n fm fs p s m j < 20 := by
  intro m
  induction m with
  | zero => intro j; exact (by decide : 0 < 20)
  | succ m ih =>
    intro j
    simp only [m_lt]
    split
    · decide
    · split
      · decide
      · split
        · exact ih _
        · exact m_meet_lt _ _ _ _ _ _
section CL
variable {F : Nat} {S : zS} {I I' : zI} {B i n pc gn : Nat} {T : mTr} {K : Nat → mAc} {Q : Nat → Nat} {G : Nat → mGd} {fm : Nat → Bool} {fs : Nat → mSn} {s : mSn}
theorem cV.keepL (hV : cV S I B i T pc n K Q gn G) (f : fr (B + 61) 7 I I') : cV S I' B i T pc n K Q gn G := by
  obtain ⟨h1, h2, h3, h4, ⟨a1, a2, a3, a4, a5⟩, h6, h7, h8, ⟨g1, g2, g3⟩⟩ := hV
  have eM : I' (B + 5 + 6 * i) = I (B + 5 + 6 * i) := f _ (by omega)
  refine ⟨h1, h2, h3, h4.kept (f _ (by omega)) (f _ (by omega)) (f _ (by omega)), ⟨a1, a2, by rw [eM]; exact a3, a4, fun p hp => ?_⟩, h6, ⟨by rw [eM]; exact h7.1, h7.2⟩, h8, ⟨by rw [eM]; exact g1, g2, fun j hj => ?_⟩⟩
  · obtain ⟨q, e0, e1, e2, e3⟩ := a5 p hp
    have hqq : Q p = q := Option.some.inj ((h6.1 p hp).2.1.symm.trans e0)
    have hb := (h6.1 p hp).1
    subst hqq
    exact ⟨Q p, e0, by rw [f (Q p) (by omega)]; exact ⟨e1, e2, e3⟩⟩
  · obtain ⟨k0, g, k1, k2, k3, k4, k5, k6, k7⟩ := g3 j hj
    have e : I' g = I g := f g (by omega)
    exact ⟨k0, g, k1, k2, k3, by rw [e]; exact k4, by rw [e]; exact k5, by rw [e]; exact k6, by rw [e]; exact k7⟩
theorem cFr.keepL (hV : cV S I B i T pc n K Q gn G) {I1 I2 : zI} (h : cFr I1 n Q fm fs) (f : fr (B + 61) 7 I1 I2) : cFr I2 n Q fm fs := fun p hp => by
  have hb := (hV.2.2.2.2.2.1.1 p hp).1
  exact ⟨by rw [f _ (by omega)]; exact (h p hp).1, fun g => ((h p hp).2 g).fr f (by omega)⟩
theorem cV.toE2 (hV : cV S I B i T pc n K Q gn G) {a : Nat} (ha : B + 53 ≤ a) (hb : a + 3 ≤ B + 94) : cE S I (B + 1) T (B + 5 + 6 * i) pc n K a := by
  obtain ⟨h1, h2, h3, h4, h5, h6, h7, h8, h9⟩ := hV
  refine ⟨h4, Or.inl (by omega), h7.1, h7.2, Or.inl (by omega), h5, fun p q hp hq => ?_, h8⟩
  have e : Q p = q := Option.some.inj ((h6.1 p hp).2.1.symm.trans hq)
  have hb := (h6.1 p hp).1
  exact Or.inr (by omega)
theorem c_meet (hF : 20 ≤ F) (hL : cLk S B) (hV : cV S I B i T pc n K Q gn G) (hf : cFr I n Q fm fs) {a : Nat} (hO : cOK S a) (hs : cSn I a s) {x : Nat} {o : Option Nat} (ho : o = if x < n then some (Q x) else none) : z_X4_meet F S I (B + 61) o a = some (nI (m_meet T n fm fs x s)) := by
  unfold z_X4_meet m_meet
  by_cases hx : x < n
  · rw [if_pos hx] at ho
    rw [ho, ob2_mk rfl, (hf x hx).1]
    cases hm : fm x
    · rw [if_pos (show b2i false = 0 from rfl), if_neg (show ¬ (x < n ∧ false = true) from fun g => by cases g.2)]; rfl
    · obtain ⟨q1, q2, q3, q4, q5, q6⟩ := hV.2.2.2.2.2.1.1 x hx
      rw [if_neg (show ¬ b2i true = 0 by decide), if_pos (show x < n ∧ true = true from ⟨hx, rfl⟩), ob_mk hL.1, ob_mk q4, ob_mk (t_fits hF hV.2.2.2.1 hO q6 hs ((hf x hx).2 hm))]
      cases m_fits T s (fs x)
      · rw [if_pos (show b2i false = 0 from rfl)]; rfl
      · rw [if_neg (show ¬ b2i true = 0 by decide)]; rfl
  · rw [if_neg hx] at ho
    rw [ho, ob2_none, if_neg (fun g => hx g.1)]; rfl
theorem c_lg (hF : 20 ≤ F) (hL : cLk S B) {p : Nat} (hp : p < 40) : ∀ (k m j : Nat) (J : zI), j + m = gn → m < k → cV S J B i T pc n K Q gn G → cFr J n Q fm fs → cSn J (B + 62) s →
    ∃ I', z_X4_lookAtGuards_2 F S k (B + 61) (B + 5 + 6 * i) (nI p) (nI j) J = some (nI (m_lg T n G fm fs p s m j), I') ∧ fr (B + 65) 3 J I' := by
  intro k
  induction k with
  | zero => intro m j J _ h; omega
  | succ k ih =>
    intro m j J hjm hmk hV hf hs
    show ∃ I', z_X4_lookAtGuards_2B F S (z_X4_lookAtGuards_2 F S k) (B + 61) (B + 5 + 6 * i) (nI p) (nI j) J = some (nI (m_lg T n G fm fs p s m j), I') ∧ _
    have hg := hV.2.2.2.2.2.2.2.2
    have hg4 := hg.2.1
    have h40 := hV.2.2.2.2.1.2.2.2.1
    unfold z_X4_lookAtGuards_2B
    rw [hg.1]
    cases m with
    | zero =>
      rw [if_neg (fun d => by rw [nI_ltI (by omega) (by omega)] at d; omega)]
      exact ⟨J, rfl, fr.rf⟩
    | succ m =>
      have hj : j < gn := by omega
      obtain ⟨g, e0, e1, e2, e3, e4⟩ := g_over (F := F) hV hj (p := p) (by omega)
      obtain ⟨o1, o2, o3, o4⟩ := (hg.2.2 j hj).1
      have hT16 := hV.2.2.2.1.2.2.2.2.2.1.2.1
      rw [if_pos ((nI_ltI (by omega) (by omega)).mpr hj), ob_mk e0]
      simp only [m_lg]
      by_cases hh : (G j).1 ≤ p ∧ p < (G j).2.1
      · rw [if_pos hh, if_pos hh, ob2_mk rfl, ob_mk hL.2.2.2.1, ob_mk hL.2.2.1, e4]
        obtain ⟨J1, b1, b2, b3⟩ := s_cau (F := F) hF hL.2.2.2.2.2 hL.2.2.2.2.1 hs (by omega) (show (G j).2.2.2 < 100 by omega)
        have fJ : fr (B + 61) 7 J J1 := b3.mono (by omega) (by omega)
        have hV1 := hV.keepL fJ
        rw [ob_mk b1, b3 g (by omega), e3]
        have ea : z_X5_actAt F S J1 (B + 5 + 6 * i) (nI (G j).2.2.1) = some (if (G j).2.2.1 < n then some (Q (G j).2.2.1) else none) := by
          by_cases hx : (G j).2.2.1 < n
          · rw [if_pos hx]; exact (hV1.act hx).1
          · rw [if_neg hx]; exact hV1.act_n (by omega) (by omega)
        rw [ob_mk ea, ob_mk (c_meet hF hL hV1 (hf.keepL hV fJ) hL.2.2.2.2.2 b2 rfl)]
        have hlt := m_meet_lt T n fm fs (G j).2.2.1 (m_cau s (G j).2.2.2)
        by_cases hz : m_meet T n fm fs (G j).2.2.1 (m_cau s (G j).2.2.2) = 0
        · rw [if_pos (show nI (m_meet T n fm fs (G j).2.2.1 (m_cau s (G j).2.2.2)) = 0 by rw [hz]; rfl), if_pos hz, nI_1]
          obtain ⟨J2, d1, d2⟩ := ih m (j + 1) J1 (by omega) (by omega) hV1 (hf.keepL hV fJ) (hs.fr b3 (by omega))
          exact ⟨J2, d1, b3.trans d2⟩
        · rw [if_neg (fun e => hz ((nI_eq (by omega) (by omega)).mp (e.trans nl0))), if_neg hz]
          exact ⟨J1, rfl, b3⟩
      · rw [if_neg hh, if_neg hh, ob2_none, nI_1]
        exact ih m (j + 1) J (by omega) (by omega) hV hf hs
theorem c_lt (hF : 20 ≤ F) (hL : cLk S B) (hV : cV S I B i T pc n K Q gn G) (hf : cFr I n Q fm fs) (hs : cSn I (B + 62) s) {p : Nat} (hp : p < 40) {e : Nat} (he : e < 40) : ∀ (k m j : Nat), j + m = e + 1 → m < k →
    z_X4_lookAtTargets_12 F S I k (B + 61) (B + 5 + 6 * i) (nI p) (nI e) (nI j) = some (nI (m_lt T n fm fs p s m j)) := by
  have h40 := hV.2.2.2.2.1.2.2.2.1
  intro k
  induction k with
  | zero => intro m j _ h; omega
  | succ k ih =>
    intro m j hjm hmk
    show z_X4_lookAtTargets_12B F S I (z_X4_lookAtTargets_12 F S I k) (B + 61) (B + 5 + 6 * i) (nI p) (nI e) (nI j) = _
    unfold z_X4_lookAtTargets_12B
    cases m with
    | zero => rw [if_pos ((nI_ltI (by omega) (by omega)).mpr (by omega))]; rfl
    | succ m =>
      rw [if_neg (fun d => by rw [nI_ltI (by omega) (by omega)] at d; omega)]
      simp only [m_lt]
      by_cases hj : j < n
      · rw [ob_mk (hV.act (F := F) hj).1, ob2_mk rfl, if_neg (show ¬ ¬ j < n from fun g => g hj)]
        have key : z_X4_lookAtTargets_53 F S I (z_X4_lookAtTargets_12 F S I k) (B + 61) (B + 5 + 6 * i) (nI p) (nI e) (nI j) (Q j) = some (nI (if m_meet T n fm fs j s = 0 then m_lt T n fm fs p s m (j + 1) else m_meet T n fm fs j s)) := by
          unfold z_X4_lookAtTargets_53
          rw [ob_mk hL.2.2.1, ob_mk (c_meet hF hL hV hf hL.2.2.2.2.1 hs (x := j) (by rw [if_pos hj]))]
          have hlt := m_meet_lt T n fm fs j s
          by_cases hz : m_meet T n fm fs j s = 0
          · rw [if_pos (show nI (m_meet T n fm fs j s) = 0 by rw [hz]; rfl), if_pos hz, nI_1]
            exact ih m (j + 1) (by omega) (by omega)
          · rw [if_neg (fun d => hz ((nI_eq (by omega) (by omega)).mp (d.trans nl0))), if_neg hz]
        by_cases hc : j ≤ p
        · rw [if_neg (fun d => by rw [nI_ltI (by omega) (by omega)] at d; omega), ob_mk hL.2.2.1, ob_mk (s_unm hF hL.2.2.2.2.1 hs), decide_eq_true hc, Bool.true_and]
          cases m_unm s
          · rw [if_pos (show b2i false = 0 from rfl), if_neg (show ¬ false = true by decide)]; exact key
          · rw [if_neg (show ¬ b2i true = 0 by decide), if_pos (show true = true from rfl)]; rfl
        · rw [if_pos ((nI_ltI (by omega) (by omega)).mpr (by omega)), decide_eq_false hc, Bool.false_and, if_neg (show ¬ false = true by decide)]; exact key
      · rw [ob_mk (hV.act_n (F := F) (x := j) (by omega) (by omega)), ob2_none, if_pos hj]; rfl
theorem c_lts (hF : 100 ≤ F) (hL : cLk S B) (hV : cV S I B i T pc n K Q gn G) (hf : cFr I n Q fm fs) (hs : cSn I (B + 62) s) {p : Nat} (hp : p < n) : z_X4_lookAtTargets F S I (B + 61) (B + 5 + 6 * i) (nI p) (Q p) = some (nI (m_lt T n fm fs p s (m_tn (K p)) (m_ta (K p)))) := by
  have h40 := hV.2.2.2.2.1.2.2.2.1
  obtain ⟨e0, e1, e2, e3⟩ := hV.act (F := F) hp
  obtain ⟨k20, hpl, hcl, hgo⟩ := hV.2.2.2.2.2.2.2.1 p hp
  unfold z_X4_lookAtTargets
  rw [ob_mk (a_last (F := F) (S := S) e1 k20), ob_mk (a_first (F := F) (S := S) e1 k20)]
  by_cases hj : (K p).1 = 14 ∨ (K p).1 = 15 ∨ (K p).1 = 16
  · have hj2 : 14 ≤ (K p).1 ∧ (K p).1 ≤ 16 := by omega
    obtain ⟨al, ha, ea, hb⟩ := hgo hj2
    have eta : m_ta (K p) = al := by unfold m_ta; rw [ea]; exact nc (by omega)
    have ej : m_jmp (K p).1 = true := decide_eq_true hj
    rw [ej, if_pos (show true = true from rfl), if_pos (show true = true from rfl), e2, e3, ea, eta]
    by_cases h16 : (K p).1 = 16
    · obtain ⟨bl, hb1, hb2, hb3⟩ := hb h16
      have etn : m_tn (K p) = bl + 1 - al := by unfold m_tn; rw [if_pos h16, hb3, ea, nc (by omega), nc (by omega)]
      rw [if_pos h16, hb3, etn]
      exact c_lt (by omega) hL hV hf hs (by omega) hb1 F (bl + 1 - al) al (by omega) (by omega)
    · have h45 : (K p).1 = 14 ∨ (K p).1 = 15 := by
        rcases hj with h | h | h
        · exact Or.inl h
        · exact Or.inr h
        · exact absurd h h16
      have etn : m_tn (K p) = 1 := by unfold m_tn; rw [if_neg h16, if_pos h45]
      rw [if_neg h16, etn]
      exact c_lt (by omega) hL hV hf hs (by omega) ha F 1 al (by omega) (by omega)
  · have ej : m_jmp (K p).1 = false := decide_eq_false hj
    have etn : m_tn (K p) = 0 := by unfold m_tn; rw [if_neg (fun h => hj (Or.inr (Or.inr h))), if_neg (fun h => hj (h.elim Or.inl (fun g => Or.inr (Or.inl g))))]
    rw [ej, if_neg (show ¬ false = true by decide), if_neg (show ¬ false = true by decide), etn]
    obtain ⟨F', rfl⟩ : ∃ F', F = F' + 1 := ⟨F - 1, by omega⟩
    show z_X4_lookAtTargets_12B (F' + 1) S I (z_X4_lookAtTargets_12 (F' + 1) S I F') (B + 61) (B + 5 + 6 * i) (nI p) (-1) 0 = _
    unfold z_X4_lookAtTargets_12B
    rw [if_pos (show (-1 : Int32) < 0 by decide)]; rfl
theorem c_tf (hF : 20 ≤ F) (hL : cLk S B) (hV : cV S I B i T pc n K Q gn G) (hf : cFr I n Q fm fs) (hs : cSn I (B + 62) s) {p : Nat} (hp : p < n) {pr : Bool} (h4 : I (B + 61) 4 = b2i pr) : ∃ I', z_X4_takeFrame F S I (B + 61) (Q p) = some (nI (m_tf T fm fs p pr s).1, I') ∧ cSn I' (B + 62) (m_tf T fm fs p pr s).2 ∧ fr (B + 62) 3 I I' := by
  obtain ⟨q1, q2, q3, q4, q5, q6⟩ := hV.2.2.2.2.2.1.1 p hp
  unfold z_X4_takeFrame m_tf
  rw [(hf p hp).1, h4]
  cases hm : fm p
  · rw [if_pos (show b2i false = 0 from rfl), if_pos (show false = false from rfl)]
    cases pr
    · rw [if_pos (show b2i false = 0 from rfl), if_pos (show false = false from rfl)]; exact ⟨I, rfl, hs, fr.rf⟩
    · rw [if_neg (show ¬ b2i true = 0 by decide), if_neg (show ¬ true = false by decide)]; exact ⟨I, rfl, hs, fr.rf⟩
  · rw [if_neg (show ¬ b2i true = 0 by decide), if_neg (show ¬ true = false by decide)]
    have hw := (hf p hp).2 hm
    have key : ∃ I', z_X4_takeFrame_49 F S (B + 61) (Q p) I = some (nI 0, I') ∧ cSn I' (B + 62) (fs p) ∧ fr (B + 62) 3 I I' := by
      unfold z_X4_takeFrame_49
      obtain ⟨J, g1, g2, g3⟩ := s_become (F := F) (a := B + 62) hL.2.2.2.2.1 q6 hw (by omega)
      rw [ob_mk hL.2.2.1, ob_mk q4, ob_mk g1]
      exact ⟨J, rfl, g2, g3⟩
    cases pr
    · rw [if_pos (show b2i false = 0 from rfl), Bool.false_and, if_neg (show ¬ false = true by decide)]; exact key
    · rw [if_neg (show ¬ b2i true = 0 by decide), ob_mk hL.1, ob_mk hL.2.2.1, ob_mk q4, ob_mk (t_fits hF hV.2.2.2.1 hL.2.2.2.2.1 q6 hs hw), Bool.true_and]
      cases m_fits T s (fs p)
      · rw [if_pos (show b2i false = 0 from rfl), if_pos (show (!false) = true from rfl)]; exact ⟨I, rfl, hs, fr.rf⟩
      · rw [if_neg (show ¬ b2i true = 0 by decide), if_neg (show ¬ (!true) = true by decide)]; exact key
theorem c_lk67 (hV : cV S I B i T pc n K Q gn G) {p : Nat} (hp : p < n) {x : Int32} : z_X4_lookAt_67 F S (B + 61) (Q p) x I = some (x, z_up I (B + 61) 4 (b2i (m_goes (K p).1))) := by
  obtain ⟨e0, e1, e2, e3⟩ := hV.act (F := F) hp
  unfold z_X4_lookAt_67
  rw [ob_mk (a_goes (F := F) (S := S) e1 (hV.2.2.2.2.2.2.2.1 p hp).1), if_pos (b2i_01 _)]
theorem m_tf_lt (T : mTr) (p : Nat) (pr : Bool) (s : mSn) : (m_tf T fm fs p pr s).1 < 20 := by unfold m_tf; exact ite20 (ite20 (show 8 < 20 by decide) (show 0 < 20 by decide)) (ite20 (show 9 < 20 by decide) (show 0 < 20 by decide))
theorem c_lk (hF : 100 ≤ F) (hL : cLk S B) (hV : cV S I B i T pc n K Q gn G) (hf : cFr I n Q fm fs) (hs : cSn I (B + 62) s) {p : Nat} (hp : p < n) {pr : Bool} (h4 : I (B + 61) 4 = b2i pr) : (m_lk T pc n K gn G fm fs p pr s).1 < 20 ∧ ∃ I', z_X4_lookAt F S I (B + 61) (B + 5 + 6 * i) (nI p) = some (nI (m_lk T pc n K gn G fm fs p pr s).1, I') ∧ ((m_lk T pc n K gn G fm fs p pr s).1 = 0 → cSn I' (B + 62) (m_lk T pc n K gn G fm fs p pr s).2) ∧ I' (B + 61) 4 = b2i (m_goes (K p).1) ∧ fr (B + 61) 7 I I' := by
  have h40 := hV.2.2.2.2.1.2.2.2.1
  have hg4 := hV.2.2.2.2.2.2.2.2.2.1
  obtain ⟨e0, e1, e2, e3⟩ := hV.act (F := F) hp
  obtain ⟨q1, q2, q3, q4, q5, q6⟩ := hV.2.2.2.2.2.1.1 p hp
  obtain ⟨I1, a1, a2, a3⟩ := c_tf (F := F) (by omega) hL hV hf hs hp h4
  have f1 : fr (B + 61) 7 I I1 := a3.mono (by omega) (by omega)
  have hl0 := m_tf_lt (fm := fm) (fs := fs) T p pr s
  unfold z_X4_lookAt m_lk m_bd
  rw [ob_mk e0, ob2_mk rfl, ob_mk a1]
  have fin : ∀ (J : zI) (x : Nat), x < 20 → x ≠ 0 → fr (B + 61) 7 I J → ∃ I', z_X4_lookAt_53 F S (B + 61) (B + 5 + 6 * i) (nI p) (Q p) (nI x) J = some (nI x, I') ∧ I' (B + 61) 4 = b2i (m_goes (K p).1) ∧ fr (B + 61) 7 I I' := by
    intro J x hx hx0 fJ
    unfold z_X4_lookAt_53
    rw [if_neg (fun d => hx0 ((nI_eq (by omega) (by omega)).mp (d.trans nl0))), c_lk67 (hV.keepL fJ) hp]
    exact ⟨_, rfl, z_up_at _ _ _ _, fJ.up (by omega) (by omega)⟩
  have fin32 : ∀ (J : zI) (x : Nat), x < 20 → x ≠ 0 → fr (B + 61) 7 I J → ∃ I', z_X4_lookAt_32 F S (B + 61) (B + 5 + 6 * i) (nI p) (Q p) (nI x) J = some (nI x, I') ∧ I' (B + 61) 4 = b2i (m_goes (K p).1) ∧ fr (B + 61) 7 I I' := by
    intro J x hx hx0 fJ
    unfold z_X4_lookAt_32
    rw [if_neg (fun d => hx0 ((nI_eq (by omega) (by omega)).mp (d.trans nl0)))]
    exact fin J x hx hx0 fJ
  by_cases hz : (m_tf T fm fs p pr s).1 = 0
  · rw [if_pos hz]
    have e9 : (if (nI (m_tf T fm fs p pr s).1, I1).1 = 0 then (ob (z_X4_lookAtGuards F S (nI (m_tf T fm fs p pr s).1, I1).2 (B + 61) (B + 5 + 6 * i) (nI p)) (fun q4 => z_X4_lookAt_32 F S (B + 61) (B + 5 + 6 * i) (nI p) (Q p) (q4.1) (q4.2))) else z_X4_lookAt_32 F S (B + 61) (B + 5 + 6 * i) (nI p) (Q p) (nI (m_tf T fm fs p pr s).1, I1).1 (nI (m_tf T fm fs p pr s).1, I1).2) = ob (z_X4_lookAtGuards F S I1 (B + 61) (B + 5 + 6 * i) (nI p)) (fun q4 => z_X4_lookAt_32 F S (B + 61) (B + 5 + 6 * i) (nI p) (Q p) (q4.1) (q4.2)) := if_pos (show nI (m_tf T fm fs p pr s).1 = 0 by rw [hz]; rfl)
    rw [e9]
    generalize (m_tf T fm fs p pr s).2 = s1 at a2
    have hV1 := hV.keepL f1
    obtain ⟨I2, b1, b2⟩ := c_lg (F := F) (by omega) hL (p := p) (by omega) F gn 0 I1 (by omega) (by omega) hV1 (hf.keepL hV f1) a2
    have b1' : z_X4_lookAtGuards F S I1 (B + 61) (B + 5 + 6 * i) (nI p) = some (nI (m_lg T n G fm fs p s1 gn 0), I2) := b1
    have f2 : fr (B + 61) 7 I I2 := f1.trans (b2.mono (by omega) (by omega))
    have hl1 := m_lg_lt T n G fm fs p s1 gn 0
    rw [ob_mk b1']
    dsimp only
    by_cases hg : m_lg T n G fm fs p s1 gn 0 = 0
    · rw [if_pos hg]
      have hV2 := hV.keepL f2
      obtain ⟨I3, k1, k2, k3⟩ := x_do (F := F) (w := B + 53) (by omega) hV.1.1 (hV2.toE2 (a := B + 62) (by omega) (by omega)) hL.2.2.2.2.1 (a2.fr b2 (by omega)) hp q2
      have k1' : z_X7_perform F S I2 (B + 53) (B + 5 + 6 * i) (nI p) (Q p) (B + 62) = some (nI (m_wd T pc n K p s1).1, I3) := k1
      have k2' : (m_wd T pc n K p s1).1 = 0 → cSn I3 (B + 62) (m_wd T pc n K p s1).2 := k2
      have hl2 : (m_wd T pc n K p s1).1 < 20 := m_do_lt T pc n K _ _ p _
      have f3 : fr (B + 61) 7 I I3 := f2.trans (k3.mono (by omega) (by omega))
      show (if (m_wd T pc n K p s1).1 = 0 then _ else _ : Nat × mSn).1 < 20 ∧ ∃ I', z_X4_lookAt_32 F S (B + 61) (B + 5 + 6 * i) (nI p) (Q p) (nI (m_lg T n G fm fs p s1 gn 0)) I2 = _ ∧ _
      unfold z_X4_lookAt_32
      rw [if_pos (show nI (m_lg T n G fm fs p s1 gn 0) = 0 by rw [hg]; rfl), ob_mk hL.2.1, ob_mk hL.2.2.1, ob_mk k1']
      by_cases hd : (m_wd T pc n K p s1).1 = 0
      · rw [if_pos hd]
        refine ⟨m_lt_lt T n fm fs p _ _ _, ?_⟩
        show ∃ I', z_X4_lookAt_53 F S (B + 61) (B + 5 + 6 * i) (nI p) (Q p) (nI (m_wd T pc n K p s1).1) I3 = _ ∧ _
        unfold z_X4_lookAt_53
        rw [if_pos (show nI (m_wd T pc n K p s1).1 = 0 by rw [hd]; rfl), ob_mk (c_lts hF hL (hV.keepL f3) (hf.keepL hV f3) (k2' hd) hp), c_lk67 (hV.keepL f3) hp]
        exact ⟨_, rfl, fun _ => (k2' hd).kept (z_up_off (by omega)) (z_up_off (by omega)) (z_up_off (by omega)), z_up_at _ _ _ _, f3.up (by omega) (by omega)⟩
      · rw [if_neg hd]
        obtain ⟨I', t1, t2, t3⟩ := fin I3 (m_wd T pc n K p s1).1 hl2 hd f3
        exact ⟨hl2, I', t1, fun e => absurd e hd, t2, t3⟩
    · rw [if_neg hg]
      obtain ⟨I', t1, t2, t3⟩ := fin32 I2 _ hl1 hg f2
      exact ⟨hl1, I', t1, fun e => absurd e hg, t2, t3⟩
  · rw [if_neg hz]
    have e9 : (if (nI (m_tf T fm fs p pr s).1, I1).1 = 0 then (ob (z_X4_lookAtGuards F S (nI (m_tf T fm fs p pr s).1, I1).2 (B + 61) (B + 5 + 6 * i) (nI p)) (fun q4 => z_X4_lookAt_32 F S (B + 61) (B + 5 + 6 * i) (nI p) (Q p) (q4.1) (q4.2))) else z_X4_lookAt_32 F S (B + 61) (B + 5 + 6 * i) (nI p) (Q p) (nI (m_tf T fm fs p pr s).1, I1).1 (nI (m_tf T fm fs p pr s).1, I1).2) = z_X4_lookAt_32 F S (B + 61) (B + 5 + 6 * i) (nI p) (Q p) (nI (m_tf T fm fs p pr s).1) I1 := if_neg (fun d => hz ((nI_eq (by omega) (by omega)).mp (Eq.trans (show nI (m_tf T fm fs p pr s).1 = 0 from d) nl0)))
    rw [e9]
    obtain ⟨I', t1, t2, t3⟩ := fin32 I1 _ hl0 hz f1
    exact ⟨hl0, I', t1, fun e => absurd e hz, t2, t3⟩
theorem c_vf (hF : 100 ≤ F) (hL : cLk S B) (hn : 0 < n) : ∀ (k m j : Nat) (J : zI) (pr : Bool) (s : mSn), j + m = n → m < k → cV S J B i T pc n K Q gn G → cFr J n Q fm fs → cSn J (B + 62) s → J (B + 61) 4 = b2i pr →
    (m_vf T pc n K gn G fm fs m j pr s).1 < 20 ∧ (m_vf T pc n K gn G fm fs m j pr s).2 < n ∧ ∃ I', z_X4_run_18 F S k (B + 61) (B + 5 + 6 * i) (nI j) J = some ((if (m_vf T pc n K gn G fm fs m j pr s).1 = 0 then -1 else nI (m_vf T pc n K gn G fm fs m j pr s).2), I') ∧ I' (B + 61) 5 = nI (m_vf T pc n K gn G fm fs m j pr s).1 ∧ fr (B + 61) 7 J I' := by
  intro k
  induction k with
  | zero => intro m j J pr s _ h; omega
  | succ k ih =>
    intro m j J pr s hjm hmk hV hf hs h4
    have h40 := hV.2.2.2.2.1.2.2.2.1
    have hi8 := hV.2.1
    show _ ∧ _ ∧ ∃ I', z_X4_run_18B F S (z_X4_run_18 F S k) (B + 61) (B + 5 + 6 * i) (nI j) J = _ ∧ _
    unfold z_X4_run_18B
    rw [hV.2.2.2.2.1.2.2.1]
    cases m with
    | zero =>
      rw [if_neg (fun d => by rw [nI_ltI (by omega) (by omega)] at d; omega), h4]
      cases pr
      · have hm : m_vf T pc n K gn G fm fs 0 j false s = (0, 0) := by simp only [m_vf]; rw [if_neg (show ¬ false = true by decide)]
        rw [hm, if_pos (show b2i false = 0 from rfl)]
        refine ⟨by decide, hn, z_up J (B + 61) 5 0, ?_, by rw [z_up_at]; rfl, fr.rf.up (by omega) (by omega)⟩
        unfold z_X4_run_64
        rw [if_pos (show z_up J (B + 61) 5 0 (B + 61) 4 = 0 by rw [z_up_ne (Or.inr (by omega)), h4]; rfl)]; rfl
      · have hm : m_vf T pc n K gn G fm fs 0 j true s = (5, j - 1) := by simp [m_vf]
        rw [hm, if_neg (show ¬ b2i true = 0 by decide)]
        refine ⟨by show 5 < 20; decide, by show j - 1 < n; omega, z_up J (B + 61) 5 5, ?_, by rw [z_up_at]; rfl, fr.rf.up (by omega) (by omega)⟩
        unfold z_X4_run_64
        rw [if_neg (show ¬ z_up J (B + 61) 5 5 (B + 61) 4 = 0 by rw [z_up_ne (Or.inr (by omega)), h4]; decide), if_neg (show ¬ ((5, j - 1) : Nat × Nat).1 = 0 by show ¬ 5 = 0; decide), z_up_off (by omega), hV.2.2.2.2.1.2.2.1, nl1, pk_sub (by omega)]
        have e : n = j := by omega
        rw [e]
    | succ m =>
      have hj : j < n := by omega
      rw [if_pos ((nI_ltI (by omega) (by omega)).mpr hj)]
      obtain ⟨hlt, I1, b1, b2, b3, b4⟩ := c_lk (F := F) hF hL hV hf hs hj h4
      rw [ob_mk b1]
      have hm : m_vf T pc n K gn G fm fs (m + 1) j pr s = if (m_lk T pc n K gn G fm fs j pr s).1 = 0 then m_vf T pc n K gn G fm fs m (j + 1) (m_goes (K j).1) (m_lk T pc n K gn G fm fs j pr s).2 else ((m_lk T pc n K gn G fm fs j pr s).1, j) := by simp only [m_vf]
      rw [z_up_at]
      by_cases hz : (m_lk T pc n K gn G fm fs j pr s).1 = 0
      · rw [if_pos hz] at hm
        have f2 : fr (B + 61) 7 J (z_up I1 (B + 61) 5 (nI (m_lk T pc n K gn G fm fs j pr s).1)) := b4.up (by omega) (by omega)
        rw [if_pos (show nI (m_lk T pc n K gn G fm fs j pr s).1 = 0 by rw [hz]; rfl), hm, nI_1]
        obtain ⟨d0, d1, I2, d2, d3, d4⟩ := ih m (j + 1) (z_up I1 (B + 61) 5 (nI (m_lk T pc n K gn G fm fs j pr s).1)) (m_goes (K j).1) (m_lk T pc n K gn G fm fs j pr s).2 (by omega) (by omega) (hV.keepL f2) (hf.keepL hV f2) ((b2 hz).kept (z_up_off (by omega)) (z_up_off (by omega)) (z_up_off (by omega))) (by rw [z_up_ne (Or.inr (by omega))]; exact b3)
        exact ⟨d0, d1, I2, d2, d3, f2.trans d4⟩
      · rw [if_neg hz] at hm
        rw [hm, if_neg (fun d => hz ((nI_eq (by omega) (by omega)).mp (d.trans nl0))), if_neg (show ¬ ((m_lk T pc n K gn G fm fs j pr s).1, j).1 = 0 from hz)]
        exact ⟨hlt, hj, _, rfl, by rw [z_up_at], b4.up (by omega) (by omega)⟩
theorem c_vrun (hF : 100 ≤ F) (hL : cLk S B) (hn : 0 < n) {bg : mSn} (hbg : cSn I (B + 5 + 6 * i + 3) bg) (hV : cV S I B i T pc n K Q gn G) (hf : cFr I n Q fm fs) :
    (m_vf T pc n K gn G fm fs n 0 true bg).1 < 20 ∧ (m_vf T pc n K gn G fm fs n 0 true bg).2 < n ∧ ∃ I', z_X4_run F S I (B + 61) (B + 5 + 6 * i) = some ((if (m_vf T pc n K gn G fm fs n 0 true bg).1 = 0 then -1 else nI (m_vf T pc n K gn G fm fs n 0 true bg).2), I') ∧ I' (B + 61) 5 = nI (m_vf T pc n K gn G fm fs n 0 true bg).1 ∧ fr (B + 61) 7 I I' := by
  have h40 := hV.2.2.2.2.1.2.2.2.1
  have hi8 := hV.2.1
  unfold z_X4_run
  obtain ⟨J, g1, g2, g3⟩ := s_become (F := F) (a := B + 62) hL.2.2.2.2.1 hV.2.2.1.2.2.2.2.2.2 hbg (by omega)
  rw [ob_mk hL.2.2.1, ob_mk hV.2.2.1.2.2.2.1, ob_mk g1]
  have f1 : fr (B + 61) 7 I (z_up J (B + 61) 4 1) := (g3.mono (by omega) (by omega)).up (by omega) (by omega)
  obtain ⟨d0, d1, I2, d2, d3, d4⟩ := c_vf (F := F) hF hL hn F n 0 (z_up J (B + 61) 4 1) true bg (by omega) (by omega) (hV.keepL f1) (hf.keepL hV f1) (g2.kept (z_up_off (by omega)) (z_up_off (by omega)) (z_up_off (by omega))) (by rw [z_up_at]; rfl)
  exact ⟨d0, d1, I2, d2, d3, f1.trans d4⟩
end CL
