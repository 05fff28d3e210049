/-! what a snapshot answers, and forms: class side -/
def m_end (pl : Nat → Nat) : Nat → Nat
  | 0 => 0
  | n + 1 => if pl n = 0 then m_end pl n else n + 1
theorem m_end_le (pl : Nat → Nat) (n : Nat) : m_end pl n ≤ n := by
  induction n with
  | zero => exact Nat.le_refl _
  | succ n ih => simp only [m_end]; split <;> omega
def m_like (pl pl' : Nat → Nat) (k : Nat) : Bool := !anyN (fun x => decide (pl x ≠ pl' x)) k
def m_tc (pl : Nat → Nat) (b : Nat) : Nat := m_ct (fun x => decide (pl x ≠ 3)) b
def m_form (pl : Nat → Nat) (h : Nat) (pl' : Nat → Nat) : Nat :=
  if m_like pl pl' (min (m_end pl 8) (m_end pl' 8)) = false then 40 else if m_end pl 8 = m_end pl' 8 ∧ h = 1 then 1 else if h ≠ 0 then 40 else if m_end pl 8 = m_end pl' 8 then 0 else if m_end pl 8 < m_end pl' 8 then (if 3 < m_tc pl' (m_end pl' 8) - m_tc pl' (m_end pl 8) then 40 else 20 + (m_tc pl' (m_end pl' 8) - m_tc pl' (m_end pl 8))) else (if 3 < m_tc pl (m_end pl 8) - m_tc pl (m_end pl' 8) then 40 else 30 + (m_tc pl (m_end pl 8) - m_tc pl (m_end pl' 8)))
def m_ans (s : mSn) (x : Int32) : Int32 := if ¬ x < 0 ∧ x < 8 then nI (s.1 x.toNatClampNeg) else if x = 99 then nI s.2.1 else if (¬ x < 100 ∧ x < 110) ∧ x.toNatClampNeg - 100 < s.2.1 then nI (s.2.2 (x.toNatClampNeg - 100)) else -1
theorem nI_in8 {x : Int32} {N : Nat} (hN : N < 2 ^ 31) (h0 : ¬ x < 0) (h8 : x < nI N) : ∃ j, j < N ∧ x = nI j := by
  obtain ⟨j, hj, e⟩ := nI_of h0
  subst e
  exact ⟨j, (nI_ltI hj hN).mp h8, rfl⟩
theorem nl8' : (8 : Int32) = nI 8 := rfl
theorem nl110 : (110 : Int32) = nI 110 := rfl
theorem m_tc_mono (pl : Nat → Nat) {a b : Nat} (h : a ≤ b) : m_tc pl a ≤ m_tc pl b := by
  induction b with
  | zero => have : a = 0 := by omega
            subst this; exact Nat.le_refl _
  | succ b ih =>
    by_cases e : a = b + 1
    · subst e; exact Nat.le_refl _
    · have := ih (by omega)
      have h2 : m_tc pl b ≤ m_tc pl (b + 1) := by show m_ct _ b ≤ m_ct _ b + _; omega
      omega
section CSF
variable {F : Nat} {S : zS} {I : zI} {a b : Nat} {s w : mSn}
theorem s_ans (hO : cOK S a) (hs : cSn I a s) {x : Int32} : z_X6_answer F S I a x = some (m_ans s x) := by
  have h10 := hs.2.2.1
  have off : ∀ y, z_X6_answer_43 F S I y = some (if y = -1 then -1 else y) := fun y => by
    unfold z_X6_answer_43
    by_cases h : y = -1
    · rw [if_pos h, if_pos h]
    · rw [if_neg h, if_neg h]
  unfold z_X6_answer m_ans z_X8_isPlace
  by_cases h0 : x < 0
  · have h99 : ¬ x = 99 := fun e => by subst e; exact absurd h0 (by decide)
    have h100 : x < 100 := Int32.lt_trans h0 (by decide)
    rw [if_pos h0, ob_mk rfl, if_pos rfl, if_neg h99, if_neg (fun g => g.1 h0), if_neg h99, if_neg (fun g => g.1.1 h100)]
    unfold z_X8_isOnStack
    rw [if_pos h100, ob_mk rfl, if_pos rfl, off, if_pos rfl]
  · rw [if_neg h0]
    by_cases h8 : x < 8
    · obtain ⟨j, hj, e⟩ := nI_in8 (N := 8) (by omega) h0 h8
      subst e
      rw [if_pos h8, ob_mk rfl, if_neg (show ¬ (1 : Int32) = 0 by decide), if_pos (show ¬ nI j < 0 ∧ nI j < 8 from ⟨h0, h8⟩), ob_mk (s_inPlace hO hj), (hs.1 j hj).1, nc (by omega)]
    · rw [if_neg h8, ob_mk rfl, if_pos rfl, if_neg (show ¬ (¬ x < 0 ∧ x < 8) from fun g => h8 g.2)]
      by_cases h99 : x = 99
      · rw [if_pos h99, if_pos h99, hs.2.1]
      · rw [if_neg h99, if_neg h99]
        unfold z_X8_isOnStack
        by_cases h100 : x < 100
        · rw [if_pos h100, ob_mk rfl, if_pos rfl, off, if_pos rfl, if_neg (fun g => g.1.1 h100)]
        · rw [if_neg h100]
          by_cases h110 : x < 110
          · obtain ⟨j, hj, e⟩ := nI_in8 (N := 110) (by omega) h0 h110
            subst e
            have hj0 : 100 ≤ j := by
              by_cases g : j < 100
              · exact absurd ((nI_ltI (by omega) (by omega)).mpr g) h100
              · omega
            rw [if_pos h110, ob_mk rfl, if_neg (show ¬ (1 : Int32) = 0 by decide), nl100, pk_sub hj0, nc (by omega)]
            by_cases hh : j - 100 < s.2.1
            · have hb := (hs.2.2.2 _ hh).2
              rw [ob_mk (s_onStack hO hs hh), off, if_neg (nI_m1 (by omega)), if_pos (show (¬ nI j < nI 100 ∧ nI j < 110) ∧ j - 100 < s.2.1 from ⟨⟨h100, h110⟩, hh⟩)]
            · rw [ob_mk (s_onStack_off hs (by omega) (by omega)), off, if_pos rfl, if_neg (fun g => hh g.2)]
          · rw [if_neg h110, ob_mk rfl, if_pos rfl, off, if_pos rfl, if_neg (fun g => h110 g.1.2)]
theorem s_end_lp (hO : cOK S a) (hs : cSn I a s) : ∀ (k x : Nat), x ≤ 8 → 8 < x + k → z_X6_end_4 F S I k a (nI (m_end s.1 x)) (nI x) = some (nI (m_end s.1 8)) := by
  intro k
  induction k with
  | zero => intro x h1 h2; omega
  | succ k ih =>
    intro x h1 h2
    show z_X6_end_4B F S I (z_X6_end_4 F S I k) a (nI (m_end s.1 x)) (nI x) = _
    unfold z_X6_end_4B
    by_cases hx : x < 8
    · rw [nl8', if_pos ((nI_ltI (by omega) (by omega)).mpr hx), ob_mk (s_inPlace hO hx), (hs.1 x hx).1]
      have hb := (hs.1 x hx).2
      have key := ih (x + 1) (by omega) (by omega)
      simp only [m_end] at key
      by_cases h0 : s.1 x = 0
      · rw [if_pos h0] at key
        rw [if_pos (show nI (s.1 x) = 0 by rw [h0]; rfl), nI_1]; exact key
      · rw [if_neg h0] at key
        rw [if_neg (fun d => h0 ((nI_eq (by omega) (by omega)).mp (d.trans nl0))), nI_1]; exact key
    · have e : x = 8 := by omega
      subst e
      rw [if_neg (by decide)]
theorem s_end (hF : 20 ≤ F) (hO : cOK S a) (hs : cSn I a s) : z_X6_end F S I a = some (nI (m_end s.1 8)) := s_end_lp hO hs F 0 (by omega) (by omega)
theorem s_like_lp (hO : cOK S a) (hB : cOK S b) (hs : cSn I a s) (hw : cSn I b w) {e : Nat} (he : e ≤ 8) : ∀ (k x : Nat), x ≤ e → e < x + k → (∀ y, y < x → s.1 y = w.1 y) → z_X6_isLikeUpTo_2 F S I k a b (nI e) (nI x) = some (b2i (m_like s.1 w.1 e)) := by
  intro k
  induction k with
  | zero => intro x h1 h2; omega
  | succ k ih =>
    intro x h1 h2 hy
    show z_X6_isLikeUpTo_2B F S I (z_X6_isLikeUpTo_2 F S I k) a b (nI e) (nI x) = _
    unfold z_X6_isLikeUpTo_2B
    by_cases hx : x < e
    · have b1 := (hs.1 x (by omega)).2
      have b2 := (hw.1 x (by omega)).2
      rw [if_pos ((nI_ltI (by omega) (by omega)).mpr hx), ob_mk (s_inPlace hO (by omega)), ob_mk (s_inPlace hB (by omega)), (hs.1 x (by omega)).1, (hw.1 x (by omega)).1]
      by_cases h0 : s.1 x = w.1 x
      · rw [if_pos (show nI (s.1 x) = nI (w.1 x) by rw [h0]), nI_1]
        exact ih (x + 1) (by omega) (by omega) (fun y hyx => by
          by_cases g : y = x
          · subst g; exact h0
          · exact hy y (by omega))
      · rw [if_neg (fun d => h0 ((nI_eq (by omega) (by omega)).mp d))]
        have : m_like s.1 w.1 e = false := by
          unfold m_like
          rw [anyN_iff.mpr ⟨x, hx, decide_eq_true h0⟩]; rfl
        rw [this]; rfl
    · rw [if_neg (fun d => hx ((nI_ltI (by omega) (by omega)).mp d))]
      have : m_like s.1 w.1 e = true := by
        unfold m_like
        rw [anyN_f.mpr (fun y hy2 => decide_eq_false (fun g => g (hy y (by omega))))]; rfl
      rw [this]; rfl
theorem s_told_lp (hO : cOK S a) (hs : cSn I a s) {f e : Nat} (he : e ≤ 8) : ∀ (k x : Nat), f ≤ x → x ≤ e → e < x + k → z_X6_countTold_5 F S I k a (nI e) (nI (m_tc s.1 x - m_tc s.1 f)) (nI x) = some (nI (m_tc s.1 e - m_tc s.1 f)) := by
  intro k
  induction k with
  | zero => intro x h1 h2 h3; omega
  | succ k ih =>
    intro x h0 h1 h2
    show z_X6_countTold_5B F S I (z_X6_countTold_5 F S I k) a (nI e) (nI (m_tc s.1 x - m_tc s.1 f)) (nI x) = _
    unfold z_X6_countTold_5B
    have hm := m_tc_mono s.1 h0
    by_cases hx : x < e
    · have b1 := (hs.1 x (by omega)).2
      rw [if_pos ((nI_ltI (by omega) (by omega)).mpr hx), ob_mk (s_inPlace hO (by omega)), (hs.1 x (by omega)).1]
      have key := ih (x + 1) (by omega) (by omega) (by omega)
      by_cases h3 : s.1 x = 3
      · have e9 : m_tc s.1 (x + 1) = m_tc s.1 x := by
          show m_ct _ x + (if decide (s.1 x ≠ 3) = true then 1 else 0) = m_ct _ x
          rw [if_neg (by rw [h3]; decide)]; rfl
        rw [e9] at key
        rw [if_pos (show nI (s.1 x) = 3 by rw [h3]; rfl), nI_1]; exact key
      · have e9 : m_tc s.1 (x + 1) = m_tc s.1 x + 1 := by
          show m_ct _ x + (if decide (s.1 x ≠ 3) = true then 1 else 0) = m_ct _ x + 1
          rw [if_pos (decide_eq_true h3)]
        have e8 : m_tc s.1 x + 1 - m_tc s.1 f = m_tc s.1 x - m_tc s.1 f + 1 := by omega
        rw [e9, e8] at key
        rw [if_neg (fun d => h3 ((nI_eq (by omega) (by omega)).mp (d.trans nl3))), nI_1, nI_1]; exact key
    · rw [if_neg (fun d => hx ((nI_ltI (by omega) (by omega)).mp d))]
      have e9 : x = e := by omega
      rw [e9]
theorem s_told (hF : 20 ≤ F) (hO : cOK S a) (hs : cSn I a s) {f e : Nat} (he : e ≤ 8) (hf : f ≤ e) : z_X6_countTold F S I a (nI f) (nI e) = some (nI (m_tc s.1 e - m_tc s.1 f)) := by
  have := s_told_lp (F := F) hO hs he (f := f) F f (Nat.le_refl _) hf (by omega)
  rw [Nat.sub_self] at this
  exact this
theorem s_form (hF : 20 ≤ F) (hO : cOK S a) (hB : cOK S b) (hs : cSn I a s) (hw : cSn I b w) : z_X6_formAgainst F S I a b = some (nI (m_form s.1 s.2.1 w.1)) := by
  have h10 := hs.2.2.1
  have e1 := m_end_le s.1 8
  have e2 := m_end_le w.1 8
  unfold z_X6_formAgainst m_form
  rw [ob_mk (s_end hF hO hs), ob_mk (s_end hF hB hw)]
  have hmin : (if nI (m_end w.1 8) < nI (m_end s.1 8) then nI (m_end w.1 8) else nI (m_end s.1 8)) = nI (min (m_end s.1 8) (m_end w.1 8)) := by
    by_cases h : m_end w.1 8 < m_end s.1 8
    · rw [if_pos ((nI_ltI (by omega) (by omega)).mpr h), Nat.min_eq_right (by omega)]
    · rw [if_neg (fun d => h ((nI_ltI (by omega) (by omega)).mp d)), Nat.min_eq_left (by omega)]
  have hl : z_X6_isLikeUpTo F S I a b (nI (min (m_end s.1 8) (m_end w.1 8))) = some (b2i (m_like s.1 w.1 (min (m_end s.1 8) (m_end w.1 8)))) := s_like_lp hO hB hs hw (by omega) F 0 (by omega) (by omega) (fun y hy => by omega)
  rw [hmin, ob_mk hl]
  have c41 : z_X6_formAgainst_41 F S I a b (nI (m_end s.1 8)) (nI (m_end w.1 8)) = some (nI (if s.2.1 ≠ 0 then 40 else if m_end s.1 8 = m_end w.1 8 then 0 else if m_end s.1 8 < m_end w.1 8 then (if 3 < m_tc w.1 (m_end w.1 8) - m_tc w.1 (m_end s.1 8) then 40 else 20 + (m_tc w.1 (m_end w.1 8) - m_tc w.1 (m_end s.1 8))) else (if 3 < m_tc s.1 (m_end s.1 8) - m_tc s.1 (m_end w.1 8) then 40 else 30 + (m_tc s.1 (m_end s.1 8) - m_tc s.1 (m_end w.1 8))))) := by
    unfold z_X6_formAgainst_41
    rw [hs.2.1]
    by_cases h0 : s.2.1 = 0
    · rw [if_pos (show nI s.2.1 = 0 by rw [h0]; rfl), if_neg (show ¬ s.2.1 ≠ 0 from fun g => g h0)]
      by_cases he : m_end s.1 8 = m_end w.1 8
      · rw [if_pos (show nI (m_end s.1 8) = nI (m_end w.1 8) by rw [he]), if_pos he]; rfl
      · rw [if_neg (fun d => he ((nI_eq (by omega) (by omega)).mp d)), if_neg he]
        by_cases hlt : m_end s.1 8 < m_end w.1 8
        · have hb : m_tc w.1 (m_end w.1 8) ≤ m_end w.1 8 := m_ct_le _ _
          rw [if_pos ((nI_ltI (by omega) (by omega)).mpr hlt), if_pos hlt]
          unfold z_X6_formAgainst_68
          rw [if_neg (show ¬ (1 : Int32) = 0 by decide), ob_mk (s_told hF hB hw e2 (by omega))]
          unfold z_X6_formAgainst_90
          by_cases h3 : 3 < m_tc w.1 (m_end w.1 8) - m_tc w.1 (m_end s.1 8)
          · rw [nl3, if_pos ((nI_ltI (by omega) (by omega)).mpr h3), if_pos h3]; rfl
          · rw [nl3, if_neg (fun d => h3 ((nI_ltI (by omega) (by omega)).mp d)), if_neg h3, if_neg (show ¬ (1 : Int32) = 0 by decide), nl20, nI_add]
        · have hb : m_tc s.1 (m_end s.1 8) ≤ m_end s.1 8 := m_ct_le _ _
          rw [if_neg (fun d => hlt ((nI_ltI (by omega) (by omega)).mp d)), if_neg hlt]
          unfold z_X6_formAgainst_68
          rw [if_pos (show (0 : Int32) = 0 from rfl), ob_mk (s_told hF hO hs e1 (by omega))]
          unfold z_X6_formAgainst_90
          by_cases h3 : 3 < m_tc s.1 (m_end s.1 8) - m_tc s.1 (m_end w.1 8)
          · rw [nl3, if_pos ((nI_ltI (by omega) (by omega)).mpr h3), if_pos h3]; rfl
          · rw [nl3, if_neg (fun d => h3 ((nI_ltI (by omega) (by omega)).mp d)), if_neg h3, if_pos (show (0 : Int32) = 0 from rfl), nl30, nI_add]
    · rw [if_neg (fun d => h0 ((nI_eq (by omega) (by omega)).mp (d.trans nl0))), if_pos (show s.2.1 ≠ 0 from h0)]; rfl
  cases m_like s.1 w.1 (min (m_end s.1 8) (m_end w.1 8))
  · rw [if_pos (show b2i false = 0 from rfl), if_pos (show false = false from rfl)]; rfl
  · rw [if_neg (show ¬ b2i true = 0 by decide), if_neg (show ¬ true = false by decide), hs.2.1]
    by_cases he : m_end s.1 8 = m_end w.1 8
    · rw [if_pos (show nI (m_end s.1 8) = nI (m_end w.1 8) by rw [he])]
      by_cases h1 : s.2.1 = 1
      · rw [if_pos (show nI s.2.1 = 1 by rw [h1]; rfl), if_pos (show m_end s.1 8 = m_end w.1 8 ∧ s.2.1 = 1 from ⟨he, h1⟩)]; rfl
      · rw [if_neg (fun d => h1 ((nI_eq (by omega) (by omega)).mp (d.trans nl1))), if_neg (show ¬ (m_end s.1 8 = m_end w.1 8 ∧ s.2.1 = 1) from fun g => h1 g.2)]
        exact c41
    · rw [if_neg (fun d => he ((nI_eq (by omega) (by omega)).mp d)), if_neg (show ¬ (m_end s.1 8 = m_end w.1 8 ∧ s.2.1 = 1) from fun g => he g.1)]
      exact c41
end CSF
section COF
variable {F : Nat} {S : zS} {I : zI} {B i n pc gn : Nat} {T : mTr} {K : Nat → mAc} {Q : Nat → Nat} {G : Nat → mGd} {fm : Nat → Bool}
theorem m_of_some {fm : Nat → Bool} : ∀ (m j c k p : Nat), m_of fm m j c k = some p → j ≤ p ∧ p < j + m ∧ fm p = true := by
  intro m
  induction m with
  | zero => intro j c k p h; cases h
  | succ m ih =>
    intro j c k p h
    simp only [m_of] at h
    by_cases hf : fm j = true
    · rw [if_pos hf] at h
      by_cases hc : c = k
      · rw [if_pos hc] at h
        have e : j = p := Option.some.inj h
        subst e
        exact ⟨Nat.le_refl _, by omega, hf⟩
      · rw [if_neg hc] at h
        obtain ⟨h1, h2, h3⟩ := ih _ _ _ _ h
        exact ⟨by omega, by omega, h3⟩
    · rw [if_neg hf] at h
      obtain ⟨h1, h2, h3⟩ := ih _ _ _ _ h
      exact ⟨by omega, by omega, h3⟩
theorem c_of_lp (hV : cV S I B i T pc n K Q gn G) (hR : ∀ p, p < n → I (Q p) 5 = b2i (fm p)) {x : Nat} (hx : x < 2 ^ 31) : ∀ (k m j c : Nat), j + m = n → m < k → c ≤ j → z_X5_actOfFrame_4 F S I k (B + 5 + 6 * i) (nI x) (nI c) (nI j) = some (m_oi (m_of fm m j c x)) := by
  have h40 := hV.2.2.2.2.1.2.2.2.1
  have h3 := hV.2.2.2.2.1.2.2.1
  intro k
  induction k with
  | zero => intro m j c _ h; omega
  | succ k ih =>
    intro m j c hjm hmk hcj
    show z_X5_actOfFrame_4B F S I (z_X5_actOfFrame_4 F S I k) (B + 5 + 6 * i) (nI x) (nI c) (nI j) = _
    unfold z_X5_actOfFrame_4B
    rw [h3]
    cases m with
    | zero => rw [if_neg (fun e => by rw [nI_ltI (by omega) (by omega)] at e; omega)]; rfl
    | succ m =>
      have hj : j < n := by omega
      rw [if_pos ((nI_ltI (by omega) (by omega)).mpr hj), ob_mk (hV.act (F := F) hj).1, ob2_mk rfl, hR j hj]
      simp only [m_of]
      cases hf : fm j
      · rw [if_pos (show b2i false = 0 from rfl), if_neg (show ¬ false = true by decide), nI_1]
        exact ih m (j + 1) c (by omega) (by omega) (by omega)
      · rw [if_neg (show ¬ b2i true = 0 by decide), if_pos (show true = true from rfl)]
        by_cases hc : c = x
        · rw [if_pos (show nI c = nI x by rw [hc]), if_pos hc]; rfl
        · rw [if_neg (fun d => hc ((nI_eq (by omega) hx).mp d)), if_neg hc, nI_1, nI_1]
          exact ih m (j + 1) (c + 1) (by omega) (by omega) (by omega)
theorem c_of_neg (hV : cV S I B i T pc n K Q gn G) (hR : ∀ p, p < n → I (Q p) 5 = b2i (fm p)) {x : Int32} (hx : x < 0) : ∀ (k m j c : Nat), j + m = n → m < k → c ≤ j → z_X5_actOfFrame_4 F S I k (B + 5 + 6 * i) x (nI c) (nI j) = some (-1) := by
  have h40 := hV.2.2.2.2.1.2.2.2.1
  have h3 := hV.2.2.2.2.1.2.2.1
  intro k
  induction k with
  | zero => intro m j c _ h; omega
  | succ k ih =>
    intro m j c hjm hmk hcj
    show z_X5_actOfFrame_4B F S I (z_X5_actOfFrame_4 F S I k) (B + 5 + 6 * i) x (nI c) (nI j) = _
    unfold z_X5_actOfFrame_4B
    rw [h3]
    cases m with
    | zero => rw [if_neg (fun e => by rw [nI_ltI (by omega) (by omega)] at e; omega)]
    | succ m =>
      have hj : j < n := by omega
      rw [if_pos ((nI_ltI (by omega) (by omega)).mpr hj), ob_mk (hV.act (F := F) hj).1, ob2_mk rfl, hR j hj]
      cases hf : fm j
      · rw [if_pos (show b2i false = 0 from rfl), nI_1]
        exact ih m (j + 1) c (by omega) (by omega) (by omega)
      · rw [if_neg (show ¬ b2i true = 0 by decide), if_neg (fun d => by rw [← d] at hx; exact nn (by omega) hx), nI_1, nI_1]
        exact ih m (j + 1) (c + 1) (by omega) (by omega) (by omega)
/-- which act has the frame number x -/
def m_fa (fm : Nat → Bool) (n : Nat) (x : Int32) : Option Nat := if x < 0 then none else m_of fm n 0 0 x.toNatClampNeg
theorem c_fa (hF : 100 ≤ F) (hV : cV S I B i T pc n K Q gn G) (hR : ∀ p, p < n → I (Q p) 5 = b2i (fm p)) {x : Int32} : z_X5_actOfFrame F S I (B + 5 + 6 * i) x = some (m_oi (m_fa fm n x)) := by
  have h40 := hV.2.2.2.2.1.2.2.2.1
  unfold m_fa
  by_cases h : x < 0
  · rw [if_pos h]; exact c_of_neg hV hR h F n 0 0 (by omega) (by omega) (by omega)
  · obtain ⟨j, hj, e⟩ := nI_of h
    subst e
    rw [if_neg h, nc hj]; exact c_of_lp hV hR hj F n 0 0 (by omega) (by omega) (by omega)
theorem m_fa_some {x : Int32} {p : Nat} (h : m_fa fm n x = some p) : p < n ∧ fm p = true := by
  unfold m_fa at h
  by_cases h0 : x < 0
  · rw [if_pos h0] at h; cases h
  · rw [if_neg h0] at h
    obtain ⟨h1, h2, h3⟩ := m_of_some _ _ _ _ _ h
    exact ⟨by omega, h3⟩
theorem c_act_fa (hV : cV S I B i T pc n K Q gn G) {o : Option Nat} (ho : ∀ p, o = some p → p < n) : z_X5_actAt F S I (B + 5 + 6 * i) (m_oi o) = some (match o with | none => none | some p => some (Q p)) := by
  cases o with
  | none => exact x_actAt_n hV.2.2.2.2.1 (Or.inl (by decide))
  | some p => exact (hV.act (ho p rfl)).1
end COF
