/-! the reference: form -/
theorem m_tc_s (pl : Nat → Nat) (k : Nat) : m_tc pl (k + 1) = m_tc pl k + (if pl k = 3 then 0 else 1) := by
  show m_ct (fun x => decide (pl x ≠ 3)) k + (if decide (pl k ≠ 3) = true then 1 else 0) = _
  by_cases h : pl k = 3
  · rw [if_pos h, decide_eq_false (fun g => g h), if_neg (show ¬ false = true by decide)]; rfl
  · rw [if_neg h, decide_eq_true h, if_pos rfl]; rfl
theorem m_end_0 {pl : Nat → Nat} : ∀ (n x : Nat), m_end pl n ≤ x → x < n → pl x = 0 := by
  intro n
  induction n with
  | zero => intro x _ h; omega
  | succ n ih =>
    intro x h1 h2
    by_cases c : pl n = 0
    · have e : m_end pl (n + 1) = m_end pl n := by simp [m_end, c]
      rw [e] at h1
      by_cases g : x = n
      · rw [g]; exact c
      · exact ih x h1 (by omega)
    · have e : m_end pl (n + 1) = n + 1 := by simp [m_end, c]
      omega
theorem m_end_n {pl : Nat → Nat} : ∀ n, 0 < m_end pl n → pl (m_end pl n - 1) ≠ 0 := by
  intro n
  induction n with
  | zero => intro h; exact absurd h (Nat.lt_irrefl 0)
  | succ n ih =>
    intro h
    by_cases c : pl n = 0
    · have e : m_end pl (n + 1) = m_end pl n := by simp [m_end, c]
      rw [e] at h ⊢
      exact ih h
    · have e : m_end pl (n + 1) = n + 1 := by simp [m_end, c]
      rw [e, show n + 1 - 1 = n by omega]; exact c
/-- how many told places there are up to the last that holds something -/
def m_tl (pl : Nat → Nat) : Nat → Nat
  | 0 => 0
  | k + 1 => if pl k = 3 ∨ pl k = 0 then m_tl pl k else m_tc pl k + 1
theorem m_tl_e {pl : Nat → Nat} (hR : mPr pl) : ∀ k, k ≤ 8 → m_tl pl k = m_tc pl (m_end pl k) := by
  intro k
  induction k with
  | zero => intro _; rfl
  | succ k ih =>
    intro hk
    have ih' := ih (by omega)
    by_cases c0 : pl k = 0
    · have e : m_end pl (k + 1) = m_end pl k := by simp [m_end, c0]
      rw [e, ← ih']
      show (if pl k = 3 ∨ pl k = 0 then m_tl pl k else m_tc pl k + 1) = _
      rw [if_pos (Or.inr c0)]
    · have e : m_end pl (k + 1) = k + 1 := by simp [m_end, c0]
      rw [e, m_tc_s]
      show (if pl k = 3 ∨ pl k = 0 then m_tl pl k else m_tc pl k + 1) = _
      by_cases c3 : pl k = 3
      · rw [if_pos (Or.inl c3), if_pos c3, ih', Nat.add_zero]
        obtain ⟨h1, h2⟩ := (hR k (by omega)).1 c3
        obtain ⟨j, hj⟩ : ∃ j, k = j + 1 := ⟨k - 1, by omega⟩
        subst hj
        rw [show j + 1 - 1 = j by omega] at h2
        have e2 : m_end pl (j + 1) = j + 1 := by simp [m_end, h2]
        rw [e2]
      · rw [if_neg (by rintro (g | g); exact c3 g; exact c0 g), if_neg c3]
theorem m_tc_lt {pl : Nat → Nat} {x e : Nat} (h : x < e) (h3 : pl x ≠ 3) : m_tc pl x < m_tc pl e := by
  have h1 := m_tc_s pl x
  rw [if_neg h3] at h1
  have := m_tc_mono pl (show x + 1 ≤ e by omega)
  omega
theorem m_tc_eq {pl pl' : Nat → Nat} : ∀ k, (∀ x, x < k → pl x = pl' x) → m_tc pl k = m_tc pl' k := by
  intro k
  induction k with
  | zero => intro _; rfl
  | succ k ih =>
    intro h
    rw [m_tc_s, m_tc_s, ih (fun x hx => h x (by omega)), h k (by omega)]
/-- each told number belongs to a place -/
theorem m_tc_at {pl : Nat → Nat} : ∀ (k t : Nat), t < m_tc pl k → ∃ x, x < k ∧ pl x ≠ 3 ∧ m_tc pl x = t := by
  intro k
  induction k with
  | zero => intro t h; exact absurd h (Nat.not_lt_zero _)
  | succ k ih =>
    intro t h
    rw [m_tc_s] at h
    by_cases c : pl k = 3
    · rw [if_pos c] at h
      obtain ⟨x, h1, h2, h3⟩ := ih t (by omega)
      exact ⟨x, by omega, h2, h3⟩
    · rw [if_neg c] at h
      by_cases g : t < m_tc pl k
      · obtain ⟨x, h1, h2, h3⟩ := ih t g
        exact ⟨x, by omega, h2, h3⟩
      · exact ⟨k, by omega, c, by omega⟩
/-- rows of told numbers agree as far as both reach just where the places do -/
theorem m_like_t {pl pl' : Nat → Nat} (hR : mPr pl) (hR' : mPr pl') {r r' : Nat → Int32} (h : ∀ x, x < 8 → pl x ≠ 3 → r (m_tc pl x) = nI (pl x)) (h' : ∀ x, x < 8 → pl' x ≠ 3 → r' (m_tc pl' x) = nI (pl' x)) (hb : ∀ x, x < 8 → pl x < 200 ∧ pl' x < 200) : (∀ x, x < min (m_end pl 8) (m_end pl' 8) → pl x = pl' x) ↔ ∀ t, t < min (m_tc pl (m_end pl 8)) (m_tc pl' (m_end pl' 8)) → r t = r' t := by
  have e8 := m_end_le pl 8
  have e8' := m_end_le pl' 8
  constructor
  · intro ha t ht
    have key : ∀ m, m ≤ m_end pl 8 → m ≤ m_end pl' 8 → (∀ x, x < m → pl x = pl' x) → t < m_tc pl m → r t = r' t := fun m m1 m2 hm htm => by
      obtain ⟨x, h1, h2, h3⟩ := m_tc_at m t htm
      have ex := hm x h1
      have e1 := h x (by omega) h2
      have e2 := h' x (by omega) (by rw [← ex]; exact h2)
      rw [h3] at e1
      rw [← m_tc_eq x (fun y hy => hm y (by omega)), h3] at e2
      rw [e1, e2, ex]
    by_cases c : m_end pl 8 ≤ m_end pl' 8
    · exact key (m_end pl 8) (by omega) c (fun x hx => ha x (by omega)) (by omega)
    · refine key (m_end pl' 8) (by omega) (by omega) (fun x hx => ha x (by omega)) ?_
      rw [m_tc_eq (m_end pl' 8) (fun x hx => ha x (by omega))]
      omega
  · intro ht
    have : ∀ k, k ≤ min (m_end pl 8) (m_end pl' 8) → ∀ x, x < k → pl x = pl' x := by
      intro k
      induction k with
      | zero => intro _ x hx; omega
      | succ k ih =>
        intro hk x hx
        have ih' := ih (by omega)
        by_cases e : x < k
        · exact ih' x e
        · have ex : x = k := by omega
          subst ex
          have hd := m_tc_eq x ih'
          by_cases c3 : pl x = 3
          · obtain ⟨g1, g2⟩ := (hR x (by omega)).1 c3
            have g3 := ih' (x - 1) (by omega)
            have := ((hR' (x - 1) (by omega)).2 (by rw [← g3]; exact g2)).2
            rw [show x - 1 + 1 = x by omega] at this
            rw [c3, this]
          · by_cases c3' : pl' x = 3
            · obtain ⟨g1, g2⟩ := (hR' x (by omega)).1 c3'
              have g3 := ih' (x - 1) (by omega)
              have := ((hR (x - 1) (by omega)).2 (by rw [g3]; exact g2)).2
              rw [show x - 1 + 1 = x by omega] at this
              rw [c3', this]
            · have l1 := m_tc_lt (show x < m_end pl 8 by omega) c3
              have l2 := m_tc_lt (show x < m_end pl' 8 by omega) c3'
              have q := ht (m_tc pl x) (by rw [← hd] at l2; omega)
              rw [h x (by omega) c3, hd, h' x (by omega) c3'] at q
              exact (nI_eq (by have := (hb x (by omega)).1; omega) (by have := (hb x (by omega)).2; omega)).mp q
    exact this _ (Nat.le_refl _)
/-- where the places agree, the one that ends sooner has fewer told places -/
theorem m_tc_less {pl pl' : Nat → Nat} (hR : mPr pl) (hR' : mPr pl') (ha : ∀ x, x < m_end pl 8 → pl x = pl' x) (hl : m_end pl 8 < m_end pl' 8) : m_tc pl (m_end pl 8) = m_tc pl' (m_end pl 8) ∧ m_tc pl' (m_end pl 8) < m_tc pl' (m_end pl' 8) := by
  have e8' := m_end_le pl' 8
  refine ⟨m_tc_eq _ ha, ?_⟩
  have hnz := m_end_n (pl := pl') 8 (by omega)
  by_cases c3 : pl' (m_end pl' 8 - 1) = 3
  · obtain ⟨g1, g2⟩ := (hR' (m_end pl' 8 - 1) (by omega)).1 c3
    by_cases c : m_end pl 8 ≤ m_end pl' 8 - 1 - 1
    · have := m_tc_lt (pl := pl') (x := m_end pl' 8 - 1 - 1) (e := m_end pl' 8) (by omega) (by rw [g2]; omega)
      have := m_tc_mono pl' c
      omega
    · have e : m_end pl 8 = m_end pl' 8 - 1 := by omega
      have e2 : m_end pl' 8 - 1 - 1 = m_end pl 8 - 1 := by omega
      rw [e2] at g2
      have g3 := ha (m_end pl 8 - 1) (by omega)
      have := ((hR (m_end pl 8 - 1) (by omega)).2 (by rw [g3]; exact g2)).2
      rw [show m_end pl 8 - 1 + 1 = m_end pl 8 by omega, m_end_0 8 (m_end pl 8) (Nat.le_refl _) (by omega)] at this
      omega
  · have := m_tc_lt (pl := pl') (x := m_end pl' 8 - 1) (e := m_end pl' 8) (by omega) c3
    have := m_tc_mono pl' (show m_end pl 8 ≤ m_end pl' 8 - 1 by omega)
    omega
theorem m_of_prev {fm : Nat → Bool} : ∀ (m j c k p : Nat), m_of fm m j c (k + 1) = some p → c ≤ k → ∃ p', m_of fm m j c k = some p' := by
  intro m
  induction m with
  | zero => intro j c k p h; cases h
  | succ m ih =>
    intro j c k p h hc
    simp only [m_of] at h ⊢
    by_cases hf : fm j = true
    · rw [if_pos hf] at h ⊢
      rw [if_neg (by omega)] at h
      by_cases e : c = k
      · exact ⟨j, by rw [if_pos e]⟩
      · rw [if_neg e]; exact ih _ _ _ _ h (by omega)
    · rw [if_neg hf] at h ⊢
      exact ih _ _ _ _ h hc
theorem b2i_and (a b : Bool) : b2i a &&& b2i b = b2i (a && b) := by cases a <;> cases b <;> decide
section RFM
variable {F : Nat} {S : zS} {A : Nat}
theorem r_tp_lp {I : zI} {x0 x2 len o : Nat} {pl : Nat → Nat} (h0 : (S.2.1 x0).2 = len) (h2 : (S.2.1 x2).2 = 8) (ho : o + 8 ≤ len) (hl : len < 10000) (hne : x0 ≠ x2) (hp : ∀ x, x < 8 → I x0 (o + x) = nI (pl x)) (hb : ∀ x, x < 8 → pl x < 200) : ∀ (fuel m k : Nat) (J : zI), k + m = 8 → m < fuel → (∀ b, b ≠ x2 → J b = I b) → (∀ x, x < k → pl x ≠ 3 → J x2 (m_tc pl x) = nI (pl x)) → ∃ J', z_X9_toldPlaces_8 F S fuel x0 (nI o) x2 (nI (m_tc pl k)) (nI (m_tl pl k)) (nI k) J = some (nI (m_tl pl 8), J') ∧ (∀ b, b ≠ x2 → J' b = I b) ∧ ∀ x, x < 8 → pl x ≠ 3 → J' x2 (m_tc pl x) = nI (pl x) := by
  intro fuel
  induction fuel with
  | zero => intro m k J h1 h2; omega
  | succ fuel ih =>
    intro m k J h1 h2' e1 e2
    show ∃ J', z_X9_toldPlaces_8B F S (z_X9_toldPlaces_8 F S fuel) x0 (nI o) x2 (nI (m_tc pl k)) (nI (m_tl pl k)) (nI k) J = _ ∧ _
    unfold z_X9_toldPlaces_8B z_X9_toldPlaces_52
    cases m with
    | zero =>
      have : k = 8 := by omega
      subst this
      rw [if_neg (show ¬ nI 8 < 8 by decide)]
      exact ⟨J, rfl, e1, e2⟩
    | succ m =>
      have hk : k < 8 := by omega
      have htc : m_tc pl k ≤ k := m_ct_le _ k
      have hbk := hb k hk
      rw [if_pos (show nI k < 8 from (nI_ltI (b := 8) (by omega) (by omega)).mpr hk), nI_add, ixk h0 (by omega) (by omega), nc (by omega), e1 x0 hne, hp k hk, nI_1, nI_1]
      by_cases c3 : pl k = 3
      · rw [if_pos (show nI (pl k) = 3 by rw [c3]; rfl)]
        have s1 : m_tc pl (k + 1) = m_tc pl k := by rw [m_tc_s, if_pos c3, Nat.add_zero]
        have s2 : m_tl pl (k + 1) = m_tl pl k := by show (if pl k = 3 ∨ pl k = 0 then m_tl pl k else m_tc pl k + 1) = _; rw [if_pos (Or.inl c3)]
        have := ih m (k + 1) J (by omega) (by omega) e1 (fun x hx h3 => by
          by_cases e : x = k
          · rw [e] at h3; exact absurd c3 h3
          · exact e2 x (by omega) h3)
        rw [s1, s2] at this
        exact this
      · have s1 : m_tc pl (k + 1) = m_tc pl k + 1 := by rw [m_tc_s, if_neg c3]
        rw [if_neg (show ¬ nI (pl k) = 3 from fun d => c3 ((nI_eq (by omega) (by omega)).mp (d.trans nl3))), ixc h0 (by omega) (by omega), ixk h2 (by omega) (by omega), ixc h0 (by omega) (by omega), nc (by omega)]
        have ev : z_up J x2 (m_tc pl k) (nI (pl k)) x0 (o + k) = nI (pl k) := by rw [z_up_off hne, e1 x0 hne]; exact hp k hk
        rw [ev]
        have go : ∀ l, l = m_tl pl (k + 1) → ∃ J', z_X9_toldPlaces_8 F S fuel x0 (nI o) x2 (nI (m_tc pl k + 1)) (nI l) (nI (k + 1)) (z_up J x2 (m_tc pl k) (nI (pl k))) = some (nI (m_tl pl 8), J') ∧ (∀ b, b ≠ x2 → J' b = I b) ∧ ∀ x, x < 8 → pl x ≠ 3 → J' x2 (m_tc pl x) = nI (pl x) := fun l hl' => by
          rw [hl', ← s1]
          refine ih m (k + 1) _ (by omega) (by omega) (fun b hb => by rw [z_up_off hb]; exact e1 b hb) (fun x hx h3 => ?_)
          by_cases e : x = k
          · subst e; rw [z_up_at]
          · have := m_tc_lt (show x < k by omega) h3
            rw [z_up_ne (Or.inr (by omega))]; exact e2 x (by omega) h3
        by_cases c0 : pl k = 0
        · rw [if_pos (show nI (pl k) = 0 by rw [c0]; rfl)]
          exact go _ (by show _ = (if pl k = 3 ∨ pl k = 0 then m_tl pl k else m_tc pl k + 1); rw [if_pos (Or.inr c0)])
        · rw [if_neg (show ¬ nI (pl k) = 0 from fun d => c0 ((nI_eq (by omega) (by omega)).mp (d.trans nl0)))]
          exact go _ (by show _ = (if pl k = 3 ∨ pl k = 0 then m_tl pl k else m_tc pl k + 1); rw [if_neg (by rintro (g | g); exact c3 g; exact c0 g)])
theorem r_fm_lp (hL : rL S A) {J : zI} {n o : Nat} {at_ : Int32} (hn : n ≤ 8) (ho : o ≤ 8) : ∀ (fuel m k : Nat), k + m = min n o → m < fuel → z_X9_form_129 F S fuel A (nI n) at_ (nI o) (b2i (!anyN (fun t => decide (J (A + 24) t ≠ J (A + 25) t)) k)) (nI k) J = z_X9_form_176 F S A (nI n) at_ (nI o) (b2i (!anyN (fun t => decide (J (A + 24) t ≠ J (A + 25) t)) (min n o))) J := by
  intro fuel
  induction fuel with
  | zero => intro m k h1 h2; omega
  | succ fuel ih =>
    intro m k h1 h2
    show z_X9_form_129B F S (z_X9_form_129 F S fuel) A (nI n) at_ (nI o) _ (nI k) J = _
    unfold z_X9_form_129B z_X9_form_167
    cases m with
    | zero =>
      have : k = min n o := by omega
      rw [← this]
      by_cases c : k < n
      · rw [if_pos ((nI_ltI (by omega) (by omega)).mpr c), if_neg (fun d => (by have := (nI_ltI (by omega) (by omega)).mp d; omega : False))]
      · rw [if_neg (fun d => c ((nI_ltI (by omega) (by omega)).mp d))]
    | succ m =>
      have key := ih m (k + 1) (by omega) (by omega)
      rw [if_pos ((nI_ltI (by omega) (by omega)).mpr (by omega)), if_pos ((nI_ltI (by omega) (by omega)).mpr (by omega)), ob_mk hL.f27, ixk hL.n27 (by omega) (by omega), nc (by omega), ob_mk hL.f28, ixc hL.n28 (by omega) (by omega), nI_1]
      have e : (!anyN (fun t => decide (J (A + 24) t ≠ J (A + 25) t)) (k + 1)) = ((!anyN (fun t => decide (J (A + 24) t ≠ J (A + 25) t)) k) && !decide (J (A + 24) k ≠ J (A + 25) k)) := by
        show (!(anyN _ k || _)) = _
        rw [Bool.not_or]
      rw [e] at key
      by_cases c : J (A + 24) k = J (A + 25) k
      · rw [if_pos c, show (1 : Int32) = b2i true from rfl, b2i_and]
        rw [decide_eq_false (fun g => g c)] at key
        exact key
      · rw [if_neg c, show (0 : Int32) = b2i false from rfl, b2i_and]
        rw [decide_eq_true c] at key
        exact key
end RFM
