/-! classes -/
theorem nx_and (a b : Nat) : nI a &&& nI b = nI (a &&& b) := by
  apply Int32.toBitVec_inj.1
  show BitVec.ofNat 32 a &&& BitVec.ofNat 32 b = BitVec.ofNat 32 (a &&& b)
  apply BitVec.eq_of_getLsbD_eq
  intro i hi
  simp [hi]
theorem nx_or (a b : Nat) : nI a ||| nI b = nI (a ||| b) := by
  apply Int32.toBitVec_inj.1
  show BitVec.ofNat 32 a ||| BitVec.ofNat 32 b = BitVec.ofNat 32 (a ||| b)
  apply BitVec.eq_of_getLsbD_eq
  intro i hi
  simp [hi]
theorem nx_sh : ∀ l, l < 16 → (1 : Int32) <<< (nI l &&& 31) = nI (2 ^ l) := by decide +kernel
theorem nx_p : ∀ l, l < 16 → 2 ^ l < 65536 := by decide +kernel
theorem nx_tb {m b : Nat} (hm : m < 65536) (hb : b < 16) : (nI m &&& ((1 : Int32) <<< (nI b &&& 31))) = 0 ↔ m.testBit b = false := by
  rw [nx_sh b hb, nx_and, nl0]
  have h1 : m &&& 2 ^ b < 65536 := Nat.lt_of_le_of_lt Nat.and_le_left hm
  rw [nI_eq (by omega) (by omega)]
  constructor
  · intro h
    have := congrArg (fun z => Nat.testBit z b) h
    simpa [Nat.testBit_and, Nat.testBit_two_pow_self] using this
  · intro h
    apply Nat.eq_of_testBit_eq
    intro i
    rw [Nat.testBit_and, Nat.zero_testBit]
    by_cases hi : b = i
    · subst hi; rw [h]; rfl
    · rw [Nat.testBit_two_pow_of_ne hi, Bool.and_false]
theorem ni_in2 {x n : Nat} (h : x < n) (hn : n < 2 ^ 31) : ¬ (nI x < 0 ∨ n ≤ x) := by
  intro q
  rcases q with q | q
  · exact nn (by omega) q
  · omega
abbrev mTr : Type := Nat × (Nat → Nat) × (Nat → Bool)
def m_an (par : Nat → Nat) : Nat → Nat → Nat → Bool
  | 0, a, b => decide (a = b)
  | n + 1, a, b => if a = b then true else if a = 0 then false else m_an par n (par a) b
def m_anc (par : Nat → Nat) (a b : Nat) : Bool := m_an par a a b
def mTok (T : mTr) : Prop := 1 ≤ T.1 ∧ T.1 ≤ 16 ∧ (∀ c, 1 ≤ c → c < T.1 → T.2.1 c < c) ∧ T.2.2 0 = false
theorem m_an_fuel {par : Nat → Nat} {b : Nat} : ∀ (n a : Nat), a ≤ n → (∀ c, 1 ≤ c → c ≤ a → par c < c) → ∀ m, a ≤ m → m_an par n a b = m_an par m a b := by
  intro n
  induction n with
  | zero =>
    intro a ha hp m hm
    have : a = 0 := by omega
    subst this
    cases m with
    | zero => rfl
    | succ m => simp only [m_an]; by_cases h : 0 = b <;> simp [h]
  | succ n ih =>
    intro a ha hp m hm
    by_cases h0 : a = 0
    · subst h0
      cases m with
      | zero => simp only [m_an]; by_cases h : 0 = b <;> simp [h]
      | succ m => simp only [m_an]; by_cases h : 0 = b <;> simp [h]
    · obtain ⟨m', rfl⟩ : ∃ m', m = m' + 1 := ⟨m - 1, by omega⟩
      have hp1 := hp a (by omega) (Nat.le_refl a)
      simp only [m_an, if_neg h0]
      rw [ih (par a) (by omega) (fun c h1 h2 => hp c h1 (by omega)) m' (by omega)]
theorem m_anc_self (par : Nat → Nat) (a : Nat) : m_anc par a a = true := by
  unfold m_anc
  cases a with
  | zero => simp [m_an]
  | succ a => simp [m_an]
theorem m_anc_0 (par : Nat → Nat) (b : Nat) : m_anc par 0 b = decide (0 = b) := rfl
theorem m_anc_up {par : Nat → Nat} {a b : Nat} (h0 : 1 ≤ a) (hp : ∀ c, 1 ≤ c → c ≤ a → par c < c) (hb : a ≠ b) : m_anc par a b = m_anc par (par a) b := by
  obtain ⟨k, rfl⟩ : ∃ k, a = k + 1 := ⟨a - 1, by omega⟩
  have h1 := hp (k + 1) h0 (Nat.le_refl _)
  show m_an par (k + 1) (k + 1) b = m_an par (par (k + 1)) (par (k + 1)) b
  simp only [m_an, if_neg hb, if_neg (Nat.succ_ne_zero k)]
  exact m_an_fuel k _ (by omega) (fun c g1 g2 => hp c g1 (by omega)) _ (Nat.le_refl _)
theorem m_anc_le {par : Nat → Nat} : ∀ (a b : Nat), (∀ c, 1 ≤ c → c ≤ a → par c < c) → m_anc par a b = true → b ≤ a := by
  intro a
  induction a using Nat.strongRecOn with
  | ind a ih =>
    intro b hp h
    by_cases hb : a = b
    · omega
    · by_cases h0 : a = 0
      · subst h0; rw [m_anc_0] at h; simp at h; omega
      · have h1 := hp a (by omega) (Nat.le_refl a)
        rw [m_anc_up (by omega) hp hb] at h
        have := ih (par a) h1 b (fun c g1 g2 => hp c g1 (by omega)) h
        omega
theorem m_anc_root {par : Nat → Nat} : ∀ (a : Nat), (∀ c, 1 ≤ c → c ≤ a → par c < c) → m_anc par a 0 = true := by
  intro a
  induction a using Nat.strongRecOn with
  | ind a ih =>
    intro hp
    by_cases h0 : a = 0
    · subst h0; exact m_anc_self par 0
    · have h1 := hp a (by omega) (Nat.le_refl a)
      rw [m_anc_up (by omega) hp h0]
      exact ih (par a) h1 (fun c g1 g2 => hp c g1 (by omega))
theorem m_anc_congr {par par' : Nat → Nat} : ∀ (a b : Nat), (∀ c, 1 ≤ c → c ≤ a → par c < c) → (∀ c, c ≤ a → par' c = par c) → m_anc par' a b = m_anc par a b := by
  intro a
  induction a using Nat.strongRecOn with
  | ind a ih =>
    intro b hp he
    by_cases h0 : a = 0
    · subst h0; rfl
    · by_cases hb : a = b
      · subst hb; rw [m_anc_self, m_anc_self]
      · have h1 := hp a (by omega) (Nat.le_refl a)
        rw [m_anc_up (by omega) hp hb, m_anc_up (by omega) (fun c g1 g2 => by rw [he c g2]; exact hp c g1 g2) hb, he a (Nat.le_refl a)]
        exact ih (par a) h1 b (fun c g1 g2 => hp c g1 (by omega)) (fun c g => he c (by omega))
def m_sr (p : Nat → Bool) : Nat → Nat
  | 0 => 0
  | c + 1 => if p c = true then c else m_sr p c
def m_near (T : mTr) (a b : Nat) : Nat := if a = b then a else if T.2.2 a = true ∨ T.2.2 b = true then 0 else m_sr (fun c => m_anc T.2.1 a c && m_anc T.2.1 b c) T.1
def m_is (T : mTr) (a b : Nat) : Bool := T.2.2 b || m_anc T.2.1 a b
def m_obj (T : mTr) (t : Nat) : Prop := 10 ≤ t ∧ t < 10 + T.1
def m_join (T : mTr) (a b : Nat) : Nat := if a = b then a else if (10 ≤ a ∧ a < 10 + T.1) ∧ (10 ≤ b ∧ b < 10 + T.1) then 10 + m_near T (a - 10) (b - 10) else if a = 4 ∧ (10 ≤ b ∧ b < 10 + T.1) then b else if b = 4 ∧ (10 ≤ a ∧ a < 10 + T.1) then a else 0
def m_for (T : mTr) (t c : Nat) : Bool := decide (t = 4) || (decide (10 ≤ t ∧ t < 10 + T.1) && m_is T (t - 10) c)
def m_fit (T : mTr) (a b : Nat) : Bool := decide (a = b ∨ b = 0) || (decide (10 ≤ b ∧ b < 10 + T.1) && m_for T a (b - 10))
def m_fits (T : mTr) (s w : mSn) : Bool := decide (s.2.1 = w.2.1) && (!anyN (fun x => !m_fit T (s.1 x) (w.1 x)) 8 && !anyN (fun j => !m_fit T (s.2.2 j) (w.2.2 j)) s.2.1)
/-- the class's tree at t -/
def cT (S : zS) (I : zI) (t : Nat) (T : mTr) : Prop := S.1 t 0 = some (t + 1) ∧ S.1 t 1 = some (t + 2) ∧ (S.2.1 (t + 1)).2 = 16 ∧ (S.2.1 (t + 2)).2 = 16 ∧ I t 2 = nI T.1 ∧ mTok T ∧ (∀ c, c < T.1 → ∃ ln, I (t + 1) c = nI ln ∧ ln < 65536 ∧ ∀ b, b < 16 → ln.testBit b = m_anc T.2.1 c b) ∧ ∀ c, c < T.1 → I (t + 2) c = b2i (T.2.2 c)
section CT
variable {F : Nat} {S : zS} {I : zI} {t : Nat} {T : mTr}
theorem t_has (hT : cT S I t T) {x : Nat} (hx : x < T.1) : z_X1_has F S I t (nI x) = some 1 := by
  have h16 := hT.2.2.2.2.2.1.2.1
  unfold z_X1_has
  rw [if_neg (nn (by omega)), hT.2.2.2.2.1, if_pos ((nI_ltI (by omega) (by omega)).mpr hx)]
theorem t_has_n (hT : cT S I t T) {x : Int32} (hx : x < 0 ∨ nI T.1 ≤ x) : z_X1_has F S I t x = some 0 := by
  unfold z_X1_has
  rcases hx with h | h
  · rw [if_pos h]
  · by_cases h0 : x < 0
    · rw [if_pos h0]
    · rw [if_neg h0, hT.2.2.2.2.1, if_neg (Int32.not_lt.mpr h)]
theorem t_isFace (hT : cT S I t T) {x : Nat} (hx : x < T.1) : z_X1_isFace F S I t (nI x) = some (b2i (T.2.2 x)) := by
  have h16 := hT.2.2.2.2.2.1.2.1
  unfold z_X1_isFace
  rw [ob_mk (t_has hT hx), if_neg (by decide), ob_mk hT.2.1, hT.2.2.2.1, if_neg (ni_in (by omega) (by omega)), nc (by omega), hT.2.2.2.2.2.2.2 x hx]
  cases T.2.2 x <;> simp [b2i]
theorem t_kind (hT : cT S I t T) {a b : Nat} (ha : a < T.1) (hb : b < T.1) : z_X1_isKindOf F S I t (nI a) (nI b) = some (b2i (m_is T a b)) := by
  have h16 := hT.2.2.2.2.2.1.2.1
  unfold z_X1_isKindOf
  rw [if_neg (nn (by omega)), hT.2.2.2.2.1, if_pos ((nI_ltI (by omega) (by omega)).mpr ha), if_neg (nn (by omega)), if_pos ((nI_ltI (by omega) (by omega)).mpr hb), ob_mk hT.2.1, hT.2.2.2.1, if_neg (ni_in (by omega) (by omega)), nc (by omega), hT.2.2.2.2.2.2.2 b hb]
  unfold m_is
  cases hf : T.2.2 b
  · rw [if_pos (by simp [b2i]), ob_mk hT.1, hT.2.2.1, if_neg (ni_in (by omega) (by omega)), nc (by omega)]
    obtain ⟨ln, e1, e2, e3⟩ := hT.2.2.2.2.2.2.1 a ha
    rw [e1]
    have e4 := e3 b (by omega)
    cases hc : m_anc T.2.1 a b
    · rw [if_pos ((nx_tb e2 (by omega)).mpr (by rw [e4, hc]))]; rfl
    · rw [if_neg (fun q => by rw [nx_tb e2 (by omega), e4, hc] at q; cases q)]; rfl
  · rw [if_neg (by simp [b2i])]; rfl
theorem t_kind_n (hT : cT S I t T) {x : Int32} (b : Int32) (hx : x < 0 ∨ nI T.1 ≤ x) : z_X1_isKindOf F S I t x b = some 0 := by
  unfold z_X1_isKindOf
  rcases hx with h | h
  · rw [if_pos h]
  · by_cases h0 : x < 0
    · rw [if_pos h0]
    · rw [if_neg h0, hT.2.2.2.2.1, if_neg (Int32.not_lt.mpr h)]
theorem t_kind_n2 (hT : cT S I t T) {x : Int32} (b : Int32) (hx : x < 0 ∨ nI T.1 ≤ x) : z_X1_isKindOf F S I t b x = some 0 := by
  unfold z_X1_isKindOf
  by_cases hb : b < 0
  · rw [if_pos hb]
  · rw [if_neg hb]
    by_cases hb2 : b < I t 2
    · rw [if_pos hb2]
      rcases hx with h | h
      · rw [if_pos h]
      · by_cases h0 : x < 0
        · rw [if_pos h0]
        · rw [if_neg h0, hT.2.2.2.2.1, if_neg (Int32.not_lt.mpr h)]
    · rw [if_neg hb2]
theorem tr_known (hT : cT S I t T) {x : Nat} (hx : x < 200) : z_X1_isKnownObject F S I t (nI x) = some (b2i (decide (10 ≤ x ∧ x < 10 + T.1))) := by
  have h16 := hT.2.2.2.2.2.1.2.1
  unfold z_X1_isKnownObject
  rw [hT.2.2.2.2.1, nl10, nI_add]
  by_cases h1 : x < 10
  · rw [if_pos ((nI_ltI (by omega) (by omega)).mpr h1), decide_eq_false (by omega)]; rfl
  · rw [if_neg (fun q => h1 ((nI_ltI (by omega) (by omega)).mp q))]
    by_cases h2 : x < 10 + T.1
    · rw [if_pos ((nI_ltI (by omega) (by omega)).mpr h2), decide_eq_true (by omega)]; rfl
    · rw [if_neg (fun q => h2 ((nI_ltI (by omega) (by omega)).mp q)), decide_eq_false (by omega)]; rfl
theorem t_near_lp {ln : Nat} {p : Nat → Bool} (hl : ln < 65536) (hp : ∀ b, b < 16 → ln.testBit b = p b) : ∀ (n c : Nat), c < 16 → c < n → z_X1_nearest_73 F S I n (nI ln) (nI c) = some (nI (m_sr p (c + 1))) := by
  intro n
  induction n with
  | zero => intro c h1 h2; omega
  | succ n ih =>
    intro c h1 h2
    show z_X1_nearest_73B F S I (z_X1_nearest_73 F S I n) (nI ln) (nI c) = _
    unfold z_X1_nearest_73B
    by_cases hc : 0 < c
    · rw [if_pos (show (0 : Int32) < nI c from (nI_ltI (a := 0) (by omega) (by omega)).mpr hc)]
      simp only [m_sr]
      cases hb : p c
      · rw [if_pos ((nx_tb hl h1).mpr (by rw [hp c h1, hb])), if_neg (by decide)]
        obtain ⟨k, rfl⟩ : ∃ k, c = k + 1 := ⟨c - 1, by omega⟩
        rw [pk_m1]
        exact ih k (by omega) (by omega)
      · rw [if_neg (fun q => by rw [nx_tb hl h1, hp c h1, hb] at q; cases q), if_pos rfl]
    · rw [if_neg (fun q : (0 : Int32) < nI c => hc ((nI_ltI (a := 0) (by omega) (by omega)).mp q))]
      have : c = 0 := by omega
      subst this
      simp only [m_sr]
      split <;> rfl
theorem t_near (hF : 20 ≤ F) (hT : cT S I t T) {a b : Nat} (ha : a < T.1) (hb : b < T.1) : z_X1_nearest F S I t (nI a) (nI b) = some (nI (m_near T a b)) := by
  have h16 := hT.2.2.2.2.2.1.2.1
  unfold z_X1_nearest m_near
  by_cases hab : a = b
  · rw [if_pos (by rw [hab]), if_pos hab]
  · rw [if_neg (fun q => hab ((nI_eq (by omega) (by omega)).mp q)), if_neg hab, if_neg (nn (by omega)), hT.2.2.2.2.1, if_pos ((nI_ltI (by omega) (by omega)).mpr ha), if_neg (nn (by omega)), if_pos ((nI_ltI (by omega) (by omega)).mpr hb), ob_mk hT.2.1, hT.2.2.2.1, if_neg (ni_in (by omega) (by omega)), nc (by omega), hT.2.2.2.2.2.2.2 a ha]
    cases hfa : T.2.2 a
    · rw [if_pos (by simp [b2i]), if_neg (ni_in (by omega) (by omega)), nc (by omega), hT.2.2.2.2.2.2.2 b hb]
      cases hfb : T.2.2 b
      · rw [if_pos (by simp [b2i]), if_neg (by simp), ob_mk hT.1, hT.2.2.1, if_neg (ni_in2 (by omega) (by omega)), if_neg (ni_in2 (by omega) (by omega))]
        obtain ⟨la, e1, e2, e3⟩ := hT.2.2.2.2.2.2.1 a ha
        obtain ⟨lb, g1, g2, g3⟩ := hT.2.2.2.2.2.2.1 b hb
        rw [e1, g1, nx_and]
        obtain ⟨k, hk⟩ : ∃ k, T.1 = k + 1 := ⟨T.1 - 1, by omega⟩
        rw [hk, nI_pred]
        exact t_near_lp (p := fun c => m_anc T.2.1 a c && m_anc T.2.1 b c) (Nat.lt_of_le_of_lt Nat.and_le_left e2) (fun c hc => by rw [Nat.testBit_and, e3 c hc, g3 c hc]) F k (by omega) (by omega)
      · rw [if_neg (by simp [b2i]), if_pos (by simp)]; rfl
    · rw [if_neg (by simp [b2i]), if_pos (by simp)]; rfl
theorem m_sr_lt {p : Nat → Bool} {n : Nat} (h : 0 < n) : m_sr p n < n := by
  induction n with
  | zero => omega
  | succ n ih =>
    simp only [m_sr]
    split
    · omega
    · by_cases hn : 0 < n
      · have := ih hn; omega
      · have : n = 0 := by omega
        subst this; simp [m_sr]
theorem m_near_lt {T : mTr} (hT : mTok T) {a b : Nat} (ha : a < T.1) : m_near T a b < T.1 := by
  unfold m_near
  have := hT.1
  split
  · exact ha
  · split
    · omega
    · exact m_sr_lt (by omega)
theorem m_join_lt {T : mTr} (hT : mTok T) {a b : Nat} (ha : a < 200) (hb : b < 200) : m_join T a b < 200 := by
  unfold m_join
  have := hT.2.1
  split
  · exact ha
  · split
    · rename_i h
      have := m_near_lt hT (a := a - 10) (b := b - 10) (by omega)
      omega
    · split
      · exact hb
      · split
        · exact ha
        · omega
theorem t_join (hF : 20 ≤ F) (hT : cT S I t T) {a b : Nat} (ha : a < 200) (hb : b < 200) : z_X1_joinTypes F S I t (nI a) (nI b) = some (nI (m_join T a b)) := by
  have h16 := hT.2.2.2.2.2.1.2.1
  unfold z_X1_joinTypes
  by_cases hab : a = b
  · unfold m_join
    rw [if_pos (by rw [hab]), if_pos hab]
  · rw [if_neg (fun q => hab ((nI_eq (by omega) (by omega)).mp q)), ob_mk (tr_known hT ha), ob_mk (tr_known hT hb)]
    have key : ¬ ((10 ≤ a ∧ a < 10 + T.1) ∧ (10 ≤ b ∧ b < 10 + T.1)) → z_X1_joinTypes_45 F S I (nI a) (nI b) (b2i (decide (10 ≤ a ∧ a < 10 + T.1))) (b2i (decide (10 ≤ b ∧ b < 10 + T.1))) = some (nI (m_join T a b)) := by
      intro hno
      have e0 : m_join T a b = if a = 4 ∧ (10 ≤ b ∧ b < 10 + T.1) then b else if b = 4 ∧ (10 ≤ a ∧ a < 10 + T.1) then a else 0 := by
        unfold m_join
        rw [if_neg hab, if_neg hno]
      by_cases h4 : a = 4
      · by_cases hob : 10 ≤ b ∧ b < 10 + T.1
        · have e : m_join T a b = b := by rw [e0, if_pos ⟨h4, hob⟩]
          rw [e]
          unfold z_X1_joinTypes_45
          rw [if_pos (show nI a = 4 by rw [h4]; rfl), decide_eq_true hob, if_neg (by simp [b2i])]
        · have e : m_join T a b = 0 := by rw [e0, if_neg (fun q => hob q.2), if_neg (fun q => hab (by omega))]
          rw [e]
          unfold z_X1_joinTypes_45 z_X1_joinTypes_57
          rw [if_pos (show nI a = 4 by rw [h4]; rfl), decide_eq_false hob, if_pos (by simp [b2i]), if_neg (fun q : nI b = 4 => hab (by rw [nl4, nI_eq (by omega) (by omega)] at q; omega))]; rfl
      · by_cases hb4 : b = 4
        · by_cases hoa : 10 ≤ a ∧ a < 10 + T.1
          · have e : m_join T a b = a := by rw [e0, if_neg (fun q => h4 q.1), if_pos ⟨hb4, hoa⟩]
            rw [e]
            unfold z_X1_joinTypes_45 z_X1_joinTypes_57
            rw [if_neg (fun q : nI a = 4 => h4 ((nI_eq (by omega) (by omega)).mp (q.trans nl4))), if_pos (show nI b = 4 by rw [hb4]; rfl), decide_eq_true hoa, if_neg (by simp [b2i])]
          · have e : m_join T a b = 0 := by rw [e0, if_neg (fun q => h4 q.1), if_neg (fun q => hoa q.2)]
            rw [e]
            unfold z_X1_joinTypes_45 z_X1_joinTypes_57
            rw [if_neg (fun q : nI a = 4 => h4 ((nI_eq (by omega) (by omega)).mp (q.trans nl4))), if_pos (show nI b = 4 by rw [hb4]; rfl), decide_eq_false hoa, if_pos (by simp [b2i])]; rfl
        · have e : m_join T a b = 0 := by rw [e0, if_neg (fun q => h4 q.1), if_neg (fun q => hb4 q.1)]
          rw [e]
          unfold z_X1_joinTypes_45 z_X1_joinTypes_57
          rw [if_neg (fun q : nI a = 4 => h4 ((nI_eq (by omega) (by omega)).mp (q.trans nl4))), if_neg (fun q : nI b = 4 => hb4 ((nI_eq (by omega) (by omega)).mp (q.trans nl4)))]; rfl
    by_cases hoa : 10 ≤ a ∧ a < 10 + T.1
    · rw [if_neg (show ¬ b2i (decide (10 ≤ a ∧ a < 10 + T.1)) = 0 by rw [decide_eq_true hoa]; simp [b2i])]
      by_cases hob : 10 ≤ b ∧ b < 10 + T.1
      · rw [if_neg (show ¬ b2i (decide (10 ≤ b ∧ b < 10 + T.1)) = 0 by rw [decide_eq_true hob]; simp [b2i]), nl10, pk_sub hoa.1, pk_sub hob.1, ob_mk (t_near hF hT (by omega) (by omega)), nI_add]
        unfold m_join
        rw [if_neg hab, if_pos ⟨hoa, hob⟩]
      · rw [if_pos (show b2i (decide (10 ≤ b ∧ b < 10 + T.1)) = 0 by rw [decide_eq_false hob]; rfl)]
        exact key (fun q => hob q.2)
    · rw [if_pos (show b2i (decide (10 ≤ a ∧ a < 10 + T.1)) = 0 by rw [decide_eq_false hoa]; rfl)]
      exact key (fun q => hoa q.1)
theorem t_kindT (hT : cT S I t T) {a b : Nat} (ha : a < 200) (hb : b < T.1) : z_X1_isKindOf F S I t (nI a - 10) (nI b) = some (b2i (decide (10 ≤ a ∧ a < 10 + T.1) && m_is T (a - 10) b)) := by
  have h16 := hT.2.2.2.2.2.1.2.1
  rw [nl10]
  by_cases h1 : 10 ≤ a
  · rw [pk_sub h1]
    by_cases h2 : a < 10 + T.1
    · rw [t_kind hT (by omega) hb, decide_eq_true ⟨h1, h2⟩]; rfl
    · rw [t_kind_n hT _ (Or.inr (nI_le (by omega) (by omega))), decide_eq_false (by omega)]; rfl
  · rw [t_kind_n hT _ (Or.inl (pk_sneg (by omega) (by omega))), decide_eq_false (by omega)]; rfl
theorem t_for (hT : cT S I t T) {a b : Nat} (ha : a < 200) (hb : b < T.1) : z_X1_isObjectFor F S I t (nI a) (nI b) = some (b2i (m_for T a b)) := by
  unfold z_X1_isObjectFor m_for
  by_cases h4 : a = 4
  · rw [if_pos (by rw [h4]; rfl), decide_eq_true h4]; rfl
  · rw [if_neg (fun q => h4 ((nI_eq (by omega) (by omega)).mp (q.trans nl4))), ob_mk (t_kindT hT ha hb), decide_eq_false h4, Bool.false_or]
    cases (decide (10 ≤ a ∧ a < 10 + T.1) && m_is T (a - 10) b) <;> simp [b2i]
theorem t_fit (hT : cT S I t T) {a b : Nat} (ha : a < 200) (hb : b < 200) : z_X1_fitsType F S I t (nI a) (nI b) = some (b2i (m_fit T a b)) := by
  have h16 := hT.2.2.2.2.2.1.2.1
  unfold z_X1_fitsType m_fit
  by_cases hab : a = b
  · rw [if_pos (by rw [hab]), decide_eq_true (Or.inl hab)]; rfl
  · rw [if_neg (fun q => hab ((nI_eq (by omega) (by omega)).mp q))]
    by_cases hb0 : b = 0
    · rw [if_pos (by rw [hb0]; rfl), decide_eq_true (Or.inr hb0)]; rfl
    · rw [if_neg (fun q => hb0 ((nI_eq (by omega) (by omega)).mp (q.trans nl0))), decide_eq_false (by omega), Bool.false_or]
      unfold m_for
      by_cases h4 : a = 4
      · rw [if_pos (by rw [h4]; rfl), ob_mk (tr_known hT hb), if_pos (b2i_01 _), decide_eq_true h4]
        simp
      · rw [if_neg (fun q => h4 ((nI_eq (by omega) (by omega)).mp (q.trans nl4))), decide_eq_false h4, Bool.false_or]
        by_cases hob : 10 ≤ b ∧ b < 10 + T.1
        · rw [show (nI b - 10 : Int32) = nI (b - 10) from by rw [nl10, pk_sub hob.1], ob_mk (t_kindT hT ha (by omega)), if_pos (b2i_01 _), decide_eq_true hob, Bool.true_and]
        · have e : z_X1_isKindOf F S I t (nI a - 10) (nI b - 10) = some 0 := by
            refine t_kind_n2 hT _ ?_
            rw [nl10]
            by_cases h10 : 10 ≤ b
            · rw [pk_sub h10]; exact Or.inr (nI_le (by omega) (by omega))
            · exact Or.inl (pk_sneg (by omega) (by omega))
          rw [ob_mk e, if_pos (Or.inl rfl), decide_eq_false hob, Bool.false_and]; rfl
end CT
