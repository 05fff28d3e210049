/-! the reference: numbers, tree, types -/
theorem obs {α β : Type} {x : α} {k : α → Option β} : ob (some x) k = k x := rfl
theorem n_pred {a : Nat} (h : 1 ≤ a) : nI a - 1 = nI (a - 1) := by
  obtain ⟨b, rfl⟩ : ∃ b, a = b + 1 := ⟨a - 1, by omega⟩
  rw [nI_pred]; rfl
theorem n_le {x : Int32} {a : Nat} (h : a + 1 < 2 ^ 31) : ¬ nI a < x ↔ x < nI (a + 1) := by
  rw [Int32.lt_iff_toInt_lt, Int32.lt_iff_toInt_lt, nI_toInt (by omega), nI_toInt h]
  omega
theorem ixk {α : Type} {S : zS} {a n j : Nat} {e : Option α} (hn : (S.2.1 a).2 = n) (hj : j < n) (h31 : n < 2 ^ 31) : (if nI j < 0 ∨ (S.2.1 a).2 ≤ (nI j).toNatClampNeg then none else e) = e := by
  rw [hn, if_neg (ni_in hj h31)]
theorem ixc {α : Type} {S : zS} {a n j : Nat} {e : Option α} (hn : (S.2.1 a).2 = n) (hj : j < n) (h31 : n < 2 ^ 31) : (if nI j < 0 ∨ (S.2.1 a).2 ≤ j then none else e) = e := by
  have := ixk (e := e) hn hj h31
  rw [nc (by omega)] at this
  exact this
theorem tn8 : (8 : Int32).toNatClampNeg = 8 := rfl
theorem tn9 : (9 : Int32).toNatClampNeg = 9 := rfl
theorem tn0 : (0 : Int32).toNatClampNeg = 0 := rfl
theorem ix8 {α : Type} {S : zS} {a n : Nat} {e : Option α} (hn : (S.2.1 a).2 = n) (hj : 8 < n) (h31 : n < 2 ^ 31) : (if (8 : Int32) < 0 ∨ (S.2.1 a).2 ≤ (8 : Int32).toNatClampNeg then none else e) = e := ixk hn hj h31
theorem ix9 {α : Type} {S : zS} {a n : Nat} {e : Option α} (hn : (S.2.1 a).2 = n) (hj : 9 < n) (h31 : n < 2 ^ 31) : (if (9 : Int32) < 0 ∨ (S.2.1 a).2 ≤ (9 : Int32).toNatClampNeg then none else e) = e := ixk hn hj h31
def rT (I : zI) (A : Nat) (T : mTr) : Prop := I A 0 = nI T.1 ∧ mTok T ∧ ∀ c, c < T.1 → (1 ≤ c → I (A + 1) c = nI (T.2.1 c)) ∧ I (A + 2) c = b2i (T.2.2 c)
theorem rT.kept {I I' : zI} {A : Nat} {T : mTr} (h : rT I A T) (e0 : I' A 0 = I A 0) (e1 : I' (A + 1) = I (A + 1)) (e2 : I' (A + 2) = I (A + 2)) : rT I' A T := ⟨by rw [e0]; exact h.1, h.2.1, by rw [e1, e2]; exact h.2.2⟩
section RT
variable {F : Nat} {S : zS} {I : zI} {A : Nat} {T : mTr}
theorem r_in (x a b : Int32) : z_X9_in F S I x a b = some (if ¬ x < a ∧ ¬ b < x then 1 else 0) := by
  unfold z_X9_in
  by_cases h : x < a
  · rw [if_pos h, if_neg (fun g => g.1 h)]
  · rw [if_neg h]
    by_cases h' : b < x
    · rw [if_pos h', if_neg (fun g => g.2 h')]
    · rw [if_neg h', if_pos ⟨h, h'⟩]
theorem r_inN (x a : Int32) {b : Nat} (hb : b + 1 < 2 ^ 31) : z_X9_in F S I x a (nI b) = some (if ¬ x < a ∧ x < nI (b + 1) then 1 else 0) := by
  rw [r_in]
  exact congrArg some (b_iff ⟨fun g => ⟨g.1, (n_le hb).mp g.2⟩, fun g => ⟨g.1, (n_le hb).mpr g.2⟩⟩)
theorem r_isM (x : Int32) : z_X9_isMethod F S I x = some (if ¬ x < 0 ∧ x < 8 then 1 else 0) := by
  unfold z_X9_isMethod
  rw [ob_mk (show z_X9_in F S I x 0 7 = _ from r_inN x 0 (b := 7) (by omega)), b01']; rfl
theorem r_isC (hT : rT I A T) (x : Int32) : z_X9_isClass F S I A x = some (if ¬ x < 0 ∧ x < nI T.1 then 1 else 0) := by
  obtain ⟨t1, ⟨o1, o2, o3, o4⟩, t3⟩ := hT
  unfold z_X9_isClass
  rw [t1, n_pred o1, ob_mk (r_inN x 0 (by omega)), b01']
  have : T.1 - 1 + 1 = T.1 := by omega
  rw [this]
theorem m_ixP {α : Type} {a : Int32} {n : Nat} {x : α} {f : Nat → α} : (if ¬ a < 0 ∧ a < nI n then f a.toNatClampNeg else x) = oy (m_ix a n) x f := by
  unfold m_ix
  by_cases h : ¬ a < 0 ∧ a < nI n
  · rw [if_pos h, if_pos h, oy_s]
  · rw [if_neg h, if_neg h, oy_n]
theorem r_below_lp (hL : rL S A) (hT : rT I A T) {b : Nat} (hb : b < 2 ^ 31) : ∀ (n c : Nat), c < T.1 → c < n → z_X9_isBelow_2 F S I n A (nI b) (nI c) = some (b2i (m_anc T.2.1 c b)) := by
  obtain ⟨t1, ⟨o1, o2, o3, o4⟩, t3⟩ := hT
  intro n
  induction n with
  | zero => intro c h1 h2; omega
  | succ n ih =>
    intro c h1 h2
    show z_X9_isBelow_2B F S I (z_X9_isBelow_2 F S I n) A (nI b) (nI c) = _
    unfold z_X9_isBelow_2B z_X9_isBelow_21
    by_cases hcb : c = b
    · subst hcb
      rw [if_pos rfl, if_pos rfl, m_anc_self]; rfl
    · rw [if_neg (fun q => hcb ((nI_eq (by omega) hb).mp q)), if_neg (fun q => hcb ((nI_eq (by omega) hb).mp q))]
      by_cases hc0 : c = 0
      · subst hc0
        rw [if_pos (show nI 0 = 0 from rfl), m_anc_0, decide_eq_false hcb]; rfl
      · have hp := o3 c (by omega) h1
        rw [if_neg (fun q => hc0 ((nI_eq (by omega) (by omega)).mp (q.trans nl0))), ob_mk hL.f1, ixk hL.n1 (by omega) (by omega), nc (by omega), (t3 c h1).1 (by omega), ih (T.2.1 c) (by omega) (by omega), m_anc_up (by omega) (fun d d1 d2 => o3 d d1 (by omega)) hcb]
theorem r_below (hF : 20 ≤ F) (hL : rL S A) (hT : rT I A T) {a b : Nat} (ha : a < T.1) (hb : b < 2 ^ 31) : z_X9_isBelow F S I A (nI a) (nI b) = some (b2i (m_anc T.2.1 a b)) := by
  have := hT.2.1.2.1
  exact r_below_lp hL hT hb F a ha (by omega)
theorem m_sr_eq {p : Nat → Bool} {c : Nat} (hp : p c = true) : ∀ n, c < n → (∀ d, c < d → d < n → p d = false) → m_sr p n = c := by
  intro n
  induction n with
  | zero => intro h; omega
  | succ n ih =>
    intro h g
    show (if p n = true then n else m_sr p n) = c
    by_cases e : c = n
    · subst e; rw [if_pos hp]
    · rw [if_neg (by rw [g n (by omega) (by omega)]; decide)]
      exact ih (by omega) (fun d d1 d2 => g d d1 (by omega))
theorem r_join_lp (hF : 20 ≤ F) (hL : rL S A) (hT : rT I A T) {a b : Nat} (hA : a < T.1) (hb : b < T.1) : ∀ (n c : Nat), c < T.1 → c < n → m_anc T.2.1 a c = true → (∀ d, m_anc T.2.1 a d = true → m_anc T.2.1 b d = true → m_anc T.2.1 c d = true) → z_X9_joinOf_29 F S I n A (nI b) (nI c) = some (nI (m_sr (fun c => m_anc T.2.1 a c && m_anc T.2.1 b c) T.1)) := by
  have hT' := hT
  obtain ⟨t1, ⟨o1, o2, o3, o4⟩, t3⟩ := hT
  have anc_up : ∀ a c, a < T.1 → 1 ≤ c → m_anc T.2.1 a c = true → m_anc T.2.1 a (T.2.1 c) = true := by
    intro a
    induction a using Nat.strongRecOn with
    | _ a iha =>
      intro c ha hc h
      by_cases e : a = c
      · subst e
        rw [m_anc_up hc (fun d d1 d2 => o3 d d1 (by omega)) (by have := o3 a hc ha; omega)]
        exact m_anc_self _ _
      · by_cases a0 : a = 0
        · subst a0
          rw [m_anc_0] at h
          have := of_decide_eq_true h
          omega
        · have hpa := o3 a (by omega) ha
          have hup := m_anc_up (par := T.2.1) (a := a) (b := c) (by omega) (fun d d1 d2 => o3 d d1 (by omega)) e
          rw [hup] at h
          have h2 := iha (T.2.1 a) hpa c (by omega) hc h
          by_cases e2 : a = T.2.1 c
          · rw [← e2]; exact m_anc_self _ _
          · rw [m_anc_up (by omega) (fun d d1 d2 => o3 d d1 (by omega)) e2]; exact h2
  intro n
  induction n with
  | zero => intro c h1 h2; omega
  | succ n ih =>
    intro c h1 h2 hac hall
    show z_X9_joinOf_29B F S I (z_X9_joinOf_29 F S I n) A (nI b) (nI c) = _
    unfold z_X9_joinOf_29B
    rw [ob_mk (r_below hF hL hT' hb (by omega))]
    cases hbc : m_anc T.2.1 b c
    · rw [if_pos (show b2i false = 0 from rfl)]
      have hc0 : c ≠ 0 := fun e => by
        subst e
        rw [m_anc_root b (fun d d1 d2 => o3 d d1 (by omega))] at hbc
        cases hbc
      have hp := o3 c (by omega) h1
      have hcT : T.2.1 c < T.1 := by omega
      rw [ob_mk hL.f1, ixk hL.n1 (by omega) (by omega), nc (by omega), (t3 c h1).1 (by omega)]
      refine ih (T.2.1 c) hcT (by omega) ?_ (fun d d1 d2 => ?_)
      · exact anc_up a c hA (by omega) hac
      · have h3 := hall d d1 d2
        have hne : c ≠ d := fun e => by
          subst e
          rw [d2] at hbc; cases hbc
        rw [m_anc_up (by omega) (fun d d1 d2 => o3 d d1 (by omega)) hne] at h3
        exact h3
    · rw [if_neg (show ¬ b2i true = 0 by decide)]
      refine congrArg some (congrArg nI (m_sr_eq ?_ T.1 h1 (fun d d1 d2 => ?_)).symm)
      · show (m_anc T.2.1 a c && m_anc T.2.1 b c) = true
        rw [hac, hbc]; rfl
      · show (m_anc T.2.1 a d && m_anc T.2.1 b d) = false
        cases e1 : m_anc T.2.1 a d
        · rfl
        · cases e2 : m_anc T.2.1 b d
          · rfl
          · have := m_anc_le c d (fun d d1 d2 => o3 d d1 (by omega)) (hall d e1 e2)
            omega
theorem r_joinOf (hF : 20 ≤ F) (hL : rL S A) (hT : rT I A T) {a b : Nat} (ha : a < T.1) (hb : b < T.1) : z_X9_joinOf F S I A (nI a) (nI b) = some (nI (m_near T a b)) := by
  have h16 := hT.2.1.2.1
  unfold z_X9_joinOf m_near
  by_cases hab : a = b
  · rw [if_pos (by rw [hab]), if_pos hab]
  · rw [if_neg (fun q => hab ((nI_eq (by omega) (by omega)).mp q)), if_neg hab, ob_mk hL.f2, ixk hL.n2 (by omega) (by omega), nc (by omega), (hT.2.2 a ha).2]
    cases hfa : T.2.2 a
    · rw [if_pos (show b2i false = 0 from rfl), ixk hL.n2 (by omega) (by omega), nc (by omega), (hT.2.2 b hb).2]
      cases hfb : T.2.2 b
      · rw [if_pos (show b2i false = 0 from rfl), if_neg (by rintro (g | g) <;> cases g)]
        exact r_join_lp hF hL hT ha hb F a ha (by omega) (m_anc_self _ _) (fun d d1 _ => d1)
      · rw [if_neg (show ¬ b2i true = 0 by decide), if_pos (Or.inr rfl)]; rfl
    · rw [if_neg (show ¬ b2i true = 0 by decide), if_pos (Or.inl rfl)]; rfl
theorem r_one (hF : 20 ≤ F) (hL : rL S A) (hT : rT I A T) {a b : Nat} (ha : a < T.1) (hb : b < T.1) : z_X9_isOne F S I A (nI a) (nI b) = some (b2i (m_is T a b)) := by
  have h16 := hT.2.1.2.1
  unfold z_X9_isOne m_is
  rw [ob_mk hL.f2, ixk hL.n2 (by omega) (by omega), nc (by omega), (hT.2.2 b hb).2]
  cases hfb : T.2.2 b
  · rw [if_pos (show b2i false = 0 from rfl), ob_mk (r_below hF hL hT ha (by omega))]
    cases m_anc T.2.1 a b
    · rw [if_pos (show b2i false = 0 from rfl)]; rfl
    · rw [if_neg (show ¬ b2i true = 0 by decide)]; rfl
  · rw [if_neg (show ¬ b2i true = 0 by decide)]; rfl
theorem r_isC_c (hT : rT I A T) (x : Int32) : z_X9_isClass F S I A x = some (oy (m_ix x T.1) 0 (fun _ => 1)) := by
  rw [r_isC hT x, ← m_ixP]
theorem r_isM_c (x : Int32) : z_X9_isMethod F S I x = some (oy (m_ix x 8) 0 (fun _ => 1)) := by
  rw [r_isM x, ← m_ixP]; rfl
theorem r_joined (hF : 20 ≤ F) (hL : rL S A) (hT : rT I A T) (a b : Int32) : z_X9_joined F S I A a b = some (k_joined T a b) := by
  have h16 := hT.2.1.2.1
  unfold z_X9_joined k_joined
  rw [ob_mk (r_isC_c hT a), ob_mk (r_isC_c hT b)]
  refine ix_cases a T.1 (by omega) (fun h e => ?_) (fun j hj ea e => ?_)
  · rw [e, oy_n, oy_n, if_pos rfl]
  · rw [e, oy_s, oy_s, if_neg (show ¬ (1 : Int32) = 0 by decide)]
    refine ix_cases b T.1 (by omega) (fun h e => ?_) (fun j' hj' ea' e' => ?_)
    · rw [e, oy_n, oy_n, if_pos rfl]
    · rw [e', oy_s, oy_s, if_neg (show ¬ (1 : Int32) = 0 by decide), ea, ea', ob_mk (r_joinOf hF hL hT hj hj')]
theorem r_is (hF : 20 ≤ F) (hL : rL S A) (hT : rT I A T) (a b : Int32) : z_X9_is F S I A a b = some (k_is T a b) := by
  have h16 := hT.2.1.2.1
  unfold z_X9_is k_is
  rw [ob_mk (r_isC_c hT a), ob_mk (r_isC_c hT b)]
  refine ix_cases a T.1 (by omega) (fun h e => ?_) (fun j hj ea e => ?_)
  · rw [e, oy_n, oy_n, if_pos rfl]
  · rw [e, oy_s, oy_s, if_neg (show ¬ (1 : Int32) = 0 by decide)]
    refine ix_cases b T.1 (by omega) (fun h e => ?_) (fun j' hj' ea' e' => ?_)
    · rw [e, oy_n, oy_n, if_pos rfl]
    · rw [e', oy_s, oy_s, if_neg (show ¬ (1 : Int32) = 0 by decide), ea, ea', ob_mk (r_one hF hL hT hj hj')]
      cases m_is T j j'
      · rw [if_pos (show b2i false = 0 from rfl)]; rfl
      · rw [if_neg (show ¬ b2i true = 0 by decide)]; rfl
/-- a type's number: an object's class is there -/
def mOb (T : mTr) (t : Nat) : Prop := t < 200 ∧ (10 ≤ t → t < 100 → t < 10 + T.1)
theorem r_obj {t : Nat} (ht : t < 200) : z_X9_isObject F S I (nI t) = some (if 10 ≤ t ∧ t < 100 then 1 else 0) := by
  unfold z_X9_isObject
  rw [nl10, nl100]
  by_cases h : t < 10
  · rw [if_pos ((nI_ltI (by omega) (by omega)).mpr h), if_neg (by omega)]
  · rw [if_neg (fun d => h ((nI_ltI (by omega) (by omega)).mp d))]
    by_cases h2 : t < 100
    · rw [if_pos ((nI_ltI (by omega) (by omega)).mpr h2), if_pos (by omega)]
    · rw [if_neg (fun d => h2 ((nI_ltI (by omega) (by omega)).mp d)), if_neg (by omega)]
theorem r_unm {t : Nat} (ht : t < 200) : z_X9_isUnmade F S I (nI t) = some (if 100 ≤ t then 1 else 0) := by
  unfold z_X9_isUnmade
  rw [nl100]
  by_cases h : t < 100
  · rw [if_pos ((nI_ltI (by omega) (by omega)).mpr h), if_neg (by omega)]
  · rw [if_neg (fun d => h ((nI_ltI (by omega) (by omega)).mp d)), if_pos (by omega)]
theorem nI_ne {a b : Nat} (ha : a < 2 ^ 31) (hb : b < 2 ^ 31) (h : a ≠ b) : ¬ nI a = nI b := fun q => h ((nI_eq ha hb).mp q)
theorem r_jt37 {a b : Nat} (ha : mOb T a) (hb : mOb T b) (hT : rT I A T) : z_X9_joinTypes_37 F S I (nI a) (nI b) = some (nI (if a = 4 ∧ (10 ≤ b ∧ b < 10 + T.1) then b else if b = 4 ∧ (10 ≤ a ∧ a < 10 + T.1) then a else 0)) := by
  have h16 := hT.2.1.2.1
  have ha1 := ha.1
  have hb1 := hb.1
  have k53 : z_X9_joinTypes_53 F S I (nI a) (nI b) = some (nI (if b = 4 ∧ (10 ≤ a ∧ a < 10 + T.1) then a else 0)) := by
    unfold z_X9_joinTypes_53
    rw [nl4, ob_mk (r_obj ha.1), b01]
    by_cases h4 : b = 4
    · rw [if_pos (by rw [h4])]
      by_cases h : 10 ≤ a ∧ a < 100
      · have := ha.2 h.1 h.2
        rw [if_pos h, if_pos (by omega)]
      · rw [if_neg h, if_neg (by omega)]; rfl
    · rw [if_neg (nI_ne (by omega) (by omega) h4), if_neg (by omega)]; rfl
  unfold z_X9_joinTypes_37
  rw [k53, nl4, ob_mk (r_obj hb.1), b01]
  by_cases h4 : a = 4
  · rw [if_pos (by rw [h4])]
    by_cases h : 10 ≤ b ∧ b < 100
    · have := hb.2 h.1 h.2
      rw [if_pos h, if_pos (show a = 4 ∧ (10 ≤ b ∧ b < 10 + T.1) by omega)]
    · rw [if_neg h, if_neg (show ¬ (a = 4 ∧ (10 ≤ b ∧ b < 10 + T.1)) by omega)]
  · rw [if_neg (nI_ne (by omega) (by omega) h4), if_neg (show ¬ (a = 4 ∧ (10 ≤ b ∧ b < 10 + T.1)) by omega)]
theorem r_jt (hF : 20 ≤ F) (hL : rL S A) (hT : rT I A T) {a b : Nat} (ha : mOb T a) (hb : mOb T b) : z_X9_joinTypes F S I A (nI a) (nI b) = some (nI (m_join T a b)) := by
  have h16 := hT.2.1.2.1
  have ha1 := ha.1
  have hb1 := hb.1
  unfold z_X9_joinTypes m_join
  by_cases hab : a = b
  · rw [if_pos (by rw [hab]), if_pos hab]
  · rw [if_neg (nI_ne (by omega) (by omega) hab), if_neg hab, ob_mk (r_obj ha.1), b01, ob_mk (r_obj hb.1), b01, r_jt37 ha hb hT]
    by_cases h1 : 10 ≤ a ∧ a < 100
    · have l1 := ha.2 h1.1 h1.2
      rw [if_pos h1]
      by_cases h2 : 10 ≤ b ∧ b < 100
      · have l2 := hb.2 h2.1 h2.2
        rw [if_pos h2, if_pos (show (10 ≤ a ∧ a < 10 + T.1) ∧ (10 ≤ b ∧ b < 10 + T.1) by omega), nl10, pk_sub h1.1, pk_sub h2.1, ob_mk (r_joinOf hF hL hT (by omega) (by omega)), nI_add]
      · rw [if_neg h2, if_neg (show ¬ ((10 ≤ a ∧ a < 10 + T.1) ∧ (10 ≤ b ∧ b < 10 + T.1)) by omega)]
    · rw [if_neg h1, if_neg (show ¬ ((10 ≤ a ∧ a < 10 + T.1) ∧ (10 ≤ b ∧ b < 10 + T.1)) by omega)]
theorem r_fits (hF : 20 ≤ F) (hL : rL S A) (hT : rT I A T) {a b : Nat} (ha : mOb T a) (hb : mOb T b) : z_X9_fits F S I A (nI a) (nI b) = some (b2i (m_fit T a b)) := by
  have h16 := hT.2.1.2.1
  have ha1 := ha.1
  have hb1 := hb.1
  unfold z_X9_fits m_fit m_for
  rw [nl4]
  by_cases hab : a = b
  · rw [if_pos (by rw [hab]), decide_eq_true (Or.inl hab)]; rfl
  · rw [if_neg (nI_ne (by omega) (by omega) hab)]
    by_cases hb0 : b = 0
    · rw [if_pos (show nI b = 0 by rw [hb0]; rfl), decide_eq_true (Or.inr hb0)]; rfl
    · rw [if_neg (fun d => hb0 ((nI_eq (by omega) (by omega)).mp (d.trans nl0))), decide_eq_false (show ¬ (a = b ∨ b = 0) by omega), Bool.false_or, ob_mk (r_obj hb.1)]
      by_cases h2 : 10 ≤ b ∧ b < 100
      · have l2 := hb.2 h2.1 h2.2
        rw [if_pos h2, if_neg (show ¬ (1 : Int32) = 0 by decide), decide_eq_true (show 10 ≤ b ∧ b < 10 + T.1 by omega), Bool.true_and]
        by_cases h4 : a = 4
        · rw [if_pos (by rw [h4]), decide_eq_true h4, Bool.true_or]; rfl
        · rw [if_neg (nI_ne (by omega) (by omega) h4), decide_eq_false h4, Bool.false_or, ob_mk (r_obj ha.1)]
          by_cases h1 : 10 ≤ a ∧ a < 100
          · have l1 := ha.2 h1.1 h1.2
            rw [if_pos h1, if_neg (show ¬ (1 : Int32) = 0 by decide), decide_eq_true (show 10 ≤ a ∧ a < 10 + T.1 by omega), Bool.true_and, nl10, pk_sub h1.1, pk_sub h2.1, ob_mk (r_one hF hL hT (by omega) (by omega))]
            cases m_is T (a - 10) (b - 10)
            · rw [if_pos (show b2i false = 0 from rfl)]; rfl
            · rw [if_neg (show ¬ b2i true = 0 by decide)]; rfl
          · rw [if_neg h1, if_pos rfl, decide_eq_false (show ¬ (10 ≤ a ∧ a < 10 + T.1) by omega)]; rfl
      · rw [if_neg h2, if_pos rfl, decide_eq_false (show ¬ (10 ≤ b ∧ b < 10 + T.1) by omega)]; rfl
end RT
