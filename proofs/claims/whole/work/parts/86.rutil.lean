/-! the reference: copy, caught states, unmade ones, the beginning -/
theorem anyN_add (p : Nat → Bool) (a : Nat) : ∀ b, anyN p (a + b) = (anyN p a || anyN (fun j => p (a + j)) b) := by
  intro b
  induction b with
  | zero => show anyN p a = (anyN p a || false); rw [Bool.or_false]
  | succ b ih => show (anyN p (a + b) || p (a + b)) = (anyN p a || (anyN (fun j => p (a + j)) b || p (a + b))); rw [ih, Bool.or_assoc]
theorem b2i_or (a b : Bool) : b2i a ||| b2i b = b2i (a || b) := by cases a <;> cases b <;> decide
section RU
variable {F : Nat} {S : zS} {I : zI} {A : Nat} {T : mTr} {s : mSn}
theorem r_copy_lp {x0 x2 n0 n2 i j : Nat} (h0 : (S.2.1 x0).2 = n0) (h2 : (S.2.1 x2).2 = n2) (hi : i + 20 ≤ n0) (hj : j + 20 ≤ n2) (b0 : n0 < 2 ^ 31) (b2 : n2 < 2 ^ 31) (hne : x0 ≠ x2) : ∀ (m k : Nat) (J : zI), k ≤ 20 → 20 < k + m → (∀ y, y < k → J x2 (j + y) = I x0 (i + y)) → (∀ y, (y < j ∨ j + k ≤ y) → J x2 y = I x2 y) → (∀ b, b ≠ x2 → J b = I b) → ∃ J', z_X9_copy_3 F S m x0 (nI i) x2 (nI j) (nI k) J = some J' ∧ (∀ y, y < 20 → J' x2 (j + y) = I x0 (i + y)) ∧ (∀ y, (y < j ∨ j + 20 ≤ y) → J' x2 y = I x2 y) ∧ (∀ b, b ≠ x2 → J' b = I b) := by
  intro m
  induction m with
  | zero => intro k J g1 g2; omega
  | succ m ih =>
    intro k J g1 g2 e1 e2 e3
    show ∃ J', z_X9_copy_3B F S (z_X9_copy_3 F S m) x0 (nI i) x2 (nI j) (nI k) J = some J' ∧ _
    unfold z_X9_copy_3B
    rw [nl20]
    by_cases hk : k < 20
    · rw [if_pos ((nI_ltI (by omega) (by omega)).mpr hk), nI_add, nI_add, ixk h0 (by omega) b0, ixk h2 (by omega) b2, nc (by omega), nc (by omega), nI_1, e3 x0 hne]
      refine ih (k + 1) _ (by omega) (by omega) (fun y hy => ?_) (fun y hy => ?_) (fun b hb => ?_)
      · by_cases e : y = k
        · subst e; rw [z_up_at]
        · rw [z_up_ne (Or.inr (by omega))]; exact e1 y (by omega)
      · rw [z_up_ne (Or.inr (by omega))]; exact e2 y (by omega)
      · rw [z_up_off hb]; exact e3 b hb
    · rw [if_neg (fun d => hk ((nI_ltI (by omega) (by omega)).mp d))]
      have e : k = 20 := by omega
      subst e
      exact ⟨J, rfl, e1, e2, e3⟩
theorem r_copy (hF : 40 ≤ F) {x0 x2 n0 n2 i j : Nat} (h0 : (S.2.1 x0).2 = n0) (h2 : (S.2.1 x2).2 = n2) (hi : i + 20 ≤ n0) (hj : j + 20 ≤ n2) (b0 : n0 < 2 ^ 31) (b2 : n2 < 2 ^ 31) (hne : x0 ≠ x2) : ∃ J', z_X9_copy F S I x0 (nI i) x2 (nI j) = some J' ∧ (∀ y, y < 20 → J' x2 (j + y) = I x0 (i + y)) ∧ (∀ y, (y < j ∨ j + 20 ≤ y) → J' x2 y = I x2 y) ∧ (∀ b, b ≠ x2 → J' b = I b) := r_copy_lp h0 h2 hi hj b0 b2 hne F 0 I (by omega) (by omega) (fun y hy => absurd hy (Nat.not_lt_zero _)) (fun _ _ => rfl) (fun _ _ => rfl)
theorem rSn.copy {I J : zI} {x0 x2 i j : Nat} (hs : rSn I x0 i s) (h : s.2.1 ≤ 11) (e : ∀ y, y < 20 → J x2 (j + y) = I x0 (i + y)) : rSn J x2 j s := by
  refine ⟨fun x hx => by rw [e x (by omega)]; exact hs.1 x hx, by rw [e 8 (by omega)]; exact hs.2.1, fun y hy => ?_⟩
  have := e (9 + y) (by omega)
  rw [← Nat.add_assoc, ← Nat.add_assoc] at this
  rw [this]; exact hs.2.2 y hy
theorem r_cau_lp (hL : rL S A) (hs : rSn I (A + 20) 0 s) (hB : mB T s) {g c : Nat} (hg : g < 32) (hc : I (A + 14) g = nI c) : ∀ (m k : Nat) (J : zI), k ≤ 8 → 8 < k + m → (∀ y, y < 8 → J (A + 21) y = nI (if y < k ∧ 100 ≤ s.1 y then 0 else s.1 y)) → (∀ b, b ≠ A + 21 → J b = I b) → ∃ J', z_X9_caughtState_15 F S m A (nI g) (nI k) J = some J' ∧ rSn J' (A + 21) 0 (m_cau s c) ∧ (∀ b, b ≠ A + 21 → J' b = I b) := by
  intro m
  induction m with
  | zero => intro k J g1 g2; omega
  | succ m ih =>
    intro k J g1 g2 e1 e3
    show ∃ J', z_X9_caughtState_15B F S (z_X9_caughtState_15 F S m) A (nI g) (nI k) J = some J' ∧ _
    unfold z_X9_caughtState_15B
    by_cases hk : k < 8
    · have hb := (hB.1 k hk).1
      have ek : J (A + 21) k = nI (s.1 k) := by rw [e1 k hk, if_neg (fun q => Nat.lt_irrefl _ q.1)]
      rw [if_pos (show nI k < 8 from (nI_ltI (b := 8) (by omega) (by omega)).mpr hk), ob_mk hL.f23, ixk hL.n23 (by omega) (by omega), nc (by omega), ek, ob_mk (r_unm hb), b01, ixc hL.n23 (by omega) (by omega)]
      have step : ∀ v, (v = if 100 ≤ s.1 k then 0 else s.1 k) → ∃ J', z_X9_caughtState_48 F S (z_X9_caughtState_15 F S m) A (nI g) (nI k) (A + 21) (nI k) (nI v) J = some J' ∧ rSn J' (A + 21) 0 (m_cau s c) ∧ (∀ b, b ≠ A + 21 → J' b = I b) := fun v hv => by
        unfold z_X9_caughtState_48
        rw [ixk hL.n23 (by omega) (by omega), nc (by omega), nI_1]
        refine ih (k + 1) _ (by omega) (by omega) (fun y hy => ?_) (fun b hb => by rw [z_up_off hb]; exact e3 b hb)
        by_cases e : y = k
        · subst e
          rw [z_up_at, hv]
          by_cases h1 : 100 ≤ s.1 y
          · rw [if_pos h1, if_pos ⟨by omega, h1⟩]
          · rw [if_neg h1, if_neg (fun q => h1 q.2)]
        · rw [z_up_ne (Or.inr e), e1 y hy]
          by_cases h1 : y < k ∧ 100 ≤ s.1 y
          · rw [if_pos h1, if_pos ⟨by omega, h1.2⟩]
          · rw [if_neg h1, if_neg (fun q => h1 ⟨by omega, q.2⟩)]
      by_cases h1 : 100 ≤ s.1 k
      · rw [if_pos h1]
        exact step 0 (by rw [if_pos h1])
      · rw [if_neg h1]
        exact step (s.1 k) (by rw [if_neg h1])
    · rw [if_neg (fun d : nI k < 8 => hk ((nI_ltI (b := 8) (by omega) (by omega)).mp d)), ob_mk hL.f23, ix8 hL.n23 (by omega) (by omega), ob_mk hL.f14, ixk hL.n14 (by omega) (by omega), ix9 hL.n23 (by omega) (by omega), tn8, tn9, nc (by omega)]
      have ec : z_up J (A + 21) 8 1 (A + 14) g = nI c := by rw [z_up_off (by omega), e3 _ (by omega)]; exact hc
      rw [ec, nl10, nI_add]
      have e : k = 8 := by omega
      subst e
      refine ⟨_, rfl, ⟨fun x hx => ?_, ?_, fun j hj => ?_⟩, fun b hb => by rw [z_up_off hb, z_up_off hb]; exact e3 b hb⟩
      · rw [Nat.zero_add, z_up_ne (Or.inr (by omega)), z_up_ne (Or.inr (by omega)), e1 x hx]
        show nI (if x < 8 ∧ 100 ≤ s.1 x then 0 else s.1 x) = nI (if 100 ≤ s.1 x then 0 else s.1 x)
        by_cases h1 : 100 ≤ s.1 x
        · rw [if_pos ⟨hx, h1⟩, if_pos h1]
        · rw [if_neg (fun q => h1 q.2), if_neg h1]
      · rw [z_up_ne (Or.inr (by omega)), show 0 + 8 = 8 from rfl, z_up_at]; rfl
      · have hj' : j < 1 := hj
        have : j = 0 := by omega
        subst this
        rw [show 0 + 9 + 0 = 9 from rfl, z_up_at]; rfl
theorem r_caught (hF : 40 ≤ F) (hL : rL S A) (hs : rSn I (A + 20) 0 s) (h11 : s.2.1 ≤ 11) (hB : mB T s) {g c : Nat} (hg : g < 32) (hc : I (A + 14) g = nI c) : ∃ J', z_X9_caughtState F S I A (nI g) = some J' ∧ rSn J' (A + 21) 0 (m_cau s c) ∧ (∀ b, b ≠ A + 21 → J' b = I b) := by
  unfold z_X9_caughtState
  rw [ob_mk hL.f22, ob_mk hL.f23]
  obtain ⟨J, c1, c2, c3, c4⟩ := r_copy (F := F) (I := I) (i := 0) (j := 0) hF hL.n22 hL.n23 (by omega) (by omega) (by omega) (by omega) (show A + 20 ≠ A + 21 by omega)
  rw [ob_mk (show z_X9_copy F S I (A + 20) 0 (A + 21) 0 = some J from c1)]
  obtain ⟨J', d1, d2, d3⟩ := r_cau_lp (F := F) (I := J) hL (hs.kept (c4 _ (by omega))) hB hg (by rw [c4 _ (by omega)]; exact hc) F 0 J (by omega) (by omega) (fun y hy => by
    have := (hs.copy (x2 := A + 21) (j := 0) h11 c2).1 y hy
    rw [Nat.zero_add] at this
    rw [this, if_neg (fun q => absurd q.1 (Nat.not_lt_zero _))]) (fun _ _ => rfl)
  exact ⟨J', d1, d2, fun b hb => by rw [d3 b hb, c4 b hb]⟩
def pV (s : mSn) (k : Nat) : Nat := if k < 8 then s.1 k else s.2.2 (k - 9)
theorem rSn.pv {I : zI} {a o : Nat} (hs : rSn I a o s) {k : Nat} (hk : k < 9 + s.2.1) (h8 : k ≠ 8) : I a (o + k) = nI (pV s k) := by
  unfold pV
  by_cases h : k < 8
  · rw [if_pos h]; exact hs.1 k h
  · rw [if_neg h]
    have := hs.2.2 (k - 9) (by omega)
    rw [show o + 9 + (k - 9) = o + k by omega] at this
    exact this
theorem mB.pv (hB : mB T s) {k : Nat} (hk : k < 9 + s.2.1) (h8 : k ≠ 8) : mOb T (pV s k) := by
  unfold pV
  by_cases h : k < 8
  · rw [if_pos h]; exact hB.1 k h
  · rw [if_neg h]; exact hB.2 _ (by omega)
/-- a question at all the places and all of the stack -/
theorem pV_any (s : mSn) (f : Nat → Nat → Bool) : anyN (fun k => decide (k ≠ 8) && f k (pV s k)) (9 + s.2.1) = (anyN (fun x => f x (s.1 x)) 8 || anyN (fun j => f (9 + j) (s.2.2 j)) s.2.1) := by
  rw [anyN_add]
  have e1 : anyN (fun k => decide (k ≠ 8) && f k (pV s k)) 9 = anyN (fun x => f x (s.1 x)) 8 := by
    show (anyN (fun k => decide (k ≠ 8) && f k (pV s k)) 8 || (decide (8 ≠ 8) && f 8 (pV s 8))) = _
    rw [show decide (8 ≠ 8) = false from rfl, Bool.false_and, Bool.or_false]
    refine anyN_congr (fun x hx => ?_)
    show (decide (x ≠ 8) && f x (pV s x)) = f x (s.1 x)
    unfold pV
    rw [if_pos hx, decide_eq_true (show x ≠ 8 by omega), Bool.true_and]
  have e2 : anyN (fun j => decide (9 + j ≠ 8) && f (9 + j) (pV s (9 + j))) s.2.1 = anyN (fun j => f (9 + j) (s.2.2 j)) s.2.1 := by
    refine anyN_congr (fun j hj => ?_)
    show (decide (9 + j ≠ 8) && f (9 + j) (pV s (9 + j))) = f (9 + j) (s.2.2 j)
    unfold pV
    rw [if_neg (by omega), decide_eq_true (show 9 + j ≠ 8 by omega), Bool.true_and, show 9 + j - 9 = j by omega]
  rw [e1, e2]
theorem r_unm_lp {a : Nat} (hn : (S.2.1 a).2 = 20) (hs : rSn I a 0 s) (h11 : s.2.1 ≤ 11) (hB : mB T s) : ∀ (m k : Nat), k ≤ 9 + s.2.1 → 9 + s.2.1 < k + m → z_X9_hasUnmade_4 F S I m a (b2i (anyN (fun k => decide (k ≠ 8) && decide (100 ≤ pV s k)) k)) (nI k) = some (b2i (m_unm s)) := by
  have h8 : I a 8 = nI s.2.1 := hs.2.1
  intro m
  induction m with
  | zero => intro k g1 g2; omega
  | succ m ih =>
    intro k g1 g2
    show z_X9_hasUnmade_4B F S I (z_X9_hasUnmade_4 F S I m) a _ (nI k) = _
    unfold z_X9_hasUnmade_4B z_X9_hasUnmade_36
    rw [ix8 hn (by omega) (by omega), tn8, h8, nl9, nI_add]
    by_cases hk : k < 9 + s.2.1
    · have key := ih (k + 1) (by omega) (by omega)
      rw [if_pos ((nI_ltI (by omega) (by omega)).mpr hk), nI_1]
      by_cases e8 : k = 8
      · rw [if_pos (show nI k = 8 by rw [e8]; rfl), show (0 : Int32) = b2i false from rfl, b2i_or]
        have e : anyN (fun k => decide (k ≠ 8) && decide (100 ≤ pV s k)) (k + 1) = (anyN (fun k => decide (k ≠ 8) && decide (100 ≤ pV s k)) k || false) := by
          show (_ || (decide (k ≠ 8) && _)) = _
          rw [decide_eq_false (show ¬ k ≠ 8 by omega), Bool.false_and]
        rw [← e]; exact key
      · have hv := hs.pv hk e8
        rw [Nat.zero_add] at hv
        have hb := (hB.pv hk e8).1
        rw [if_neg (fun d => e8 ((nI_eq (by omega) (by omega)).mp (d.trans nl8))), ixk hn (by omega) (by omega), nc (by omega), hv, ob_mk (r_unm hb), b01]
        have e : anyN (fun k => decide (k ≠ 8) && decide (100 ≤ pV s k)) (k + 1) = (anyN (fun k => decide (k ≠ 8) && decide (100 ≤ pV s k)) k || decide (100 ≤ pV s k)) := by
          show (_ || (decide (k ≠ 8) && _)) = _
          rw [decide_eq_true e8, Bool.true_and]
        rw [e] at key
        by_cases h1 : 100 ≤ pV s k
        · rw [if_pos h1, show (1 : Int32) = b2i true from rfl, b2i_or]
          rw [decide_eq_true h1] at key
          exact key
        · rw [if_neg h1, show (0 : Int32) = b2i false from rfl, b2i_or]
          rw [decide_eq_false h1] at key
          exact key
    · rw [if_neg (fun d => hk ((nI_ltI (by omega) (by omega)).mp d)), if_pos (b2i_01 _)]
      have e : k = 9 + s.2.1 := by omega
      subst e
      rw [pV_any s (fun _ v => decide (100 ≤ v))]; rfl
theorem r_hasUnm (hF : 40 ≤ F) {a : Nat} (hn : (S.2.1 a).2 = 20) (hs : rSn I a 0 s) (h11 : s.2.1 ≤ 11) (hB : mB T s) : z_X9_hasUnmade F S I A a = some (b2i (m_unm s)) := r_unm_lp hn hs h11 hB F 0 (by omega) (by omega)
theorem r_beg_lp (hL : rL S A) {i us x1 : Nat} {bg : Nat → Nat} (h21 : I A 21 = nI i) (hi : i < 8) (h4 : I (A + 4) i = nI us) (hus : us ≤ 8) (h5 : ∀ y, y < us → I (A + 5) (8 * i + y) = nI (bg y)) (hx1 : x1 = A + 20 ∨ x1 = A + 21) (hn : (S.2.1 x1).2 = 20) : ∀ (m k : Nat) (J : zI), k ≤ 20 → 20 < k + m → (∀ y, y < k → J x1 y = if y < us then nI (bg y) else 0) → (∀ b, b ≠ x1 → J b = I b) → ∃ J', z_X9_beginning_2 F S m A x1 (nI k) J = some J' ∧ (∀ y, y < 20 → J' x1 y = if y < us then nI (bg y) else 0) ∧ (∀ b, b ≠ x1 → J' b = I b) := by
  intro m
  induction m with
  | zero => intro k J g1 g2; omega
  | succ m ih =>
    intro k J g1 g2 e1 e3
    show ∃ J', z_X9_beginning_2B F S (z_X9_beginning_2 F S m) A x1 (nI k) J = some J' ∧ _
    unfold z_X9_beginning_2B
    rw [nl20, e3 A (by omega), h21]
    by_cases hk : k < 20
    · rw [if_pos ((nI_ltI (by omega) (by omega)).mpr hk), ob_mk hL.f4, ixk hL.n4 hi (by omega), nc (by omega), e3 (A + 4) (by omega), h4]
      have step : ∀ v, (v = if k < us then nI (bg k) else 0) → ∃ J', z_X9_beginning_41 F S (z_X9_beginning_2 F S m) A x1 (nI k) x1 (nI k) v J = some J' ∧ (∀ y, y < 20 → J' x1 y = if y < us then nI (bg y) else 0) ∧ (∀ b, b ≠ x1 → J' b = I b) := fun v hv => by
        unfold z_X9_beginning_41
        rw [ixk hn (by omega) (by omega), nc (by omega), nI_1]
        refine ih (k + 1) _ (by omega) (by omega) (fun y hy => ?_) (fun b hb => by rw [z_up_off hb]; exact e3 b hb)
        by_cases e : y = k
        · subst e; rw [z_up_at]; exact hv
        · rw [z_up_ne (Or.inr e)]; exact e1 y (by omega)
      by_cases hu : k < us
      · rw [if_pos ((nI_ltI (by omega) (by omega)).mpr hu), ob_mk hL.f5, nl8, pk_mul, nI_add, ixk hL.n5 (by omega) (by omega), nc (by omega), e3 (A + 5) (by omega), h5 k hu]
        exact step _ (by rw [if_pos hu])
      · rw [if_neg (fun d => hu ((nI_ltI (by omega) (by omega)).mp d))]
        exact step _ (by rw [if_neg hu])
    · rw [if_neg (fun d => hk ((nI_ltI (by omega) (by omega)).mp d))]
      have e : k = 20 := by omega
      subst e
      exact ⟨J, rfl, e1, e3⟩
theorem r_beg (hF : 40 ≤ F) (hL : rL S A) {i x1 : Nat} {us : Nat} {bg : mSn} (h21 : I A 21 = nI i) (hi : i < 8) (h4 : I (A + 4) i = nI us) (hus : us ≤ 8) (h5 : ∀ y, y < us → I (A + 5) (8 * i + y) = nI (bg.1 y)) (hz : ∀ y, us ≤ y → bg.1 y = 0) (hh : bg.2.1 = 0) (hx1 : x1 = A + 20 ∨ x1 = A + 21) (hn : (S.2.1 x1).2 = 20) : ∃ J', z_X9_beginning F S I A x1 = some J' ∧ rSn J' x1 0 bg ∧ (∀ b, b ≠ x1 → J' b = I b) := by
  obtain ⟨J', c1, c2, c3⟩ := r_beg_lp (F := F) hL h21 hi h4 hus h5 hx1 hn F 0 I (by omega) (by omega) (fun y hy => absurd hy (Nat.not_lt_zero _)) (fun _ _ => rfl)
  refine ⟨J', c1, ⟨fun x hx => ?_, ?_, fun j hj => ?_⟩, c3⟩
  · rw [Nat.zero_add, c2 x (by omega)]
    by_cases hu : x < us
    · rw [if_pos hu]
    · rw [if_neg hu, hz x (by omega)]; rfl
  · rw [Nat.zero_add, c2 8 (by omega), if_neg (by omega), hh]; rfl
  · rw [hh] at hj; exact absurd hj (Nat.not_lt_zero _)
theorem r_goes {k : Nat} (hk : k ≤ 20) : z_X9_goesOn F S I (nI k) = some (b2i (m_goes k)) := by
  have : k = 0 ∨ k = 1 ∨ k = 2 ∨ k = 3 ∨ k = 4 ∨ k = 5 ∨ k = 6 ∨ k = 7 ∨ k = 8 ∨ k = 9 ∨ k = 10 ∨ k = 11 ∨ k = 12 ∨ k = 13 ∨ k = 14 ∨ k = 15 ∨ k = 16 ∨ k = 17 ∨ k = 18 ∨ k = 19 ∨ k = 20 := by omega
  rcases this with rfl | rfl | rfl | rfl | rfl | rfl | rfl | rfl | rfl | rfl | rfl | rfl | rfl | rfl | rfl | rfl | rfl | rfl | rfl | rfl | rfl <;> rfl
theorem r_jumps {k : Nat} (hk : k ≤ 20) : z_X9_jumps F S I (nI k) = some (b2i (m_jmp k)) := by
  have : k = 0 ∨ k = 1 ∨ k = 2 ∨ k = 3 ∨ k = 4 ∨ k = 5 ∨ k = 6 ∨ k = 7 ∨ k = 8 ∨ k = 9 ∨ k = 10 ∨ k = 11 ∨ k = 12 ∨ k = 13 ∨ k = 14 ∨ k = 15 ∨ k = 16 ∨ k = 17 ∨ k = 18 ∨ k = 19 ∨ k = 20 := by omega
  rcases this with rfl | rfl | rfl | rfl | rfl | rfl | rfl | rfl | rfl | rfl | rfl | rfl | rfl | rfl | rfl | rfl | rfl | rfl | rfl | rfl | rfl <;> rfl
theorem r_holds (hL : rL S A) {g p f t : Nat} (hg : g < 32) (hp : p < 2 ^ 31) (hf : I (A + 11) g = nI f) (ht : I (A + 12) g = nI t) (hfb : f < 2 ^ 31) (htb : t < 2 ^ 31) : z_X9_holds F S I A (nI g) (nI p) = some (if f ≤ p ∧ p < t then 1 else 0) := by
  unfold z_X9_holds
  rw [ob_mk hL.f11, ixk hL.n11 (by omega) (by omega), nc (by omega), hf, ob_mk hL.f12, ixc hL.n12 (by omega) (by omega), ht]
  by_cases h1 : p < f
  · rw [if_pos ((nI_ltI hp hfb).mpr h1), if_neg (by omega)]
  · rw [if_neg (fun d => h1 ((nI_ltI hp hfb).mp d))]
    by_cases h2 : p < t
    · rw [if_pos ((nI_ltI hp htb).mpr h2), if_pos (by omega)]
    · rw [if_neg (fun d => h2 ((nI_ltI hp htb).mp d)), if_neg (by omega)]
end RU
