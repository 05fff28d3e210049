/-! the reference: a state comes to an act -/
def jV (T : mTr) (o s : mSn) (k : Nat) : Nat := m_join T (pV o k) (pV s k)
theorem jV_jn {T : mTr} {o s : mSn} {k : Nat} : pV (m_jn T o s) k = jV T o s k := by
  unfold jV pV
  by_cases h : k < 8
  · rw [if_pos h, if_pos h, if_pos h]; rfl
  · rw [if_neg h, if_neg h, if_neg h]; rfl
theorem rSn.ofV {I : zI} {a o : Nat} {s : mSn} (h : ∀ k, k < 9 + s.2.1 → k ≠ 8 → I a (o + k) = nI (pV s k)) (h8 : I a (o + 8) = nI s.2.1) : rSn I a o s := by
  refine ⟨fun x hx => ?_, h8, fun j hj => ?_⟩
  · have := h x (by omega) (by omega)
    unfold pV at this
    rw [if_pos hx] at this
    exact this
  · have := h (9 + j) (by omega) (by omega)
    unfold pV at this
    rw [if_neg (by omega), show 9 + j - 9 = j by omega, ← Nat.add_assoc] at this
    exact this
theorem m_chg_V {T : mTr} {o s : mSn} : anyN (fun y => decide (y ≠ 8) && decide (jV T o s y ≠ pV o y)) (9 + s.2.1) = m_chg T o s := by
  have := pV_any s (fun k _ => decide (jV T o s k ≠ pV o k))
  rw [this]
  unfold m_chg
  rw [Bool.or_comm]
  congr 1
  · refine anyN_congr (fun j hj => ?_)
    show decide (jV T o s (9 + j) ≠ pV o (9 + j)) = decide (m_join T (o.2.2 j) (s.2.2 j) ≠ o.2.2 j)
    unfold jV pV
    rw [if_neg (by omega), if_neg (by omega), show 9 + j - 9 = j by omega]
theorem ix8c {α : Type} {S : zS} {a n : Nat} {e : Option α} (hn : (S.2.1 a).2 = n) (hj : 8 < n) (h31 : n < 2 ^ 31) : (if (8 : Int32) < 0 ∨ (S.2.1 a).2 ≤ 8 then none else e) = e := ixk (j := 8) hn hj h31
section RK
variable {F : Nat} {S : zS} {I : zI} {A i n : Nat} {T : mTr} {o s : mSn}
theorem r_cm2 (hL : rL S A) {kk a h : Nat} (hkk : kk < 320) (ha : a < 40) (hh : h ≤ 10) {V : Nat → Nat} {d ch : Bool} (h8 : I (A + 21) 8 = nI h) (hj : ∀ y, y < 9 + h → y ≠ 8 → I (A + 23) y = nI (V y)) (hd : I (A + 22) a = b2i d) : ∀ (m k : Nat) (J : zI), k ≤ 9 + h → 9 + h < k + m → (∀ y, y < k → J (A + 17) (20 * kk + y) = if y = 8 then nI h else nI (V y)) → (∀ y, (y < 20 * kk ∨ 20 * kk + k ≤ y) → J (A + 17) y = I (A + 17) y) → (∀ b, b ≠ A + 17 → J b = I b) → ∃ J', z_X9_comes_247 F S m A (nI a) (nI kk) (b2i ch) (nI k) J = some J' ∧ (∀ y, y < 9 + h → J' (A + 17) (20 * kk + y) = if y = 8 then nI h else nI (V y)) ∧ (∀ y, (y < 20 * kk ∨ 20 * kk + 20 ≤ y) → J' (A + 17) y = I (A + 17) y) ∧ J' (A + 22) a = b2i (d || ch) ∧ (∀ k, k ≠ a → J' (A + 22) k = I (A + 22) k) ∧ (∀ b, b ≠ A + 17 → b ≠ A + 22 → J' b = I b) := by
  intro m
  induction m with
  | zero => intro k J g1 g2; omega
  | succ m ih =>
    intro k J g1 g2 e1 e2 e3
    show ∃ J', z_X9_comes_247B F S (z_X9_comes_247 F S m) A (nI a) (nI kk) (b2i ch) (nI k) J = some J' ∧ _
    unfold z_X9_comes_247B
    rw [ob_mk hL.f23, ix8 hL.n23 (by omega) (by omega), tn8, e3 (A + 21) (by omega), h8, nl9, nI_add, nl20, pk_mul]
    by_cases hk : k < 9 + h
    · rw [if_pos ((nI_ltI (by omega) (by omega)).mpr hk), ob_mk hL.f17, nI_add]
      have step : ∀ v, (v = if k = 8 then nI h else nI (V k)) → ∃ J', z_X9_comes_298 F S (z_X9_comes_247 F S m) A (nI a) (nI kk) (b2i ch) (nI k) (A + 17) (nI (20 * kk + k)) v J = some J' ∧ (∀ y, y < 9 + h → J' (A + 17) (20 * kk + y) = if y = 8 then nI h else nI (V y)) ∧ (∀ y, (y < 20 * kk ∨ 20 * kk + 20 ≤ y) → J' (A + 17) y = I (A + 17) y) ∧ J' (A + 22) a = b2i (d || ch) ∧ (∀ k, k ≠ a → J' (A + 22) k = I (A + 22) k) ∧ (∀ b, b ≠ A + 17 → b ≠ A + 22 → J' b = I b) := fun v hv => by
        unfold z_X9_comes_298
        rw [ixk hL.n17 (by omega) (by omega), nc (by omega), nI_1]
        refine ih (k + 1) _ (by omega) (by omega) (fun y hy => ?_) (fun y hy => ?_) (fun b hb => by rw [z_up_off hb]; exact e3 b hb)
        · by_cases e : y = k
          · subst e; rw [z_up_at]; exact hv
          · rw [z_up_ne (Or.inr (by omega))]; exact e1 y (by omega)
        · rw [z_up_ne (Or.inr (by omega))]; exact e2 y (by omega)
      by_cases e8 : k = 8
      · rw [if_pos (show nI k = 8 by rw [e8]; rfl), ix8c hL.n23 (by omega) (by omega)]
        exact step _ (by rw [if_pos e8])
      · rw [if_neg (fun d => e8 ((nI_eq (by omega) (by omega)).mp (d.trans nl8))), ob_mk hL.f26, ixk hL.n26 (by omega) (by omega), nc (by omega), e3 (A + 23) (by omega), hj k hk e8]
        exact step _ (by rw [if_neg e8])
    · rw [if_neg (fun d => hk ((nI_ltI (by omega) (by omega)).mp d)), ob_mk hL.f25, ixk hL.n25 (by omega) (by omega), ixk hL.n25 (by omega) (by omega), nc (by omega), e3 (A + 22) (by omega), hd, b2i_or, if_pos (b2i_01 _)]
      have e : k = 9 + h := by omega
      subst e
      exact ⟨_, rfl, fun y hy => by rw [z_up_off (by omega)]; exact e1 y hy, fun y hy => by rw [z_up_off (by omega)]; exact e2 y (by omega), by rw [z_up_at], fun k hk => by rw [z_up_ne (Or.inr hk), e3 _ (by omega)], fun b hb hb2 => by rw [z_up_off hb2]; exact e3 b hb⟩
def cmF (T : mTr) (I J' : zI) (A kk a : Nat) (o s : mSn) (d : Bool) : Prop := (m_bad T o s = true → J' A 24 = nI 2) ∧ (m_bad T o s = false → J' A 24 = nI 0 ∧ rSn J' (A + 17) (20 * kk) (m_jn T o s) ∧ J' (A + 22) a = b2i (d || m_chg T o s)) ∧ (∀ b, b ≠ A → b ≠ A + 17 → b ≠ A + 22 → b ≠ A + 23 → J' b = I b) ∧ (∀ k, k ≠ 24 → J' A k = I A k) ∧ (∀ k, (k < 20 * kk ∨ 20 * kk + 20 ≤ k) → J' (A + 17) k = I (A + 17) k) ∧ ∀ k, k ≠ a → J' (A + 22) k = I (A + 22) k
theorem r_cm1 (hF : 40 ≤ F) (hL : rL S A) (hT : rT I A T) {kk a : Nat} (hkk : kk < 320) (ha : a < 40) (hh : s.2.1 ≤ 10) (ho : rSn I (A + 17) (20 * kk) o) (hs : rSn I (A + 21) 0 s) (hos : o.2.1 = s.2.1) (bo : mB T o) (bs : mB T s) {d : Bool} (h24 : I A 24 = nI 0) (hd : I (A + 22) a = b2i d) : ∀ (m k : Nat) (J : zI), k ≤ 9 + s.2.1 → 9 + s.2.1 < k + m → (∀ y, y < k → y ≠ 8 → J (A + 23) y = nI (jV T o s y)) → (∀ y, 9 ≤ y → y < k → jV T o s y ≠ 0) → (∀ b, b ≠ A + 23 → J b = I b) → ∃ J', z_X9_comes_135 F S m A (nI a) (nI kk) (b2i (anyN (fun y => decide (y ≠ 8) && decide (jV T o s y ≠ pV o y)) k)) (nI k) J = some J' ∧ cmF T I J' A kk a o s d := by
  have hT0 := hT.2.1
  intro m
  induction m with
  | zero => intro k J g1 g2; omega
  | succ m ih =>
    intro k J g1 g2 e1 e2 e3
    show ∃ J', z_X9_comes_135B F S (z_X9_comes_135 F S m) A (nI a) (nI kk) _ (nI k) J = some J' ∧ _
    unfold z_X9_comes_135B
    have h8 : J (A + 21) 8 = nI s.2.1 := by rw [e3 _ (by omega)]; exact hs.2.1
    rw [ob_mk hL.f23, ix8 hL.n23 (by omega) (by omega), tn8, h8, nl9, nI_add, nl20, pk_mul]
    by_cases hk : k < 9 + s.2.1
    · rw [if_pos ((nI_ltI (by omega) (by omega)).mpr hk), nI_1]
      by_cases e8 : k = 8
      · rw [if_pos (show nI k = 8 by rw [e8]; rfl)]
        have e : anyN (fun y => decide (y ≠ 8) && decide (jV T o s y ≠ pV o y)) (k + 1) = anyN (fun y => decide (y ≠ 8) && decide (jV T o s y ≠ pV o y)) k := by
          show (_ || (decide (k ≠ 8) && _)) = _
          rw [decide_eq_false (show ¬ k ≠ 8 by omega), Bool.false_and, Bool.or_false]
        rw [← e]
        exact ih (k + 1) J (by omega) (by omega) (fun y hy hy8 => e1 y (by omega) hy8) (fun y h1 h2 => e2 y h1 (by omega)) e3
      · have vo := ho.pv (k := k) (by omega) e8
        have vs := hs.pv (k := k) hk e8
        rw [Nat.zero_add] at vs
        have bo' := bo.pv (k := k) (by omega) e8
        have bs' := bs.pv (k := k) hk e8
        have hjl : jV T o s k < 200 := m_join_lt hT0 bo'.1 bs'.1
        have hbo := bo'.1
        have hTJ : rT J A T := hT.kept (by rw [e3 A (by omega)]) (e3 _ (by omega)) (e3 _ (by omega))
        rw [if_neg (fun d => e8 ((nI_eq (by omega) (by omega)).mp (d.trans nl8))), ob_mk hL.f17, nI_add, ixk hL.n17 (by omega) (by omega), ixk hL.n23 (by omega) (by omega), nc (by omega), nc (by omega), e3 (A + 17) (by omega), e3 (A + 21) (by omega), vo, vs, ob_mk (r_jt (by omega) hL hTJ bo' bs')]
        have e201 : (9 ≤ k → jV T o s k ≠ 0) → ∃ J', z_X9_comes_201 F S (z_X9_comes_135 F S m) A (nI a) (nI kk) (b2i (anyN (fun y => decide (y ≠ 8) && decide (jV T o s y ≠ pV o y)) k)) (nI k) (nI (jV T o s k)) J = some J' ∧ cmF T I J' A kk a o s d := fun hne => by
          unfold z_X9_comes_201
          rw [ob_mk hL.f17, nl20, pk_mul, nI_add, ixk hL.n17 (by omega) (by omega), nc (by omega), e3 (A + 17) (by omega), vo]
          have fin : ∃ J', z_X9_comes_135 F S m A (nI a) (nI kk) (b2i (anyN (fun y => decide (y ≠ 8) && decide (jV T o s y ≠ pV o y)) (k + 1))) (nI (k + 1)) (z_up J (A + 23) k (nI (jV T o s k))) = some J' ∧ cmF T I J' A kk a o s d := by
            refine ih (k + 1) _ (by omega) (by omega) (fun y hy hy8 => ?_) (fun y h1 h2 => ?_) (fun b hb => by rw [z_up_off hb]; exact e3 b hb)
            · by_cases e : y = k
              · subst e; rw [z_up_at]
              · rw [z_up_ne (Or.inr e)]; exact e1 y (by omega) hy8
            · by_cases e : y = k
              · subst e; exact hne h1
              · exact e2 y h1 (by omega)
          have e : anyN (fun y => decide (y ≠ 8) && decide (jV T o s y ≠ pV o y)) (k + 1) = (anyN (fun y => decide (y ≠ 8) && decide (jV T o s y ≠ pV o y)) k || decide (jV T o s k ≠ pV o k)) := by
            show (_ || (decide (k ≠ 8) && _)) = _
            rw [decide_eq_true e8, Bool.true_and]
          rw [e] at fin
          by_cases hq : jV T o s k = pV o k
          · rw [if_pos (by rw [hq])]
            unfold z_X9_comes_226
            rw [ob_mk hL.f26, ixk hL.n26 (by omega) (by omega), nc (by omega), show (0 : Int32) = b2i false from rfl, b2i_or, nI_1]
            rw [decide_eq_false (fun g => g hq)] at fin
            exact fin
          · rw [if_neg (nI_ne (by omega) (by omega) hq)]
            unfold z_X9_comes_226
            rw [ob_mk hL.f26, ixk hL.n26 (by omega) (by omega), nc (by omega), nI_1, show (1 : Int32) = b2i true from rfl, b2i_or]
            rw [decide_eq_true hq] at fin
            exact fin
        by_cases h9 : k < 9
        · rw [if_pos ((nI_ltI (by omega) (by omega)).mpr h9)]
          exact e201 (fun g => by omega)
        · rw [if_neg (fun d => h9 ((nI_ltI (by omega) (by omega)).mp d))]
          by_cases hz : jV T o s k = 0
          · rw [if_pos (show nI (m_join T (pV o k) (pV s k)) = 0 by rw [show m_join T (pV o k) (pV s k) = 0 from hz]; rfl), ob_mk (r_fails0 (by rw [e3 A (by omega)]; exact h24) 2)]
            have hbad : m_bad T o s = true := by
              unfold m_bad
              refine anyN_iff.mpr ⟨k - 9, by omega, ?_⟩
              unfold jV pV at hz
              rw [if_neg (by omega), if_neg (by omega)] at hz
              exact decide_eq_true hz
            refine ⟨_, rfl, fun _ => by rw [z_up_at]; rfl, fun g => absurd g (by rw [hbad]; decide), fun b b1 b2 b3 b4 => by rw [z_up_off b1]; exact e3 b b4, fun k hk => by rw [z_up_ne (Or.inr hk), e3 A (by omega)], fun k hk => by rw [z_up_off (by omega), e3 _ (by omega)], fun k hk => by rw [z_up_off (by omega), e3 _ (by omega)]⟩
          · rw [if_neg (show ¬ nI (m_join T (pV o k) (pV s k)) = 0 from fun d => hz ((nI_eq (by show jV T o s k < 2 ^ 31; omega) (by omega)).mp (d.trans nl0)))]
            exact e201 (fun _ => hz)
    · rw [if_neg (fun d => hk ((nI_ltI (by omega) (by omega)).mp d))]
      have e : k = 9 + s.2.1 := by omega
      subst e
      have hbad : m_bad T o s = false := by
        unfold m_bad
        refine anyN_f.mpr (fun j hj => ?_)
        have := e2 (9 + j) (by omega) (by omega)
        unfold jV pV at this
        rw [if_neg (by omega), if_neg (by omega), show 9 + j - 9 = j by omega] at this
        exact decide_eq_false this
      rw [m_chg_V]
      obtain ⟨J', c1, c2, c3, c4, c5, c6⟩ := r_cm2 (F := F) (I := J) (V := jV T o s) (ch := m_chg T o s) hL hkk ha hh h8 e1 (by rw [e3 _ (by omega)]; exact hd) F 0 J (by omega) (by omega) (fun y hy => absurd hy (Nat.not_lt_zero _)) (fun _ _ => rfl) (fun _ _ => rfl)
      refine ⟨J', c1, fun g => absurd g (by rw [hbad]; decide), fun _ => ⟨by rw [c6 A (by omega) (by omega), e3 A (by omega)]; exact h24, ?_, c4⟩, fun b b1 b2 b3 b4 => by rw [c6 b b2 b3]; exact e3 b b4, fun k hk => by rw [c6 A (by omega) (by omega), e3 A (by omega)], fun k hk => by rw [c3 k hk, e3 _ (by omega)], fun k hk => by rw [c5 k hk, e3 _ (by omega)]⟩
      refine rSn.ofV (fun k hk hk8 => ?_) ?_
      · have hk' : k < 9 + s.2.1 := hk
        rw [jV_jn, c2 k hk', if_neg hk8]
      · rw [c2 8 (by omega), if_pos rfl]; rfl
/-- the reference's rows of what is computed of method i -/
def rC (I : zI) (A i n : Nat) (C : mC) : Prop := ∀ p, p < n → I (A + 16) (40 * i + p) = b2i (C.1 p) ∧ I (A + 22) p = b2i (C.2.1 p) ∧ (C.1 p = true → rSn I (A + 17) (20 * (40 * i + p)) (C.2.2 p))
def mCb (T : mTr) (n : Nat) (C : mC) : Prop := ∀ p, p < n → C.1 p = true → (C.2.2 p).2.1 ≤ 10 ∧ mB T (C.2.2 p)
/-- what comes may change -/
def fK (A i : Nat) (I I' : zI) : Prop := (∀ b, b ≠ A → b ≠ A + 16 → b ≠ A + 17 → b ≠ A + 22 → b ≠ A + 23 → I' b = I b) ∧ (∀ k, k ≠ 24 → I' A k = I A k) ∧ (∀ k, (k < 40 * i ∨ 40 * i + 40 ≤ k) → I' (A + 16) k = I (A + 16) k) ∧ ∀ k, (k < 800 * i ∨ 800 * i + 800 ≤ k) → I' (A + 17) k = I (A + 17) k
theorem fK.rf : fK A i I I := ⟨fun _ _ _ _ _ _ => rfl, fun _ _ => rfl, fun _ _ => rfl, fun _ _ => rfl⟩
theorem fK.trans {I1 I2 : zI} (h : fK A i I I1) (g : fK A i I1 I2) : fK A i I I2 := ⟨fun b b1 b2 b3 b4 b5 => (g.1 b b1 b2 b3 b4 b5).trans (h.1 b b1 b2 b3 b4 b5), fun k hk => (g.2.1 k hk).trans (h.2.1 k hk), fun k hk => (g.2.2.1 k hk).trans (h.2.2.1 k hk), fun k hk => (g.2.2.2 k hk).trans (h.2.2.2 k hk)⟩
theorem r_comes (hF : 40 ≤ F) (hL : rL S A) (hT : rT I A T) (h21 : I A 21 = nI i) (hi : i < 8) (h6 : I (A + 6) i = nI n) (hn : n ≤ 40) {a p : Nat} (ha : a ≤ 40) (hp : p < 40) (hs : rSn I (A + 21) 0 s) (hh : s.2.1 ≤ 10) (bs : mB T s) {C : mC} (hC : rC I A i n C) (hCb : mCb T n C) (h24 : I A 24 = nI 0) {x : Int32} (hx : x = 0 ∨ (x = 1 ∧ m_unm s = false)) : ∃ I', z_X9_comes F S I A (nI a) (nI p) x = some I' ∧ I' A 24 = nI (m_arr T n (decide (a ≤ p)) a s C).1 ∧ ((m_arr T n (decide (a ≤ p)) a s C).1 = 0 → rC I' A i n (m_arr T n (decide (a ≤ p)) a s C).2) ∧ fK A i I I' := by
  unfold z_X9_comes m_arr
  rw [ob_mk hL.f6, h21, ixk hL.n6 hi (by omega), nc (by omega), h6]
  by_cases han : a < n
  · rw [if_pos ((nI_ltI (by omega) (by omega)).mpr han), if_neg (show ¬ ¬ a < n from fun g => g han)]
    have e46 : ∃ I', z_X9_comes_46 F S A (nI a) I = some I' ∧ I' A 24 = nI (if C.1 a = false then ((0 : Nat), nup C.1 a true, nup C.2.1 a true, nup C.2.2 a s) else if (C.2.2 a).2.1 ≠ s.2.1 then (4, C) else if m_bad T (C.2.2 a) s = true then (2, C) else (0, C.1, nup C.2.1 a (C.2.1 a || m_chg T (C.2.2 a) s), nup C.2.2 a (m_jn T (C.2.2 a) s))).1 ∧ ((if C.1 a = false then ((0 : Nat), nup C.1 a true, nup C.2.1 a true, nup C.2.2 a s) else if (C.2.2 a).2.1 ≠ s.2.1 then (4, C) else if m_bad T (C.2.2 a) s = true then (2, C) else (0, C.1, nup C.2.1 a (C.2.1 a || m_chg T (C.2.2 a) s), nup C.2.2 a (m_jn T (C.2.2 a) s))).1 = 0 → rC I' A i n (if C.1 a = false then ((0 : Nat), nup C.1 a true, nup C.2.1 a true, nup C.2.2 a s) else if (C.2.2 a).2.1 ≠ s.2.1 then (4, C) else if m_bad T (C.2.2 a) s = true then (2, C) else (0, C.1, nup C.2.1 a (C.2.1 a || m_chg T (C.2.2 a) s), nup C.2.2 a (m_jn T (C.2.2 a) s))).2) ∧ fK A i I I' := by
      obtain ⟨q1, q2, q3⟩ := hC a han
      unfold z_X9_comes_46
      rw [ob_mk hL.f16, h21, nl40, pk_mul, nI_add, ixk hL.n16 (by omega) (by omega), nc (by omega), q1]
      cases hr : C.1 a
      · rw [if_pos (show b2i false = 0 from rfl), if_pos rfl, ixc hL.n16 (by omega) (by omega), ob_mk hL.f23, ob_mk hL.f17, nl20, pk_mul]
        obtain ⟨J, c1, c2, c3, c4⟩ := r_copy (F := F) (I := z_up I (A + 16) (40 * i + a) 1) (i := 0) (j := 20 * (40 * i + a)) hF hL.n23 hL.n17 (by omega) (by omega) (by omega) (by omega) (show A + 21 ≠ A + 17 by omega)
        rw [ob_mk (show z_X9_copy F S (z_up I (A + 16) (40 * i + a) 1) (A + 21) 0 (A + 17) (nI (20 * (40 * i + a))) = some J from c1), ob_mk hL.f25, ixk hL.n25 (by omega) (by omega), nc (by omega)]
        refine ⟨_, rfl, ?_, fun _ p' hp' => ?_, fun b b1 b2 b3 b4 b5 => ?_, fun k hk => ?_, fun k hk => ?_, fun k hk => ?_⟩
        · rw [z_up_off (by omega), c4 A (by omega), z_up_off (by omega)]; exact h24
        · obtain ⟨u1, u2, u3⟩ := hC p' hp'
          refine ⟨?_, ?_, fun g => ?_⟩
          · show z_up J (A + 22) a 1 (A + 16) (40 * i + p') = b2i (nup C.1 a true p')
            rw [z_up_off (by omega), c4 _ (by omega)]
            by_cases e : p' = a
            · subst e; rw [z_up_at, nup_at]; rfl
            · rw [z_up_ne (Or.inr (by omega)), nup_ne e]; exact u1
          · show z_up J (A + 22) a 1 (A + 22) p' = b2i (nup C.2.1 a true p')
            by_cases e : p' = a
            · subst e; rw [z_up_at, nup_at]; rfl
            · rw [z_up_ne (Or.inr e), nup_ne e, c4 _ (by omega), z_up_off (by omega)]; exact u2
          · have g' : nup C.1 a true p' = true := g
            show rSn (z_up J (A + 22) a 1) (A + 17) (20 * (40 * i + p')) (nup C.2.2 a s p')
            by_cases e : p' = a
            · subst e
              rw [nup_at]
              exact ((hs.kept (I' := z_up I (A + 16) (40 * i + p') 1) (z_up_off (by omega))).copy (by omega) c2).kept (z_up_off (by omega))
            · rw [nup_ne e] at g' ⊢
              exact ((u3 g').keptK (by have := (hCb p' hp' g').1; omega) (fun k k1 k2 => by rw [c3 k (by omega), z_up_off (by omega)])).kept (z_up_off (by omega))
        · rw [z_up_off b4, c4 b b3, z_up_off b2]
        · rw [z_up_off (by omega), c4 A (by omega), z_up_off (by omega)]
        · rw [z_up_off (by omega), c4 _ (by omega), z_up_ne (Or.inr (by omega))]
        · rw [z_up_off (by omega), c3 k (by omega), z_up_off (by omega)]
      · have hst := q3 hr
        obtain ⟨hb1, hb2⟩ := hCb a han hr
        have v8 : I (A + 17) (20 * (40 * i + a) + 8) = nI (C.2.2 a).2.1 := hst.2.1
        have s8 : I (A + 21) 8 = nI s.2.1 := hs.2.1
        rw [if_neg (show ¬ b2i true = 0 by decide), if_neg (show ¬ true = false by decide), ob_mk hL.f17, nl20, pk_mul, nl8, nI_add, ixk hL.n17 (by omega) (by omega), nc (show 20 * (40 * i + a) + 8 < 2 ^ 31 by omega), ob_mk hL.f23, ixk hL.n23 (by omega) (by omega), nc (show 8 < 2 ^ 31 by omega), v8, s8]
        by_cases he : (C.2.2 a).2.1 = s.2.1
        · rw [if_pos (by rw [he]), if_neg (show ¬ (C.2.2 a).2.1 ≠ s.2.1 from fun g => g he)]
          obtain ⟨J', d1, d2, d3, d4, d5, d6, d7⟩ := r_cm1 (F := F) (I := I) (kk := 40 * i + a) (a := a) hF hL hT (by omega) (by omega) hh hst hs he hb2 bs h24 q2 F 0 I (by omega) (by omega) (fun y hy => absurd hy (Nat.not_lt_zero _)) (fun y _ hy => absurd hy (Nat.not_lt_zero _)) (fun _ _ => rfl)
          refine ⟨J', d1, ?_⟩
          have ff : fK A i I J' := ⟨fun b b1 b2 b3 b4 b5 => d4 b b1 b3 b4 b5, d5, fun k hk => by rw [d4 _ (by omega) (by omega) (by omega) (by omega)], fun k hk => d6 k (by omega)⟩
          cases hbad : m_bad T (C.2.2 a) s
          · obtain ⟨f1, f2, f3⟩ := d3 hbad
            rw [if_neg (show ¬ false = true by decide)]
            refine ⟨f1, fun _ p' hp' => ?_, ff⟩
            obtain ⟨u1, u2, u3⟩ := hC p' hp'
            refine ⟨by rw [d4 _ (by omega) (by omega) (by omega) (by omega)]; exact u1, ?_, fun g => ?_⟩
            · show J' (A + 22) p' = b2i (nup C.2.1 a (C.2.1 a || m_chg T (C.2.2 a) s) p')
              by_cases e : p' = a
              · subst e; rw [nup_at]; exact f3
              · rw [nup_ne e, d7 p' e]; exact u2
            · show rSn J' (A + 17) (20 * (40 * i + p')) (nup C.2.2 a (m_jn T (C.2.2 a) s) p')
              by_cases e : p' = a
              · subst e; rw [nup_at]; exact f2
              · rw [nup_ne e]
                exact (u3 g).keptK (by have := (hCb p' hp' g).1; omega) (fun k k1 k2 => d6 k (by omega))
          · rw [if_pos rfl]
            exact ⟨d2 hbad, fun g => absurd g (by show ¬ 2 = 0; omega), ff⟩
        · rw [if_neg (nI_ne (by omega) (by omega) he), if_pos he, ob_mk (r_fails0 h24 4)]
          exact ⟨_, rfl, by rw [z_up_at]; rfl, fun g => absurd g (by show ¬ 4 = 0; omega), fun b b1 b2 b3 b4 b5 => by rw [z_up_off b1], fun k hk => by rw [z_up_ne (Or.inr hk)], fun k hk => by rw [z_up_off (by omega)], fun k hk => by rw [z_up_off (by omega)]⟩
    have eno : (decide (a ≤ p) && m_unm s) = false → ∃ I', z_X9_comes_46 F S A (nI a) I = some I' ∧ I' A 24 = nI (if (decide (a ≤ p) && m_unm s) = true then ((6 : Nat), C) else if C.1 a = false then ((0 : Nat), nup C.1 a true, nup C.2.1 a true, nup C.2.2 a s) else if (C.2.2 a).2.1 ≠ s.2.1 then (4, C) else if m_bad T (C.2.2 a) s = true then (2, C) else (0, C.1, nup C.2.1 a (C.2.1 a || m_chg T (C.2.2 a) s), nup C.2.2 a (m_jn T (C.2.2 a) s))).1 ∧ ((if (decide (a ≤ p) && m_unm s) = true then ((6 : Nat), C) else if C.1 a = false then ((0 : Nat), nup C.1 a true, nup C.2.1 a true, nup C.2.2 a s) else if (C.2.2 a).2.1 ≠ s.2.1 then (4, C) else if m_bad T (C.2.2 a) s = true then (2, C) else (0, C.1, nup C.2.1 a (C.2.1 a || m_chg T (C.2.2 a) s), nup C.2.2 a (m_jn T (C.2.2 a) s))).1 = 0 → rC I' A i n (if (decide (a ≤ p) && m_unm s) = true then ((6 : Nat), C) else if C.1 a = false then ((0 : Nat), nup C.1 a true, nup C.2.1 a true, nup C.2.2 a s) else if (C.2.2 a).2.1 ≠ s.2.1 then (4, C) else if m_bad T (C.2.2 a) s = true then (2, C) else (0, C.1, nup C.2.1 a (C.2.1 a || m_chg T (C.2.2 a) s), nup C.2.2 a (m_jn T (C.2.2 a) s))).2) ∧ fK A i I I' := fun hg => by
      rw [if_neg (show ¬ (decide (a ≤ p) && m_unm s) = true by rw [hg]; decide)]
      exact e46
    rcases hx with hx | ⟨hx, hu⟩
    · rw [if_pos hx]
      by_cases hpa : p < a
      · rw [if_pos ((nI_ltI (by omega) (by omega)).mpr hpa)]
        exact eno (by rw [decide_eq_false (show ¬ a ≤ p by omega)]; rfl)
      · rw [if_neg (fun d => hpa ((nI_ltI (by omega) (by omega)).mp d)), ob_mk hL.f23, ob_mk (r_hasUnm hF hL.n23 hs (by omega) bs)]
        cases hu : m_unm s
        · rw [if_pos (show b2i false = 0 from rfl)]
          rw [hu] at eno
          exact eno (by rw [Bool.and_false])
        · rw [if_neg (show ¬ b2i true = 0 by decide), decide_eq_true (show a ≤ p by omega), ob_mk (r_fails0 h24 6), if_pos (show (true && true) = true from rfl)]
          exact ⟨_, rfl, by rw [z_up_at]; rfl, fun g => absurd g (by show ¬ 6 = 0; omega), fun b b1 b2 b3 b4 b5 => by rw [z_up_off b1], fun k hk => by rw [z_up_ne (Or.inr hk)], fun k hk => by rw [z_up_off (by omega)], fun k hk => by rw [z_up_off (by omega)]⟩
    · rw [if_neg (show ¬ x = 0 by rw [hx]; decide)]
      exact eno (by rw [hu, Bool.and_false])
  · rw [if_neg (fun d => han ((nI_ltI (by omega) (by omega)).mp d)), if_pos han, ob_mk (r_fails0 h24 5)]
    exact ⟨_, rfl, by rw [z_up_at]; rfl, fun g => absurd g (by show ¬ 5 = 0; omega), fun b b1 b2 b3 b4 b5 => by rw [z_up_off b1], fun k hk => by rw [z_up_ne (Or.inr hk)], fun k hk => by rw [z_up_off (by omega)], fun k hk => by rw [z_up_off (by omega)]⟩
end RK
