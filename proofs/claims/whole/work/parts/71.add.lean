/-! the calls that make objects, plant and cls: class side -/
theorem cOK.kept {S S' : zS} {a : Nat} (h : cOK S a) (e0 : S'.1 a = S.1 a) (e1 : S'.2.1 (a + 1) = S.2.1 (a + 1)) (e2 : S'.2.1 (a + 2) = S.2.1 (a + 2)) : cOK S' a := ⟨by rw [e0]; exact h.1, by rw [e0]; exact h.2.1, by rw [e1]; exact h.2.2.1, by rw [e2]; exact h.2.2.2⟩
theorem i_X6 {F : Nat} {S : zS} {I : zI} {a : Nat} (h : a + 1 = S.2.2) : ∃ S' I', z_X6_init F S I a = some (S', I') ∧ S'.2.2 = S.2.2 + 2 ∧ cOK S' a ∧ (∀ b, b ≤ a → S'.2.1 b = S.2.1 b) ∧ (∀ b, b < a → S'.1 b = S.1 b ∧ I' b = I b) ∧ cSn I' a (fun _ => 0, 0, fun _ => 0) := by
  refine ⟨_, _, rfl, rfl, ⟨?_, ?_, ?_, ?_⟩, fun b hb => ?_, fun b hb => ⟨?_, ?_⟩, ⟨fun x hx => ⟨?_, by show 0 < 200; omega⟩, ?_, by show 0 ≤ 10; omega, fun j hj => absurd hj (Nat.not_lt_zero _)⟩⟩
  · show (if a = a ∧ 0 = 1 then _ else if a = S.2.2 + 1 then _ else if a = a ∧ 0 = 0 then some S.2.2 else _) = _
    rw [if_neg (by omega), if_neg (by omega), if_pos ⟨rfl, rfl⟩, h]
  · show (if a = a ∧ 1 = 1 then some (S.2.2 + 1) else _) = _
    rw [if_pos ⟨rfl, rfl⟩, ← h]
  · show (if a + 1 = S.2.2 + 1 then _ else if a + 1 = S.2.2 then (10, 8) else _ : Nat × Nat).2 = 8
    rw [if_neg (by omega), if_pos h]
  · show (if a + 2 = S.2.2 + 1 then (10, 10) else _ : Nat × Nat).2 = 10
    rw [if_pos (by omega)]
  · show (if b = S.2.2 + 1 then _ else if b = S.2.2 then _ else S.2.1 b) = _
    rw [if_neg (by omega), if_neg (by omega)]
  · funext k
    show (if b = a ∧ k = 1 then _ else if b = S.2.2 + 1 then _ else if b = a ∧ k = 0 then _ else if b = S.2.2 then _ else S.1 b k) = _
    rw [if_neg (by omega), if_neg (by omega), if_neg (by omega), if_neg (by omega)]
  · funext k
    show (if b = a ∧ k = 2 then _ else if b = S.2.2 + 1 then _ else if b = S.2.2 then _ else I b k) = _
    rw [if_neg (by omega), if_neg (by omega), if_neg (by omega)]
  · show (if a + 1 = a ∧ x = 2 then _ else if a + 1 = S.2.2 + 1 then _ else if a + 1 = S.2.2 then 0 else _) = nI 0
    rw [if_neg (by omega), if_neg (by omega), if_pos h]; rfl
  · show (if a = a ∧ 2 = 2 then 0 else _) = nI 0
    rw [if_pos ⟨rfl, rfl⟩]; rfl
theorem zn1 {S : zS} {c n b : Nat} (h : b ≠ S.2.2) : (z_new S c n).1 b = S.1 b := by funext k; show (if b = S.2.2 then _ else _) = _; rw [if_neg h]
theorem zn2 {S : zS} {c n b : Nat} (h : b ≠ S.2.2) : (z_new S c n).2.1 b = S.2.1 b := by show (if b = S.2.2 then _ else _) = _; rw [if_neg h]
theorem zn3 {S : zS} {I : zI} {b : Nat} (h : b ≠ S.2.2) : z_newI S I b = I b := by funext k; show (if b = S.2.2 then _ else _) = _; rw [if_neg h]
theorem zr1 {S : zS} {a k b : Nat} {x : Option Nat} (h : b ≠ a) : (z_upR S a k x).1 b = S.1 b := by funext j; show (if b = a ∧ j = k then _ else _) = _; rw [if_neg (fun g => h g.1)]
theorem zr_at {S : zS} {a k : Nat} {x : Option Nat} : (z_upR S a k x).1 a k = x := by show (if a = a ∧ k = k then _ else _) = _; rw [if_pos ⟨rfl, rfl⟩]
theorem zr_ne {S : zS} {a k j : Nat} {x : Option Nat} (h : j ≠ k) : (z_upR S a k x).1 a j = S.1 a j := by show (if a = a ∧ j = k then _ else _) = _; rw [if_neg (fun g => h g.2)]
theorem i_X0 {F : Nat} {S : zS} {I : zI} {q : Nat} (h : q + 1 = S.2.2) : ∃ S' I', z_X0_init F S I q = some (S', I') ∧ S'.2.2 = q + 7 ∧ S'.1 q 6 = some (q + 1) ∧ S'.1 q 7 = some (q + 4) ∧ cOK S' (q + 1) ∧ cOK S' (q + 4) ∧ (∀ b, b ≤ q → S'.2.1 b = S.2.1 b) ∧ (∀ b, b < q → S'.1 b = S.1 b ∧ I' b = I b) := by
  obtain ⟨S4, I4, a1, a2, a3, a4, a5, _⟩ := i_X6 (F := F) (S := z_new S 6 0) (I := z_newI S I) (a := S.2.2) rfl
  have a2' : S4.2.2 = q + 4 := by rw [a2]; show S.2.2 + 1 + 2 = q + 4; omega
  generalize hS5 : z_upR S4 q 6 (some S.2.2) = S5
  have b5 : S5.2.2 = q + 4 := by rw [← hS5]; exact a2'
  obtain ⟨S9, I9, b1, b2, b3, b4, b6, _⟩ := i_X6 (F := F) (S := z_new S5 6 0) (I := z_newI S5 I4) (a := S5.2.2) rfl
  have e0 : z_X0_init F S I q = some (z_upR S9 q 7 (some S5.2.2), I9) := by
    unfold z_X0_init zlet
    dsimp only
    rw [ob_mk a1]
    dsimp only
    rw [hS5, ob_mk b1]
  rw [b5] at b3 b4 b6
  have hsz : (z_new S5 6 0).2.2 = q + 5 := by show S5.2.2 + 1 = q + 5; omega
  have lk : ∀ b, b < q + 4 → b ≠ q → S9.1 b = S4.1 b := fun b hb hq => by rw [(b6 b hb).1, zn1 (by omega), ← hS5, zr1 hq]
  have lq : ∀ k, k ≠ 6 → S9.1 q k = S4.1 q k := fun k hk => by rw [(b6 q (by omega)).1, zn1 (by omega), ← hS5, zr_ne hk]
  have lq6 : S9.1 q 6 = some (q + 1) := by rw [(b6 q (by omega)).1, zn1 (by omega), ← hS5, zr_at, h]
  have kd : ∀ b, b < q + 4 → S9.2.1 b = S4.2.1 b := fun b hb => by
    rw [b4 b (by omega), zn2 (by omega), ← hS5]; rfl
  refine ⟨_, _, e0, ?_, ?_, ?_, ?_, ?_, fun b hb => ?_, fun b hb => ⟨?_, ?_⟩⟩
  · show S9.2.2 = q + 7
    rw [b2, hsz]
  · rw [zr_ne (by omega)]; exact lq6
  · rw [zr_at, b5]
  · rw [← h] at a3
    exact a3.kept (by rw [zr1 (by omega)]; exact lk _ (by omega) (by omega)) (kd _ (by omega)) (kd _ (by omega))
  · exact b3.kept (by rw [zr1 (by omega)]) rfl rfl
  · show S9.2.1 b = S.2.1 b
    rw [kd b (by omega), a4 b (by omega), zn2 (by omega)]
  · rw [zr1 (by omega), lk b (by omega) (by omega), (a5 b (by omega)).1, zn1 (by omega)]
  · show I9 b = I b
    rw [(b6 b (by omega)).2, zn3 (by omega), (a5 b (by omega)).2, zn3 (by omega)]
theorem cLay.add {S S' : zS} {B i k A : Nat} (hL : cLay S B) (hi : i < 8) (hk : k < 44) (hA : A = B + 5 + 6 * i + 1 ∨ A = B + 5 + 6 * i + 2) (hsz : S'.2.2 = S.2.2 + cSz k) (e1 : ∀ b, b < S.2.2 → S'.2.1 b = S.2.1 b) (e2 : ∀ b, b < S.2.2 → b ≠ A → S'.1 b = S.1 b) (e3 : ∀ i' k', i' < 8 → k' < 44 → (i' ≠ i ∨ k' ≠ k) → cRf S' B i' k' = cRf S B i' k') (e4 : cRf S' B i k = some S.2.2) (hact : k < 40 → S'.1 S.2.2 6 = some (S.2.2 + 1) ∧ S'.1 S.2.2 7 = some (S.2.2 + 4) ∧ cOK S' (S.2.2 + 1) ∧ cOK S' (S.2.2 + 4)) : cLay S' B := by
  obtain ⟨⟨c1, c2, c3, c4, c5, c6, c7⟩, ⟨d1, d2, d3, d4, d5, d6⟩, ⟨x0, x1, x2, x3, x4⟩, l4, l5, l6, l7⟩ := hL
  have ok : ∀ a, cOK S a → a + 3 ≤ S.2.2 → a ≠ A → cOK S' a := fun a h h1 h2 => h.kept (e2 a (by omega) h2) (e1 _ (by omega)) (e1 _ (by omega))
  have r : ∀ b, b < B + 94 → b ≠ A → S'.1 b = S.1 b := fun b hb h => e2 b (by omega) h
  have hs1 : ∀ k, 1 ≤ cSz k := fun k => by unfold cSz; split <;> omega
  refine ⟨⟨by rw [r _ (by omega) (by omega)]; exact c1, by rw [r _ (by omega) (by omega)]; exact c2, by rw [r _ (by omega) (by omega)]; exact c3, by rw [r _ (by omega) (by omega)]; exact c4, by rw [r _ (by omega) (by omega)]; exact c5, ok _ c6 (by omega) (by omega), ok _ c7 (by omega) (by omega)⟩, ⟨by rw [r _ (by omega) (by omega)]; exact d1, by rw [r _ (by omega) (by omega)]; exact d2, by rw [r _ (by omega) (by omega)]; exact d3, by rw [r _ (by omega) (by omega)]; exact d4, ok _ d5 (by omega) (by omega), ok _ d6 (by omega) (by omega)⟩, ⟨by rw [r _ (by omega) (by omega)]; exact x0, by rw [r _ (by omega) (by omega)]; exact x1, by rw [r _ (by omega) (by omega)]; exact x2, by rw [r _ (by omega) (by omega)]; exact x3, by rw [e1 _ (by omega)]; exact x4⟩, fun j hj => ?_, fun i' k' q hi' hk' e => ?_, fun i1 k1 i2 k2 q1 q2 h1 h2 h3 h4 f1 f2 hne => ?_, by rw [hsz]; omega⟩
  · obtain ⟨m1, m2, m3, m4, m5, m6, m7⟩ := l4 j hj
    exact ⟨by rw [r _ (by omega) (by omega)]; exact m1, by rw [r _ (by omega) (by omega)]; exact m2, by rw [r _ (by omega) (by omega)]; exact m3, by rw [r _ (by omega) (by omega)]; exact m4, by rw [e1 _ (by omega)]; exact m5, by rw [e1 _ (by omega)]; exact m6, ok _ m7 (by omega) (by omega)⟩
  · by_cases g : i' = i ∧ k' = k
    · obtain ⟨rfl, rfl⟩ := g
      have eq : S.2.2 = q := Option.some.inj (e4.symm.trans e)
      subst eq
      exact ⟨l7, by rw [hsz]; exact Nat.le_refl _, hact⟩
    · rw [e3 i' k' hi' hk' (by omega)] at e
      obtain ⟨p1, p2, p3⟩ := l5 i' k' q hi' hk' e
      refine ⟨p1, by rw [hsz]; omega, fun h40 => ?_⟩
      obtain ⟨t1, t2, t3, t4⟩ := p3 h40
      have h7 : cSz k' = 7 := by unfold cSz; rw [if_pos h40]
      rw [e2 q (by omega) (by omega)]
      exact ⟨t1, t2, ok _ t3 (by omega) (by omega), ok _ t4 (by omega) (by omega)⟩
  · by_cases g1 : i1 = i ∧ k1 = k
    · obtain ⟨rfl, rfl⟩ := g1
      have eq : S.2.2 = q1 := Option.some.inj (e4.symm.trans f1)
      rw [e3 i2 k2 h3 h4 (by omega)] at f2
      have := (l5 i2 k2 q2 h3 h4 f2).2.1
      omega
    · rw [e3 i1 k1 h1 h2 (by omega)] at f1
      by_cases g2 : i2 = i ∧ k2 = k
      · obtain ⟨rfl, rfl⟩ := g2
        have eq : S.2.2 = q2 := Option.some.inj (e4.symm.trans f2)
        have := (l5 i1 k1 q1 h1 h2 f1).2.1
        omega
      · rw [e3 i2 k2 h3 h4 (by omega)] at f2
        exact l6 i1 k1 i2 k2 q1 q2 h1 h2 h3 h4 f1 f2 hne
/-- what a call that may make an object leaves of the reference's cells -/
def fZ (B : Nat) (S S' : zS) : Prop := ∀ b, B + 68 ≤ b → b < B + 94 → S'.1 b = S.1 b ∧ S'.2.1 b = S.2.1 b
abbrev m_kok (T : mTr) (k x y : Int32) : Prop := (¬ k < 0 ∧ k < 21) ∧ ((k = 3 ∨ k = 4 ∨ k = 20) → ¬ x < 0 ∧ x < 8) ∧ (((¬ k < 9 ∧ k < 14) ∨ k = 18 ∨ k = 19) → ¬ x < 0 ∧ x < nI T.1) ∧ ((¬ k < 14 ∧ k < 17) → ¬ x < 0 ∧ x < 40) ∧ (k = 16 → ¬ y < x ∧ y < 40)
