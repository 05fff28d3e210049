/-! the class's object as it is made -/
def mT0 : mTr := (1, fun _ => 0, fun _ => false)
theorem cT.kp {S S' : zS} {I I' : zI} {t : Nat} {T : mTr} (h : cT S I t T) (e1 : S'.1 t = S.1 t) (e2 : S'.2.1 (t + 1) = S.2.1 (t + 1)) (e3 : S'.2.1 (t + 2) = S.2.1 (t + 2)) (f1 : I' t = I t) (f2 : I' (t + 1) = I (t + 1)) (f3 : I' (t + 2) = I (t + 2)) : cT S' I' t T := by
  obtain ⟨a1, a2, a3, a4, a5, a6, a7, a8⟩ := h
  exact ⟨by rw [e1]; exact a1, by rw [e1]; exact a2, by rw [e2]; exact a3, by rw [e3]; exact a4, by rw [f1]; exact a5, a6, by rw [f2]; exact a7, by rw [f3]; exact a8⟩
theorem i_X1 {F : Nat} {S : zS} {I : zI} {q : Nat} (h : S.2.2 = q + 1) : ∃ S' I', z_X1_init F S I q = some (S', I') ∧ S'.2.2 = q + 3 ∧ cT S' I' q mT0 ∧ (∀ b, b ≤ q → S'.2.1 b = S.2.1 b) ∧ (∀ b, b < q → S'.1 b = S.1 b ∧ I' b = I b) := by
  unfold z_X1_init zlet
  obtain ⟨a1, a2, a3, a4, a9, a5, a6, a7, a8⟩ := i_arr (S := S) (I := I) (c := 10) (n := 16) (a := q) (f := 0) (s := q + 1) h (by omega)
  dsimp only
  rw [h]
  generalize hS4 : z_upR (z_new S 10 16) q 0 (some (q + 1)) = S4 at a1 a2 a3 a4 a5 a6 a7 ⊢
  generalize hJ2 : z_newI S I = J2 at a8 a9 ⊢
  obtain ⟨b1, b2, b3, b4, b9, b5, b6, b7, b8⟩ := i_arr (S := S4) (I := J2) (c := 11) (n := 16) (a := q) (f := 1) (s := q + 2) a1 (by omega)
  rw [a1]
  show ∃ S' I', ob ((z_upR (z_new S4 11 16) q 1 (some (q + 2))).1 q 0) _ = _ ∧ _
  generalize hS8 : z_upR (z_new S4 11 16) q 1 (some (q + 2)) = S8 at b1 b2 b3 b4 b5 b6 b7 ⊢
  generalize hJ6 : z_newI S4 J2 = J6 at b8 b9 ⊢
  have e0 : S8.1 q 0 = some (q + 1) := by rw [b5 0 (by omega)]; exact a2
  have e16 : (S8.2.1 (q + 1)).2 = 16 := by rw [b7 _ (by omega)]; exact a3
  rw [ob_mk e0, e16, if_neg (show ¬ ((0 : Int32) < 0 ∨ 16 ≤ (0 : Int32).toNatClampNeg) from ni_in (x := 0) (by omega) (by omega))]
  refine ⟨_, _, rfl, b1, ⟨e0, b2, e16, b3, ?_, ⟨Nat.le_refl 1, by show 1 ≤ 16; omega, fun c c1 c2 => ?_, rfl⟩, fun c hc => ?_, fun c hc => ?_⟩, fun b hb => ?_, fun b hb => ⟨?_, ?_⟩⟩
  · rw [z_up_at]; rfl
  · have : c < 1 := c2
    omega
  · have h1 : c < 1 := hc
    have hc0 : c = 0 := by omega
    subst hc0
    refine ⟨1, ?_, by omega, fun b hb => ?_⟩
    · rw [z_up_off (by omega)]
      show z_up (z_up J6 q 2 0) (q + 1) 0 1 (q + 1) 0 = nI 1
      rw [z_up_at]; rfl
    · show Nat.testBit 1 b = decide (0 = b)
      by_cases g : b = 0
      · subst g; rfl
      · rw [decide_eq_false (fun e => g e.symm)]
        exact Nat.testBit_two_pow_of_ne (n := 0) (m := b) (fun e => g e.symm)
  · have h1 : c < 1 := hc
    rw [z_up_off (by omega), z_up_off (by omega), z_up_off (by omega), b9]; rfl
  · rw [b7 b (by omega), a7 b (by omega)]
  · rw [b6 b (by omega) (by omega), a6 b (by omega) (by omega)]
  · rw [z_up_off (by omega), z_up_off (by omega), z_up_off (by omega), b8 b (by omega), a8 b (by omega)]
/-- a method as it is made -/
def iM (S : zS) (I : zI) (B j : Nat) : Prop := cLm S B j ∧ (∀ k, S.1 (B + 5 + 6 * j + 1) k = none) ∧ (∀ k, S.1 (B + 5 + 6 * j + 2) k = none) ∧ (I (B + 5 + 6 * j) 3 = 0 ∧ I (B + 5 + 6 * j) 4 = 0 ∧ I (B + 5 + 6 * j) 5 = 4 ∧ I (B + 5 + 6 * j) 6 = 0 ∧ I (B + 5 + 6 * j) 7 = 0) ∧ cSn I (B + 5 + 6 * j + 3) mS0
def iQ (B i : Nat) (S : zS) (I : zI) : Prop := S.1 B 0 = some (B + 1) ∧ S.1 B 1 = some (B + 4) ∧ (S.2.1 (B + 4)).2 = 8 ∧ cT S I (B + 1) mT0 ∧ ∀ j, j < i → iM S I B j
theorem iQ.kept {B i : Nat} {S S' : zS} {I I' : zI} (h : iQ B i S I) (e0 : S'.1 B 0 = S.1 B 0) (e1 : S'.1 B 1 = S.1 B 1) (e4 : ∀ j, j < i → S'.1 (B + 4) j = S.1 (B + 4) j) (er : ∀ b, B < b → b < B + 5 + 6 * i → b ≠ B + 4 → S'.1 b = S.1 b) (ek : ∀ b, B < b → b < B + 5 + 6 * i → S'.2.1 b = S.2.1 b) (ei : ∀ b, B < b → b < B + 5 + 6 * i → I' b = I b) : iQ B i S' I' := by
  obtain ⟨h0, h1, h2, h3, h4⟩ := h
  refine ⟨by rw [e0]; exact h0, by rw [e1]; exact h1, by rw [ek _ (by omega) (by omega)]; exact h2, h3.kp (er _ (by omega) (by omega) (by omega)) (ek _ (by omega) (by omega)) (ek _ (by omega) (by omega)) (ei _ (by omega) (by omega)) (ei _ (by omega) (by omega)) (ei _ (by omega) (by omega)), fun j hj => ?_⟩
  obtain ⟨⟨m1, m2, m3, m4, m5, m6, m7⟩, n1, n2, n3, n4⟩ := h4 j hj
  refine ⟨⟨by rw [e4 j hj]; exact m1, ?_, ?_, ?_, ?_, ?_, ?_⟩, fun k => ?_, fun k => ?_, ?_, ?_⟩
  · rw [er _ (by omega) (by omega) (by omega)]; exact m2
  · rw [er _ (by omega) (by omega) (by omega)]; exact m3
  · rw [er _ (by omega) (by omega) (by omega)]; exact m4
  · rw [ek _ (by omega) (by omega)]; exact m5
  · rw [ek _ (by omega) (by omega)]; exact m6
  · exact m7.kept (er _ (by omega) (by omega) (by omega)) (ek _ (by omega) (by omega)) (ek _ (by omega) (by omega))
  · rw [er _ (by omega) (by omega) (by omega)]; exact n1 k
  · rw [er _ (by omega) (by omega) (by omega)]; exact n2 k
  · rw [ei _ (by omega) (by omega)]; exact n3
  · exact n4.kept (ei _ (by omega) (by omega)) (ei _ (by omega) (by omega)) (ei _ (by omega) (by omega))
theorem i_blk {F : Nat} {S : zS} {J : zI} {B i : Nat} {c : Int32} {α : Type} {k : zS → zS × zI → Option α} {G : Option α → Prop} (hi : i < 8) (hc : c = nI i) (hP : S.2.2 = B + 5 + 6 * i ∧ iQ B i S J) (h : ∀ S' q, S'.2.2 = B + 5 + 6 * (i + 1) ∧ iQ B (i + 1) S' q.2 → G (k S' q)) : G (ob (S.1 B 1) (fun r => zlet (z_new S 5 0) (fun S11 => zlet (z_newI S J) (fun J12 => ob (z_X5_init F S11 J12 (S.2.2)) (fun q14 => if c < 0 ∨ (q14.1.2.1 r).2 ≤ c.toNatClampNeg then none else (zlet (z_upR q14.1 r c.toNatClampNeg (some (S.2.2))) (fun S16 => k S16 q14))))))) := by
  obtain ⟨hs, hQ⟩ := hP
  obtain ⟨S14, I14, a1, a2, a3, a4, a5, a6, a7, a8, a9⟩ := i_X5 (F := F) (S := z_new S 5 0) (I := z_newI S J) (q := S.2.2) rfl
  rw [hs] at a2 a3 a4 a5 a6 a7 a8 a9
  have kk : ∀ b, b < B + 5 + 6 * i → S14.2.1 b = S.2.1 b := fun b hb => by rw [a8 b (by omega), zn2 (by omega)]
  have kr : ∀ b, b < B + 5 + 6 * i → S14.1 b = S.1 b := fun b hb => by rw [(a9 b hb).1, zn1 (by omega)]
  have ki : ∀ b, b < B + 5 + 6 * i → I14 b = J b := fun b hb => by rw [(a9 b hb).2, zn3 (by omega)]
  have e8 : (S14.2.1 (B + 4)).2 = 8 := by rw [kk _ (by omega)]; exact hQ.2.2.1
  unfold zlet
  dsimp only
  rw [ob_mk hQ.2.1, ob_mk a1]
  dsimp only
  rw [e8, hc, if_neg (ni_in hi (by omega)), nc (by omega)]
  refine h (z_upR S14 (B + 4) i (some S.2.2)) (S14, I14) ⟨?_, ?_⟩
  · show S14.2.2 = _
    rw [a2]; omega
  · have hQ' : iQ B i (z_upR S14 (B + 4) i (some S.2.2)) I14 := hQ.kept (by rw [zr1 (by omega), kr _ (by omega)]) (by rw [zr1 (by omega), kr _ (by omega)]) (fun j hj => by rw [zr_ne (by omega), kr _ (by omega)]) (fun b b1 b2 b3 => by rw [zr1 b3, kr b b2]) (fun b b1 b2 => kk b b2) (fun b b1 b2 => ki b b2)
    refine ⟨hQ'.1, hQ'.2.1, hQ'.2.2.1, hQ'.2.2.2.1, fun j hj => ?_⟩
    by_cases e : j = i
    · subst e
      obtain ⟨c1, c2, c3, c4, c5, c6⟩ := a3
      refine ⟨⟨by rw [zr_at, hs], by rw [zr1 (by omega)]; exact c1, by rw [zr1 (by omega)]; exact c2, by rw [zr1 (by omega)]; exact c3, c4, c5, c6.kept (by rw [zr1 (by omega)]) rfl rfl⟩, fun k => by rw [zr1 (by omega)]; exact a4 k, fun k => by rw [zr1 (by omega)]; exact a5 k, a6, a7⟩
    · exact hQ'.2.2.2.2 j (by omega)
/-- the class's object, its cells from B to B + 67 -/
def iC (S : zS) (I : zI) (B : Nat) : Prop := S.2.2 = B + 68 ∧ iQ B 8 S I ∧ cLc S B ∧ cLk S B ∧ S.1 B 2 = some (B + 54) ∧ S.1 B 3 = some (B + 61) ∧ I B 4 = 0
def iG (B : Nat) (o : Option (zS × zI)) : Prop := ∃ S' I', o = some (S', I') ∧ iC S' I' B
theorem i_X8t {F : Nat} {S65 : zS} {J63 : zI} {B : Nat} (P8 : S65.2.2 = B + 5 + 6 * (7 + 1) ∧ iQ B (7 + 1) S65 J63) : iG B (zlet (z_new S65 7 0) (fun S66 => zlet (z_newI S65 J63) (fun J67 => ob (S66.1 B 0) (fun r69 => ob (z_X7_init F S66 J67 (S65.2.2) r69) (fun q70 => zlet (z_new q70.1 2 0) (fun S71 => zlet (z_newI q70.1 (q70.2)) (fun J72 => ob (S71.1 B 0) (fun r74 => ob (z_X2_init F S71 J72 (q70.1.2.2) r74 (S65.2.2)) (fun q75 => zlet (z_upR q75.1 B 2 (some (q70.1.2.2))) (fun S76 => zlet (z_new S76 4 0) (fun S77 => zlet (z_newI S76 (q75.2)) (fun J78 => ob (S77.1 B 0) (fun r80 => ob (z_X4_init F S77 J78 (S76.2.2) r80 (S65.2.2)) (fun q81 => zlet (z_upR q81.1 B 3 (some (S76.2.2))) (fun S82 => zlet (z_up (q81.2) B 4 0) (fun J83 => some (S82, J83))))))))))))))))) := by
  obtain ⟨s65, Q8⟩ := P8
  have s65' : S65.2.2 = B + 53 := by rw [s65]
  unfold zlet
  dsimp only
  rw [s65']
  have n0 : (z_new S65 7 0).1 B 0 = some (B + 1) := by rw [zn1 (by omega)]; exact Q8.1
  rw [ob_mk n0]
  unfold z_X7_init zlet
  rw [ob_mk rfl]
  dsimp only
  generalize hS70 : z_upR (z_new S65 7 0) (B + 53) 0 (some (B + 1)) = S70
  generalize hJ67 : z_newI S65 J63 = J67
  have s70 : S70.2.2 = B + 54 := by rw [← hS70]; show S65.2.2 + 1 = _; omega
  have r70 : ∀ b, b < B + 53 → S70.1 b = S65.1 b := fun b hb => by rw [← hS70, zr1 (by omega), zn1 (by omega)]
  have k70 : ∀ b, b < B + 53 → S70.2.1 b = S65.2.1 b := fun b hb => by rw [← hS70]; show (z_new S65 7 0).2.1 b = _; rw [zn2 (by omega)]
  have i70 : ∀ b, b < B + 53 → J67 b = J63 b := fun b hb => by rw [← hJ67, zn3 (by omega)]
  have w70 : S70.1 (B + 53) 0 = some (B + 1) := by rw [← hS70, zr_at]
  rw [s70]
  have n1 : (z_new S70 2 0).1 B 0 = some (B + 1) := by rw [zn1 (by omega), r70 _ (by omega)]; exact Q8.1
  rw [ob_mk n1]
  obtain ⟨S75, J75, d1, d2, d3, d4, d5, d6, d7, d8, d9, d10⟩ := i_X2 (F := F) (S := z_new S70 2 0) (I := z_newI S70 J67) (q := B + 54) (x1 := B + 1) (x2 := B + 53) (by show _ = S70.2.2 + 1; omega)
  rw [ob_mk d1]
  dsimp only
  generalize hS76 : z_upR S75 B 2 (some (B + 54)) = S76
  have s76 : S76.2.2 = B + 61 := by rw [← hS76]; exact d2
  have r76 : ∀ b, b < B + 61 → b ≠ B → S76.1 b = S75.1 b := fun b hb h => by rw [← hS76, zr1 h]
  have r75 : ∀ b, b < B + 54 → S75.1 b = S70.1 b := fun b hb => by rw [(d10 b hb).1, zn1 (by omega)]
  have k75 : ∀ b, b < B + 54 → S75.2.1 b = S70.2.1 b := fun b hb => by rw [d9 b (by omega), zn2 (by omega)]
  have i75 : ∀ b, b < B + 54 → J75 b = J67 b := fun b hb => by rw [(d10 b hb).2, zn3 (by omega)]
  rw [s76]
  have n2 : (z_new S76 4 0).1 B 0 = some (B + 1) := by rw [zn1 (by omega), ← hS76, zr_ne (by omega), r75 _ (by omega), r70 _ (by omega)]; exact Q8.1
  rw [ob_mk n2]
  obtain ⟨S81, J81, f1, f2, f3, f4, f5, f6, f7, f8, f9, f10⟩ := i_X4 (F := F) (S := z_new S76 4 0) (I := z_newI S76 J75) (q := B + 61) (x1 := B + 1) (x2 := B + 53) (by show _ = S76.2.2 + 1; omega)
  rw [ob_mk f1]
  dsimp only
  have r81 : ∀ b, b < B + 61 → S81.1 b = S76.1 b := fun b hb => by rw [(f10 b hb).1, zn1 (by omega)]
  have k81 : ∀ b, b < B + 61 → S81.2.1 b = S75.2.1 b := fun b hb => by rw [f9 b (by omega), zn2 (by omega), ← hS76]; rfl
  have i81 : ∀ b, b < B + 61 → J81 b = J75 b := fun b hb => by rw [(f10 b hb).2, zn3 (by omega)]
  have R : ∀ b, B < b → b < B + 54 → (z_upR S81 B 3 (some (B + 61))).1 b = S70.1 b := fun b h1 h2 => by rw [zr1 (by omega), r81 b (by omega), r76 b (by omega) (by omega), r75 b h2]
  have R2 : ∀ b, B + 54 ≤ b → b < B + 61 → (z_upR S81 B 3 (some (B + 61))).1 b = S75.1 b := fun b h1 h2 => by rw [zr1 (by omega), r81 b (by omega), r76 b (by omega) (by omega)]
  refine ⟨_, _, rfl, f2, ?_, ⟨?_, ?_, ?_, ?_, ?_, ?_, ?_⟩, ⟨?_, ?_, ?_, ?_, ?_, ?_⟩, ?_, ?_, ?_⟩
  · refine Q8.kept ?_ ?_ (fun j hj => ?_) (fun b b1 b2 b3 => ?_) (fun b b1 b2 => ?_) (fun b b1 b2 => ?_)
    · rw [zr_ne (by omega), r81 _ (by omega), ← hS76, zr_ne (by omega), r75 _ (by omega), r70 _ (by omega)]
    · rw [zr_ne (by omega), r81 _ (by omega), ← hS76, zr_ne (by omega), r75 _ (by omega), r70 _ (by omega)]
    · rw [R _ (by omega) (by omega), r70 _ (by omega)]
    · rw [R _ (by omega) (by omega), r70 _ (by omega)]
    · show S81.2.1 b = _
      rw [k81 _ (by omega), k75 _ (by omega), k70 _ (by omega)]
    · rw [z_up_off (by omega), i81 _ (by omega), i75 _ (by omega), i70 _ (by omega)]
  · rw [R _ (by omega) (by omega)]; exact w70
  · rw [R2 _ (by omega) (by omega)]; exact d3
  · rw [R2 _ (by omega) (by omega)]; exact d4
  · rw [R2 _ (by omega) (by omega)]; exact d5
  · rw [R2 _ (by omega) (by omega)]; exact d6
  · exact d7.kept (R2 _ (by omega) (by omega)) (k81 _ (by omega)) (k81 _ (by omega))
  · exact d8.kept (R2 _ (by omega) (by omega)) (k81 _ (by omega)) (k81 _ (by omega))
  · rw [zr1 (by omega)]; exact f3
  · rw [zr1 (by omega)]; exact f4
  · rw [zr1 (by omega)]; exact f5
  · rw [zr1 (by omega)]; exact f6
  · exact f7.kept (by rw [zr1 (by omega)]) rfl rfl
  · exact f8.kept (by rw [zr1 (by omega)]) rfl rfl
  · rw [zr_ne (by omega), r81 _ (by omega), ← hS76, zr_at]
  · rw [zr_at]
  · rw [z_up_at]
theorem zlQ {α β : Type} {G : Option β → Prop} {v : α} {k : α → Option β} (P : α → Prop) (hv : P v) (h : ∀ y, P y → G (k y)) : G (zlet v k) := h v hv
/-- what a new array at s, put into the field f of a, brings -/
def iA (S S' : zS) (I I' : zI) (n a f s : Nat) : Prop := S'.2.2 = s + 1 ∧ S'.1 a f = some s ∧ (S'.2.1 s).2 = n ∧ (∀ k, S'.1 s k = none) ∧ (∀ k, I' s k = 0) ∧ (∀ k, k ≠ f → S'.1 a k = S.1 a k) ∧ (∀ b, b < s → b ≠ a → S'.1 b = S.1 b) ∧ (∀ b, b < s → S'.2.1 b = S.2.1 b) ∧ (∀ b, b < s → I' b = I b)
theorem i_arrQ {S : zS} {I : zI} {c n a f s : Nat} {α : Type} {G : Option α → Prop} {k : zS → zI → Option α} (hs : S.2.2 = s) (ha : a < s) (h : ∀ S' I', iA S S' I I' n a f s → G (k S' I')) : G (zlet (z_new S c n) (fun S1 => zlet (z_newI S I) (fun J => zlet (z_upR S1 a f (some (S.2.2))) (fun S2 => k S2 J)))) := by
  subst hs
  exact h _ _ (i_arr rfl ha)
theorem i_X1Q {F : Nat} {S : zS} {I : zI} {B : Nat} {α : Type} {G : Option α → Prop} {k : zS × zI → Option α} (hs : S.2.2 = B + 1) (h : ∀ q : zS × zI, q.1.2.2 = B + 4 → cT q.1 q.2 (B + 1) mT0 → G (k q)) : G (zlet (z_new S 1 0) (fun S1 => zlet (z_newI S I) (fun J2 => ob (z_X1_init F S1 J2 (S.2.2)) k))) := by
  obtain ⟨S4, I4, a1, a2, a3, a4, a5⟩ := i_X1 (F := F) (S := z_new S 1 0) (I := z_newI S I) (q := S.2.2) rfl
  unfold zlet
  dsimp only
  rw [ob_mk a1]
  rw [hs] at a2 a3
  exact h (S4, I4) a2 a3
theorem i_X8 {F : Nat} {S : zS} {I : zI} {B : Nat} (h : S.2.2 = B + 1) : iG B (z_X8_init F S I B) := by
  unfold z_X8_init
  refine i_X1Q (G := iG B) h (fun q4 a2 a3 => ?_)
  refine zlQ (G := iG B) (fun S5 => S5.2.2 = B + 4 ∧ S5.1 B 0 = some (B + 1) ∧ cT S5 q4.2 (B + 1) mT0) ⟨a2, by rw [zr_at, h], a3.kp (zr1 (by omega)) rfl rfl rfl rfl rfl⟩ (fun S5 h5 => ?_)
  refine i_arrQ (G := iG B) (s := B + 4) h5.1 (by omega) (fun S9 J7 hb => ?_)
  obtain ⟨b1, b2, b3, b4, b9, b5, b6, b7, b8⟩ := hb
  have P0 : S9.2.2 = B + 5 + 6 * 0 ∧ iQ B 0 S9 J7 := by
    refine ⟨by rw [b1], ?_, b2, b3, ?_, fun j hj => absurd hj (Nat.not_lt_zero _)⟩
    · rw [b5 0 (by omega)]; exact h5.2.1
    · exact h5.2.2.kp (b6 _ (by omega) (by omega)) (b7 _ (by omega)) (b7 _ (by omega)) (b8 _ (by omega)) (b8 _ (by omega)) (b8 _ (by omega))
  refine i_blk (G := iG B) (i := 0) (by omega) rfl P0 (fun S16 q14 P1 => ?_)
  refine i_blk (G := iG B) (i := 1) (by omega) rfl P1 (fun S23 q21 P2 => ?_)
  refine i_blk (G := iG B) (i := 2) (by omega) rfl P2 (fun S30 q28 P3 => ?_)
  refine i_blk (G := iG B) (i := 3) (by omega) rfl P3 (fun S37 q35 P4 => ?_)
  refine i_blk (G := iG B) (i := 4) (by omega) rfl P4 (fun S44 q42 P5 => ?_)
  refine i_blk (G := iG B) (i := 5) (by omega) rfl P5 (fun S51 q49 P6 => ?_)
  refine i_blk (G := iG B) (i := 6) (by omega) rfl P6 (fun S58 q56 P7 => ?_)
  refine i_blk (G := iG B) (i := 7) (by omega) rfl P7 (fun S65 q63 P8 => ?_)
  exact i_X8t P8
def mX0 : mM := ((4, 0, mS0), (0, fun _ => (0, 0, 0)), (0, fun _ => (0, 0, 0, 0)), false, (0, 0, (fun _ => false, fun _ => false, fun _ => mS0)), (fun _ => false, fun _ => mS0))
theorem iC.toAll {S S' : zS} {I I' : zI} {B : Nat} (h : iC S I B) (er : ∀ b, b < B + 68 → S'.1 b = S.1 b) (ek : ∀ b, b < B + 68 → S'.2.1 b = S.2.1 b) (ei : ∀ b, b < B + 68 → I' b = I b) (hs : B + 94 ≤ S'.2.2) : cAll S' I' B mT0 (fun _ => mX0) 0 := by
  obtain ⟨h1, h2, ⟨c1, c2, c3, c4, c5, c6, c7⟩, ⟨d1, d2, d3, d4, d5, d6⟩, h5, h6, h7⟩ := h
  have hq := h2.kept (S' := S') (I' := I') (by rw [er _ (by omega)]) (by rw [er _ (by omega)]) (fun j hj => by rw [er _ (by omega)]) (fun b b1 b2 b3 => er b (by omega)) (fun b b1 b2 => ek b (by omega)) (fun b b1 b2 => ei b (by omega))
  have hnone : ∀ i k, i < 8 → cRf S' B i k = none := fun i k hi => by
    unfold cRf
    split
    · exact (hq.2.2.2.2 i hi).2.1 k
    · exact (hq.2.2.2.2 i hi).2.2.1 _
  refine ⟨⟨⟨by rw [er _ (by omega)]; exact c1, by rw [er _ (by omega)]; exact c2, by rw [er _ (by omega)]; exact c3, by rw [er _ (by omega)]; exact c4, by rw [er _ (by omega)]; exact c5, c6.kept (er _ (by omega)) (ek _ (by omega)) (ek _ (by omega)), c7.kept (er _ (by omega)) (ek _ (by omega)) (ek _ (by omega))⟩, ⟨by rw [er _ (by omega)]; exact d1, by rw [er _ (by omega)]; exact d2, by rw [er _ (by omega)]; exact d3, by rw [er _ (by omega)]; exact d4, d5.kept (er _ (by omega)) (ek _ (by omega)) (ek _ (by omega)), d6.kept (er _ (by omega)) (ek _ (by omega)) (ek _ (by omega))⟩, ⟨hq.1, hq.2.1, by rw [er _ (by omega)]; exact h5, by rw [er _ (by omega)]; exact h6, hq.2.2.1⟩, fun i hi => (hq.2.2.2.2 i hi).1, fun i k q hi hk e => ?_, fun i k i' k' q q' hi hk hi' hk' e => ?_, hs⟩, hq.2.2.2.1, fun i hi => ?_, ?_, by omega⟩
  · rw [hnone i k hi] at e; cases e
  · rw [hnone i k hi] at e; cases e
  · obtain ⟨m1, m2, m3, ⟨n1, n2, n3, n4, n5⟩, m5⟩ := hq.2.2.2.2 i hi
    exact ⟨⟨n1, n2, n3, n4, n5⟩, fun p hp => absurd hp (Nat.not_lt_zero _), fun p hp => absurd hp (Nat.not_lt_zero _), m5, fun g => absurd g (by show ¬ false = true; decide)⟩
  · rw [ei _ (by omega), h7]; rfl
