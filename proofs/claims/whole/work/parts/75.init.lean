/-! the constructors' facts: class side -/
theorem i_two {F : Nat} {S : zS} {I : zI} {q f1 f2 : Nat} {α : Type} {k : zS → zI → Option α} (hf : f1 ≠ f2) (h : q + 1 = S.2.2) : ∃ S' I', (zlet (z_new S 6 0) (fun S1 => zlet (z_newI S I) (fun J2 => ob (z_X6_init F S1 J2 (S.2.2)) (fun q4 => zlet (z_upR q4.1 q f1 (some (S.2.2))) (fun S5 => zlet (z_new S5 6 0) (fun S6 => zlet (z_newI S5 (q4.2)) (fun J7 => ob (z_X6_init F S6 J7 (S5.2.2)) (fun q9 => zlet (z_upR q9.1 q f2 (some (S5.2.2))) (fun S10 => k S10 q9.2))))))))) = k S' I' ∧ S'.2.2 = q + 7 ∧ S'.1 q f1 = some (q + 1) ∧ S'.1 q f2 = some (q + 4) ∧ cOK S' (q + 1) ∧ cOK S' (q + 4) ∧ (∀ b, b ≤ q → S'.2.1 b = S.2.1 b) ∧ (∀ b, b < q → S'.1 b = S.1 b ∧ I' b = I b) := by
  obtain ⟨S4, I4, a1, a2, a3, a4, a5, _⟩ := i_X6 (F := F) (S := z_new S 6 0) (I := z_newI S I) (a := S.2.2) rfl
  have a2' : S4.2.2 = q + 4 := by rw [a2]; show S.2.2 + 1 + 2 = q + 4; omega
  generalize hS5 : z_upR S4 q f1 (some S.2.2) = S5
  have b5 : S5.2.2 = q + 4 := by rw [← hS5]; exact a2'
  obtain ⟨S9, I9, b1, b2, b3, b4, b6, _⟩ := i_X6 (F := F) (S := z_new S5 6 0) (I := z_newI S5 I4) (a := S5.2.2) rfl
  have hsz : (z_new S5 6 0).2.2 = q + 5 := by show S5.2.2 + 1 = q + 5; omega
  rw [hsz] at b2
  refine ⟨z_upR S9 q f2 (some S5.2.2), I9, ?_, ?_⟩
  · unfold zlet
    dsimp only
    rw [ob_mk a1]
    dsimp only
    rw [hS5, ob_mk b1]
  rw [b5] at b3 b4 b6
  have lk : ∀ b, b < q + 4 → b ≠ q → S9.1 b = S4.1 b := fun b hb hq => by rw [(b6 b hb).1, zn1 (by omega), ← hS5, zr1 hq]
  have lq6 : S9.1 q f1 = some (q + 1) := by rw [(b6 q (by omega)).1, zn1 (by omega), ← hS5, zr_at, h]
  have kd : ∀ b, b < q + 4 → S9.2.1 b = S4.2.1 b := fun b hb => by
    rw [b4 b (by omega), zn2 (by omega), ← hS5]; rfl
  refine ⟨?_, ?_, ?_, ?_, ?_, fun b hb => ?_, fun b hb => ⟨?_, ?_⟩⟩
  · show S9.2.2 = q + 7
    rw [b2]
  · rw [zr_ne hf]; exact lq6
  · rw [zr_at, b5]
  · rw [← h] at a3
    exact a3.kept (by rw [zr1 (by omega)]; exact lk _ (by omega) (by omega)) (kd _ (by omega)) (kd _ (by omega))
  · exact b3.kept (by rw [zr1 (by omega)]) rfl rfl
  · show S9.2.1 b = S.2.1 b
    rw [kd b (by omega), a4 b (by omega), zn2 (by omega)]
  · rw [zr1 (by omega), lk b (by omega) (by omega), (a5 b (by omega)).1, zn1 (by omega)]
  · show I9 b = I b
    rw [(b6 b (by omega)).2, zn3 (by omega), (a5 b (by omega)).2, zn3 (by omega)]
theorem i_X2 {F : Nat} {S : zS} {I : zI} {q x1 x2 : Nat} (h : q + 1 = S.2.2) : ∃ S' I', z_X2_init F S I q x1 x2 = some (S', I') ∧ S'.2.2 = q + 7 ∧ S'.1 q 0 = some x1 ∧ S'.1 q 1 = some x2 ∧ S'.1 q 2 = some (q + 1) ∧ S'.1 q 3 = some (q + 4) ∧ cOK S' (q + 1) ∧ cOK S' (q + 4) ∧ (∀ b, b ≤ q → S'.2.1 b = S.2.1 b) ∧ (∀ b, b < q → S'.1 b = S.1 b ∧ I' b = I b) := by
  unfold z_X2_init
  obtain ⟨S1, I1, e, c1, c2, c3, c4, c5, c6, c7⟩ := i_two (F := F) (S := S) (I := I) (q := q) (f1 := 2) (f2 := 3) (k := fun S10 q9 => zlet (z_up q9 q 4 0) (fun J11 => zlet (z_upR S10 q 0 (some x1)) (fun S12 => zlet (z_upR S12 q 1 (some x2)) (fun S13 => some (S13, J11))))) (by omega) h
  refine ⟨z_upR (z_upR S1 q 0 (some x1)) q 1 (some x2), z_up I1 q 4 0, e, c1, ?_, ?_, ?_, ?_, ?_, ?_, c6, fun b hb => ⟨?_, ?_⟩⟩
  · rw [zr_ne (by omega), zr_at]
  · rw [zr_at]
  · rw [zr_ne (by omega), zr_ne (by omega)]; exact c2
  · rw [zr_ne (by omega), zr_ne (by omega)]; exact c3
  · exact c4.kept (by rw [zr1 (by omega), zr1 (by omega)]) rfl rfl
  · exact c5.kept (by rw [zr1 (by omega), zr1 (by omega)]) rfl rfl
  · rw [zr1 (by omega), zr1 (by omega)]; exact (c7 b hb).1
  · rw [z_up_off (by omega)]; exact (c7 b hb).2
theorem i_X4 {F : Nat} {S : zS} {I : zI} {q x1 x2 : Nat} (h : q + 1 = S.2.2) : ∃ S' I', z_X4_init F S I q x1 x2 = some (S', I') ∧ S'.2.2 = q + 7 ∧ S'.1 q 0 = some x1 ∧ S'.1 q 1 = some x2 ∧ S'.1 q 2 = some (q + 1) ∧ S'.1 q 3 = some (q + 4) ∧ cOK S' (q + 1) ∧ cOK S' (q + 4) ∧ (∀ b, b ≤ q → S'.2.1 b = S.2.1 b) ∧ (∀ b, b < q → S'.1 b = S.1 b ∧ I' b = I b) := by
  unfold z_X4_init
  obtain ⟨S1, I1, e, c1, c2, c3, c4, c5, c6, c7⟩ := i_two (F := F) (S := S) (I := I) (q := q) (f1 := 2) (f2 := 3) (k := fun S10 q9 => zlet (z_up q9 q 4 0) (fun J11 => zlet (z_up J11 q 5 0) (fun J12 => zlet (z_upR S10 q 0 (some x1)) (fun S12 => zlet (z_upR S12 q 1 (some x2)) (fun S13 => some (S13, J12)))))) (by omega) h
  refine ⟨z_upR (z_upR S1 q 0 (some x1)) q 1 (some x2), z_up (z_up I1 q 4 0) q 5 0, e, c1, ?_, ?_, ?_, ?_, ?_, ?_, c6, fun b hb => ⟨?_, ?_⟩⟩
  · rw [zr_ne (by omega), zr_at]
  · rw [zr_at]
  · rw [zr_ne (by omega), zr_ne (by omega)]; exact c2
  · rw [zr_ne (by omega), zr_ne (by omega)]; exact c3
  · exact c4.kept (by rw [zr1 (by omega), zr1 (by omega)]) rfl rfl
  · exact c5.kept (by rw [zr1 (by omega), zr1 (by omega)]) rfl rfl
  · rw [zr1 (by omega), zr1 (by omega)]; exact (c7 b hb).1
  · rw [z_up_off (by omega), z_up_off (by omega)]; exact (c7 b hb).2
/-- a new array: its cell, and what stays -/
theorem i_arr {S : zS} {I : zI} {c n a f s : Nat} (hs : S.2.2 = s) (ha : a < s) : (z_upR (z_new S c n) a f (some s)).2.2 = s + 1 ∧ (z_upR (z_new S c n) a f (some s)).1 a f = some s ∧ ((z_upR (z_new S c n) a f (some s)).2.1 s).2 = n ∧ (∀ k, (z_upR (z_new S c n) a f (some s)).1 s k = none) ∧ (∀ k, z_newI S I s k = 0) ∧ (∀ k, k ≠ f → (z_upR (z_new S c n) a f (some s)).1 a k = S.1 a k) ∧ (∀ b, b < s → b ≠ a → (z_upR (z_new S c n) a f (some s)).1 b = S.1 b) ∧ (∀ b, b < s → (z_upR (z_new S c n) a f (some s)).2.1 b = S.2.1 b) ∧ (∀ b, b < s → z_newI S I b = I b) := by
  refine ⟨?_, zr_at, ?_, fun k => ?_, fun k => ?_, fun k hk => ?_, fun b hb hne => ?_, fun b hb => ?_, fun b hb => zn3 (by omega)⟩
  · show S.2.2 + 1 = s + 1; omega
  · show (if s = S.2.2 then (c, n) else _ : Nat × Nat).2 = n
    rw [if_pos hs.symm]
  · rw [zr1 (by omega)]; show (if s = S.2.2 then none else _) = _; rw [if_pos hs.symm]
  · show (if s = S.2.2 then (0 : Int32) else _) = _; rw [if_pos hs.symm]
  · rw [zr_ne hk, zn1 (by omega)]
  · rw [zr1 hne, zn1 (by omega)]
  · show (z_new S c n).2.1 b = _; rw [zn2 (by omega)]
def mS0 : mSn := (fun _ => 0, 0, fun _ => 0)
theorem i_X5 {F : Nat} {S : zS} {I : zI} {q : Nat} (h : S.2.2 = q + 1) : ∃ S' I', z_X5_init F S I q = some (S', I') ∧ S'.2.2 = q + 6 ∧ (S'.1 q 0 = some (q + 1) ∧ S'.1 q 1 = some (q + 2) ∧ S'.1 q 2 = some (q + 3) ∧ (S'.2.1 (q + 1)).2 = 40 ∧ (S'.2.1 (q + 2)).2 = 4 ∧ cOK S' (q + 3)) ∧ (∀ k, S'.1 (q + 1) k = none) ∧ (∀ k, S'.1 (q + 2) k = none) ∧ (I' q 3 = 0 ∧ I' q 4 = 0 ∧ I' q 5 = 4 ∧ I' q 6 = 0 ∧ I' q 7 = 0) ∧ cSn I' (q + 3) mS0 ∧ (∀ b, b ≤ q → S'.2.1 b = S.2.1 b) ∧ (∀ b, b < q → S'.1 b = S.1 b ∧ I' b = I b) := by
  unfold z_X5_init zlet
  obtain ⟨a1, a2, a3, a4, _, a5, a6, a7, a8⟩ := i_arr (S := S) (I := I) (c := 12) (n := 40) (a := q) (f := 0) (s := q + 1) h (by omega)
  dsimp only
  rw [h]
  generalize hS4 : z_upR (z_new S 12 40) q 0 (some (q + 1)) = S4 at a1 a2 a3 a4 a5 a6 a7 ⊢
  generalize hJ2 : z_newI S I = J2 at a8 ⊢
  obtain ⟨b1, b2, b3, b4, _, b5, b6, b7, b8⟩ := i_arr (S := S4) (I := J2) (c := 13) (n := 4) (a := q) (f := 1) (s := q + 2) a1 (by omega)
  rw [a1]
  show ∃ S' I', ob (z_X6_init F (z_new (z_upR (z_new S4 13 4) q 1 (some (q + 2))) 6 0) (z_newI (z_upR (z_new S4 13 4) q 1 (some (q + 2))) (z_newI S4 J2)) (z_upR (z_new S4 13 4) q 1 (some (q + 2))).2.2) _ = _ ∧ _
  generalize hS8 : z_upR (z_new S4 13 4) q 1 (some (q + 2)) = S8 at b1 b2 b3 b4 b5 b6 b7 ⊢
  generalize hJ6 : z_newI S4 J2 = J6 at b8 ⊢
  obtain ⟨S12, I12, c1, c2, c3, c4, c5, c6⟩ := i_X6 (F := F) (S := z_new S8 6 0) (I := z_newI S8 J6) (a := S8.2.2) rfl
  rw [ob_mk c1]
  rw [b1] at c3 c4 c5 c6
  have c2' : S12.2.2 = q + 6 := by rw [c2]; show S8.2.2 + 1 + 2 = q + 6; rw [b1]
  have k1 : ∀ b, b < q + 3 → S12.1 b = S8.1 b := fun b hb => by rw [(c5 b hb).1, zn1 (by omega)]
  have k2 : ∀ b, b < q + 3 → S12.2.1 b = S8.2.1 b := fun b hb => by rw [c4 b (by omega), zn2 (by omega)]
  have k3 : ∀ b, b < q + 3 → I12 b = J6 b := fun b hb => by rw [(c5 b hb).2, zn3 (by omega)]
  refine ⟨_, _, rfl, c2', ⟨?_, ?_, ?_, ?_, ?_, ?_⟩, fun k => ?_, fun k => ?_, ⟨?_, ?_, ?_, ?_, ?_⟩, ?_, fun b hb => ?_, fun b hb => ⟨?_, ?_⟩⟩
  · rw [zr_ne (by omega), k1 q (by omega), b5 0 (by omega)]; exact a2
  · rw [zr_ne (by omega), k1 q (by omega)]; exact b2
  · rw [zr_at, b1]
  · show (S12.2.1 (q + 1)).2 = 40
    rw [k2 _ (by omega), b7 _ (by omega)]; exact a3
  · show (S12.2.1 (q + 2)).2 = 4
    rw [k2 _ (by omega)]; exact b3
  · exact c3.kept (by rw [zr1 (by omega)]) rfl rfl
  · rw [zr1 (by omega), k1 _ (by omega), b6 _ (by omega) (by omega)]; exact a4 k
  · rw [zr1 (by omega), k1 _ (by omega)]; exact b4 k
  · rw [z_up_ne (Or.inr (by omega)), z_up_ne (Or.inr (by omega)), z_up_ne (Or.inr (by omega)), z_up_ne (Or.inr (by omega)), z_up_ne (Or.inr (by omega)), z_up_ne (Or.inr (by omega)), z_up_at]
  · rw [z_up_ne (Or.inr (by omega)), z_up_ne (Or.inr (by omega)), z_up_ne (Or.inr (by omega)), z_up_ne (Or.inr (by omega)), z_up_ne (Or.inr (by omega)), z_up_at]
  · rw [z_up_ne (Or.inr (by omega)), z_up_ne (Or.inr (by omega)), z_up_ne (Or.inr (by omega)), z_up_ne (Or.inr (by omega)), z_up_at]
  · rw [z_up_ne (Or.inr (by omega)), z_up_ne (Or.inr (by omega)), z_up_ne (Or.inr (by omega)), z_up_at]
  · rw [z_up_ne (Or.inr (by omega)), z_up_ne (Or.inr (by omega)), z_up_at]
  · have e : ∀ b, b ≠ q → z_up (z_up (z_up (z_up (z_up (z_up (z_up I12 q 3 0) q 4 0) q 5 4) q 6 0) q 7 0) q 8 0) q 9 0 b = I12 b := fun b hb => by rw [z_up_off hb, z_up_off hb, z_up_off hb, z_up_off hb, z_up_off hb, z_up_off hb, z_up_off hb]
    exact c6.kept (e _ (by omega)) (e _ (by omega)) (e _ (by omega))
  · show S12.2.1 b = _
    rw [k2 b (by omega), b7 b (by omega), a7 b (by omega)]
  · rw [zr1 (by omega), k1 b (by omega), b6 b (by omega) (by omega), a6 b (by omega) (by omega)]
  · rw [z_up_off (by omega), z_up_off (by omega), z_up_off (by omega), z_up_off (by omega), z_up_off (by omega), z_up_off (by omega), z_up_off (by omega)]
    show I12 b = I b
    rw [k3 b (by omega), b8 b (by omega), a8 b (by omega)]
