/-! numbers: every Int32 that occurs is nI of a small number, or a small negative one -/
theorem nl0 : (0 : Int32) = nI 0 := rfl
theorem nl1 : (1 : Int32) = nI 1 := rfl
theorem nl2 : (2 : Int32) = nI 2 := rfl
theorem nl3 : (3 : Int32) = nI 3 := rfl
theorem nl4 : (4 : Int32) = nI 4 := rfl
theorem nl5 : (5 : Int32) = nI 5 := rfl
theorem nl6 : (6 : Int32) = nI 6 := rfl
theorem nl7 : (7 : Int32) = nI 7 := rfl
theorem nl8 : (8 : Int32) = nI 8 := rfl
theorem nl9 : (9 : Int32) = nI 9 := rfl
theorem nl10 : (10 : Int32) = nI 10 := rfl
theorem nl11 : (11 : Int32) = nI 11 := rfl
theorem nl12 : (12 : Int32) = nI 12 := rfl
theorem nl13 : (13 : Int32) = nI 13 := rfl
theorem nl14 : (14 : Int32) = nI 14 := rfl
theorem nl15 : (15 : Int32) = nI 15 := rfl
theorem nl16 : (16 : Int32) = nI 16 := rfl
theorem nl17 : (17 : Int32) = nI 17 := rfl
theorem nl18 : (18 : Int32) = nI 18 := rfl
theorem nl19 : (19 : Int32) = nI 19 := rfl
theorem nl20 : (20 : Int32) = nI 20 := rfl
theorem nl21 : (21 : Int32) = nI 21 := rfl
theorem nl30 : (30 : Int32) = nI 30 := rfl
theorem nl31 : (31 : Int32) = nI 31 := rfl
theorem nl39 : (39 : Int32) = nI 39 := rfl
theorem nl40 : (40 : Int32) = nI 40 := rfl
theorem nl98 : (98 : Int32) = nI 98 := rfl
theorem nl99 : (99 : Int32) = nI 99 := rfl
theorem nl100 : (100 : Int32) = nI 100 := rfl
theorem nl109 : (109 : Int32) = nI 109 := rfl
/-- (nI x).toNatClampNeg -/
theorem nc {x : Nat} (h : x < 2 ^ 31) : (nI x).toNatClampNeg = x := nI_clamp h
theorem nn {x : Nat} (h : x < 2 ^ 31) : ¬ nI x < 0 := nI_pos h
/-- an index in range: the test before an array's place -/
theorem ni_in {x n : Nat} (h : x < n) (hn : n < 2 ^ 31) : ¬ (nI x < 0 ∨ n ≤ (nI x).toNatClampNeg) := by
  rw [nc (by omega)]
  intro q
  rcases q with q | q
  · exact nn (by omega) q
  · omega
theorem z_up_at (I : zI) (a k : Nat) (x : Int32) : z_up I a k x a k = x := by simp [z_up]
theorem z_up_ne {I : zI} {a k b j : Nat} {x : Int32} (h : b ≠ a ∨ j ≠ k) : z_up I a k x b j = I b j := by
  unfold z_up
  rw [if_neg]
  rintro ⟨rfl, rfl⟩
  rcases h with h | h <;> exact h rfl
/-- I and I' agree outside the n cells from a on -/
def fr (a n : Nat) (I I' : zI) : Prop := ∀ b, (b < a ∨ a + n ≤ b) → I' b = I b
theorem fr.rf {a n : Nat} {I : zI} : fr a n I I := fun _ _ => rfl
theorem fr.trans {a n : Nat} {I I1 I2 : zI} (h : fr a n I I1) (g : fr a n I1 I2) : fr a n I I2 := fun b hb => (g b hb).trans (h b hb)
theorem fr.up {a n b k : Nat} {I I' : zI} {x : Int32} (h : fr a n I I') (h1 : a ≤ b) (h2 : b < a + n) : fr a n I (z_up I' b k x) := fun q hq => by
  rw [z_up_off (by omega)]; exact h q hq
theorem fr.mono {a n a' n' : Nat} {I I' : zI} (h : fr a n I I') (h1 : a' ≤ a) (h2 : a + n ≤ a' + n') : fr a' n' I I' := fun b hb => h b (by omega)
