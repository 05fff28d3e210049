def zlet {α β : Type} (v : α) (k : α → Option β) : Option β := k v
theorem zlet_some {α β : Type} {v : α} {k : α → Option β} {x : β} (h : zlet v k = some x) : ∃ y, y = v ∧ k y = some x := ⟨v, rfl, h⟩
theorem ite_or {α : Type} {c : Prop} [Decidable c] {A B : Option α} {x : α} (h : (if c then A else B) = some x) : A = some x ∨ B = some x := by
  by_cases hc : c
  · rw [if_pos hc] at h; exact Or.inl h
  · rw [if_neg hc] at h; exact Or.inr h
/-- the second picture has all that the first has, of the same kinds -/
def z_Ext (S S' : zS) : Prop := S.2.2 ≤ S'.2.2 ∧ ∀ a, a < S.2.2 → S'.2.1 a = S.2.1 a
theorem z_Ext.rf (S : zS) : z_Ext S S := ⟨Nat.le_refl _, fun _ _ => rfl⟩
theorem z_Ext.trans {S S1 S2 : zS} (h : z_Ext S S1) (g : z_Ext S1 S2) : z_Ext S S2 := ⟨Nat.le_trans h.1 g.1, fun a ha => (g.2 a (Nat.lt_of_lt_of_le ha h.1)).trans (h.2 a ha)⟩
theorem z_Ext.is {b0 : Nat} {S S1 : zS} (h : z_Ext S S1) {a k : Nat} (g : z_is b0 S a k) : z_is b0 S1 a k := ⟨g.1, Nat.lt_of_lt_of_le g.2.1 h.1, by rw [h.2 a g.2.1]; exact g.2.2⟩
theorem z_Ext.new {S S1 : zS} (h : z_Ext S S1) (k n : Nat) : z_Ext S (z_new S1 k n) := ⟨Nat.le_succ_of_le h.1, fun a ha => by
  have h2 : a ≠ S1.2.2 := Nat.ne_of_lt (Nat.lt_of_lt_of_le ha h.1)
  simp only [z_new, if_neg h2]
  exact h.2 a ha⟩
theorem z_Ext.upR {S S1 : zS} (h : z_Ext S S1) {a k : Nat} {x : Option Nat} : z_Ext S (z_upR S1 a k x) := h
theorem z_Ext.then {b0 : Nat} {S S1 S2 : zS} (h : z_T b0 S2 ∧ z_Ext S1 S2) (g : z_Ext S S1) : z_T b0 S2 ∧ z_Ext S S2 := ⟨h.1, g.trans h.2⟩
section ZWD
variable {p : Program} {l : Launch} {e : Env} {R : Room} {s : State} {m : MethodId} {args : Array Value} {below : List Frame} {meth : Method} {c : Code} {cells slots : Nat} {Q : State → Prop} {D : zD} {b0 : Nat} {S : zS} {I : zI} {g : JFrame}
theorem z_widen {k n : Nat} (h1 : cells ≤ k) (h2 : slots ≤ n) (kk : z_W p l e R s m args below meth c D b0 S I k n Q g) : z_W p l e R s m args below meth c D b0 S I cells slots Q g := fun H locs hH hS => W.widen h1 h2 (kk H locs hH hS)
end ZWD
theorem zdv_0 : ∀ k, k < 8 → defaultValue (tyX0 k) = z_V 0 (fun _ => 0) (fun _ => none) k := by
  intro k hk
  rcases (show k = 0 ∨ k = 1 ∨ k = 2 ∨ k = 3 ∨ k = 4 ∨ k = 5 ∨ k = 6 ∨ k = 7 by omega) with rfl | rfl | rfl | rfl | rfl | rfl | rfl | rfl <;> rfl
theorem zdv_1 : ∀ k, k < 3 → defaultValue (tyX1 k) = z_V 1 (fun _ => 0) (fun _ => none) k := by
  intro k hk
  rcases (show k = 0 ∨ k = 1 ∨ k = 2 by omega) with rfl | rfl | rfl <;> rfl
theorem zdv_2 : ∀ k, k < 5 → defaultValue (tyX2 k) = z_V 2 (fun _ => 0) (fun _ => none) k := by
  intro k hk
  rcases (show k = 0 ∨ k = 1 ∨ k = 2 ∨ k = 3 ∨ k = 4 by omega) with rfl | rfl | rfl | rfl | rfl <;> rfl
theorem zdv_3 : ∀ k, k < 4 → defaultValue (tyX3 k) = z_V 3 (fun _ => 0) (fun _ => none) k := by
  intro k hk
  rcases (show k = 0 ∨ k = 1 ∨ k = 2 ∨ k = 3 by omega) with rfl | rfl | rfl | rfl <;> rfl
theorem zdv_4 : ∀ k, k < 6 → defaultValue (tyX4 k) = z_V 4 (fun _ => 0) (fun _ => none) k := by
  intro k hk
  rcases (show k = 0 ∨ k = 1 ∨ k = 2 ∨ k = 3 ∨ k = 4 ∨ k = 5 by omega) with rfl | rfl | rfl | rfl | rfl | rfl <;> rfl
theorem zdv_5 : ∀ k, k < 10 → defaultValue (tyX5 k) = z_V 5 (fun _ => 0) (fun _ => none) k := by
  intro k hk
  rcases (show k = 0 ∨ k = 1 ∨ k = 2 ∨ k = 3 ∨ k = 4 ∨ k = 5 ∨ k = 6 ∨ k = 7 ∨ k = 8 ∨ k = 9 by omega) with rfl | rfl | rfl | rfl | rfl | rfl | rfl | rfl | rfl | rfl <;> rfl
theorem zdv_6 : ∀ k, k < 3 → defaultValue (tyX6 k) = z_V 6 (fun _ => 0) (fun _ => none) k := by
  intro k hk
  rcases (show k = 0 ∨ k = 1 ∨ k = 2 by omega) with rfl | rfl | rfl <;> rfl
theorem zdv_7 : ∀ k, k < 1 → defaultValue (tyX7 k) = z_V 7 (fun _ => 0) (fun _ => none) k := by
  intro k hk
  rcases (show k = 0 by omega) with rfl <;> rfl
theorem zdv_8 : ∀ k, k < 5 → defaultValue (tyX8 k) = z_V 8 (fun _ => 0) (fun _ => none) k := by
  intro k hk
  rcases (show k = 0 ∨ k = 1 ∨ k = 2 ∨ k = 3 ∨ k = 4 by omega) with rfl | rfl | rfl | rfl | rfl <;> rfl
theorem zdv_9 : ∀ k, k < 29 → defaultValue (tyX9 k) = z_V 9 (fun _ => 0) (fun _ => none) k := by
  intro k hk
  rcases (show k = 0 ∨ k = 1 ∨ k = 2 ∨ k = 3 ∨ k = 4 ∨ k = 5 ∨ k = 6 ∨ k = 7 ∨ k = 8 ∨ k = 9 ∨ k = 10 ∨ k = 11 ∨ k = 12 ∨ k = 13 ∨ k = 14 ∨ k = 15 ∨ k = 16 ∨ k = 17 ∨ k = 18 ∨ k = 19 ∨ k = 20 ∨ k = 21 ∨ k = 22 ∨ k = 23 ∨ k = 24 ∨ k = 25 ∨ k = 26 ∨ k = 27 ∨ k = 28 by omega) with rfl | rfl | rfl | rfl | rfl | rfl | rfl | rfl | rfl | rfl | rfl | rfl | rfl | rfl | rfl | rfl | rfl | rfl | rfl | rfl | rfl | rfl | rfl | rfl | rfl | rfl | rfl | rfl | rfl <;> rfl
