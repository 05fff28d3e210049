theorem ite_t {α : Type} {c : Prop} [Decidable c] {A B : Option α} {x : α} (h : c) (hz : A = some x) : (if c then A else B) = some x := by rw [if_pos h]; exact hz
theorem ite_f {α : Type} {c : Prop} [Decidable c] {A B : Option α} {x : α} (h : ¬ c) (hz : B = some x) : (if c then A else B) = some x := by rw [if_neg h]; exact hz
