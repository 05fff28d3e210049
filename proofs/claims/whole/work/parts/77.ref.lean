/-! the reference's cells: A is its object, its arrays lie behind it in their order -/
def rL (S : zS) (A : Nat) : Prop := (S.1 A 1 = some (A + 1) ∧ (S.2.1 (A + 1)).2 = 16) ∧ (S.1 A 2 = some (A + 2) ∧ (S.2.1 (A + 2)).2 = 16) ∧ (S.1 A 3 = some (A + 3) ∧ (S.2.1 (A + 3)).2 = 8) ∧ (S.1 A 4 = some (A + 4) ∧ (S.2.1 (A + 4)).2 = 8) ∧ (S.1 A 5 = some (A + 5) ∧ (S.2.1 (A + 5)).2 = 64) ∧ (S.1 A 6 = some (A + 6) ∧ (S.2.1 (A + 6)).2 = 8) ∧ (S.1 A 7 = some (A + 7) ∧ (S.2.1 (A + 7)).2 = 320) ∧ (S.1 A 8 = some (A + 8) ∧ (S.2.1 (A + 8)).2 = 320) ∧ (S.1 A 9 = some (A + 9) ∧ (S.2.1 (A + 9)).2 = 320) ∧ (S.1 A 10 = some (A + 10) ∧ (S.2.1 (A + 10)).2 = 8) ∧ (S.1 A 11 = some (A + 11) ∧ (S.2.1 (A + 11)).2 = 32) ∧ (S.1 A 12 = some (A + 12) ∧ (S.2.1 (A + 12)).2 = 32) ∧ (S.1 A 13 = some (A + 13) ∧ (S.2.1 (A + 13)).2 = 32) ∧ (S.1 A 14 = some (A + 14) ∧ (S.2.1 (A + 14)).2 = 32) ∧ (S.1 A 15 = some (A + 15) ∧ (S.2.1 (A + 15)).2 = 8) ∧ (S.1 A 16 = some (A + 16) ∧ (S.2.1 (A + 16)).2 = 320) ∧ (S.1 A 17 = some (A + 17) ∧ (S.2.1 (A + 17)).2 = 6400) ∧ (S.1 A 18 = some (A + 18) ∧ (S.2.1 (A + 18)).2 = 320) ∧ (S.1 A 19 = some (A + 19) ∧ (S.2.1 (A + 19)).2 = 6400) ∧ (S.1 A 22 = some (A + 20) ∧ (S.2.1 (A + 20)).2 = 20) ∧ (S.1 A 23 = some (A + 21) ∧ (S.2.1 (A + 21)).2 = 20) ∧ (S.1 A 25 = some (A + 22) ∧ (S.2.1 (A + 22)).2 = 40) ∧ (S.1 A 26 = some (A + 23) ∧ (S.2.1 (A + 23)).2 = 20) ∧ (S.1 A 27 = some (A + 24) ∧ (S.2.1 (A + 24)).2 = 8) ∧ (S.1 A 28 = some (A + 25) ∧ (S.2.1 (A + 25)).2 = 8)
theorem rL.f1 {S : zS} {A : Nat} (h : rL S A) : S.1 A 1 = some (A + 1) := h.1.1
theorem rL.n1 {S : zS} {A : Nat} (h : rL S A) : (S.2.1 (A + 1)).2 = 16 := h.1.2
theorem rL.f2 {S : zS} {A : Nat} (h : rL S A) : S.1 A 2 = some (A + 2) := h.2.1.1
theorem rL.n2 {S : zS} {A : Nat} (h : rL S A) : (S.2.1 (A + 2)).2 = 16 := h.2.1.2
theorem rL.f3 {S : zS} {A : Nat} (h : rL S A) : S.1 A 3 = some (A + 3) := h.2.2.1.1
theorem rL.n3 {S : zS} {A : Nat} (h : rL S A) : (S.2.1 (A + 3)).2 = 8 := h.2.2.1.2
theorem rL.f4 {S : zS} {A : Nat} (h : rL S A) : S.1 A 4 = some (A + 4) := h.2.2.2.1.1
theorem rL.n4 {S : zS} {A : Nat} (h : rL S A) : (S.2.1 (A + 4)).2 = 8 := h.2.2.2.1.2
theorem rL.f5 {S : zS} {A : Nat} (h : rL S A) : S.1 A 5 = some (A + 5) := h.2.2.2.2.1.1
theorem rL.n5 {S : zS} {A : Nat} (h : rL S A) : (S.2.1 (A + 5)).2 = 64 := h.2.2.2.2.1.2
theorem rL.f6 {S : zS} {A : Nat} (h : rL S A) : S.1 A 6 = some (A + 6) := h.2.2.2.2.2.1.1
theorem rL.n6 {S : zS} {A : Nat} (h : rL S A) : (S.2.1 (A + 6)).2 = 8 := h.2.2.2.2.2.1.2
theorem rL.f7 {S : zS} {A : Nat} (h : rL S A) : S.1 A 7 = some (A + 7) := h.2.2.2.2.2.2.1.1
theorem rL.n7 {S : zS} {A : Nat} (h : rL S A) : (S.2.1 (A + 7)).2 = 320 := h.2.2.2.2.2.2.1.2
theorem rL.f8 {S : zS} {A : Nat} (h : rL S A) : S.1 A 8 = some (A + 8) := h.2.2.2.2.2.2.2.1.1
theorem rL.n8 {S : zS} {A : Nat} (h : rL S A) : (S.2.1 (A + 8)).2 = 320 := h.2.2.2.2.2.2.2.1.2
theorem rL.f9 {S : zS} {A : Nat} (h : rL S A) : S.1 A 9 = some (A + 9) := h.2.2.2.2.2.2.2.2.1.1
theorem rL.n9 {S : zS} {A : Nat} (h : rL S A) : (S.2.1 (A + 9)).2 = 320 := h.2.2.2.2.2.2.2.2.1.2
theorem rL.f10 {S : zS} {A : Nat} (h : rL S A) : S.1 A 10 = some (A + 10) := h.2.2.2.2.2.2.2.2.2.1.1
theorem rL.n10 {S : zS} {A : Nat} (h : rL S A) : (S.2.1 (A + 10)).2 = 8 := h.2.2.2.2.2.2.2.2.2.1.2
theorem rL.f11 {S : zS} {A : Nat} (h : rL S A) : S.1 A 11 = some (A + 11) := h.2.2.2.2.2.2.2.2.2.2.1.1
theorem rL.n11 {S : zS} {A : Nat} (h : rL S A) : (S.2.1 (A + 11)).2 = 32 := h.2.2.2.2.2.2.2.2.2.2.1.2
theorem rL.f12 {S : zS} {A : Nat} (h : rL S A) : S.1 A 12 = some (A + 12) := h.2.2.2.2.2.2.2.2.2.2.2.1.1
theorem rL.n12 {S : zS} {A : Nat} (h : rL S A) : (S.2.1 (A + 12)).2 = 32 := h.2.2.2.2.2.2.2.2.2.2.2.1.2
theorem rL.f13 {S : zS} {A : Nat} (h : rL S A) : S.1 A 13 = some (A + 13) := h.2.2.2.2.2.2.2.2.2.2.2.2.1.1
theorem rL.n13 {S : zS} {A : Nat} (h : rL S A) : (S.2.1 (A + 13)).2 = 32 := h.2.2.2.2.2.2.2.2.2.2.2.2.1.2
theorem rL.f14 {S : zS} {A : Nat} (h : rL S A) : S.1 A 14 = some (A + 14) := h.2.2.2.2.2.2.2.2.2.2.2.2.2.1.1
theorem rL.n14 {S : zS} {A : Nat} (h : rL S A) : (S.2.1 (A + 14)).2 = 32 := h.2.2.2.2.2.2.2.2.2.2.2.2.2.1.2
theorem rL.f15 {S : zS} {A : Nat} (h : rL S A) : S.1 A 15 = some (A + 15) := h.2.2.2.2.2.2.2.2.2.2.2.2.2.2.1.1
theorem rL.n15 {S : zS} {A : Nat} (h : rL S A) : (S.2.1 (A + 15)).2 = 8 := h.2.2.2.2.2.2.2.2.2.2.2.2.2.2.1.2
theorem rL.f16 {S : zS} {A : Nat} (h : rL S A) : S.1 A 16 = some (A + 16) := h.2.2.2.2.2.2.2.2.2.2.2.2.2.2.2.1.1
theorem rL.n16 {S : zS} {A : Nat} (h : rL S A) : (S.2.1 (A + 16)).2 = 320 := h.2.2.2.2.2.2.2.2.2.2.2.2.2.2.2.1.2
theorem rL.f17 {S : zS} {A : Nat} (h : rL S A) : S.1 A 17 = some (A + 17) := h.2.2.2.2.2.2.2.2.2.2.2.2.2.2.2.2.1.1
theorem rL.n17 {S : zS} {A : Nat} (h : rL S A) : (S.2.1 (A + 17)).2 = 6400 := h.2.2.2.2.2.2.2.2.2.2.2.2.2.2.2.2.1.2
theorem rL.f18 {S : zS} {A : Nat} (h : rL S A) : S.1 A 18 = some (A + 18) := h.2.2.2.2.2.2.2.2.2.2.2.2.2.2.2.2.2.1.1
theorem rL.n18 {S : zS} {A : Nat} (h : rL S A) : (S.2.1 (A + 18)).2 = 320 := h.2.2.2.2.2.2.2.2.2.2.2.2.2.2.2.2.2.1.2
theorem rL.f19 {S : zS} {A : Nat} (h : rL S A) : S.1 A 19 = some (A + 19) := h.2.2.2.2.2.2.2.2.2.2.2.2.2.2.2.2.2.2.1.1
theorem rL.n19 {S : zS} {A : Nat} (h : rL S A) : (S.2.1 (A + 19)).2 = 6400 := h.2.2.2.2.2.2.2.2.2.2.2.2.2.2.2.2.2.2.1.2
theorem rL.f22 {S : zS} {A : Nat} (h : rL S A) : S.1 A 22 = some (A + 20) := h.2.2.2.2.2.2.2.2.2.2.2.2.2.2.2.2.2.2.2.1.1
theorem rL.n22 {S : zS} {A : Nat} (h : rL S A) : (S.2.1 (A + 20)).2 = 20 := h.2.2.2.2.2.2.2.2.2.2.2.2.2.2.2.2.2.2.2.1.2
theorem rL.f23 {S : zS} {A : Nat} (h : rL S A) : S.1 A 23 = some (A + 21) := h.2.2.2.2.2.2.2.2.2.2.2.2.2.2.2.2.2.2.2.2.1.1
theorem rL.n23 {S : zS} {A : Nat} (h : rL S A) : (S.2.1 (A + 21)).2 = 20 := h.2.2.2.2.2.2.2.2.2.2.2.2.2.2.2.2.2.2.2.2.1.2
theorem rL.f25 {S : zS} {A : Nat} (h : rL S A) : S.1 A 25 = some (A + 22) := h.2.2.2.2.2.2.2.2.2.2.2.2.2.2.2.2.2.2.2.2.2.1.1
theorem rL.n25 {S : zS} {A : Nat} (h : rL S A) : (S.2.1 (A + 22)).2 = 40 := h.2.2.2.2.2.2.2.2.2.2.2.2.2.2.2.2.2.2.2.2.2.1.2
theorem rL.f26 {S : zS} {A : Nat} (h : rL S A) : S.1 A 26 = some (A + 23) := h.2.2.2.2.2.2.2.2.2.2.2.2.2.2.2.2.2.2.2.2.2.2.1.1
theorem rL.n26 {S : zS} {A : Nat} (h : rL S A) : (S.2.1 (A + 23)).2 = 20 := h.2.2.2.2.2.2.2.2.2.2.2.2.2.2.2.2.2.2.2.2.2.2.1.2
theorem rL.f27 {S : zS} {A : Nat} (h : rL S A) : S.1 A 27 = some (A + 24) := h.2.2.2.2.2.2.2.2.2.2.2.2.2.2.2.2.2.2.2.2.2.2.2.1.1
theorem rL.n27 {S : zS} {A : Nat} (h : rL S A) : (S.2.1 (A + 24)).2 = 8 := h.2.2.2.2.2.2.2.2.2.2.2.2.2.2.2.2.2.2.2.2.2.2.2.1.2
theorem rL.f28 {S : zS} {A : Nat} (h : rL S A) : S.1 A 28 = some (A + 25) := h.2.2.2.2.2.2.2.2.2.2.2.2.2.2.2.2.2.2.2.2.2.2.2.2.1
theorem rL.n28 {S : zS} {A : Nat} (h : rL S A) : (S.2.1 (A + 25)).2 = 8 := h.2.2.2.2.2.2.2.2.2.2.2.2.2.2.2.2.2.2.2.2.2.2.2.2.2
theorem rL.kept {S S' : zS} {A : Nat} (h : rL S A) (e : ∀ b, A ≤ b → b < A + 26 → S'.1 b = S.1 b ∧ S'.2.1 b = S.2.1 b) : rL S' A := ⟨⟨by rw [(e A (by omega) (by omega)).1]; exact h.f1, by rw [(e _ (by omega) (by omega)).2]; exact h.n1⟩, ⟨by rw [(e A (by omega) (by omega)).1]; exact h.f2, by rw [(e _ (by omega) (by omega)).2]; exact h.n2⟩, ⟨by rw [(e A (by omega) (by omega)).1]; exact h.f3, by rw [(e _ (by omega) (by omega)).2]; exact h.n3⟩, ⟨by rw [(e A (by omega) (by omega)).1]; exact h.f4, by rw [(e _ (by omega) (by omega)).2]; exact h.n4⟩, ⟨by rw [(e A (by omega) (by omega)).1]; exact h.f5, by rw [(e _ (by omega) (by omega)).2]; exact h.n5⟩, ⟨by rw [(e A (by omega) (by omega)).1]; exact h.f6, by rw [(e _ (by omega) (by omega)).2]; exact h.n6⟩, ⟨by rw [(e A (by omega) (by omega)).1]; exact h.f7, by rw [(e _ (by omega) (by omega)).2]; exact h.n7⟩, ⟨by rw [(e A (by omega) (by omega)).1]; exact h.f8, by rw [(e _ (by omega) (by omega)).2]; exact h.n8⟩, ⟨by rw [(e A (by omega) (by omega)).1]; exact h.f9, by rw [(e _ (by omega) (by omega)).2]; exact h.n9⟩, ⟨by rw [(e A (by omega) (by omega)).1]; exact h.f10, by rw [(e _ (by omega) (by omega)).2]; exact h.n10⟩, ⟨by rw [(e A (by omega) (by omega)).1]; exact h.f11, by rw [(e _ (by omega) (by omega)).2]; exact h.n11⟩, ⟨by rw [(e A (by omega) (by omega)).1]; exact h.f12, by rw [(e _ (by omega) (by omega)).2]; exact h.n12⟩, ⟨by rw [(e A (by omega) (by omega)).1]; exact h.f13, by rw [(e _ (by omega) (by omega)).2]; exact h.n13⟩, ⟨by rw [(e A (by omega) (by omega)).1]; exact h.f14, by rw [(e _ (by omega) (by omega)).2]; exact h.n14⟩, ⟨by rw [(e A (by omega) (by omega)).1]; exact h.f15, by rw [(e _ (by omega) (by omega)).2]; exact h.n15⟩, ⟨by rw [(e A (by omega) (by omega)).1]; exact h.f16, by rw [(e _ (by omega) (by omega)).2]; exact h.n16⟩, ⟨by rw [(e A (by omega) (by omega)).1]; exact h.f17, by rw [(e _ (by omega) (by omega)).2]; exact h.n17⟩, ⟨by rw [(e A (by omega) (by omega)).1]; exact h.f18, by rw [(e _ (by omega) (by omega)).2]; exact h.n18⟩, ⟨by rw [(e A (by omega) (by omega)).1]; exact h.f19, by rw [(e _ (by omega) (by omega)).2]; exact h.n19⟩, ⟨by rw [(e A (by omega) (by omega)).1]; exact h.f22, by rw [(e _ (by omega) (by omega)).2]; exact h.n22⟩, ⟨by rw [(e A (by omega) (by omega)).1]; exact h.f23, by rw [(e _ (by omega) (by omega)).2]; exact h.n23⟩, ⟨by rw [(e A (by omega) (by omega)).1]; exact h.f25, by rw [(e _ (by omega) (by omega)).2]; exact h.n25⟩, ⟨by rw [(e A (by omega) (by omega)).1]; exact h.f26, by rw [(e _ (by omega) (by omega)).2]; exact h.n26⟩, ⟨by rw [(e A (by omega) (by omega)).1]; exact h.f27, by rw [(e _ (by omega) (by omega)).2]; exact h.n27⟩, ⟨by rw [(e A (by omega) (by omega)).1]; exact h.f28, by rw [(e _ (by omega) (by omega)).2]; exact h.n28⟩⟩
def iR (A : Nat) (L : List (Nat × Nat)) (S0 : zS) (I0 : zI) (S : zS) (I : zI) : Prop := S.2.2 = A + 1 + L.length ∧ (∀ j f n, L[j]? = some (f, n) → S.1 A f = some (A + 1 + j) ∧ (S.2.1 (A + 1 + j)).2 = n ∧ ∀ k, k < n → I (A + 1 + j) k = if j = 2 then 4 else 0) ∧ (∀ b, b < A → S.1 b = S0.1 b ∧ S.2.1 b = S0.2.1 b ∧ I b = I0 b) ∧ I A = I0 A
theorem iR.add {A : Nat} {L : List (Nat × Nat)} {S0 S S' : zS} {I0 I I' J : zI} {f n : Nat} (h : iR A L S0 I0 S I) (hA : iA S S' I J n A f (A + 1 + L.length)) (hJ : ∀ b, b ≠ A + 1 + L.length → I' b = J b) (hv : ∀ k, k < n → I' (A + 1 + L.length) k = if L.length = 2 then 4 else 0) (hf : ∀ x ∈ L, x.1 ≠ f) : iR A (L ++ [(f, n)]) S0 I0 S' I' := by
  obtain ⟨h1, h2, h3, h4⟩ := h
  obtain ⟨a1, a2, a3, a4, a5, a6, a7, a8, a9⟩ := hA
  refine ⟨by rw [a1, List.length_append]; rfl, fun j f' n' e => ?_, fun b hb => ?_, ?_⟩
  · by_cases hj : j < L.length
    · rw [List.getElem?_append_left hj] at e
      obtain ⟨g1, g2, g3⟩ := h2 j f' n' e
      have hne := hf _ (List.mem_of_getElem? e)
      refine ⟨by rw [a6 f' hne]; exact g1, by rw [a8 _ (by omega)]; exact g2, fun k hk => by rw [hJ _ (by omega), a9 _ (by omega)]; exact g3 k hk⟩
    · have hj' : j < L.length + 1 := by
        have := (List.getElem?_eq_some_iff.mp e).1
        rw [List.length_append] at this
        exact this
      have ej : j = L.length := by omega
      subst ej
      rw [List.getElem?_append_right (Nat.le_refl _), Nat.sub_self] at e
      have e' : (f, n) = (f', n') := Option.some.inj e
      obtain ⟨rfl, rfl⟩ := Prod.mk.inj e'
      exact ⟨a2, a3, hv⟩
  · obtain ⟨g1, g2, g3⟩ := h3 b hb
    exact ⟨by rw [a7 b (by omega) (by omega)]; exact g1, by rw [a8 b (by omega)]; exact g2, by rw [hJ b (by omega), a9 b (by omega)]; exact g3⟩
  · rw [hJ A (by omega), a9 A (by omega)]; exact h4
/-- what the reference's constructor leaves -/
def iV (A : Nat) (S0 : zS) (I0 : zI) (o : Option (zS × zI)) : Prop := ∃ S I, o = some (S, I) ∧ S.2.2 = A + 26 ∧ rL S A ∧ (∀ b, b < A → S.1 b = S0.1 b ∧ S.2.1 b = S0.2.1 b ∧ I b = I0 b) ∧ (∀ k, I A k = if k = 0 then 1 else I0 A k) ∧ (∀ k, k < 8 → I (A + 3) k = 4) ∧ (I (A + 2) 0 = 0) ∧ (∀ k, k < 8 → I (A + 4) k = 0 ∧ I (A + 6) k = 0 ∧ I (A + 10) k = 0 ∧ I (A + 15) k = 0)
theorem i_plc {S : zS} {I : zI} {A s : Nat} {α : Type} {G : Option α → Prop} {k : zS → zI → Option α} (hs : S.2.2 = s) (ha : A < s) (h : ∀ S' J I', iA S S' I J 8 A 3 s → (∀ b, b ≠ s → I' b = J b) → (∀ k, k < 8 → I' s k = 4) → G (k S' I')) : G (zlet (z_new S 10 8) (fun S10 => zlet (z_newI S I) (fun J11 => if (0 : Int32) < 0 ∨ (S10.2.1 (S.2.2)).2 ≤ (0 : Int32).toNatClampNeg then none else (zlet (z_up J11 (S.2.2) (0 : Int32).toNatClampNeg 4) (fun J14 => if (1 : Int32) < 0 ∨ (S10.2.1 (S.2.2)).2 ≤ (1 : Int32).toNatClampNeg then none else (zlet (z_up J14 (S.2.2) (1 : Int32).toNatClampNeg 4) (fun J16 => if (2 : Int32) < 0 ∨ (S10.2.1 (S.2.2)).2 ≤ (2 : Int32).toNatClampNeg then none else (zlet (z_up J16 (S.2.2) (2 : Int32).toNatClampNeg 4) (fun J18 => if (3 : Int32) < 0 ∨ (S10.2.1 (S.2.2)).2 ≤ (3 : Int32).toNatClampNeg then none else (zlet (z_up J18 (S.2.2) (3 : Int32).toNatClampNeg 4) (fun J20 => if (4 : Int32) < 0 ∨ (S10.2.1 (S.2.2)).2 ≤ (4 : Int32).toNatClampNeg then none else (zlet (z_up J20 (S.2.2) (4 : Int32).toNatClampNeg 4) (fun J22 => if (5 : Int32) < 0 ∨ (S10.2.1 (S.2.2)).2 ≤ (5 : Int32).toNatClampNeg then none else (zlet (z_up J22 (S.2.2) (5 : Int32).toNatClampNeg 4) (fun J24 => if (6 : Int32) < 0 ∨ (S10.2.1 (S.2.2)).2 ≤ (6 : Int32).toNatClampNeg then none else (zlet (z_up J24 (S.2.2) (6 : Int32).toNatClampNeg 4) (fun J26 => if (7 : Int32) < 0 ∨ (S10.2.1 (S.2.2)).2 ≤ (7 : Int32).toNatClampNeg then none else (zlet (z_up J26 (S.2.2) (7 : Int32).toNatClampNeg 4) (fun J28 => zlet (z_upR S10 A 3 (some (S.2.2))) (fun S29 => k S29 J28)))))))))))))))))))) := by
  have e8 : ((z_new S 10 8).2.1 S.2.2).2 = 8 := by show (if S.2.2 = S.2.2 then (10, 8) else _ : Nat × Nat).2 = 8; rw [if_pos rfl]
  have hn : ∀ j : Nat, j < 8 → ¬ (nI j < 0 ∨ ((z_new S 10 8).2.1 S.2.2).2 ≤ (nI j).toNatClampNeg) := fun j hj => by rw [e8]; exact ni_in hj (by omega)
  unfold zlet
  dsimp only
  rw [if_neg (show ¬ ((0 : Int32) < 0 ∨ ((z_new S 10 8).2.1 S.2.2).2 ≤ (0 : Int32).toNatClampNeg) from hn 0 (by omega)), if_neg (show ¬ ((1 : Int32) < 0 ∨ ((z_new S 10 8).2.1 S.2.2).2 ≤ (1 : Int32).toNatClampNeg) from hn 1 (by omega)), if_neg (show ¬ ((2 : Int32) < 0 ∨ ((z_new S 10 8).2.1 S.2.2).2 ≤ (2 : Int32).toNatClampNeg) from hn 2 (by omega)), if_neg (show ¬ ((3 : Int32) < 0 ∨ ((z_new S 10 8).2.1 S.2.2).2 ≤ (3 : Int32).toNatClampNeg) from hn 3 (by omega)), if_neg (show ¬ ((4 : Int32) < 0 ∨ ((z_new S 10 8).2.1 S.2.2).2 ≤ (4 : Int32).toNatClampNeg) from hn 4 (by omega)), if_neg (show ¬ ((5 : Int32) < 0 ∨ ((z_new S 10 8).2.1 S.2.2).2 ≤ (5 : Int32).toNatClampNeg) from hn 5 (by omega)), if_neg (show ¬ ((6 : Int32) < 0 ∨ ((z_new S 10 8).2.1 S.2.2).2 ≤ (6 : Int32).toNatClampNeg) from hn 6 (by omega)), if_neg (show ¬ ((7 : Int32) < 0 ∨ ((z_new S 10 8).2.1 S.2.2).2 ≤ (7 : Int32).toNatClampNeg) from hn 7 (by omega))]
  subst hs
  refine h _ (z_newI S I) _ (i_arr rfl ha) (fun b hb => ?_) (fun k hk => ?_)
  · rw [z_up_off hb, z_up_off hb, z_up_off hb, z_up_off hb, z_up_off hb, z_up_off hb, z_up_off hb, z_up_off hb]
  · show z_up (z_up (z_up (z_up (z_up (z_up (z_up (z_up (z_newI S I) S.2.2 0 4) S.2.2 1 4) S.2.2 2 4) S.2.2 3 4) S.2.2 4 4) S.2.2 5 4) S.2.2 6 4) S.2.2 7 4 S.2.2 k = 4
    have : k = 0 ∨ k = 1 ∨ k = 2 ∨ k = 3 ∨ k = 4 ∨ k = 5 ∨ k = 6 ∨ k = 7 := by omega
    unfold z_up
    rcases this with rfl | rfl | rfl | rfl | rfl | rfl | rfl | rfl <;> simp
theorem i_X9 {F : Nat} {S : zS} {I : zI} {A : Nat} (h : S.2.2 = A + 1) : iV A S I (z_X9_init F S I A) := by
  unfold z_X9_init
  refine zlQ (G := iV A S I) (fun J => J = z_up I A 0 1) rfl (fun J1 hJ1 => ?_)
  have r0 : iR A [] S J1 S J1 := ⟨h, fun j f n e => (by cases e), fun b hb => ⟨rfl, rfl, rfl⟩, rfl⟩
  refine i_arrQ (G := iV A S I) (s := A + 1 + 0) r0.1 (by omega) (fun S1 J101 a1 => ?_)
  have r1 := r0.add a1 (fun _ _ => rfl) (fun k _ => by rw [if_neg (by decide)]; exact a1.2.2.2.2.1 k) (by decide)
  refine i_arrQ (G := iV A S I) (s := A + 1 + 1) r1.1 (by omega) (fun S2 J2 a2 => ?_)
  have r2 := r1.add a2 (fun _ _ => rfl) (fun k _ => by rw [if_neg (by decide)]; exact a2.2.2.2.2.1 k) (by decide)
  refine i_plc (G := iV A S I) (s := A + 1 + 2) r2.1 (by omega) (fun S3 K3 J3 a3 b3 v3 => ?_)
  have r3 := r2.add a3 b3 (fun k hk => by rw [if_pos (show ([] ++ [(1, 16)] ++ [(2, 16)] : List (Nat × Nat)).length = 2 from rfl)]; exact v3 k hk) (by decide)
  refine i_arrQ (G := iV A S I) (s := A + 1 + 3) r3.1 (by omega) (fun S4 J4 a4 => ?_)
  have r4 := r3.add a4 (fun _ _ => rfl) (fun k _ => by rw [if_neg (by decide)]; exact a4.2.2.2.2.1 k) (by decide)
  refine i_arrQ (G := iV A S I) (s := A + 1 + 4) r4.1 (by omega) (fun S5 J5 a5 => ?_)
  have r5 := r4.add a5 (fun _ _ => rfl) (fun k _ => by rw [if_neg (by decide)]; exact a5.2.2.2.2.1 k) (by decide)
  refine i_arrQ (G := iV A S I) (s := A + 1 + 5) r5.1 (by omega) (fun S6 J6 a6 => ?_)
  have r6 := r5.add a6 (fun _ _ => rfl) (fun k _ => by rw [if_neg (by decide)]; exact a6.2.2.2.2.1 k) (by decide)
  refine i_arrQ (G := iV A S I) (s := A + 1 + 6) r6.1 (by omega) (fun S7 J7 a7 => ?_)
  have r7 := r6.add a7 (fun _ _ => rfl) (fun k _ => by rw [if_neg (by decide)]; exact a7.2.2.2.2.1 k) (by decide)
  refine i_arrQ (G := iV A S I) (s := A + 1 + 7) r7.1 (by omega) (fun S8 J8 a8 => ?_)
  have r8 := r7.add a8 (fun _ _ => rfl) (fun k _ => by rw [if_neg (by decide)]; exact a8.2.2.2.2.1 k) (by decide)
  refine i_arrQ (G := iV A S I) (s := A + 1 + 8) r8.1 (by omega) (fun S9 J9 a9 => ?_)
  have r9 := r8.add a9 (fun _ _ => rfl) (fun k _ => by rw [if_neg (by decide)]; exact a9.2.2.2.2.1 k) (by decide)
  refine i_arrQ (G := iV A S I) (s := A + 1 + 9) r9.1 (by omega) (fun S10 J10 a10 => ?_)
  have r10 := r9.add a10 (fun _ _ => rfl) (fun k _ => by rw [if_neg (by decide)]; exact a10.2.2.2.2.1 k) (by decide)
  refine i_arrQ (G := iV A S I) (s := A + 1 + 10) r10.1 (by omega) (fun S11 J11 a11 => ?_)
  have r11 := r10.add a11 (fun _ _ => rfl) (fun k _ => by rw [if_neg (by decide)]; exact a11.2.2.2.2.1 k) (by decide)
  refine i_arrQ (G := iV A S I) (s := A + 1 + 11) r11.1 (by omega) (fun S12 J12 a12 => ?_)
  have r12 := r11.add a12 (fun _ _ => rfl) (fun k _ => by rw [if_neg (by decide)]; exact a12.2.2.2.2.1 k) (by decide)
  refine i_arrQ (G := iV A S I) (s := A + 1 + 12) r12.1 (by omega) (fun S13 J13 a13 => ?_)
  have r13 := r12.add a13 (fun _ _ => rfl) (fun k _ => by rw [if_neg (by decide)]; exact a13.2.2.2.2.1 k) (by decide)
  refine i_arrQ (G := iV A S I) (s := A + 1 + 13) r13.1 (by omega) (fun S14 J14 a14 => ?_)
  have r14 := r13.add a14 (fun _ _ => rfl) (fun k _ => by rw [if_neg (by decide)]; exact a14.2.2.2.2.1 k) (by decide)
  refine i_arrQ (G := iV A S I) (s := A + 1 + 14) r14.1 (by omega) (fun S15 J15 a15 => ?_)
  have r15 := r14.add a15 (fun _ _ => rfl) (fun k _ => by rw [if_neg (by decide)]; exact a15.2.2.2.2.1 k) (by decide)
  refine i_arrQ (G := iV A S I) (s := A + 1 + 15) r15.1 (by omega) (fun S16 J16 a16 => ?_)
  have r16 := r15.add a16 (fun _ _ => rfl) (fun k _ => by rw [if_neg (by decide)]; exact a16.2.2.2.2.1 k) (by decide)
  refine i_arrQ (G := iV A S I) (s := A + 1 + 16) r16.1 (by omega) (fun S17 J17 a17 => ?_)
  have r17 := r16.add a17 (fun _ _ => rfl) (fun k _ => by rw [if_neg (by decide)]; exact a17.2.2.2.2.1 k) (by decide)
  refine i_arrQ (G := iV A S I) (s := A + 1 + 17) r17.1 (by omega) (fun S18 J18 a18 => ?_)
  have r18 := r17.add a18 (fun _ _ => rfl) (fun k _ => by rw [if_neg (by decide)]; exact a18.2.2.2.2.1 k) (by decide)
  refine i_arrQ (G := iV A S I) (s := A + 1 + 18) r18.1 (by omega) (fun S19 J19 a19 => ?_)
  have r19 := r18.add a19 (fun _ _ => rfl) (fun k _ => by rw [if_neg (by decide)]; exact a19.2.2.2.2.1 k) (by decide)
  refine i_arrQ (G := iV A S I) (s := A + 1 + 19) r19.1 (by omega) (fun S20 J20 a20 => ?_)
  have r20 := r19.add a20 (fun _ _ => rfl) (fun k _ => by rw [if_neg (by decide)]; exact a20.2.2.2.2.1 k) (by decide)
  refine i_arrQ (G := iV A S I) (s := A + 1 + 20) r20.1 (by omega) (fun S21 J21 a21 => ?_)
  have r21 := r20.add a21 (fun _ _ => rfl) (fun k _ => by rw [if_neg (by decide)]; exact a21.2.2.2.2.1 k) (by decide)
  refine i_arrQ (G := iV A S I) (s := A + 1 + 21) r21.1 (by omega) (fun S22 J22 a22 => ?_)
  have r22 := r21.add a22 (fun _ _ => rfl) (fun k _ => by rw [if_neg (by decide)]; exact a22.2.2.2.2.1 k) (by decide)
  refine i_arrQ (G := iV A S I) (s := A + 1 + 22) r22.1 (by omega) (fun S23 J23 a23 => ?_)
  have r23 := r22.add a23 (fun _ _ => rfl) (fun k _ => by rw [if_neg (by decide)]; exact a23.2.2.2.2.1 k) (by decide)
  refine i_arrQ (G := iV A S I) (s := A + 1 + 23) r23.1 (by omega) (fun S24 J24 a24 => ?_)
  have r24 := r23.add a24 (fun _ _ => rfl) (fun k _ => by rw [if_neg (by decide)]; exact a24.2.2.2.2.1 k) (by decide)
  refine i_arrQ (G := iV A S I) (s := A + 1 + 24) r24.1 (by omega) (fun S25 J25 a25 => ?_)
  have r25 := r24.add a25 (fun _ _ => rfl) (fun k _ => by rw [if_neg (by decide)]; exact a25.2.2.2.2.1 k) (by decide)
  obtain ⟨q1, q2, q3, q4⟩ := r25
  have g : ∀ j f n, ([] ++ [(1, 16)] ++ [(2, 16)] ++ [(3, 8)] ++ [(4, 8)] ++ [(5, 64)] ++ [(6, 8)] ++ [(7, 320)] ++ [(8, 320)] ++ [(9, 320)] ++ [(10, 8)] ++ [(11, 32)] ++ [(12, 32)] ++ [(13, 32)] ++ [(14, 32)] ++ [(15, 8)] ++ [(16, 320)] ++ [(17, 6400)] ++ [(18, 320)] ++ [(19, 6400)] ++ [(22, 20)] ++ [(23, 20)] ++ [(25, 40)] ++ [(26, 20)] ++ [(27, 8)] ++ [(28, 8)] : List (Nat × Nat))[j]? = some (f, n) → S25.1 A f = some (A + 1 + j) ∧ (S25.2.1 (A + 1 + j)).2 = n ∧ ∀ k, k < n → J25 (A + 1 + j) k = if j = 2 then 4 else 0 := q2
  refine ⟨S25, J25, rfl, q1, ⟨⟨(g 0 1 16 rfl).1, (g 0 1 16 rfl).2.1⟩, ⟨(g 1 2 16 rfl).1, (g 1 2 16 rfl).2.1⟩, ⟨(g 2 3 8 rfl).1, (g 2 3 8 rfl).2.1⟩, ⟨(g 3 4 8 rfl).1, (g 3 4 8 rfl).2.1⟩, ⟨(g 4 5 64 rfl).1, (g 4 5 64 rfl).2.1⟩, ⟨(g 5 6 8 rfl).1, (g 5 6 8 rfl).2.1⟩, ⟨(g 6 7 320 rfl).1, (g 6 7 320 rfl).2.1⟩, ⟨(g 7 8 320 rfl).1, (g 7 8 320 rfl).2.1⟩, ⟨(g 8 9 320 rfl).1, (g 8 9 320 rfl).2.1⟩, ⟨(g 9 10 8 rfl).1, (g 9 10 8 rfl).2.1⟩, ⟨(g 10 11 32 rfl).1, (g 10 11 32 rfl).2.1⟩, ⟨(g 11 12 32 rfl).1, (g 11 12 32 rfl).2.1⟩, ⟨(g 12 13 32 rfl).1, (g 12 13 32 rfl).2.1⟩, ⟨(g 13 14 32 rfl).1, (g 13 14 32 rfl).2.1⟩, ⟨(g 14 15 8 rfl).1, (g 14 15 8 rfl).2.1⟩, ⟨(g 15 16 320 rfl).1, (g 15 16 320 rfl).2.1⟩, ⟨(g 16 17 6400 rfl).1, (g 16 17 6400 rfl).2.1⟩, ⟨(g 17 18 320 rfl).1, (g 17 18 320 rfl).2.1⟩, ⟨(g 18 19 6400 rfl).1, (g 18 19 6400 rfl).2.1⟩, ⟨(g 19 22 20 rfl).1, (g 19 22 20 rfl).2.1⟩, ⟨(g 20 23 20 rfl).1, (g 20 23 20 rfl).2.1⟩, ⟨(g 21 25 40 rfl).1, (g 21 25 40 rfl).2.1⟩, ⟨(g 22 26 20 rfl).1, (g 22 26 20 rfl).2.1⟩, ⟨(g 23 27 8 rfl).1, (g 23 27 8 rfl).2.1⟩, ⟨(g 24 28 8 rfl).1, (g 24 28 8 rfl).2.1⟩⟩, fun b hb => ?_, fun k => ?_, fun k hk => ?_, ?_, fun k hk => ⟨?_, ?_, ?_, ?_⟩⟩
  · obtain ⟨e1, e2, e3⟩ := q3 b hb
    exact ⟨e1, e2, by rw [e3, hJ1, z_up_off (by omega)]⟩
  · rw [q4, hJ1, z_up_self]
  · exact (g 2 3 8 rfl).2.2 k hk
  · exact (g 1 2 16 rfl).2.2 0 (by omega)
  · exact (g 3 4 8 rfl).2.2 k hk
  · exact (g 5 6 8 rfl).2.2 k hk
  · exact (g 9 10 8 rfl).2.2 k hk
  · exact (g 14 15 8 rfl).2.2 k hk
