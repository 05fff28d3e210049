/-! what the reference's cells hold; cls, clear, argument, act, guard -/
def rSn (I : zI) (a o : Nat) (s : mSn) : Prop := (∀ x, x < 8 → I a (o + x) = nI (s.1 x)) ∧ I a (o + 8) = nI s.2.1 ∧ ∀ j, j < s.2.1 → I a (o + 9 + j) = nI (s.2.2 j)
theorem rSn.kept {I I' : zI} {a o : Nat} {s : mSn} (h : rSn I a o s) (e : I' a = I a) : rSn I' a o s := by unfold rSn; rw [e]; exact h
/-- what the reference keeps of a computed method -/
def rK (I : zI) (A i : Nat) (x : mM) : Prop := ∀ p, p < xn x → I (A + 16) (40 * i + p) = b2i ((xC x).1 p) ∧ ((xC x).1 p = true → rSn I (A + 17) (20 * (40 * i + p)) ((xC x).2.2 p)) ∧ I (A + 18) (40 * i + p) = b2i (xfm x p) ∧ (xfm x p = true → rSn I (A + 19) (20 * (40 * i + p)) (xfs x p))
def rM (I : zI) (A i : Nat) (x : mM) : Prop :=
  (I (A + 3) i = nI (xpc x) ∧ I (A + 4) i = nI (xus x) ∧ I (A + 6) i = nI (xn x) ∧ I (A + 10) i = nI (xgn x) ∧ I (A + 15) i = b2i (xkn x)) ∧
  (∀ y, y < xus x → I (A + 5) (8 * i + y) = nI ((xbg x).1 y)) ∧
  (∀ p, p < xn x → I (A + 7) (40 * i + p) = nI (xK x p).1 ∧ I (A + 8) (40 * i + p) = (xK x p).2.1 ∧ I (A + 9) (40 * i + p) = if (xK x p).1 = 16 then (xK x p).2.2 else (xK x p).2.1) ∧
  (∀ j, j < xgn x → I (A + 11) (4 * i + j) = nI (xG x j).1 ∧ I (A + 12) (4 * i + j) = nI (xG x j).2.1 ∧ I (A + 13) (4 * i + j) = nI (xG x j).2.2.1 ∧ I (A + 14) (4 * i + j) = nI (xG x j).2.2.2) ∧
  (xkn x = true → rK I A i x)
def rAll (S : zS) (I : zI) (A : Nat) (T : mTr) (X : Nat → mM) (f : Nat) : Prop := rL S A ∧ rT I A T ∧ (∀ i, i < 8 → rM I A i (X i)) ∧ I A 20 = nI f
/-- the reference has changed its own cells alone -/
def fY (A : Nat) (I I' : zI) : Prop := ∀ b, (b < A ∨ A + 26 ≤ b) → I' b = I b
theorem fY.up {A b k : Nat} {I I' : zI} {x : Int32} (h : fY A I I') (h1 : A ≤ b) (h2 : b < A + 26) : fY A I (z_up I' b k x) := fun q hq => by rw [z_up_off (by omega)]; exact h q hq
theorem fY.rf {A : Nat} {I : zI} : fY A I I := fun _ _ => rfl
theorem fY.trans {A : Nat} {I I1 I2 : zI} (h : fY A I I1) (g : fY A I1 I2) : fY A I I2 := fun b hb => (g b hb).trans (h b hb)
section RC
variable {F : Nat} {S : zS} {I : zI} {A : Nat} {T : mTr} {X : Nat → mM} {f : Nat}
theorem r_cls (hA : rAll S I A T X f) (a : Int32) (fc : Bool) : ∃ I', z_X9_cls F S I A a (b2i fc) = some ((k_cls T a fc).1, I') ∧ rAll S I' A (k_cls T a fc).2 X f ∧ fY A I I' := by
  obtain ⟨hL, hT, hM, hf⟩ := hA
  have hA : rAll S I A T X f := ⟨hL, hT, hM, hf⟩
  obtain ⟨t1, ⟨o1, o2, o3, o4⟩, t3⟩ := hT
  have hT := hA.2.1
  have triv : ∃ I', some ((-1 : Int32), I) = some ((-1 : Int32), I') ∧ rAll S I' A T X f ∧ fY A I I' := ⟨I, rfl, hA, fY.rf⟩
  unfold z_X9_cls k_cls
  rw [ob_mk (r_isC_c hT a)]
  refine ix_cases a T.1 (by omega) (fun h e => ?_) (fun i hi ea e => ?_)
  · rw [e, oy_n, oy_n, if_pos rfl]; exact triv
  · rw [e, oy_s, oy_s, if_neg (show ¬ (1 : Int32) = 0 by decide), ea, ob_mk hL.f2, ixk hL.n2 (by omega) (by omega), nc (by omega), (t3 i hi).2]
    have add : ∃ I', z_X9_cls_27 F S A (nI i) (b2i fc) I = some ((if T.1 < 16 then (nI T.1, (T.1 + 1, nup T.2.1 T.1 i, nup T.2.2 T.1 fc)) else ((-2 : Int32), T)).1, I') ∧ rAll S I' A (if T.1 < 16 then (nI T.1, (T.1 + 1, nup T.2.1 T.1 i, nup T.2.2 T.1 fc)) else ((-2 : Int32), T)).2 X f ∧ fY A I I' := by
      unfold z_X9_cls_27
      rw [t1, nl16]
      by_cases hc : T.1 < 16
      · rw [if_neg (nI_ne (by omega) (by omega) (by omega)), if_pos hc, ob_mk hL.f1, ixk hL.n1 hc (by omega), nc (by omega), ob_mk hL.f2]
        generalize hJ1 : z_up I (A + 1) T.1 (nI i) = J1
        have j1 : J1 A 0 = nI T.1 := by rw [← hJ1, z_up_off (by omega)]; exact t1
        rw [j1, ixk hL.n2 hc (by omega), if_pos (show b2i fc = 0 ∨ b2i fc = 1 by cases fc; exact Or.inl rfl; exact Or.inr rfl), nc (by omega)]
        generalize hJ2 : z_up J1 (A + 2) T.1 (b2i fc) = J2
        have j2 : J2 A 0 = nI T.1 := by rw [← hJ2, z_up_off (by omega)]; exact j1
        rw [j2, nI_1]
        generalize hI' : z_up J2 A 0 (nI (T.1 + 1)) = I'
        have h2 : I' A 0 = nI (T.1 + 1) := by rw [← hI', z_up_at]
        have hoff : ∀ b, b ≠ A → b ≠ A + 1 → b ≠ A + 2 → I' b = I b := fun b b1 b2 b3 => by rw [← hI', z_up_off b1, ← hJ2, z_up_off b3, ← hJ1, z_up_off b2]
        have hA1 : ∀ c, I' (A + 1) c = if c = T.1 then nI i else I (A + 1) c := fun c => by
          rw [← hI', z_up_off (by omega), ← hJ2, z_up_off (by omega), ← hJ1]
          by_cases g : c = T.1
          · rw [if_pos g, g, z_up_at]
          · rw [if_neg g, z_up_ne (Or.inr g)]
        have hA2 : ∀ c, I' (A + 2) c = if c = T.1 then b2i fc else I (A + 2) c := fun c => by
          rw [← hI', z_up_off (by omega), ← hJ2]
          by_cases g : c = T.1
          · rw [if_pos g, g, z_up_at]
          · rw [if_neg g, z_up_ne (Or.inr g), ← hJ1, z_up_off (by omega)]
        rw [h2, nI_pred]
        refine ⟨I', rfl, ⟨hL, ⟨h2, ⟨by show 1 ≤ T.1 + 1; omega, by show T.1 + 1 ≤ 16; omega, fun c c1 c2 => ?_, ?_⟩, fun c hc' => ?_⟩, fun j hj => ?_, ?_⟩, fun b hb => hoff b (by omega) (by omega) (by omega)⟩
        · have hc2 : c < T.1 + 1 := c2
          show nup T.2.1 T.1 i c < c
          by_cases g : c = T.1
          · subst g; rw [nup_at]; exact hi
          · rw [nup_ne g]; exact o3 c c1 (by omega)
        · show nup T.2.2 T.1 fc 0 = false
          rw [nup_ne (by omega)]; exact o4
        · have hc2 : c < T.1 + 1 := hc'
          show (1 ≤ c → I' (A + 1) c = nI (nup T.2.1 T.1 i c)) ∧ I' (A + 2) c = b2i (nup T.2.2 T.1 fc c)
          rw [hA1, hA2]
          by_cases g : c = T.1
          · subst g; rw [if_pos rfl, if_pos rfl, nup_at, nup_at]; exact ⟨fun _ => rfl, rfl⟩
          · rw [if_neg g, if_neg g, nup_ne g, nup_ne g]; exact t3 c (by omega)
        · unfold rM rK rSn
          rw [hoff (A + 3) (by omega) (by omega) (by omega), hoff (A + 4) (by omega) (by omega) (by omega), hoff (A + 5) (by omega) (by omega) (by omega), hoff (A + 6) (by omega) (by omega) (by omega), hoff (A + 7) (by omega) (by omega) (by omega), hoff (A + 8) (by omega) (by omega) (by omega), hoff (A + 9) (by omega) (by omega) (by omega), hoff (A + 10) (by omega) (by omega) (by omega), hoff (A + 11) (by omega) (by omega) (by omega), hoff (A + 12) (by omega) (by omega) (by omega), hoff (A + 13) (by omega) (by omega) (by omega), hoff (A + 14) (by omega) (by omega) (by omega), hoff (A + 15) (by omega) (by omega) (by omega), hoff (A + 16) (by omega) (by omega) (by omega), hoff (A + 17) (by omega) (by omega) (by omega), hoff (A + 18) (by omega) (by omega) (by omega), hoff (A + 19) (by omega) (by omega) (by omega)]
          exact hM j hj
        · rw [← hI', z_up_ne (Or.inr (by omega)), ← hJ2, z_up_off (by omega), ← hJ1, z_up_off (by omega)]; exact hf
      · have h16 : T.1 = 16 := by omega
        rw [if_pos (by rw [h16]), if_neg hc]
        exact ⟨I, rfl, hA, fY.rf⟩
    cases hfi : T.2.2 i
    · rw [if_pos (show b2i false = 0 from rfl)]
      cases hfc : fc
      · rw [if_pos (show b2i false = 0 from rfl), if_neg (show ¬ (false = true ∨ (false = true ∧ i ≠ 0)) by rintro (g | g); cases g; cases g.1)]
        rw [hfc] at add
        exact add
      · rw [if_neg (show ¬ b2i true = 0 by decide)]
        by_cases hi0 : i = 0
        · rw [if_pos (show nI i = 0 by rw [hi0]; rfl), if_neg (show ¬ (false = true ∨ (true = true ∧ i ≠ 0)) by rintro (g | g); cases g; exact g.2 hi0)]
          rw [hfc] at add
          exact add
        · rw [if_neg (fun d => hi0 ((nI_eq (by omega) (by omega)).mp (d.trans nl0))), if_pos (show false = true ∨ (true = true ∧ i ≠ 0) from Or.inr ⟨rfl, hi0⟩)]
          exact triv
    · rw [if_neg (show ¬ b2i true = 0 by decide), if_pos (show true = true ∨ _ from Or.inl rfl)]
      exact triv
end RC
