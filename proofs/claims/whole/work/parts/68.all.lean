/-! all of the class's cells -/
/-- places, used, beginning; acts; guards; computed; most on stack, most places, states; frames -/
abbrev mM : Type := (Nat × Nat × mSn) × (Nat × (Nat → mAc)) × (Nat × (Nat → mGd)) × Bool × mR × ((Nat → Bool) × (Nat → mSn))
abbrev xpc (x : mM) : Nat := x.1.1
abbrev xus (x : mM) : Nat := x.1.2.1
abbrev xbg (x : mM) : mSn := x.1.2.2
abbrev xn (x : mM) : Nat := x.2.1.1
abbrev xK (x : mM) : Nat → mAc := x.2.1.2
abbrev xgn (x : mM) : Nat := x.2.2.1.1
abbrev xG (x : mM) : Nat → mGd := x.2.2.1.2
abbrev xkn (x : mM) : Bool := x.2.2.2.1
abbrev xR (x : mM) : mR := x.2.2.2.2.1
abbrev xC (x : mM) : mC := x.2.2.2.2.1.2.2
abbrev xfm (x : mM) : Nat → Bool := x.2.2.2.2.2.1
abbrev xfs (x : mM) : Nat → mSn := x.2.2.2.2.2.2
def xnew (x : mM) : mM := (x.1, x.2.1, x.2.2.1, false, x.2.2.2.2)
def cRf (S : zS) (B i k : Nat) : Option Nat := if k < 40 then S.1 (B + 5 + 6 * i + 1) k else S.1 (B + 5 + 6 * i + 2) (k - 40)
theorem cRf_a {S : zS} {B i p : Nat} (h : p < 40) : cRf S B i p = S.1 (B + 5 + 6 * i + 1) p := by unfold cRf; rw [if_pos h]
theorem cRf_g {S : zS} {B i j : Nat} : cRf S B i (40 + j) = S.1 (B + 5 + 6 * i + 2) j := by
  unfold cRf
  rw [if_neg (by omega)]
  have : 40 + j - 40 = j := by omega
  rw [this]
def cSz (k : Nat) : Nat := if k < 40 then 7 else 1
def cQf (S : zS) (M p : Nat) : Nat := match S.1 (M + 1) p with | none => 0 | some q => q
theorem cQf_at {S : zS} {M p q : Nat} (h : S.1 (M + 1) p = some q) : cQf S M p = q := by unfold cQf; rw [h]
def cDis (S : zS) (B : Nat) : Prop := ∀ i k i' k' q q', i < 8 → k < 44 → i' < 8 → k' < 44 → cRf S B i k = some q → cRf S B i' k' = some q' → (i ≠ i' ∨ k ≠ k') → q + cSz k ≤ q' ∨ q' + cSz k' ≤ q
/-- the layout of the class's cells -/
def cLay (S : zS) (B : Nat) : Prop := cLc S B ∧ cLk S B ∧ (S.1 B 0 = some (B + 1) ∧ S.1 B 1 = some (B + 4) ∧ S.1 B 2 = some (B + 54) ∧ S.1 B 3 = some (B + 61) ∧ (S.2.1 (B + 4)).2 = 8) ∧ (∀ i, i < 8 → cLm S B i) ∧ (∀ i k q, i < 8 → k < 44 → cRf S B i k = some q → B + 94 ≤ q ∧ q + cSz k ≤ S.2.2 ∧ (k < 40 → S.1 q 6 = some (q + 1) ∧ S.1 q 7 = some (q + 4) ∧ cOK S (q + 1) ∧ cOK S (q + 4))) ∧ cDis S B ∧ B + 94 ≤ S.2.2
/-- what a method's cells hold -/
def cN (S : zS) (I : zI) (B i : Nat) (x : mM) : Prop :=
  (I (B + 5 + 6 * i) 3 = nI (xn x) ∧ I (B + 5 + 6 * i) 4 = nI (xgn x) ∧ I (B + 5 + 6 * i) 5 = nI (xpc x) ∧ I (B + 5 + 6 * i) 6 = nI (xus x) ∧ I (B + 5 + 6 * i) 7 = b2i (xkn x)) ∧
  (∀ p, p < xn x → ∃ q, S.1 (B + 5 + 6 * i + 1) p = some q ∧ I q 0 = nI (xK x p).1 ∧ I q 1 = (xK x p).2.1 ∧ I q 2 = (xK x p).2.2) ∧
  (∀ j, j < xgn x → ∃ g, S.1 (B + 5 + 6 * i + 2) j = some g ∧ I g 0 = nI (xG x j).1 ∧ I g 1 = nI (xG x j).2.1 ∧ I g 2 = nI (xG x j).2.2.1 ∧ I g 3 = nI (xG x j).2.2.2) ∧
  cSn I (B + 5 + 6 * i + 3) (xbg x) ∧
  (xkn x = true → cC I (xn x) (cQf S (B + 5 + 6 * i)) (xC x) ∧ cFr I (xn x) (cQf S (B + 5 + 6 * i)) (xfm x) (xfs x) ∧ I (B + 5 + 6 * i) 8 = nI (xR x).1 ∧ I (B + 5 + 6 * i) 9 = nI (xR x).2.1)
/-- sizes of a method, and that its acts and guards are such as can be told -/
def mMs (T : mTr) (x : mM) : Prop := xn x ≤ 40 ∧ xgn x ≤ 4 ∧ (1 ≤ xpc x ∧ xpc x ≤ 8) ∧ xus x ≤ xpc x ∧ (∀ p, p < xn x → mAok T (xK x p)) ∧ ∀ j, j < xgn x → mGok T (xG x j)
theorem cN.toV {S : zS} {I : zI} {B i : Nat} {T : mTr} {x : mM} (hL : cLay S B) (hT : cT S I (B + 1) T) (hi : i < 8) (hx : mMs T x) (h : cN S I B i x) : cV S I B i T (xpc x) (xn x) (xK x) (cQf S (B + 5 + 6 * i)) (xgn x) (xG x) := by
  obtain ⟨l1, l2, l3, l4, l5, l6, l7⟩ := hL
  obtain ⟨m1, m2, m3, m4, m5, m6⟩ := hx
  obtain ⟨⟨i3, i4, i5, i6, i7⟩, ha, hg, hb, hk⟩ := h
  have hm := l4 i hi
  have hq : ∀ p, p < xn x → ∃ q, cRf S B i p = some q ∧ cQf S (B + 5 + 6 * i) p = q ∧ S.1 (B + 5 + 6 * i + 1) p = some q := fun p hp => by
    obtain ⟨q, e, _⟩ := ha p hp
    refine ⟨q, ?_, cQf_at e, e⟩
    unfold cRf; rw [if_pos (by omega)]; exact e
  refine ⟨l1, hi, hm, hT, ⟨hm.2.1, hm.2.2.2.2.1, i3, m1, fun p hp => ha p hp⟩, ⟨fun p hp => ?_, fun p p' hp hp' hne => ?_⟩, ⟨i5, m3.2⟩, m5, ⟨i4, m2, fun j hj => ?_⟩⟩
  · obtain ⟨q, e1, e2, e3⟩ := hq p hp
    obtain ⟨r1, r2, r3⟩ := l5 i p q hi (by omega) e1
    have r4 := r3 (by omega)
    rw [e2]; exact ⟨r1, e3, r4.1, r4.2.1, r4.2.2.1, r4.2.2.2⟩
  · obtain ⟨q, e1, e2, e3⟩ := hq p hp
    obtain ⟨q', e1', e2', e3'⟩ := hq p' hp'
    have := l6 i p i p' q q' hi (by omega) hi (by omega) e1 e1' (Or.inr hne)
    rw [e2, e2']
    unfold cSz at this
    rw [if_pos (by omega), if_pos (by omega)] at this
    exact this
  · obtain ⟨g, e, k⟩ := hg j hj
    have e1 : cRf S B i (40 + j) = some g := by rw [cRf_g]; exact e
    refine ⟨m6 j hj, g, e, (l5 i (40 + j) g hi (by omega) e1).1, fun p hp => ?_, k⟩
    obtain ⟨q, f1, f2, f3⟩ := hq p hp
    have := l6 i (40 + j) i p g q hi (by omega) hi (by omega) e1 f1 (Or.inr (by omega))
    rw [f2]
    unfold cSz at this
    rw [if_neg (by omega), if_pos (by omega)] at this
    omega
/-- the cells of method i -/
def cOwn (S : zS) (B i b : Nat) : Prop := (B + 5 + 6 * i ≤ b ∧ b < B + 11 + 6 * i) ∨ ∃ k q, k < 44 ∧ cRf S B i k = some q ∧ q ≤ b ∧ b < q + cSz k
theorem cN.kept {S S' : zS} {I I' : zI} {B i : Nat} {T : mTr} {x : mM} (hx : mMs T x) (h : cN S I B i x) (e1 : ∀ p, S'.1 (B + 5 + 6 * i + 1) p = S.1 (B + 5 + 6 * i + 1) p) (e2 : ∀ p, S'.1 (B + 5 + 6 * i + 2) p = S.1 (B + 5 + 6 * i + 2) p) (f : ∀ b, cOwn S B i b → I' b = I b) : cN S' I' B i x := by
  obtain ⟨m1, m2, m3, m4, m5, m6⟩ := hx
  obtain ⟨h1, ha, hg, hb, hk⟩ := h
  have eM : ∀ d, d < 6 → I' (B + 5 + 6 * i + d) = I (B + 5 + 6 * i + d) := fun d hd => f _ (Or.inl (by omega))
  have eQ : cQf S' (B + 5 + 6 * i) = cQf S (B + 5 + 6 * i) := by funext p; unfold cQf; rw [e1]
  have hq : ∀ p, p < xn x → ∀ d, d < 7 → I' (cQf S (B + 5 + 6 * i) p + d) = I (cQf S (B + 5 + 6 * i) p + d) := fun p hp d hd => by
    obtain ⟨q, e, _⟩ := ha p hp
    rw [cQf_at e]
    refine f _ (Or.inr ⟨p, q, by omega, ?_, by omega, ?_⟩)
    · unfold cRf; rw [if_pos (by omega)]; exact e
    · unfold cSz; rw [if_pos (by omega)]; omega
  have e0 := eM 0 (by omega)
  rw [Nat.add_zero] at e0
  refine ⟨by rw [e0]; exact h1, fun p hp => ?_, fun j hj => ?_, hb.kept (eM 3 (by omega)) (eM 4 (by omega)) (eM 5 (by omega)), fun g => ?_⟩
  · obtain ⟨q, e, k⟩ := ha p hp
    have := hq p hp 0 (by omega)
    rw [cQf_at e, Nat.add_zero] at this
    exact ⟨q, by rw [e1]; exact e, by rw [this]; exact k⟩
  · obtain ⟨g, e, k⟩ := hg j hj
    have : I' g = I g := f g (Or.inr ⟨40 + j, g, by omega, by rw [cRf_g]; exact e, Nat.le_refl _, by unfold cSz; rw [if_neg (by omega)]; omega⟩)
    exact ⟨g, by rw [e2]; exact e, by rw [this]; exact k⟩
  · obtain ⟨k1, k2, k3⟩ := hk g
    rw [eQ, e0]
    refine ⟨fun p hp => ?_, fun p hp => ?_, k3⟩
    · have q0 := hq p hp 0 (by omega)
      rw [Nat.add_zero] at q0
      rw [q0]
      exact ⟨(k1 p hp).1, (k1 p hp).2.1, fun r => ((k1 p hp).2.2 r).kept (hq p hp 1 (by omega)) (hq p hp 2 (by omega)) (hq p hp 3 (by omega))⟩
    · have q0 := hq p hp 0 (by omega)
      rw [Nat.add_zero] at q0
      rw [q0]
      exact ⟨(k2 p hp).1, fun r => ((k2 p hp).2 r).kept (hq p hp 4 (by omega)) (hq p hp 5 (by omega)) (hq p hp 6 (by omega))⟩
/-- the cells of other methods are not method i's, nor those below B + 94 that no method has -/
theorem cOwn.off {S : zS} {B i i' b : Nat} (hL : cLay S B) (hi : i < 8) (hi' : i' < 8) (hne : i' ≠ i) (h : cOwn S B i' b) : (b < B + 5 + 6 * i ∨ B + 11 + 6 * i ≤ b) ∧ (b < B + 53 ∨ B + 94 ≤ b) ∧ B + 5 ≤ b ∧ ∀ k q, k < 44 → cRf S B i k = some q → b < q ∨ q + cSz k ≤ b := by
  obtain ⟨l1, l2, l3, l4, l5, l6, l7⟩ := hL
  rcases h with h | ⟨k, q, hk, e, h1, h2⟩
  · refine ⟨by omega, by omega, by omega, fun k q hk e => ?_⟩
    have := (l5 i k q hi hk e).1
    omega
  · have hq := (l5 i' k q hi' hk e).1
    refine ⟨by omega, by omega, by omega, fun k' q' hk' e' => ?_⟩
    have := l6 i' k i k' q q' hi' hk hi hk' e e' (Or.inl hne)
    omega
/-- all of the class's cells -/
def cAll (S : zS) (I : zI) (B : Nat) (T : mTr) (X : Nat → mM) (f : Nat) : Prop := cLay S B ∧ cT S I (B + 1) T ∧ (∀ i, i < 8 → cN S I B i (X i)) ∧ I B 4 = nI f ∧ f < 20
/-- a call on method i has changed its cells, the working cells and the last fault alone -/
def fM (S : zS) (B i : Nat) (I I' : zI) : Prop := ∀ b, ¬ cOwn S B i b → (b < B + 53 ∨ B + 68 ≤ b) → b ≠ B → I' b = I b
theorem cAll.upd {S S' : zS} {I I' : zI} {B i : Nat} {T : mTr} {X : Nat → mM} {f f' : Nat} {y : mM} (h : cAll S I B T X f) (hX : ∀ j, j < 8 → mMs T (X j)) (hi : i < 8) (hL' : cLay S' B) (e1 : ∀ j, j < 8 → j ≠ i → ∀ p, S'.1 (B + 5 + 6 * j + 1) p = S.1 (B + 5 + 6 * j + 1) p) (e2 : ∀ j, j < 8 → j ≠ i → ∀ p, S'.1 (B + 5 + 6 * j + 2) p = S.1 (B + 5 + 6 * j + 2) p) (eT : S'.1 (B + 1) = S.1 (B + 1) ∧ S'.2.1 (B + 2) = S.2.1 (B + 2) ∧ S'.2.1 (B + 3) = S.2.1 (B + 3)) (hf : ∀ b, ¬ cOwn S B i b → (b < B + 53 ∨ B + 68 ≤ b) → b ≠ B → b < S.2.2 → I' b = I b) (hN : cN S' I' B i y) (h4 : I' B 4 = nI f') (h20 : f' < 20) : cAll S' I' B T (nup X i y) f' := by
  obtain ⟨a1, a2, a3, a4, a5⟩ := h
  have hlow : ∀ b, b < B + 5 → ¬ cOwn S B i b := fun b hb ho => by
    rcases ho with ho | ⟨k, q, hk, e, k1, k2⟩
    · omega
    · have := (a1.2.2.2.2.1 i k q hi hk e).1
      omega
  have h94 := a1.2.2.2.2.2.2
  refine ⟨hL', ?_, fun j hj => ?_, h4, h20⟩
  · have hk : ∀ d, d < 3 → I' (B + 1 + d) = I (B + 1 + d) := fun d hd => hf _ (hlow _ (by omega)) (by omega) (by omega) (by omega)
    have := a2.kept (hk 0 (by omega)) (hk 1 (by omega)) (hk 2 (by omega))
    obtain ⟨t1, t2, t3, t4, t5⟩ := this
    refine ⟨by rw [eT.1]; exact t1, by rw [eT.1]; exact t2, ?_, ?_, t5⟩
    · show (S'.2.1 (B + 2)).2 = 16
      rw [eT.2.1]; exact t3
    · show (S'.2.1 (B + 3)).2 = 16
      rw [eT.2.2]; exact t4
  · by_cases e : j = i
    · subst e; rw [nup_at]; exact hN
    · rw [nup_ne e]
      refine (a3 j hj).kept (hX j hj) (e1 j hj e) (e2 j hj e) (fun b hb => ?_)
      obtain ⟨o1, o2, o3, o4⟩ := cOwn.off a1 hi hj e hb
      refine hf b (fun ho => ?_) (by omega) (by omega) ?_
      · rcases ho with ho | ⟨k, q, hk, e', k1, k2⟩
        · omega
        · have := o4 k q hk e'
          omega
      · rcases hb with hb | ⟨k, q, hk, e', k1, k2⟩
        · omega
        · have := (a1.2.2.2.2.1 j k q hj hk e').2.1
          omega
theorem cAll.upd1 {S : zS} {I I' : zI} {B i : Nat} {T : mTr} {X : Nat → mM} {f f' : Nat} {y : mM} (h : cAll S I B T X f) (hX : ∀ j, j < 8 → mMs T (X j)) (hi : i < 8) (hf : fM S B i I I') (hN : cN S I' B i y) (h4 : I' B 4 = nI f') (h20 : f' < 20) : cAll S I' B T (nup X i y) f' := h.upd hX hi h.1 (fun _ _ _ _ => rfl) (fun _ _ _ _ => rfl) ⟨rfl, rfl, rfl⟩ (fun b h1 h2 h3 _ => hf b h1 h2 h3) hN h4 h20
