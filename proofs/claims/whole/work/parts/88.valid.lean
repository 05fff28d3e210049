/-! the model: what is held keeps to its rules -/
theorem m_brk_eq {pl : Nat → Nat} {a x : Nat} (h3 : pl a = 3 → 1 ≤ a) : m_brk pl a x = if (pl a = 3 ∧ x + 1 = a) ∨ (pl a = 2 ∧ x = a + 1) then 0 else pl x := by
  have e1 : m_b1 pl a x = if pl a = 3 ∧ x + 1 = a then 0 else pl x := by
    unfold m_b1
    by_cases h : pl a = 3
    · have := h3 h
      rw [if_pos ⟨h, this⟩]
      by_cases e : x = a - 1
      · rw [if_pos ⟨h, by omega⟩, e, nup_at]
      · rw [if_neg (by omega), nup_ne e]
    · rw [if_neg (fun g => h g.1), if_neg (fun g => h g.1)]
  unfold m_brk m_b2
  rw [m_b1_p]
  by_cases h : pl a = 2
  · rw [if_pos h]
    by_cases e : x = a + 1
    · rw [if_pos (Or.inr ⟨h, e⟩), e, nup_at]
    · rw [nup_ne e, e1, if_neg (by omega), if_neg (by omega)]
  · rw [if_neg h, e1]
    by_cases g : pl a = 3 ∧ x + 1 = a
    · rw [if_pos g, if_pos (Or.inl g)]
    · rw [if_neg g, if_neg (by omega)]
theorem m_sto_eq {pl : Nat → Nat} {a t x : Nat} (hR : mPr pl) (ha : a < 8) (h2 : t = 2 → a + 1 < 8) : m_sto pl a t x = if x = a then t else if t = 2 ∧ x = a + 1 then 3 else if (pl a = 3 ∧ x + 1 = a) ∨ (pl a = 2 ∧ x = a + 1) ∨ (t = 2 ∧ pl (a + 1) = 2 ∧ x = a + 2) then 0 else pl x := by
  have h3 : pl a = 3 → 1 ≤ a := fun g => ((hR a ha).1 g).1
  have ea := fun y => m_brk_eq (x := y) h3
  unfold m_sto
  by_cases ht : t = 2
  · rw [if_pos ht]
    have h8 := h2 ht
    by_cases e : x = a
    · subst e; rw [nup_at, if_pos rfl, ht]
    · rw [nup_ne e, if_neg e]
      by_cases e1 : x = a + 1
      · subst e1; rw [nup_at, if_pos ⟨ht, rfl⟩]
      · have eb := m_brk_eq (pl := m_brk pl a) (a := a + 1) (x := x) (fun _ => by omega)
        rw [nup_ne e1, if_neg (fun g => e1 g.2), eb, ea x, ea (a + 1)]
        have p1 := (hR a ha).2
        by_cases c : pl (a + 1) = 2 ∧ x = a + 2
        · rw [if_pos (show (pl a = 3 ∧ x + 1 = a) ∨ (pl a = 2 ∧ x = a + 1) ∨ (t = 2 ∧ pl (a + 1) = 2 ∧ x = a + 2) from Or.inr (Or.inr ⟨ht, c⟩)), if_pos (Or.inr ⟨by rw [if_neg (by omega)]; exact c.1, by omega⟩)]
        · rw [if_neg (show ¬ (((if (pl a = 3 ∧ a + 1 + 1 = a) ∨ (pl a = 2 ∧ a + 1 = a + 1) then 0 else pl (a + 1)) = 3 ∧ x + 1 = a + 1) ∨ ((if (pl a = 3 ∧ a + 1 + 1 = a) ∨ (pl a = 2 ∧ a + 1 = a + 1) then 0 else pl (a + 1)) = 2 ∧ x = a + 1 + 1)) by
            rintro (g | g)
            · omega
            · have g1 := g.1
              by_cases q : (pl a = 3 ∧ a + 1 + 1 = a) ∨ (pl a = 2 ∧ a + 1 = a + 1)
              · rw [if_pos q] at g1; omega
              · rw [if_neg q] at g1; exact c ⟨g1, by omega⟩)]
          by_cases g : (pl a = 3 ∧ x + 1 = a) ∨ (pl a = 2 ∧ x = a + 1)
          · rw [if_pos g, if_pos (by omega)]
          · rw [if_neg g, if_neg (by omega)]
  · rw [if_neg ht]
    by_cases e : x = a
    · subst e; rw [nup_at, if_pos rfl]
    · rw [nup_ne e, if_neg e, if_neg (fun g => ht g.1), ea x]
      by_cases g : (pl a = 3 ∧ x + 1 = a) ∨ (pl a = 2 ∧ x = a + 1)
      · rw [if_pos g, if_pos (by omega)]
      · rw [if_neg g, if_neg (by omega)]
theorem mPr.sto {pl : Nat → Nat} {a t : Nat} (hR : mPr pl) (ha : a < 8) (h3 : t ≠ 3) (h2 : t = 2 → a + 1 < 8) : mPr (m_sto pl a t) := by
  have E := fun x => m_sto_eq (x := x) hR ha h2
  have ra := hR a ha
  intro x hx
  have rx := hR x hx
  constructor
  · intro g
    rw [E x] at g
    by_cases e : x = a
    · rw [if_pos e] at g; exact absurd g h3
    · rw [if_neg e] at g
      by_cases e1 : t = 2 ∧ x = a + 1
      · refine ⟨by omega, ?_⟩
        rw [E (x - 1), if_pos (by omega)]; exact e1.1
      · rw [if_neg e1] at g
        by_cases c : (pl a = 3 ∧ x + 1 = a) ∨ (pl a = 2 ∧ x = a + 1) ∨ (t = 2 ∧ pl (a + 1) = 2 ∧ x = a + 2)
        · rw [if_pos c] at g; omega
        · rw [if_neg c] at g
          obtain ⟨g1, g2⟩ := rx.1 g
          refine ⟨g1, ?_⟩
          have n1 : x - 1 ≠ a := fun q => c (Or.inr (Or.inl ⟨by rw [← q]; exact g2, by omega⟩))
          have n2 : ¬ (t = 2 ∧ x - 1 = a + 1) := fun q => c (Or.inr (Or.inr ⟨q.1, by rw [← q.2]; exact g2, by omega⟩))
          have n3 : ¬ ((pl a = 3 ∧ x - 1 + 1 = a) ∨ (pl a = 2 ∧ x - 1 = a + 1) ∨ (t = 2 ∧ pl (a + 1) = 2 ∧ x - 1 = a + 2)) := by
            rintro (q | q | q)
            · omega
            · have := (ra.2 q.1).2
              rw [← q.2, g2] at this; omega
            · have := ((hR (a + 1) (h2 q.1)).2 q.2.1).2
              rw [show a + 1 + 1 = x - 1 by omega, g2] at this; omega
          rw [E (x - 1), if_neg n1, if_neg n2, if_neg n3]; exact g2
  · intro g
    rw [E x] at g
    by_cases e : x = a
    · rw [if_pos e] at g
      refine ⟨by have := h2 g; omega, ?_⟩
      rw [E (x + 1), if_neg (by omega), if_pos ⟨g, by omega⟩]
    · rw [if_neg e] at g
      by_cases e1 : t = 2 ∧ x = a + 1
      · rw [if_pos e1] at g; omega
      · rw [if_neg e1] at g
        by_cases c : (pl a = 3 ∧ x + 1 = a) ∨ (pl a = 2 ∧ x = a + 1) ∨ (t = 2 ∧ pl (a + 1) = 2 ∧ x = a + 2)
        · rw [if_pos c] at g; omega
        · rw [if_neg c] at g
          obtain ⟨g1, g2⟩ := rx.2 g
          refine ⟨g1, ?_⟩
          have n1 : x + 1 ≠ a := fun q => c (Or.inl ⟨by rw [← q]; exact g2, q⟩)
          have n2 : ¬ (t = 2 ∧ x + 1 = a + 1) := fun q => e (by omega)
          have n3 : ¬ ((pl a = 3 ∧ x + 1 + 1 = a) ∨ (pl a = 2 ∧ x + 1 = a + 1) ∨ (t = 2 ∧ pl (a + 1) = 2 ∧ x + 1 = a + 2)) := by
            rintro (q | q | q)
            · have := (ra.1 q.1).2
              rw [show a - 1 = x + 1 by omega, g2] at this; omega
            · omega
            · exact absurd g (by rw [show x = a + 1 by omega]; intro q2; exact e1 ⟨q.1, by omega⟩)
          rw [E (x + 1), if_neg n1, if_neg n2, if_neg n3]; exact g2
section MV
variable {T : mTr} {n pc : Nat} {K : Nat → mAc} {s o : mSn}
theorem m_join_c (a b : Nat) (h : m_join T a b ≠ 0) : (m_join T a b = 2 ↔ a = 2) ∧ (m_join T a b = 3 ↔ a = 3) := by
  unfold m_join at h ⊢
  by_cases e : a = b
  · rw [if_pos e]; exact ⟨Iff.rfl, Iff.rfl⟩
  · rw [if_neg e] at h ⊢
    by_cases c1 : (10 ≤ a ∧ a < 10 + T.1) ∧ (10 ≤ b ∧ b < 10 + T.1)
    · rw [if_pos c1]; omega
    · rw [if_neg c1] at h ⊢
      by_cases c2 : a = 4 ∧ (10 ≤ b ∧ b < 10 + T.1)
      · rw [if_pos c2]; omega
      · rw [if_neg c2] at h ⊢
        by_cases c3 : b = 4 ∧ (10 ≤ a ∧ a < 10 + T.1)
        · rw [if_pos c3]; omega
        · rw [if_neg c3] at h; exact absurd rfl h
theorem m_join_c' (a b : Nat) (h : m_join T a b = 2 ∨ m_join T a b = 3) : a = m_join T a b ∧ b = m_join T a b := by
  unfold m_join at h ⊢
  by_cases e : a = b
  · rw [if_pos e]; exact ⟨rfl, e.symm⟩
  · rw [if_neg e] at h ⊢
    by_cases c1 : (10 ≤ a ∧ a < 10 + T.1) ∧ (10 ≤ b ∧ b < 10 + T.1)
    · rw [if_pos c1] at h; omega
    · rw [if_neg c1] at h ⊢
      by_cases c2 : a = 4 ∧ (10 ≤ b ∧ b < 10 + T.1)
      · rw [if_pos c2] at h; omega
      · rw [if_neg c2] at h ⊢
        by_cases c3 : b = 4 ∧ (10 ≤ a ∧ a < 10 + T.1)
        · rw [if_pos c3] at h; omega
        · rw [if_neg c3] at h; omega
theorem mTy.join (hT : mTok T) {a b : Nat} (ha : mTy T n K a) (hb : mTy T n K b) : mTy T n K (m_join T a b) := by
  unfold m_join
  by_cases e : a = b
  · rw [if_pos e]; exact ha
  · rw [if_neg e]
    by_cases c1 : (10 ≤ a ∧ a < 10 + T.1) ∧ (10 ≤ b ∧ b < 10 + T.1)
    · rw [if_pos c1]
      have := m_near_lt hT (a := a - 10) (b := b - 10) (by omega)
      exact Or.inr (Or.inl (by omega))
    · rw [if_neg c1]
      by_cases c2 : a = 4 ∧ (10 ≤ b ∧ b < 10 + T.1)
      · rw [if_pos c2]; exact hb
      · rw [if_neg c2]
        by_cases c3 : b = 4 ∧ (10 ≤ a ∧ a < 10 + T.1)
        · rw [if_pos c3]; exact ha
        · rw [if_neg c3]; exact Or.inl (by omega)
theorem mVs.jn (hT : mTok T) (ho : mVs T n K o) (hs : mVs T n K s) (he : o.2.1 = s.2.1) (hb : m_bad T o s = false) : mVs T n K (m_jn T o s) := by
  have hb' := anyN_f.mp hb
  have hnz : ∀ j, j < s.2.1 → m_join T (o.2.2 j) (s.2.2 j) ≠ 0 := fun j hj => of_decide_eq_false (hb' j hj)
  refine ⟨fun x hx => (ho.1 x hx).join hT (hs.1 x hx), fun j hj => ?_, ?_, fun x hx => ⟨fun g => ?_, fun g => ?_⟩⟩
  · have hj' : j < s.2.1 := hj
    refine ⟨((ho.2.1 j (by omega)).1).join hT (hs.2.1 j hj').1, fun g => ?_⟩
    exact (ho.2.1 j (by omega)).2 (((m_join_c _ _ (hnz j hj')).2).mp g)
  · show m_wt (fun j => m_join T (o.2.2 j) (s.2.2 j)) s.2.1 ≤ 10
    have e : ∀ k, k ≤ s.2.1 → m_wt (fun j => m_join T (o.2.2 j) (s.2.2 j)) k = m_wt o.2.2 k := by
      intro k
      induction k with
      | zero => intro _; rfl
      | succ k ih =>
        intro hk
        simp only [m_wt]
        rw [ih (by omega)]
        congr 1
        unfold m_t
        have := (m_join_c _ _ (hnz k (by omega))).1
        by_cases g : o.2.2 k = 2
        · rw [if_pos (this.mpr g), if_pos g]
        · rw [if_neg (fun q => g (this.mp q)), if_neg g]
    rw [e _ (Nat.le_refl _), ← he]; exact ho.2.2.1
  · have g' : m_join T (o.1 x) (s.1 x) = 3 := g
    obtain ⟨g1, g2⟩ := m_join_c' _ _ (Or.inr g')
    obtain ⟨a1, a2⟩ := (ho.2.2.2 x hx).1 (g1.trans g')
    obtain ⟨b1, b2⟩ := (hs.2.2.2 x hx).1 (g2.trans g')
    refine ⟨a1, ?_⟩
    show m_join T (o.1 (x - 1)) (s.1 (x - 1)) = 2
    rw [a2, b2]; unfold m_join; rw [if_pos rfl]
  · have g' : m_join T (o.1 x) (s.1 x) = 2 := g
    obtain ⟨g1, g2⟩ := m_join_c' _ _ (Or.inl g')
    obtain ⟨a1, a2⟩ := (ho.2.2.2 x hx).2 (g1.trans g')
    obtain ⟨b1, b2⟩ := (hs.2.2.2 x hx).2 (g2.trans g')
    refine ⟨a1, ?_⟩
    show m_join T (o.1 (x + 1)) (s.1 (x + 1)) = 3
    rw [a2, b2]; unfold m_join; rw [if_pos rfl]
theorem mVs.cau (hs : mVs T n K s) {c : Nat} (hc : c < T.1) : mVs T n K (m_cau s c) := by
  have e : ∀ x, (if 100 ≤ s.1 x then 0 else s.1 x) = s.1 x ∨ (if 100 ≤ s.1 x then 0 else s.1 x) = 0 := fun x => by
    split
    · exact Or.inr rfl
    · exact Or.inl rfl
  have e2 : ∀ x v, v < 100 → s.1 x = v → (if 100 ≤ s.1 x then 0 else s.1 x) = v := fun x v hv g => by rw [if_neg (by omega)]; exact g
  have e3 : ∀ x v, v ≠ 0 → (if 100 ≤ s.1 x then 0 else s.1 x) = v → s.1 x = v := fun x v hv g => by
    by_cases q : 100 ≤ s.1 x
    · rw [if_pos q] at g; omega
    · rw [if_neg q] at g; exact g
  refine ⟨fun x hx => ?_, fun j hj => ⟨Or.inr (Or.inl ⟨by show 10 ≤ 10 + c; omega, by show 10 + c < 10 + T.1; omega⟩), by show 10 + c ≠ 3; omega⟩, ?_, fun x hx => ⟨fun g => ?_, fun g => ?_⟩⟩
  · show mTy T n K (if 100 ≤ s.1 x then 0 else s.1 x)
    split
    · exact Or.inl (by omega)
    · exact hs.1 x hx
  · show 0 + m_t (10 + c) ≤ 10
    have := m_t_pos (10 + c)
    omega
  · obtain ⟨g1, g2⟩ := (hs.2.2.2 x hx).1 (e3 x 3 (by omega) g)
    exact ⟨g1, e2 (x - 1) 2 (by omega) g2⟩
  · obtain ⟨g1, g2⟩ := (hs.2.2.2 x hx).2 (e3 x 2 (by omega) g)
    exact ⟨g1, e2 (x + 1) 3 (by omega) g2⟩
theorem m_cau_unm (s : mSn) {c : Nat} (hc : c < 16) : m_unm (m_cau s c) = false := by
  unfold m_unm
  have e1 : anyN (fun x => decide (100 ≤ (m_cau s c).1 x)) 8 = false := anyN_f.mpr (fun x hx => decide_eq_false (by
    show ¬ 100 ≤ (if 100 ≤ s.1 x then 0 else s.1 x)
    split <;> omega))
  have e2 : anyN (fun j => decide (100 ≤ (m_cau s c).2.2 j)) (m_cau s c).2.1 = false := anyN_f.mpr (fun j hj => decide_eq_false (by
    show ¬ 100 ≤ 10 + c
    omega))
  rw [e1, e2]; rfl
theorem mVs.push (hs : mVs T n K s) {t : Nat} (ht : mTy T n K t) (h3 : t ≠ 3) (h : (m_push s t).1 = 0) : mVs T n K (m_push s t).2 := by
  unfold m_push at h ⊢
  by_cases hd : 10 < m_w s + m_t t
  · rw [if_pos hd] at h; exact absurd h (by show ¬ 3 = 0; omega)
  · rw [if_neg hd]
    refine ⟨hs.1, fun j hj => ?_, by rw [m_push_w]; omega, hs.2.2.2⟩
    have hj' : j < s.2.1 + 1 := hj
    show mTy T n K (nup s.2.2 s.2.1 t j) ∧ nup s.2.2 s.2.1 t j ≠ 3
    by_cases e : j = s.2.1
    · subst e; rw [nup_at]; exact ⟨ht, h3⟩
    · rw [nup_ne e]; exact hs.2.1 j (by omega)
theorem mVs.dn (hs : mVs T n K s) : mVs T n K (s.1, s.2.1 - 1, s.2.2) := ⟨hs.1, fun j hj => hs.2.1 j (Nat.lt_of_lt_of_le hj (Nat.sub_le _ _)), m_w_dn hs.2.2.1, hs.2.2.2⟩
def mVr (T : mTr) (n : Nat) (K : Nat → mAc) (r : Nat × mSn) : Prop := r.1 = 0 → mVs T n K r.2
theorem mVr.bd {r : Nat × mSn} {f : mSn → Nat × mSn} (hr : mVr T n K r) (hf : ∀ s, mVs T n K s → mVr T n K (f s)) : mVr T n K (m_bd r f) := by
  unfold m_bd
  by_cases h : r.1 = 0
  · rw [if_pos h]; exact hf _ (hr h)
  · rw [if_neg h]; exact hr
theorem mVr.take (hs : mVs T n K s) (t : Nat) : mVr T n K (m_take s t) := by
  unfold m_take
  split
  · intro g; exact absurd g (by show ¬ 1 = 0; omega)
  · split
    · intro _; exact hs.dn
    · intro g; exact absurd g (by show ¬ 2 = 0; omega)
theorem mVr.takeO (hs : mVs T n K s) (c : Nat) : mVr T n K (m_takeO T s c) := by
  unfold m_takeO
  split
  · intro g; exact absurd g (by show ¬ 1 = 0; omega)
  · split
    · intro _; exact hs.dn
    · intro g; exact absurd g (by show ¬ 2 = 0; omega)
theorem mVr.store (hs : mVs T n K s) {a : Nat} (hpc : pc ≤ 8) : mVr T n K (m_store pc a s) := by
  unfold m_store
  split
  · intro g; exact absurd g (by show ¬ 7 = 0; omega)
  · rename_i h1
    split
    · intro g; exact absurd g (by show ¬ 1 = 0; omega)
    · rename_i h0
      split
      · intro g; exact absurd g (by show ¬ 7 = 0; omega)
      · rename_i h2
        intro _
        have ha : a < pc := by omega
        have ht := hs.2.1 (s.2.1 - 1) (by omega)
        refine ⟨m_sto_P (P := mTy T n K) (Or.inl (by omega)) (Or.inl (by omega)) (Or.inl (by omega)) ht.1 hs.1, hs.dn.2.1, hs.dn.2.2.1, hs.2.2.2.sto (by omega) ht.2 (fun g => by
          have : ¬ (s.2.2 (s.2.1 - 1) = 2 ∧ ¬ a + 1 < pc) := h2
          omega)⟩
theorem mVr.make (hs : mVs T n K s) {c : Nat} (hc : c < T.1) : mVr T n K (m_make n K c s) := by
  unfold m_make
  split
  · intro g; exact absurd g (by show ¬ 1 = 0; omega)
  · rename_i h0
    split
    · rename_i hu
      intro _
      have hu' := of_decide_eq_true hu
      generalize ht : s.2.2 (s.2.1 - 1) = t at hu'
      have hty : mTy T n K (10 + c) := Or.inr (Or.inl (by omega))
      have e3 : ∀ v w, w ≠ 10 + c → w ≠ t → (if v = t then 10 + c else v) = w → v = w := fun v w h1 h2 g => by
        by_cases q : v = t
        · rw [if_pos q] at g; omega
        · rw [if_neg q] at g; exact g
      refine ⟨fun x hx => ?_, fun j hj => ?_, ?_, fun x hx => ⟨fun g => ?_, fun g => ?_⟩⟩
      · show mTy T n K (if s.1 x = t then 10 + c else s.1 x)
        split
        · exact hty
        · exact hs.1 x hx
      · show mTy T n K (if s.2.2 j = t then 10 + c else s.2.2 j) ∧ (if s.2.2 j = t then 10 + c else s.2.2 j) ≠ 3
        have hj' : j < s.2.1 - 1 := hj
        split
        · exact ⟨hty, by omega⟩
        · exact hs.2.1 j (by omega)
      · have := m_rep_w (st := s.2.2) (o := t) (t := 10 + c) (by omega) (by omega) (s.2.1 - 1)
        show m_wt (fun j => if s.2.2 j = t then 10 + c else s.2.2 j) (s.2.1 - 1) ≤ 10
        rw [this]; exact m_w_dn hs.2.2.1
      · have g' : (if s.1 x = t then 10 + c else s.1 x) = 3 := g
        obtain ⟨g1, g2⟩ := (hs.2.2.2 x hx).1 (e3 _ 3 (by omega) (by omega) g')
        refine ⟨g1, ?_⟩
        show (if s.1 (x - 1) = t then 10 + c else s.1 (x - 1)) = 2
        rw [if_neg (by omega)]; exact g2
      · have g' : (if s.1 x = t then 10 + c else s.1 x) = 2 := g
        obtain ⟨g1, g2⟩ := (hs.2.2.2 x hx).2 (e3 _ 2 (by omega) (by omega) g')
        refine ⟨g1, ?_⟩
        show (if s.1 (x + 1) = t then 10 + c else s.1 (x + 1)) = 3
        rw [if_neg (by omega)]; exact g2
    · intro g; exact absurd g (by show ¬ 2 = 0; omega)
theorem mVr.wd (hT : mTok T) (hpc : pc ≤ 8) {p : Nat} (hp : p < n) (ok : mAok T (K p)) (hs : mVs T n K s) : mVr T n K (m_wd T pc n K p s) := by
  unfold m_wd m_ta
  obtain ⟨o1, o2, o3, o4⟩ := ok
  have h9 : (K p).1 = 9 → mTy T n K (100 + p) := fun g => Or.inr (Or.inr ⟨by omega, by omega, by rw [show 100 + p - 100 = p by omega]; exact g⟩)
  generalize (K p).2.1 = x at o2 o3 o4
  generalize hk : (K p).1 = k at o1 o2 o3 o4 h9
  have push : ∀ s t, mVs T n K s → mTy T n K t → t ≠ 3 → mVr T n K (m_push s t) := fun s t h1 h2 h3 g => h1.push h2 h3 g
  have l4 : ∀ t, t ≤ 4 → mTy T n K t := fun t h => Or.inl h
  have ac : (((9 ≤ k ∧ k ≤ 13) ∨ k = 18 ∨ k = 19)) → mTy T n K (10 + x.toNatClampNeg) ∧ x.toNatClampNeg < T.1 := fun g => by
    obtain ⟨a, ha, ea⟩ := o3 g
    have := hT.2.1
    rw [ea, nc (by omega)]
    exact ⟨Or.inr (Or.inl (by omega)), ha⟩
  have : k = 0 ∨ k = 1 ∨ k = 2 ∨ k = 3 ∨ k = 4 ∨ k = 5 ∨ k = 6 ∨ k = 7 ∨ k = 8 ∨ k = 9 ∨ k = 10 ∨ k = 11 ∨ k = 12 ∨ k = 13 ∨ k = 14 ∨ k = 15 ∨ k = 16 ∨ k = 17 ∨ k = 18 ∨ k = 19 ∨ k = 20 := by omega
  rcases this with rfl | rfl | rfl | rfl | rfl | rfl | rfl | rfl | rfl | rfl | rfl | rfl | rfl | rfl | rfl | rfl | rfl | rfl | rfl | rfl | rfl
  · exact push s 1 hs (l4 _ (by omega)) (by omega)
  · exact push s 2 hs (l4 _ (by omega)) (by omega)
  · exact push s 4 hs (l4 _ (by omega)) (by omega)
  · show mVr T n K (m_load pc x.toNatClampNeg s)
    unfold m_load
    split
    · intro g; exact absurd g (by show ¬ 7 = 0; omega)
    · rename_i h
      exact push s _ hs (hs.1 _ (by omega)) (by omega)
  · exact mVr.store hs hpc
  · show mVr T n K (if s.2.1 = 0 then (1, s) else (0, s.1, s.2.1 - 1, s.2.2))
    split
    · intro g; exact absurd g (by show ¬ 1 = 0; omega)
    · intro _; exact hs.dn
  · show mVr T n K (if s.2.1 = 0 then (1, s) else m_push s (s.2.2 (s.2.1 - 1)))
    split
    · intro g; exact absurd g (by show ¬ 1 = 0; omega)
    · exact push s _ hs (hs.2.1 _ (by omega)).1 (hs.2.1 _ (by omega)).2
  · exact (mVr.take hs 1).bd (fun s h => (mVr.take h 1).bd (fun s h => push s 1 h (l4 _ (by omega)) (by omega)))
  · exact (mVr.take hs 2).bd (fun s h => (mVr.take h 2).bd (fun s h => push s 2 h (l4 _ (by omega)) (by omega)))
  · exact push s _ hs (h9 rfl) (by omega)
  · exact mVr.make hs (ac (by omega)).2
  · exact (mVr.takeO hs _).bd (fun s h => push s 1 h (l4 _ (by omega)) (by omega))
  · exact (mVr.take hs 1).bd (fun s h => (mVr.takeO h _).bd (fun s h => push s _ h (ac (by omega)).1 (by omega)))
  · exact (mVr.takeO hs 0).bd (fun s h => push s _ h (ac (by omega)).1 (by omega))
  · intro _; exact hs
  · exact mVr.take hs 1
  · exact mVr.take hs 1
  · exact mVr.take hs 1
  · exact mVr.takeO hs _
  · exact mVr.takeO hs _
  · show mVr T n K (m_more pc x.toNatClampNeg s)
    unfold m_more
    split
    · intro _; exact hs
    · intro g; exact absurd g (by show ¬ 7 = 0; omega)
def mCv (T : mTr) (n : Nat) (K : Nat → mAc) (C : mC) : Prop := ∀ p, p < n → C.1 p = true → mVs T n K (C.2.2 p)
theorem mCv.b {C : mC} (h : mCv T n K C) (hT : T.1 ≤ 16) (hn : n ≤ 40) : mCb T n C := fun p hp hr => ⟨(h p hp hr).h, (h p hp hr).b hT hn⟩
theorem mCv.arr (hT : mTok T) {C : mC} {chk : Bool} {a : Nat} (h : mCv T n K C) (hs : mVs T n K s) (h0 : (m_arr T n chk a s C).1 = 0) : mCv T n K (m_arr T n chk a s C).2 := by
  unfold m_arr at h0 ⊢
  by_cases c1 : ¬ a < n
  · rw [if_pos c1] at h0; exact absurd h0 (by show ¬ 5 = 0; omega)
  · rw [if_neg c1] at h0 ⊢
    by_cases c2 : (chk && m_unm s) = true
    · rw [if_pos c2] at h0; exact absurd h0 (by show ¬ 6 = 0; omega)
    · rw [if_neg c2] at h0 ⊢
      by_cases c3 : C.1 a = false
      · rw [if_pos c3]
        intro p hp hr
        have hr' : nup C.1 a true p = true := hr
        show mVs T n K (nup C.2.2 a s p)
        by_cases e : p = a
        · subst e; rw [nup_at]; exact hs
        · rw [nup_ne e] at hr' ⊢; exact h p hp hr'
      · rw [if_neg c3] at h0 ⊢
        have c3' : C.1 a = true := by cases hq : C.1 a; exact absurd hq c3; rfl
        by_cases c4 : (C.2.2 a).2.1 ≠ s.2.1
        · rw [if_pos c4] at h0; exact absurd h0 (by show ¬ 4 = 0; omega)
        · rw [if_neg c4] at h0 ⊢
          by_cases c5 : m_bad T (C.2.2 a) s = true
          · rw [if_pos c5] at h0; exact absurd h0 (by show ¬ 2 = 0; omega)
          · rw [if_neg c5]
            intro p hp hr
            show mVs T n K (nup C.2.2 a (m_jn T (C.2.2 a) s) p)
            by_cases e : p = a
            · subst e
              rw [nup_at]
              exact (h p hp c3').jn hT hs (Decidable.of_not_not c4) (by cases hq : m_bad T (C.2.2 p) s; rfl; exact absurd hq c5)
            · rw [nup_ne e]; exact h p hp hr
end MV
