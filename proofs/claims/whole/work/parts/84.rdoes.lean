/-! the reference: does -/
theorem m_brk_P {P : Nat → Prop} {pl : Nat → Nat} {p : Nat} (h0 : P 0) (h : ∀ x, x < 8 → P (pl x)) : ∀ x, x < 8 → P (m_brk pl p x) := fun x hx => by
  have h1 : ∀ x, x < 8 → P (m_b1 pl p x) := fun x hx => by
    unfold m_b1
    split
    · by_cases e : x = p - 1
      · subst e; rw [nup_at]; exact h0
      · rw [nup_ne e]; exact h x hx
    · exact h x hx
  unfold m_brk m_b2
  split
  · by_cases e : x = p + 1
    · subst e; rw [nup_at]; exact h0
    · rw [nup_ne e]; exact h1 x hx
  · exact h1 x hx
theorem m_sto_P {P : Nat → Prop} {pl : Nat → Nat} {p t : Nat} (h0 : P 0) (h2 : P 2) (h3 : P 3) (ht : P t) (h : ∀ x, x < 8 → P (pl x)) : ∀ x, x < 8 → P (m_sto pl p t x) := fun x hx => by
  unfold m_sto
  split
  · by_cases e : x = p
    · subst e; rw [nup_at]; exact h2
    · rw [nup_ne e]
      by_cases e2 : x = p + 1
      · subst e2; rw [nup_at]; exact h3
      · rw [nup_ne e2]; exact m_brk_P h0 (m_brk_P h0 h) x hx
  · by_cases e : x = p
    · subst e; rw [nup_at]; exact ht
    · rw [nup_ne e]; exact m_brk_P h0 h x hx
def mSim (r d : Nat × mSn) : Prop := r.1 = d.1 ∧ (d.1 = 0 → r.2 = d.2)
theorem mSim.rf {r : Nat × mSn} : mSim r r := ⟨rfl, fun _ => rfl⟩
theorem m_push_w {s : mSn} {t : Nat} : m_w (s.1, s.2.1 + 1, nup s.2.2 s.2.1 t) = m_w s + m_t t := by
  show m_wt (nup s.2.2 s.2.1 t) (s.2.1 + 1) = m_wt s.2.2 s.2.1 + m_t t
  simp only [m_wt]
  rw [nup_at, m_wt_congr (g := s.2.2) (fun j hj => nup_ne (by omega))]
theorem m_chk_push (r : Nat × mSn) (t : Nat) : mSim (m_chk (q_push r t)) (m_bd r (fun s => m_push s t)) := by
  unfold q_push m_bd
  by_cases h : r.1 = 0
  · rw [if_pos h, if_pos h]
    unfold m_chk m_push
    dsimp only
    rw [m_push_w]
    by_cases hd : 10 < m_w r.2 + m_t t
    · rw [if_pos ⟨rfl, hd⟩, if_pos hd]; exact ⟨rfl, fun g => absurd g (by show ¬ 3 = 0; omega)⟩
    · rw [if_neg (fun g => hd g.2), if_neg hd]; exact mSim.rf
  · rw [if_neg h, if_neg h]
    unfold m_chk
    rw [if_neg (fun g => h g.1)]; exact mSim.rf
theorem m_chk_no {r : Nat × mSn} (h : r.1 = 0 → m_w r.2 ≤ 10) : mSim (m_chk r) r := by
  unfold m_chk
  rw [if_neg (fun g => by have := h g.1; omega)]; exact mSim.rf
theorem m_w_dn {s : mSn} (h : m_w s ≤ 10) : m_wt s.2.2 (s.2.1 - 1) ≤ 10 := by
  have h' : m_wt s.2.2 s.2.1 ≤ 10 := h
  by_cases h0 : s.2.1 = 0
  · rw [h0]; show 0 ≤ 10; omega
  · obtain ⟨k, hk⟩ : ∃ k, s.2.1 = k + 1 := ⟨s.2.1 - 1, by omega⟩
    rw [hk] at h' ⊢
    simp only [m_wt] at h'
    show m_wt s.2.2 k ≤ 10
    omega
theorem m_take_w {s : mSn} {t : Nat} (h : m_w s ≤ 10) : (m_take s t).1 = 0 → m_w (m_take s t).2 ≤ 10 := by
  unfold m_take
  split
  · intro g; exact absurd g (by show ¬ 1 = 0; omega)
  · split
    · intro _; exact m_w_dn h
    · intro g; exact absurd g (by show ¬ 2 = 0; omega)
theorem m_takeO_w {T : mTr} {s : mSn} {t : Nat} (h : m_w s ≤ 10) : (m_takeO T s t).1 = 0 → m_w (m_takeO T s t).2 ≤ 10 := by
  unfold m_takeO
  split
  · intro g; exact absurd g (by show ¬ 1 = 0; omega)
  · split
    · intro _; exact m_w_dn h
    · intro g; exact absurd g (by show ¬ 2 = 0; omega)
theorem m_rep_w {st : Nat → Nat} {o t : Nat} (ho : o ≠ 2) (ht : t ≠ 2) (n : Nat) : m_wt (fun j => if st j = o then t else st j) n = m_wt st n := by
  induction n with
  | zero => rfl
  | succ n ih =>
    simp only [m_wt]
    rw [ih]
    congr 1
    by_cases e : st n = o
    · rw [if_pos e, e]; unfold m_t; rw [if_neg ht, if_neg ho]
    · rw [if_neg e]
theorem m_make_w {n : Nat} {K : Nat → mAc} {c : Nat} {s : mSn} (h : m_w s ≤ 10) : (m_make n K c s).1 = 0 → m_w (m_make n K c s).2 ≤ 10 := by
  unfold m_make
  split
  · intro g; exact absurd g (by show ¬ 1 = 0; omega)
  · split
    · rename_i h0 hu
      intro _
      have hu' := of_decide_eq_true hu
      have := m_rep_w (st := s.2.2) (o := s.2.2 (s.2.1 - 1)) (t := 10 + c) (by omega) (by omega) (s.2.1 - 1)
      show m_wt (fun j => if s.2.2 j = s.2.2 (s.2.1 - 1) then 10 + c else s.2.2 j) (s.2.1 - 1) ≤ 10
      rw [this]
      exact m_w_dn h
    · intro g; exact absurd g (by show ¬ 2 = 0; omega)
theorem m_store_w {pc a : Nat} {s : mSn} (h : m_w s ≤ 10) : (m_store pc a s).1 = 0 → m_w (m_store pc a s).2 ≤ 10 := by
  unfold m_store
  split
  · intro g; exact absurd g (by show ¬ 7 = 0; omega)
  · split
    · intro g; exact absurd g (by show ¬ 1 = 0; omega)
    · split
      · intro g; exact absurd g (by show ¬ 7 = 0; omega)
      · intro _; exact m_w_dn h
theorem m_more_w {pc a : Nat} {s : mSn} (h : m_w s ≤ 10) : (m_more pc a s).1 = 0 → m_w (m_more pc a s).2 ≤ 10 := by
  unfold m_more
  split
  · intro _; exact h
  · intro g; exact absurd g (by show ¬ 7 = 0; omega)
section RD3
variable {F : Nat} {S : zS} {I : zI} {A i n pc : Nat} {T : mTr} {K : Nat → mAc} {s : mSn}
theorem r_load (hE : rE S I A i T pc n K) (hw : I A 24 = nI 0) (hs : rSn I (A + 20) 0 s) (hV : mVs T n K s) {a : Nat} (ha : a < 8) : ∃ I', z_X9_placeActs F S I A (nI 3) (nI a) = some I' ∧ rW T I' A (if ¬ a < pc ∨ s.1 a = 0 ∨ s.1 a = 3 then (7, s) else q_push (0, s) (s.1 a)) ∧ fN A I I' := by
  obtain ⟨hL, hT, ⟨e21, hi⟩, ⟨e3, hpc⟩, hn40, hK⟩ := hE
  have h16 := hT.2.1.2.1
  have hB := hV.b h16 hn40
  have h10 := hV.h
  have hba := (hB.1 a ha).1
  have hva := hs.1 a ha
  rw [Nat.zero_add] at hva
  unfold z_X9_placeActs
  rw [ob_mk hL.f3, e21, ixk hL.n3 (by omega) (by omega), nc (by omega), e3]
  by_cases hp : a < pc
  · rw [if_pos ((nI_ltI (by omega) (by omega)).mpr hp), if_pos (show nI 3 = 3 from rfl), ob_mk hL.f22, ixk hL.n22 (by omega) (by omega), ixk hL.n22 (by omega) (by omega), nc (by omega), hva]
    have bad : ∃ I', z_X9_placeActs_46 F S A (nI a) I = some I' ∧ rW T I' A (7, s) ∧ fN A I I' := by
      unfold z_X9_placeActs_46 z_X9_placeActs_52
      rw [ob_mk (r_fails0 hw 7), ob_mk hL.f22, ixk hL.n22 (by omega) (by omega)]
      unfold z_X9_push
      rw [if_neg (show ¬ z_up I A 24 7 A 24 = 0 by rw [z_up_at]; decide), ob_mk rfl]
      exact ⟨_, rfl, ⟨by rw [z_up_at]; rfl, by show 7 < 20; omega, fun g => absurd g (by show ¬ 7 = 0; omega)⟩, fN.rf.upW⟩
    by_cases h0 : s.1 a = 0
    · rw [if_pos (show nI (s.1 a) = 0 by rw [h0]; rfl), if_pos (show ¬ a < pc ∨ s.1 a = 0 ∨ s.1 a = 3 from Or.inr (Or.inl h0))]; exact bad
    · rw [if_neg (fun d => h0 ((nI_eq (by omega) (by omega)).mp (d.trans nl0)))]
      by_cases h3 : s.1 a = 3
      · rw [if_pos (show nI (s.1 a) = 3 by rw [h3]; rfl), if_pos (show ¬ a < pc ∨ s.1 a = 0 ∨ s.1 a = 3 from Or.inr (Or.inr h3))]; exact bad
      · rw [if_neg (fun d => h3 ((nI_eq (by omega) (by omega)).mp (d.trans nl3))), if_neg (show ¬ (¬ a < pc ∨ s.1 a = 0 ∨ s.1 a = 3) by omega)]
        unfold z_X9_placeActs_52
        rw [ob_mk hL.f22, ixk hL.n22 (by omega) (by omega), nc (by omega), hva]
        obtain ⟨I', g1, g2, g3⟩ := r_push (F := F) (r := (0, s)) hL ⟨hw, by show 0 < 20; omega, fun _ => ⟨hs, by show s.2.1 ≤ 11; omega, hB⟩⟩ (fun _ => h10) (hB.1 a ha)
        rw [ob_mk g1]
        exact ⟨I', rfl, g2, g3⟩
  · rw [if_neg (fun d => hp ((nI_ltI (by omega) (by omega)).mp d)), if_pos (show ¬ a < pc ∨ s.1 a = 0 ∨ s.1 a = 3 from Or.inl hp), ob_mk (r_fails0 hw 7)]
    exact ⟨_, rfl, ⟨by rw [z_up_at]; rfl, by show 7 < 20; omega, fun g => absurd g (by show ¬ 7 = 0; omega)⟩, fN.rf.upW⟩
theorem r_more (hE : rE S I A i T pc n K) (hw : I A 24 = nI 0) (hs : rSn I (A + 20) 0 s) (hV : mVs T n K s) {a : Nat} (ha : a < 8) : ∃ I', z_X9_placeActs F S I A (nI 20) (nI a) = some I' ∧ rW T I' A (m_more pc a s) ∧ fN A I I' := by
  obtain ⟨hL, hT, ⟨e21, hi⟩, ⟨e3, hpc⟩, hn40, hK⟩ := hE
  have h16 := hT.2.1.2.1
  have hB := hV.b h16 hn40
  have h10 := hV.h
  have hba := (hB.1 a ha).1
  have hva := hs.1 a ha
  rw [Nat.zero_add] at hva
  unfold z_X9_placeActs m_more
  rw [ob_mk hL.f3, e21, ixk hL.n3 (by omega) (by omega), nc (by omega), e3]
  have bad : ∃ I', ob (z_X9_fails F S I A 7) (fun q8 => some q8) = some I' ∧ rW T I' A (7, s) ∧ fN A I I' := by
    rw [ob_mk (r_fails0 hw 7)]
    exact ⟨_, rfl, ⟨by rw [z_up_at]; rfl, by show 7 < 20; omega, fun g => absurd g (by show ¬ 7 = 0; omega)⟩, fN.rf.upW⟩
  by_cases hp : a < pc
  · rw [if_pos ((nI_ltI (by omega) (by omega)).mpr hp), if_neg (show ¬ nI 20 = 3 by decide), if_pos (show nI 20 = 20 from rfl), ob_mk hL.f22, ixk hL.n22 (by omega) (by omega), nc (by omega), hva]
    by_cases h1 : s.1 a = 1
    · rw [if_pos (show nI (s.1 a) = 1 by rw [h1]; rfl), if_pos ⟨hp, h1⟩]
      exact ⟨I, rfl, ⟨hw, by show 0 < 20; omega, fun _ => ⟨hs, by show s.2.1 ≤ 11; omega, hB⟩⟩, fN.rf⟩
    · rw [if_neg (fun d => h1 ((nI_eq (by omega) (by omega)).mp (d.trans nl1))), if_neg (fun g => h1 g.2)]; exact bad
  · rw [if_neg (fun d => hp ((nI_ltI (by omega) (by omega)).mp d)), if_neg (fun g => hp g.1)]; exact bad
theorem r_storeA (hE : rE S I A i T pc n K) (hw : I A 24 = nI 0) (hs : rSn I (A + 20) 0 s) (hV : mVs T n K s) {a : Nat} (ha : a < 8) : ∃ I', z_X9_placeActs F S I A (nI 4) (nI a) = some I' ∧ rW T I' A (m_store pc a s) ∧ fN A I I' := by
  obtain ⟨hL, hT, ⟨e21, hi⟩, ⟨e3, hpc⟩, hn40, hK⟩ := hE
  have h16 := hT.2.1.2.1
  have hB := hV.b h16 hn40
  have h10 := hV.h
  unfold z_X9_placeActs m_store
  rw [ob_mk hL.f3, e21, ixk hL.n3 (by omega) (by omega), nc (by omega), e3]
  by_cases hp : a < pc
  · rw [if_pos ((nI_ltI (by omega) (by omega)).mpr hp), if_neg (show ¬ nI 4 = 3 by decide), if_neg (show ¬ nI 4 = 20 by decide), if_neg (show ¬ ¬ a < pc from fun g => g hp)]
    by_cases h0 : s.2.1 = 0
    · rw [ob_mk (r_pop0 hL hw hs h0), if_pos h0]
      dsimp only
      rw [if_neg (show ¬ z_up I A 24 1 A 24 = 0 by rw [z_up_at]; decide)]
      unfold z_X9_placeActs_128
      rw [if_neg (show ¬ z_up I A 24 1 A 24 = 0 by rw [z_up_at]; decide)]
      exact ⟨_, rfl, ⟨by rw [z_up_at]; rfl, by show 1 < 20; omega, fun g => absurd g (by show ¬ 1 = 0; omega)⟩, fN.rf.upW⟩
    · rw [ob_mk (r_pop1 hL hs (by omega) hB h0), if_neg h0]
      dsimp only
      have hb1 := hB.2 (s.2.1 - 1) (by omega)
      generalize ht : s.2.2 (s.2.1 - 1) = t at hb1
      have hb2 := hb1.1
      generalize hJ : z_up I (A + 20) 8 (nI (s.2.1 - 1)) = J
      have fJ : fN A I J := by rw [← hJ]; exact fN.rf.upN
      have j24 : J A 24 = nI 0 := by rw [← hJ, z_up_off (by omega)]; exact hw
      have j21 : J A 21 = nI i := by rw [fJ.2 21 (by omega)]; exact e21
      have j3 : J (A + 3) i = nI pc := by rw [fJ.1 _ (by omega) (by omega)]; exact e3
      have hsJ : rSn J (A + 20) 0 (s.1, s.2.1 - 1, s.2.2) := by rw [← hJ]; exact hs.dn
      have hPJ : ∀ x, x < 8 → J (A + 20) x = nI (s.1 x) := fun x hx => by
        have := hsJ.1 x hx
        rw [Nat.zero_add] at this
        exact this
      simp only [j24, j21, nI_1]
      rw [if_pos (show nI 0 = 0 from rfl), ixk hL.n3 (by omega) (by omega), nc (by omega), j3]
      have good : (t = 2 → a + 1 < 8) → ∃ I', z_X9_placeActs_128 F S A (nI a) (nI t) J = some I' ∧ rW T I' A (0, m_sto s.1 a t, s.2.1 - 1, s.2.2) ∧ fN A I I' := fun h2 => by
        obtain ⟨I', g1, g2, g3, g4⟩ := r_store (F := F) hL hPJ (fun x hx => (hB.1 x hx).1) hV.2.2.2 j24 ha hb2 h2
        refine ⟨I', g1, ⟨by rw [g4 A (by omega)]; exact j24, by show 0 < 20; omega, fun _ => ⟨⟨fun x hx => ?_, ?_, fun j hj => ?_⟩, by show s.2.1 - 1 ≤ 11; omega, fun x hx => ?_, fun j hj => hB.dn.2 j hj⟩⟩, fJ.trans ⟨fun b _ h2 => g4 b h2, fun k _ => by rw [g4 A (by omega)]⟩⟩
        · rw [Nat.zero_add]; exact g2 x hx
        · rw [g3 _ (by omega)]; exact hsJ.2.1
        · rw [g3 _ (by omega)]; exact hsJ.2.2 j hj
        · exact m_sto_P (P := mOb T) ⟨by omega, fun h => by omega⟩ ⟨by omega, fun h => by omega⟩ ⟨by omega, fun h => by omega⟩ hb1 hB.1 x hx
      by_cases h2 : t = 2
      · rw [if_pos (show nI t = 2 by rw [h2]; rfl)]
        by_cases hp1 : a + 1 < pc
        · rw [if_pos ((nI_ltI (by omega) (by omega)).mpr hp1), if_neg (show ¬ (t = 2 ∧ ¬ a + 1 < pc) by omega)]
          exact good (fun _ => by omega)
        · rw [if_neg (fun d => hp1 ((nI_ltI (by omega) (by omega)).mp d)), if_pos (show t = 2 ∧ ¬ a + 1 < pc from ⟨h2, hp1⟩), ob_mk (r_fails0 j24 7)]
          unfold z_X9_placeActs_128
          rw [if_neg (show ¬ z_up J A 24 7 A 24 = 0 by rw [z_up_at]; decide)]
          exact ⟨_, rfl, ⟨by rw [z_up_at]; rfl, by show 7 < 20; omega, fun g => absurd g (by show ¬ 7 = 0; omega)⟩, fJ.upW⟩
      · rw [if_neg (fun d => h2 ((nI_eq (by omega) (by omega)).mp (d.trans nl2))), if_neg (show ¬ (t = 2 ∧ ¬ a + 1 < pc) from fun g => h2 g.1)]
        exact good (fun g => absurd g h2)
  · rw [if_neg (fun d => hp ((nI_ltI (by omega) (by omega)).mp d)), if_pos hp, ob_mk (r_fails0 hw 7)]
    exact ⟨_, rfl, ⟨by rw [z_up_at]; rfl, by show 7 < 20; omega, fun g => absurd g (by show ¬ 7 = 0; omega)⟩, fN.rf.upW⟩
end RD3
