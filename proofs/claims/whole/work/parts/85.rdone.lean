/-! the reference: does, whole -/
theorem m_bd_a {r : Nat × mSn} {f g : mSn → Nat × mSn} : m_bd (m_bd r f) g = m_bd r (fun s => m_bd (f s) g) := by
  by_cases h : r.1 = 0
  · have e : ∀ f, m_bd r f = f r.2 := fun f => by unfold m_bd; rw [if_pos h]
    rw [e, e]
  · have e : ∀ f, m_bd r f = r := fun f => by unfold m_bd; rw [if_neg h]
    rw [e, e, e]
def mHb (r : Nat × mSn) : Prop := r.1 = 0 → r.2.2.1 ≤ 10
theorem mHb.take {r : Nat × mSn} (h : mHb r) (t : Nat) : mHb (m_bd r (fun s => m_take s t)) := by
  unfold m_bd
  split
  · rename_i h0
    have h1 := h h0
    show mHb (m_take r.2 t)
    unfold m_take
    split
    · intro g; exact absurd g (by show ¬ 1 = 0; omega)
    · split
      · intro _; show r.2.2.1 - 1 ≤ 10; omega
      · intro g; exact absurd g (by show ¬ 2 = 0; omega)
  · exact h
theorem mHb.takeO {T : mTr} {r : Nat × mSn} (h : mHb r) (t : Nat) : mHb (m_bd r (fun s => m_takeO T s t)) := by
  unfold m_bd
  split
  · rename_i h0
    have h1 := h h0
    show mHb (m_takeO T r.2 t)
    unfold m_takeO
    split
    · intro g; exact absurd g (by show ¬ 1 = 0; omega)
    · split
      · intro _; show r.2.2.1 - 1 ≤ 10; omega
      · intro g; exact absurd g (by show ¬ 2 = 0; omega)
  · exact h
theorem nup_self {α : Type} {f : Nat → α} {k : Nat} : nup f k (f k) = f := by
  funext j
  by_cases e : j = k
  · subst e; rw [nup_at]
  · rw [nup_ne e]
section RD4
variable {F : Nat} {S : zS} {I : zI} {A i n pc : Nat} {T : mTr} {K : Nat → mAc} {s : mSn}
theorem r_popS (hL : rL S A) (hw : I A 24 = nI 0) (hs : rSn I (A + 20) 0 s) (h10 : s.2.1 ≤ 10) (hB : mB T s) : ∃ I', z_X9_pop F S I A = some (nI (if s.2.1 = 0 then 0 else s.2.2 (s.2.1 - 1)), I') ∧ rW T I' A (if s.2.1 = 0 then (1, s) else (0, s.1, s.2.1 - 1, s.2.2)) ∧ fN A I I' := by
  by_cases h0 : s.2.1 = 0
  · rw [r_pop0 hL hw hs h0, if_pos h0, if_pos h0]
    exact ⟨_, rfl, ⟨by rw [z_up_at]; rfl, by show 1 < 20; omega, fun g => absurd g (by show ¬ 1 = 0; omega)⟩, fN.rf.upW⟩
  · rw [r_pop1 hL hs (by omega) hB h0, if_neg h0, if_neg h0]
    exact ⟨_, rfl, ⟨by rw [z_up_off (by omega)]; exact hw, by show 0 < 20; omega, fun _ => ⟨hs.dn, by show s.2.1 - 1 ≤ 11; omega, hB.dn⟩⟩, fN.rf.upN⟩
theorem r_does (hF : 40 ≤ F) (hE : rE S I A i T pc n K) {p : Nat} (hp : p < n) (hs : rSn I (A + 20) 0 s) (hV : mVs T n K s) : ∃ I', z_X9_does F S I A (nI p) = some I' ∧ fN A I I' ∧ I' A 24 = nI (m_wd T pc n K p s).1 ∧ ((m_wd T pc n K p s).1 = 0 → rSn I' (A + 20) 0 (m_wd T pc n K p s).2) := by
  have hE0 := hE
  obtain ⟨hL, hT, ⟨e21, hi⟩, ⟨e3, hpc⟩, hn40, hK⟩ := hE
  obtain ⟨ok, k7, k8, k9⟩ := hK p hp
  have h16 := hT.2.1.2.1
  have h1T := hT.2.1.1
  have hB := hV.b h16 hn40
  have h10 := hV.h
  have hw10 := hV.2.2.1
  unfold z_X9_does
  rw [ob_mk hL.f8, e21, nl40, pk_mul, nI_add, ixk hL.n8 (by omega) (by omega), ob_mk hL.f7, ixk hL.n7 (by omega) (by omega), nc (by omega), k8]
  generalize hJ : z_up I A 24 0 = J
  have fJ : fN A I J := by rw [← hJ]; exact fN.rf.upW
  have hE : rE S J A i T pc n K := hE0.keep fJ
  have hT := hE.2.1
  have j24 : J A 24 = nI 0 := by rw [← hJ, z_up_at]; rfl
  have hsJ : rSn J (A + 20) 0 s := hs.kept (by rw [← hJ, z_up_off (by omega)])
  have k7J : J (A + 7) (40 * i + p) = nI (K p).1 := by rw [← hJ, z_up_off (by omega)]; exact k7
  have w0 : rW T J A (0, s) := ⟨j24, by show 0 < 20; omega, fun _ => ⟨hsJ, by show s.2.1 ≤ 11; omega, hB⟩⟩
  have b0 : mHb (0, s) := fun _ => h10
  rw [k7J]
  unfold m_wd m_ta
  have fin : ∀ {I1 : zI} {r d : Nat × mSn}, rW T I1 A r → fN A J I1 → mSim (m_chk r) d → ∃ I', z_X9_does_244 F S A I1 = some I' ∧ fN A I I' ∧ I' A 24 = nI d.1 ∧ (d.1 = 0 → rSn I' (A + 20) 0 d.2) := fun {I1 r d} h1 h2 h3 => by
    obtain ⟨I', g1, g2, g3⟩ := r_244 (F := F) (by omega) hL h1
    refine ⟨I', g1, (fJ.trans h2).trans g3, by rw [← h3.1]; exact g2.1, fun g => ?_⟩
    have := (g2.2.2 (h3.1.trans g)).1
    rw [h3.2 g] at this
    exact this
  have d232 : ∀ x, z_X9_does_232 F S A (nI p) (nI (40 * i + p)) x J = ob (z_X9_doesMore F S J A (nI p) (nI (K p).1) x) (fun q => z_X9_does_244 F S A q) := fun x => by
    unfold z_X9_does_232
    rw [ob_mk hL.f7, ixk hL.n7 (by omega) (by omega), nc (by omega), k7J]
  have d152 : ∀ x, z_X9_does_152 F S A (nI (40 * i + p)) x J = ob (z_X9_placeActs F S J A (nI (K p).1) x) (fun q => z_X9_does_244 F S A q) := fun x => by
    unfold z_X9_does_152
    rw [ob_mk hL.f7, ixk hL.n7 (by omega) (by omega), nc (by omega), k7J]
  rw [d232, d152]
  obtain ⟨o1, o2, o3, o4⟩ := ok
  generalize hx : (K p).2.1 = x at o2 o3 o4
  generalize hk : (K p).1 = k at o1 o2 o3 o4
  have oB : ∀ t, t < 10 ∨ (100 ≤ t ∧ t < 200) → mOb T t := fun t ht => ⟨by omega, fun h1 h2 => by omega⟩
  have : k = 0 ∨ k = 1 ∨ k = 2 ∨ k = 3 ∨ k = 4 ∨ k = 5 ∨ k = 6 ∨ k = 7 ∨ k = 8 ∨ k = 9 ∨ k = 10 ∨ k = 11 ∨ k = 12 ∨ k = 13 ∨ k = 14 ∨ k = 15 ∨ k = 16 ∨ k = 17 ∨ k = 18 ∨ k = 19 ∨ k = 20 := by omega
  rcases this with rfl | rfl | rfl | rfl | rfl | rfl | rfl | rfl | rfl | rfl | rfl | rfl | rfl | rfl | rfl | rfl | rfl | rfl | rfl | rfl | rfl
  · rw [if_pos (show (nI 0 = 0) by decide)]
    obtain ⟨I1, a1, a2, a3⟩ := r_push (F := F) (t := 1) hL w0 b0 (oB 1 (by omega))
    rw [ob_mk (show z_X9_push F S J A 1 = some I1 from a1)]
    exact fin a2 a3 (m_chk_push (0, s) 1)
  · rw [if_neg (show ¬ (nI 1 = 0) by decide), if_pos (show (nI 1 = 1) by decide)]
    obtain ⟨I1, a1, a2, a3⟩ := r_push (F := F) (t := 2) hL w0 b0 (oB 2 (by omega))
    rw [ob_mk (show z_X9_push F S J A 2 = some I1 from a1)]
    exact fin a2 a3 (m_chk_push (0, s) 2)
  · rw [if_neg (show ¬ (nI 2 = 0) by decide), if_neg (show ¬ (nI 2 = 1) by decide), if_pos (show (nI 2 = 2) by decide)]
    obtain ⟨I1, a1, a2, a3⟩ := r_push (F := F) (t := 4) hL w0 b0 (oB 4 (by omega))
    rw [ob_mk (show z_X9_push F S J A 4 = some I1 from a1)]
    exact fin a2 a3 (m_chk_push (0, s) 4)
  · rw [if_neg (show ¬ (nI 3 = 0) by decide), if_neg (show ¬ (nI 3 = 1) by decide), if_neg (show ¬ (nI 3 = 2) by decide), if_pos (show (nI 3 = 3 ∨ nI 3 = 4 ∨ nI 3 = 20) by decide)]
    obtain ⟨a, ha, ea⟩ := o2 (by decide)
    subst ea
    rw [nc (by omega)]
    obtain ⟨I1, a1, a2, a3⟩ := r_load (F := F) hE j24 hsJ hV ha
    rw [ob_mk a1]
    refine fin a2 a3 ?_
    show mSim _ (m_load pc a s)
    unfold m_load
    by_cases h : ¬ a < pc ∨ s.1 a = 0 ∨ s.1 a = 3
    · rw [if_pos h, if_pos h]; exact m_chk_no (fun g => absurd g (by show ¬ 7 = 0; omega))
    · rw [if_neg h, if_neg h]; exact m_chk_push (0, s) (s.1 a)
  · rw [if_neg (show ¬ (nI 4 = 0) by decide), if_neg (show ¬ (nI 4 = 1) by decide), if_neg (show ¬ (nI 4 = 2) by decide), if_pos (show (nI 4 = 3 ∨ nI 4 = 4 ∨ nI 4 = 20) by decide)]
    obtain ⟨a, ha, ea⟩ := o2 (by decide)
    subst ea
    rw [nc (by omega)]
    obtain ⟨I1, a1, a2, a3⟩ := r_storeA (F := F) hE j24 hsJ hV ha
    rw [ob_mk a1]
    exact fin a2 a3 (m_chk_no (m_store_w hw10))
  · rw [if_neg (show ¬ (nI 5 = 0) by decide), if_neg (show ¬ (nI 5 = 1) by decide), if_neg (show ¬ (nI 5 = 2) by decide), if_neg (show ¬ (nI 5 = 3 ∨ nI 5 = 4 ∨ nI 5 = 20) by decide), if_pos (show (nI 5 = 5) by decide)]
    obtain ⟨I1, a1, a2, a3⟩ := r_popS (F := F) hL j24 hsJ h10 hB
    rw [ob_mk a1]
    refine fin a2 a3 (m_chk_no (fun g => ?_))
    by_cases h0 : s.2.1 = 0
    · rw [if_pos h0] at g; exact absurd g (by show ¬ 1 = 0; omega)
    · rw [if_neg h0]; exact m_w_dn hw10
  · rw [if_neg (show ¬ (nI 6 = 0) by decide), if_neg (show ¬ (nI 6 = 1) by decide), if_neg (show ¬ (nI 6 = 2) by decide), if_neg (show ¬ (nI 6 = 3 ∨ nI 6 = 4 ∨ nI 6 = 20) by decide), if_neg (show ¬ (nI 6 = 5) by decide), if_pos (show (nI 6 = 6) by decide)]
    obtain ⟨I1, a1, a2, a3⟩ := r_popS (F := F) hL j24 hsJ h10 hB
    rw [ob_mk a1]
    show ∃ I', ob (z_X9_push F S I1 A (nI (if s.2.1 = 0 then 0 else s.2.2 (s.2.1 - 1)))) _ = some I' ∧ _
    have ht : mOb T (if s.2.1 = 0 then 0 else s.2.2 (s.2.1 - 1)) := by
      by_cases h0 : s.2.1 = 0
      · rw [if_pos h0]; exact oB 0 (by omega)
      · rw [if_neg h0]; exact hB.2 _ (by omega)
    obtain ⟨I2, b1, b2, b3⟩ := r_push (F := F) hL a2 (fun g => by
      by_cases h0 : s.2.1 = 0
      · rw [if_pos h0] at g; exact absurd g (by show ¬ 1 = 0; omega)
      · rw [if_neg h0]; show s.2.1 - 1 ≤ 10; omega) ht
    obtain ⟨I3, c1, c2, c3⟩ := r_push (F := F) hL b2 (fun g => by
      by_cases h0 : s.2.1 = 0
      · rw [if_pos h0] at g; exact absurd g (by show ¬ 1 = 0; omega)
      · rw [if_neg h0]; show s.2.1 - 1 + 1 ≤ 10; omega) ht
    rw [ob_mk b1, ob_mk c1]
    refine fin c2 ((a3.trans b3).trans c3) ?_
    show mSim _ (if s.2.1 = 0 then (1, s) else m_push s (s.2.2 (s.2.1 - 1)))
    by_cases h0 : s.2.1 = 0
    · simp only [if_pos h0]; exact m_chk_no (fun g => absurd g (by show ¬ 1 = 0; omega))
    · simp only [if_neg h0]
      have e : q_push (0, s.1, s.2.1 - 1, s.2.2) (s.2.2 (s.2.1 - 1)) = (0, s) := by
        show (0, s.1, s.2.1 - 1 + 1, nup s.2.2 (s.2.1 - 1) (s.2.2 (s.2.1 - 1))) = (0, s)
        rw [nup_self, show s.2.1 - 1 + 1 = s.2.1 by omega]
      rw [e]; exact m_chk_push (0, s) _
  · rw [if_neg (show ¬ (nI 7 = 0) by decide), if_neg (show ¬ (nI 7 = 1) by decide), if_neg (show ¬ (nI 7 = 2) by decide), if_neg (show ¬ (nI 7 = 3 ∨ nI 7 = 4 ∨ nI 7 = 20) by decide), if_neg (show ¬ (nI 7 = 5) by decide), if_neg (show ¬ (nI 7 = 6) by decide), if_pos (show (nI 7 = 7) by decide)]
    obtain ⟨I1, a1, a2, a3⟩ := r_wants (F := F) (t := 1) hL w0 (by omega)
    obtain ⟨I2, b1, b2, b3⟩ := r_wants (F := F) (t := 1) hL a2 (by omega)
    obtain ⟨I3, c1, c2, c3⟩ := r_push (F := F) (t := 1) hL b2 ((b0.take 1).take 1) (oB 1 (by omega))
    rw [ob_mk (show z_X9_wants F S J A 1 = some I1 from a1), ob_mk (show z_X9_wants F S I1 A 1 = some I2 from b1), ob_mk (show z_X9_push F S I2 A 1 = some I3 from c1)]
    refine fin c2 ((a3.trans b3).trans c3) ?_
    have := m_chk_push (m_bd (m_bd (0, s) (fun s => m_take s 1)) (fun s => m_take s 1)) 1
    rw [m_bd_a] at this ⊢
    rw [m_bd_a] at this
    have e : m_bd (0, s) (fun s_1 => m_bd (m_bd (m_take s_1 1) fun s => m_take s 1) fun s => m_push s 1) = m_bd (m_take s 1) (fun s => m_bd (m_take s 1) (fun s => m_push s 1)) := by
      show m_bd (m_bd (m_take s 1) fun s => m_take s 1) (fun s => m_push s 1) = _
      rw [m_bd_a]
    rw [e] at this
    exact this
  · rw [if_neg (show ¬ (nI 8 = 0) by decide), if_neg (show ¬ (nI 8 = 1) by decide), if_neg (show ¬ (nI 8 = 2) by decide), if_neg (show ¬ (nI 8 = 3 ∨ nI 8 = 4 ∨ nI 8 = 20) by decide), if_neg (show ¬ (nI 8 = 5) by decide), if_neg (show ¬ (nI 8 = 6) by decide), if_neg (show ¬ (nI 8 = 7) by decide), if_pos (show (nI 8 = 8) by decide)]
    obtain ⟨I1, a1, a2, a3⟩ := r_wants (F := F) (t := 2) hL w0 (by omega)
    obtain ⟨I2, b1, b2, b3⟩ := r_wants (F := F) (t := 2) hL a2 (by omega)
    obtain ⟨I3, c1, c2, c3⟩ := r_push (F := F) (t := 2) hL b2 ((b0.take 2).take 2) (oB 2 (by omega))
    rw [ob_mk (show z_X9_wants F S J A 2 = some I1 from a1), ob_mk (show z_X9_wants F S I1 A 2 = some I2 from b1), ob_mk (show z_X9_push F S I2 A 2 = some I3 from c1)]
    refine fin c2 ((a3.trans b3).trans c3) ?_
    have := m_chk_push (m_bd (m_bd (0, s) (fun s => m_take s 2)) (fun s => m_take s 2)) 2
    rw [m_bd_a] at this ⊢
    rw [m_bd_a] at this
    have e : m_bd (0, s) (fun s_1 => m_bd (m_bd (m_take s_1 2) fun s => m_take s 2) fun s => m_push s 2) = m_bd (m_take s 2) (fun s => m_bd (m_take s 2) (fun s => m_push s 2)) := by
      show m_bd (m_bd (m_take s 2) fun s => m_take s 2) (fun s => m_push s 2) = _
      rw [m_bd_a]
    rw [e] at this
    exact this
  · rw [if_neg (show ¬ (nI 9 = 0) by decide), if_neg (show ¬ (nI 9 = 1) by decide), if_neg (show ¬ (nI 9 = 2) by decide), if_neg (show ¬ (nI 9 = 3 ∨ nI 9 = 4 ∨ nI 9 = 20) by decide), if_neg (show ¬ (nI 9 = 5) by decide), if_neg (show ¬ (nI 9 = 6) by decide), if_neg (show ¬ (nI 9 = 7) by decide), if_neg (show ¬ (nI 9 = 8) by decide)]
    unfold z_X9_doesMore
    rw [if_pos (show (nI 9 = 9) by decide)]
    obtain ⟨I1, a1, a2, a3⟩ := r_push (F := F) (t := 100 + p) hL w0 b0 (oB _ (by omega))
    rw [nl100, nI_add, ob_mk (o := z_X9_push F S J A (nI (100 + p))) a1, ob_mk rfl]
    exact fin a2 a3 (m_chk_push (0, s) (100 + p))
  · rw [if_neg (show ¬ (nI 10 = 0) by decide), if_neg (show ¬ (nI 10 = 1) by decide), if_neg (show ¬ (nI 10 = 2) by decide), if_neg (show ¬ (nI 10 = 3 ∨ nI 10 = 4 ∨ nI 10 = 20) by decide), if_neg (show ¬ (nI 10 = 5) by decide), if_neg (show ¬ (nI 10 = 6) by decide), if_neg (show ¬ (nI 10 = 7) by decide), if_neg (show ¬ (nI 10 = 8) by decide)]
    unfold z_X9_doesMore
    rw [if_neg (show ¬ (nI 10 = 9) by decide), if_pos (show (nI 10 = 10) by decide)]
    obtain ⟨a, ha, ea⟩ := o3 (by decide)
    subst ea
    rw [nc (by omega)]
    obtain ⟨I1, a1, a2, a3⟩ := r_make (F := F) hF hE j24 hsJ hV ha
    rw [ob_mk (o := z_X9_make F S J A (nI a)) a1, ob_mk rfl]
    exact fin a2 a3 (m_chk_no (m_make_w hw10))
  · rw [if_neg (show ¬ (nI 11 = 0) by decide), if_neg (show ¬ (nI 11 = 1) by decide), if_neg (show ¬ (nI 11 = 2) by decide), if_neg (show ¬ (nI 11 = 3 ∨ nI 11 = 4 ∨ nI 11 = 20) by decide), if_neg (show ¬ (nI 11 = 5) by decide), if_neg (show ¬ (nI 11 = 6) by decide), if_neg (show ¬ (nI 11 = 7) by decide), if_neg (show ¬ (nI 11 = 8) by decide)]
    unfold z_X9_doesMore
    rw [if_neg (show ¬ (nI 11 = 9) by decide), if_neg (show ¬ (nI 11 = 10) by decide), if_pos (show (nI 11 = 11) by decide)]
    obtain ⟨a, ha, ea⟩ := o3 (by decide)
    subst ea
    rw [nc (by omega)]
    obtain ⟨I1, a1, a2, a3⟩ := r_wantsO (F := F) (by omega) hL hT w0 ha (Or.inl rfl)
    obtain ⟨I2, c1, c2, c3⟩ := r_push (F := F) (t := 1) hL a2 (b0.takeO a) (oB 1 (by omega))
    rw [ob_mk (o := z_X9_wantsObject F S J A (nI a)) a1, ob_mk (show z_X9_push F S I1 A 1 = some I2 from c1), ob_mk rfl]
    exact fin c2 (a3.trans c3) (m_chk_push _ 1)
  · rw [if_neg (show ¬ (nI 12 = 0) by decide), if_neg (show ¬ (nI 12 = 1) by decide), if_neg (show ¬ (nI 12 = 2) by decide), if_neg (show ¬ (nI 12 = 3 ∨ nI 12 = 4 ∨ nI 12 = 20) by decide), if_neg (show ¬ (nI 12 = 5) by decide), if_neg (show ¬ (nI 12 = 6) by decide), if_neg (show ¬ (nI 12 = 7) by decide), if_neg (show ¬ (nI 12 = 8) by decide)]
    unfold z_X9_doesMore
    rw [if_neg (show ¬ (nI 12 = 9) by decide), if_neg (show ¬ (nI 12 = 10) by decide), if_neg (show ¬ (nI 12 = 11) by decide), if_pos (show (nI 12 = 12) by decide)]
    obtain ⟨a, ha, ea⟩ := o3 (by decide)
    subst ea
    rw [nc (by omega)]
    obtain ⟨I1, a1, a2, a3⟩ := r_wants (F := F) (t := 1) hL w0 (by omega)
    obtain ⟨I2, b1, b2, b3⟩ := r_wantsO (F := F) (by omega) hL (hE.keep a3).2.1 a2 ha (Or.inl rfl)
    obtain ⟨I3, c1, c2, c3⟩ := r_push (F := F) (t := 10 + a) hL b2 ((b0.take 1).takeO a) ⟨by omega, fun _ _ => by omega⟩
    rw [nl10, nI_add, ob_mk (show z_X9_wants F S J A 1 = some I1 from a1), ob_mk (o := z_X9_wantsObject F S I1 A (nI a)) b1, ob_mk (o := z_X9_push F S I2 A (nI (10 + a))) c1, ob_mk rfl]
    refine fin c2 ((a3.trans b3).trans c3) ?_
    have := m_chk_push (m_bd (m_take s 1) (fun s => m_takeO T s a)) (10 + a)
    have e : m_bd (m_bd (m_take s 1) (fun s => m_takeO T s a)) (fun s => m_push s (10 + a)) = m_bd (m_take s 1) (fun s => m_bd (m_takeO T s a) (fun s => m_push s (10 + a))) := m_bd_a
    rw [e] at this
    exact this
  · rw [if_neg (show ¬ (nI 13 = 0) by decide), if_neg (show ¬ (nI 13 = 1) by decide), if_neg (show ¬ (nI 13 = 2) by decide), if_neg (show ¬ (nI 13 = 3 ∨ nI 13 = 4 ∨ nI 13 = 20) by decide), if_neg (show ¬ (nI 13 = 5) by decide), if_neg (show ¬ (nI 13 = 6) by decide), if_neg (show ¬ (nI 13 = 7) by decide), if_neg (show ¬ (nI 13 = 8) by decide)]
    unfold z_X9_doesMore
    rw [if_neg (show ¬ (nI 13 = 9) by decide), if_neg (show ¬ (nI 13 = 10) by decide), if_neg (show ¬ (nI 13 = 11) by decide), if_neg (show ¬ (nI 13 = 12) by decide), if_pos (show (nI 13 = 13) by decide)]
    obtain ⟨a, ha, ea⟩ := o3 (by decide)
    subst ea
    rw [nc (by omega)]
    obtain ⟨I1, a1, a2, a3⟩ := r_wantsO (F := F) (c := 0) (x := -1) (by omega) hL hT w0 (by omega) (Or.inr ⟨rfl, rfl⟩)
    obtain ⟨I2, c1, c2, c3⟩ := r_push (F := F) (t := 10 + a) hL a2 (b0.takeO 0) ⟨by omega, fun _ _ => by omega⟩
    rw [nl10, nI_add, ob_mk (o := z_X9_wantsObject F S J A (-1)) a1, ob_mk (o := z_X9_push F S I1 A (nI (10 + a))) c1, ob_mk rfl]
    exact fin c2 (a3.trans c3) (m_chk_push _ (10 + a))
  · rw [if_neg (show ¬ (nI 14 = 0) by decide), if_neg (show ¬ (nI 14 = 1) by decide), if_neg (show ¬ (nI 14 = 2) by decide), if_neg (show ¬ (nI 14 = 3 ∨ nI 14 = 4 ∨ nI 14 = 20) by decide), if_neg (show ¬ (nI 14 = 5) by decide), if_neg (show ¬ (nI 14 = 6) by decide), if_neg (show ¬ (nI 14 = 7) by decide), if_neg (show ¬ (nI 14 = 8) by decide)]
    unfold z_X9_doesMore
    rw [if_neg (show ¬ (nI 14 = 9) by decide), if_neg (show ¬ (nI 14 = 10) by decide), if_neg (show ¬ (nI 14 = 11) by decide), if_neg (show ¬ (nI 14 = 12) by decide), if_neg (show ¬ (nI 14 = 13) by decide), if_neg (show ¬ (nI 14 = 15 ∨ nI 14 = 16 ∨ nI 14 = 17) by decide), if_neg (show ¬ (nI 14 = 18 ∨ nI 14 = 19) by decide)]
    rw [ob_mk rfl]
    exact fin w0 fN.rf (m_chk_no (fun _ => hw10))
  · rw [if_neg (show ¬ (nI 15 = 0) by decide), if_neg (show ¬ (nI 15 = 1) by decide), if_neg (show ¬ (nI 15 = 2) by decide), if_neg (show ¬ (nI 15 = 3 ∨ nI 15 = 4 ∨ nI 15 = 20) by decide), if_neg (show ¬ (nI 15 = 5) by decide), if_neg (show ¬ (nI 15 = 6) by decide), if_neg (show ¬ (nI 15 = 7) by decide), if_neg (show ¬ (nI 15 = 8) by decide)]
    unfold z_X9_doesMore
    rw [if_neg (show ¬ (nI 15 = 9) by decide), if_neg (show ¬ (nI 15 = 10) by decide), if_neg (show ¬ (nI 15 = 11) by decide), if_neg (show ¬ (nI 15 = 12) by decide), if_neg (show ¬ (nI 15 = 13) by decide), if_pos (show (nI 15 = 15 ∨ nI 15 = 16 ∨ nI 15 = 17) by decide)]
    unfold z_X9_doesMore_129
    obtain ⟨I1, a1, a2, a3⟩ := r_wants (F := F) (t := 1) hL w0 (by omega)
    rw [ob_mk (show z_X9_wants F S J A 1 = some I1 from a1), ob_mk rfl]
    exact fin a2 a3 (m_chk_no (m_take_w hw10))
  · rw [if_neg (show ¬ (nI 16 = 0) by decide), if_neg (show ¬ (nI 16 = 1) by decide), if_neg (show ¬ (nI 16 = 2) by decide), if_neg (show ¬ (nI 16 = 3 ∨ nI 16 = 4 ∨ nI 16 = 20) by decide), if_neg (show ¬ (nI 16 = 5) by decide), if_neg (show ¬ (nI 16 = 6) by decide), if_neg (show ¬ (nI 16 = 7) by decide), if_neg (show ¬ (nI 16 = 8) by decide)]
    unfold z_X9_doesMore
    rw [if_neg (show ¬ (nI 16 = 9) by decide), if_neg (show ¬ (nI 16 = 10) by decide), if_neg (show ¬ (nI 16 = 11) by decide), if_neg (show ¬ (nI 16 = 12) by decide), if_neg (show ¬ (nI 16 = 13) by decide), if_pos (show (nI 16 = 15 ∨ nI 16 = 16 ∨ nI 16 = 17) by decide)]
    unfold z_X9_doesMore_129
    obtain ⟨I1, a1, a2, a3⟩ := r_wants (F := F) (t := 1) hL w0 (by omega)
    rw [ob_mk (show z_X9_wants F S J A 1 = some I1 from a1), ob_mk rfl]
    exact fin a2 a3 (m_chk_no (m_take_w hw10))
  · rw [if_neg (show ¬ (nI 17 = 0) by decide), if_neg (show ¬ (nI 17 = 1) by decide), if_neg (show ¬ (nI 17 = 2) by decide), if_neg (show ¬ (nI 17 = 3 ∨ nI 17 = 4 ∨ nI 17 = 20) by decide), if_neg (show ¬ (nI 17 = 5) by decide), if_neg (show ¬ (nI 17 = 6) by decide), if_neg (show ¬ (nI 17 = 7) by decide), if_neg (show ¬ (nI 17 = 8) by decide)]
    unfold z_X9_doesMore
    rw [if_neg (show ¬ (nI 17 = 9) by decide), if_neg (show ¬ (nI 17 = 10) by decide), if_neg (show ¬ (nI 17 = 11) by decide), if_neg (show ¬ (nI 17 = 12) by decide), if_neg (show ¬ (nI 17 = 13) by decide), if_pos (show (nI 17 = 15 ∨ nI 17 = 16 ∨ nI 17 = 17) by decide)]
    unfold z_X9_doesMore_129
    obtain ⟨I1, a1, a2, a3⟩ := r_wants (F := F) (t := 1) hL w0 (by omega)
    rw [ob_mk (show z_X9_wants F S J A 1 = some I1 from a1), ob_mk rfl]
    exact fin a2 a3 (m_chk_no (m_take_w hw10))
  · rw [if_neg (show ¬ (nI 18 = 0) by decide), if_neg (show ¬ (nI 18 = 1) by decide), if_neg (show ¬ (nI 18 = 2) by decide), if_neg (show ¬ (nI 18 = 3 ∨ nI 18 = 4 ∨ nI 18 = 20) by decide), if_neg (show ¬ (nI 18 = 5) by decide), if_neg (show ¬ (nI 18 = 6) by decide), if_neg (show ¬ (nI 18 = 7) by decide), if_neg (show ¬ (nI 18 = 8) by decide)]
    unfold z_X9_doesMore
    rw [if_neg (show ¬ (nI 18 = 9) by decide), if_neg (show ¬ (nI 18 = 10) by decide), if_neg (show ¬ (nI 18 = 11) by decide), if_neg (show ¬ (nI 18 = 12) by decide), if_neg (show ¬ (nI 18 = 13) by decide), if_neg (show ¬ (nI 18 = 15 ∨ nI 18 = 16 ∨ nI 18 = 17) by decide), if_pos (show (nI 18 = 18 ∨ nI 18 = 19) by decide)]
    unfold z_X9_doesMore_137
    obtain ⟨a, ha, ea⟩ := o3 (by decide)
    subst ea
    rw [nc (by omega)]
    obtain ⟨I1, a1, a2, a3⟩ := r_wantsO (F := F) (by omega) hL hT w0 ha (Or.inl rfl)
    rw [ob_mk (o := z_X9_wantsObject F S J A (nI a)) a1, ob_mk rfl]
    exact fin a2 a3 (m_chk_no (m_takeO_w hw10))
  · rw [if_neg (show ¬ (nI 19 = 0) by decide), if_neg (show ¬ (nI 19 = 1) by decide), if_neg (show ¬ (nI 19 = 2) by decide), if_neg (show ¬ (nI 19 = 3 ∨ nI 19 = 4 ∨ nI 19 = 20) by decide), if_neg (show ¬ (nI 19 = 5) by decide), if_neg (show ¬ (nI 19 = 6) by decide), if_neg (show ¬ (nI 19 = 7) by decide), if_neg (show ¬ (nI 19 = 8) by decide)]
    unfold z_X9_doesMore
    rw [if_neg (show ¬ (nI 19 = 9) by decide), if_neg (show ¬ (nI 19 = 10) by decide), if_neg (show ¬ (nI 19 = 11) by decide), if_neg (show ¬ (nI 19 = 12) by decide), if_neg (show ¬ (nI 19 = 13) by decide), if_neg (show ¬ (nI 19 = 15 ∨ nI 19 = 16 ∨ nI 19 = 17) by decide), if_pos (show (nI 19 = 18 ∨ nI 19 = 19) by decide)]
    unfold z_X9_doesMore_137
    obtain ⟨a, ha, ea⟩ := o3 (by decide)
    subst ea
    rw [nc (by omega)]
    obtain ⟨I1, a1, a2, a3⟩ := r_wantsO (F := F) (by omega) hL hT w0 ha (Or.inl rfl)
    rw [ob_mk (o := z_X9_wantsObject F S J A (nI a)) a1, ob_mk rfl]
    exact fin a2 a3 (m_chk_no (m_takeO_w hw10))
  · rw [if_neg (show ¬ (nI 20 = 0) by decide), if_neg (show ¬ (nI 20 = 1) by decide), if_neg (show ¬ (nI 20 = 2) by decide), if_pos (show (nI 20 = 3 ∨ nI 20 = 4 ∨ nI 20 = 20) by decide)]
    obtain ⟨a, ha, ea⟩ := o2 (by decide)
    subst ea
    rw [nc (by omega)]
    obtain ⟨I1, a1, a2, a3⟩ := r_more (F := F) hE j24 hsJ hV ha
    rw [ob_mk a1]
    exact fin a2 a3 (m_chk_no (m_more_w hw10))
end RD4
