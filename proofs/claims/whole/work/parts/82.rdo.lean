/-! the reference: what an act does to the state in now -/
def rE (S : zS) (I : zI) (A i : Nat) (T : mTr) (pc n : Nat) (K : Nat → mAc) : Prop := rL S A ∧ rT I A T ∧ (I A 21 = nI i ∧ i < 8) ∧ (I (A + 3) i = nI pc ∧ pc ≤ 8) ∧ n ≤ 40 ∧ ∀ p, p < n → mAok T (K p) ∧ I (A + 7) (40 * i + p) = nI (K p).1 ∧ I (A + 8) (40 * i + p) = (K p).2.1 ∧ I (A + 9) (40 * i + p) = if (K p).1 = 16 then (K p).2.2 else (K p).2.1
/-- only wrong and now have changed -/
def fN (A : Nat) (I I' : zI) : Prop := (∀ b, b ≠ A → b ≠ A + 20 → I' b = I b) ∧ ∀ k, k ≠ 24 → I' A k = I A k
theorem fN.rf {A : Nat} {I : zI} : fN A I I := ⟨fun _ _ _ => rfl, fun _ _ => rfl⟩
theorem fN.trans {A : Nat} {I I1 I2 : zI} (h : fN A I I1) (g : fN A I1 I2) : fN A I I2 := ⟨fun b h1 h2 => (g.1 b h1 h2).trans (h.1 b h1 h2), fun k hk => (g.2 k hk).trans (h.2 k hk)⟩
theorem fN.upW {A : Nat} {I I' : zI} {x : Int32} (h : fN A I I') : fN A I (z_up I' A 24 x) := ⟨fun b h1 h2 => by rw [z_up_off h1]; exact h.1 b h1 h2, fun k hk => by rw [z_up_ne (Or.inr hk)]; exact h.2 k hk⟩
theorem fN.upN {A k : Nat} {I I' : zI} {x : Int32} (h : fN A I I') : fN A I (z_up I' (A + 20) k x) := ⟨fun b h1 h2 => by rw [z_up_off h2]; exact h.1 b h1 h2, fun k hk => by rw [z_up_off (by omega)]; exact h.2 k hk⟩
theorem rE.keep {S : zS} {I I' : zI} {A i pc n : Nat} {T : mTr} {K : Nat → mAc} (h : rE S I A i T pc n K) (f : fN A I I') : rE S I' A i T pc n K := by
  obtain ⟨h1, h2, h3, h4, h5, h6⟩ := h
  refine ⟨h1, h2.kept (f.2 0 (by omega)) (f.1 _ (by omega) (by omega)) (f.1 _ (by omega) (by omega)), by rw [f.2 21 (by omega)]; exact h3, by rw [f.1 _ (by omega) (by omega)]; exact h4, h5, ?_⟩
  rw [f.1 (A + 7) (by omega) (by omega), f.1 (A + 8) (by omega) (by omega), f.1 (A + 9) (by omega) (by omega)]
  exact h6
def mB (T : mTr) (s : mSn) : Prop := (∀ x, x < 8 → mOb T (s.1 x)) ∧ ∀ j, j < s.2.1 → mOb T (s.2.2 j)
def rW (T : mTr) (I : zI) (A : Nat) (r : Nat × mSn) : Prop := I A 24 = nI r.1 ∧ r.1 < 20 ∧ (r.1 = 0 → rSn I (A + 20) 0 r.2 ∧ r.2.2.1 ≤ 11 ∧ mB T r.2)
def q_push (r : Nat × mSn) (t : Nat) : Nat × mSn := m_bd r (fun s => (0, s.1, s.2.1 + 1, nup s.2.2 s.2.1 t))
def m_chk (r : Nat × mSn) : Nat × mSn := if r.1 = 0 ∧ 10 < m_w r.2 then (3, r.2) else r
section RD
variable {F : Nat} {S : zS} {I : zI} {A : Nat} {T : mTr} {r : Nat × mSn} {s : mSn}
theorem r_fails0 (h : I A 24 = nI 0) (v : Int32) : z_X9_fails F S I A v = some (z_up I A 24 v) := by
  unfold z_X9_fails
  rw [if_pos (show I A 24 = 0 from h)]
theorem r_fails1 {w : Nat} (h : I A 24 = nI w) (hw : w < 20) (h0 : w ≠ 0) (v : Int32) : z_X9_fails F S I A v = some (z_up I A 24 (nI w)) := by
  unfold z_X9_fails
  rw [if_neg (fun d => h0 ((nI_eq (by omega) (by omega)).mp ((h.symm.trans d).trans nl0))), h]
theorem r_top (hL : rL S A) (hs : rSn I (A + 20) 0 s) (h11 : s.2.1 ≤ 11) : z_X9_top F S I A = some (if s.2.1 = 0 then -1 else nI (s.2.2 (s.2.1 - 1))) := by
  have h8 : I (A + 20) 8 = nI s.2.1 := hs.2.1
  unfold z_X9_top
  rw [ob_mk hL.f22, ix8 hL.n22 (by omega) (by omega), ix8 hL.n22 (by omega) (by omega), tn8, h8]
  by_cases h : s.2.1 = 0
  · rw [if_pos (show nI s.2.1 = 0 by rw [h]; rfl), if_pos h]
  · obtain ⟨k, hk⟩ : ∃ k, s.2.1 = k + 1 := ⟨s.2.1 - 1, by omega⟩
    have hj := hs.2.2 k (by omega)
    rw [if_neg (fun d => h ((nI_eq (by omega) (by omega)).mp (d.trans nl0))), if_neg h, nl9, nI_add, hk, show 9 + (k + 1) = (9 + k) + 1 by omega, nI_pred, ixk hL.n22 (by omega) (by omega), nc (by omega), show k + 1 - 1 = k by omega]
    rw [show (0 + 9 + k) = 9 + k by omega] at hj
    rw [hj]
theorem r_pop0 (hL : rL S A) (hw : I A 24 = nI 0) (hs : rSn I (A + 20) 0 s) (h0 : s.2.1 = 0) : z_X9_pop F S I A = some (0, z_up I A 24 1) := by
  unfold z_X9_pop
  rw [ob_mk (r_top hL hs (by omega)), if_pos h0, if_pos (show (-1 : Int32) < 0 by decide), ob_mk (r_fails0 hw 1)]
theorem rSn.dn (hs : rSn I (A + 20) 0 s) : rSn (z_up I (A + 20) 8 (nI (s.2.1 - 1))) (A + 20) 0 (s.1, s.2.1 - 1, s.2.2) := by
  refine ⟨fun x hx => ?_, ?_, fun j hj => ?_⟩
  · rw [z_up_ne (Or.inr (by omega))]; exact hs.1 x hx
  · rw [show 0 + 8 = 8 from rfl, z_up_at]
  · have hj' : j < s.2.1 - 1 := hj
    rw [z_up_ne (Or.inr (by omega))]; exact hs.2.2 j (by omega)
theorem r_pop1 (hL : rL S A) (hs : rSn I (A + 20) 0 s) (h11 : s.2.1 ≤ 11) (hB : mB T s) (h0 : s.2.1 ≠ 0) : z_X9_pop F S I A = some (nI (s.2.2 (s.2.1 - 1)), z_up I (A + 20) 8 (nI (s.2.1 - 1))) := by
  have h8 : I (A + 20) 8 = nI s.2.1 := hs.2.1
  have hb := (hB.2 (s.2.1 - 1) (by omega)).1
  unfold z_X9_pop
  rw [ob_mk (r_top hL hs h11), if_neg h0, if_neg (nn (by omega)), ob_mk hL.f22, ix8 hL.n22 (by omega) (by omega), ix8 hL.n22 (by omega) (by omega), tn8, h8, n_pred (by omega)]
theorem mB.dn (hB : mB T s) : mB T (s.1, s.2.1 - 1, s.2.2) := ⟨hB.1, fun j hj => hB.2 j (by have : j < s.2.1 - 1 := hj
                                                                                            omega)⟩
theorem r_push (hL : rL S A) (hr : rW T I A r) (h10 : r.1 = 0 → r.2.2.1 ≤ 10) {t : Nat} (ht : mOb T t) : ∃ I', z_X9_push F S I A (nI t) = some I' ∧ rW T I' A (q_push r t) ∧ fN A I I' := by
  obtain ⟨a1, a2, a3⟩ := hr
  unfold z_X9_push
  rw [a1]
  by_cases h : r.1 = 0
  · obtain ⟨b1, b2, b3⟩ := a3 h
    have h8 : I (A + 20) 8 = nI r.2.2.1 := b1.2.1
    have hh := h10 h
    have e8 : ∀ v, z_up I (A + 20) (9 + r.2.2.1) v (A + 20) 8 = nI r.2.2.1 := fun v => by rw [z_up_ne (Or.inr (by omega))]; exact h8
    rw [if_pos (show nI r.1 = 0 by rw [h]; rfl), ob_mk hL.f22, ix8 hL.n22 (by omega) (by omega), ix8 hL.n22 (by omega) (by omega), ix8 hL.n22 (by omega) (by omega), tn8, h8, nl9, nI_add, ixk hL.n22 (by omega) (by omega), nc (by omega), e8, nI_1]
    refine ⟨_, rfl, ?_, fN.rf.upN.upN⟩
    have eq : q_push r t = (0, r.2.1, r.2.2.1 + 1, nup r.2.2.2 r.2.2.1 t) := by unfold q_push m_bd; rw [if_pos h]
    rw [eq]
    refine ⟨by rw [z_up_off (by omega), z_up_off (by omega), a1, h], by show 0 < 20; omega, fun _ => ⟨⟨fun x hx => ?_, ?_, fun j hj => ?_⟩, by show r.2.2.1 + 1 ≤ 11; omega, b3.1, fun j hj => ?_⟩⟩
    · rw [z_up_ne (Or.inr (by omega)), z_up_ne (Or.inr (by omega))]; exact b1.1 x hx
    · rw [show 0 + 8 = 8 from rfl, z_up_at]
    · have hj' : j < r.2.2.1 + 1 := hj
      show z_up _ (A + 20) 8 _ (A + 20) (0 + 9 + j) = nI (nup r.2.2.2 r.2.2.1 t j)
      rw [z_up_ne (Or.inr (by omega))]
      by_cases e : j = r.2.2.1
      · subst e; rw [nup_at, show 0 + 9 + r.2.2.1 = 9 + r.2.2.1 by omega, z_up_at]
      · rw [nup_ne e, z_up_ne (Or.inr (by omega))]; exact b1.2.2 j (by omega)
    · have hj' : j < r.2.2.1 + 1 := hj
      show mOb T (nup r.2.2.2 r.2.2.1 t j)
      by_cases e : j = r.2.2.1
      · subst e; rw [nup_at]; exact ht
      · rw [nup_ne e]; exact b3.2 j (by omega)
  · rw [if_neg (fun d => h ((nI_eq (by omega) (by omega)).mp (d.trans nl0)))]
    refine ⟨I, rfl, ?_, fN.rf⟩
    have eq : q_push r t = r := by unfold q_push m_bd; rw [if_neg h]
    rw [eq]; exact ⟨a1, a2, a3⟩
theorem r_wants (hL : rL S A) (hr : rW T I A r) {t : Nat} (ht : 1 ≤ t ∧ t < 200) : ∃ I', z_X9_wants F S I A (nI t) = some I' ∧ rW T I' A (m_bd r (fun s => m_take s t)) ∧ fN A I I' := by
  obtain ⟨a1, a2, a3⟩ := hr
  unfold z_X9_wants m_bd m_take
  rw [a1]
  by_cases h : r.1 = 0
  · obtain ⟨b1, b2, b3⟩ := a3 h
    rw [if_pos (show nI r.1 = 0 by rw [h]; rfl), if_pos h]
    by_cases h0 : r.2.2.1 = 0
    · rw [ob_mk (r_pop0 hL (by rw [a1, h]) b1 h0)]
      dsimp only
      rw [if_pos h0, if_neg (fun d : (0 : Int32) = nI t => (by have := (nI_eq (a := 0) (by omega) (by omega)).mp d; omega : False)), ob_mk (r_fails1 (w := 1) (by rw [z_up_at]; rfl) (by omega) (by omega) 2)]
      exact ⟨_, rfl, ⟨by rw [z_up_at], by show 1 < 20; omega, fun g => absurd g (by show ¬ 1 = 0; omega)⟩, fN.rf.upW.upW⟩
    · have hb := (b3.2 (r.2.2.1 - 1) (by omega)).1
      rw [ob_mk (r_pop1 hL b1 b2 b3 h0)]
      dsimp only
      rw [if_neg h0]
      by_cases ht' : r.2.2.2 (r.2.2.1 - 1) = t
      · rw [if_pos (by rw [ht']), if_pos ht']
        exact ⟨_, rfl, ⟨by rw [z_up_off (by omega), a1, h], by show 0 < 20; omega, fun _ => ⟨b1.dn, by show r.2.2.1 - 1 ≤ 11; omega, b3.dn⟩⟩, fN.rf.upN⟩
      · rw [if_neg (nI_ne (by omega) (by omega) ht'), if_neg ht', ob_mk (r_fails0 (by rw [z_up_off (by omega), a1, h]) 2)]
        exact ⟨_, rfl, ⟨by rw [z_up_at]; rfl, by show 2 < 20; omega, fun g => absurd g (by show ¬ 2 = 0; omega)⟩, fN.rf.upN.upW⟩
  · rw [if_neg (fun d => h ((nI_eq (by omega) (by omega)).mp (d.trans nl0))), if_neg h]
    exact ⟨I, rfl, ⟨a1, a2, a3⟩, fN.rf⟩
/-- c is a class, or -1: any -/
theorem r_wantsO (hF : 20 ≤ F) (hL : rL S A) (hT : rT I A T) (hr : rW T I A r) {c : Nat} {x : Int32} (hc : c < T.1) (hx : x = nI c ∨ (x = -1 ∧ c = 0)) : ∃ I', z_X9_wantsObject F S I A x = some I' ∧ rW T I' A (m_bd r (fun s => m_takeO T s c)) ∧ fN A I I' := by
  have h16 := hT.2.1.2.1
  obtain ⟨a1, a2, a3⟩ := hr
  unfold z_X9_wantsObject m_bd m_takeO
  rw [a1]
  by_cases h : r.1 = 0
  · obtain ⟨b1, b2, b3⟩ := a3 h
    rw [if_pos (show nI r.1 = 0 by rw [h]; rfl), if_pos h]
    by_cases h0 : r.2.2.1 = 0
    · rw [ob_mk (r_pop0 hL (by rw [a1, h]) b1 h0)]
      dsimp only
      unfold z_X9_wantsObject_15 z_X9_wantsObject_44
      rw [if_pos h0, if_neg (show ¬ (0 : Int32) = 4 by decide), ob_mk (show z_X9_isObject F S (z_up I A 24 1) 0 = some 0 from rfl), if_pos rfl, ob_mk (r_fails1 (w := 1) (by rw [z_up_at]; rfl) (by omega) (by omega) 2)]
      exact ⟨_, rfl, ⟨by rw [z_up_at], by show 1 < 20; omega, fun g => absurd g (by show ¬ 1 = 0; omega)⟩, fN.rf.upW.upW⟩
    · have hb := b3.2 (r.2.2.1 - 1) (by omega)
      have hb1 := hb.1
      rw [ob_mk (r_pop1 hL b1 b2 b3 h0)]
      dsimp only
      rw [if_neg h0]
      generalize hJ : z_up I (A + 20) 8 (nI (r.2.2.1 - 1)) = J
      generalize ht : r.2.2.2 (r.2.2.1 - 1) = t at hb hb1
      have hJ24 : J A 24 = nI 0 := by rw [← hJ, z_up_off (by omega), a1, h]
      have fJ : fN A I J := by rw [← hJ]; exact fN.rf.upN
      have hTJ : rT J A T := hT.kept (fJ.2 0 (by omega)) (fJ.1 _ (by omega) (by omega)) (fJ.1 _ (by omega) (by omega))
      have good : ∃ I', some J = some I' ∧ rW T I' A (0, r.2.1, r.2.2.1 - 1, r.2.2.2) ∧ fN A I I' := ⟨J, rfl, ⟨hJ24, by show 0 < 20; omega, fun _ => ⟨by rw [← hJ]; exact b1.dn, by show r.2.2.1 - 1 ≤ 11; omega, b3.dn⟩⟩, fJ⟩
      have bad : ∃ I', z_X9_wantsObject_44 F S A J = some I' ∧ rW T I' A (2, r.2) ∧ fN A I I' := by
        unfold z_X9_wantsObject_44
        rw [ob_mk (r_fails0 hJ24 2)]
        exact ⟨_, rfl, ⟨by rw [z_up_at]; rfl, by show 2 < 20; omega, fun g => absurd g (by show ¬ 2 = 0; omega)⟩, fJ.upW⟩
      unfold z_X9_wantsObject_15
      by_cases h4 : t = 4
      · rw [if_pos (show nI t = 4 by rw [h4]; rfl), if_pos (show m_for T t c = true by unfold m_for; rw [decide_eq_true h4, Bool.true_or])]
        exact good
      · rw [if_neg (fun d => h4 ((nI_eq (by omega) (by omega)).mp (d.trans nl4))), ob_mk (r_obj hb1), b01]
        by_cases ho : 10 ≤ t ∧ t < 100
        · have l1 := hb.2 ho.1 ho.2
          have ef : m_for T t c = m_is T (t - 10) c := by unfold m_for; rw [decide_eq_false h4, decide_eq_true (show 10 ≤ t ∧ t < 10 + T.1 from ⟨ho.1, l1⟩), Bool.false_or, Bool.true_and]
          rw [if_pos ho, ef]
          rcases hx with hx | ⟨hx, hc0⟩
          · rw [hx, if_neg (nn (by omega)), nl10, pk_sub ho.1, ob_mk (r_one hF hL hTJ (by omega) hc)]
            cases m_is T (t - 10) c
            · rw [if_pos (show b2i false = 0 from rfl), if_neg (show ¬ false = true by decide)]; exact bad
            · rw [if_neg (show ¬ b2i true = 0 by decide), if_pos rfl]; exact good
          · subst hc0
            rw [hx, if_pos (show (-1 : Int32) < 0 by decide), if_pos (show m_is T (t - 10) 0 = true by unfold m_is; rw [m_anc_root (t - 10) (fun d d1 d2 => hT.2.1.2.2.1 d d1 (by omega)), Bool.or_true])]
            exact good
        · have ef : m_for T t c = false := by unfold m_for; rw [decide_eq_false h4, decide_eq_false (show ¬ (10 ≤ t ∧ t < 10 + T.1) by omega)]; rfl
          rw [if_neg ho, ef, if_neg (show ¬ false = true by decide)]
          exact bad
  · rw [if_neg (fun d => h ((nI_eq (by omega) (by omega)).mp (d.trans nl0))), if_neg h]
    unfold z_X9_wantsObject_15
    rw [if_pos rfl]
    exact ⟨I, rfl, ⟨a1, a2, a3⟩, fN.rf⟩
theorem r_count_lp {a : Nat} (hn : (S.2.1 a).2 = 20) (hs : rSn I a 0 s) (h11 : s.2.1 ≤ 11) (hB : ∀ j, j < s.2.1 → s.2.2 j < 200) : ∀ (n j : Nat), j ≤ s.2.1 → s.2.1 < j + n → z_X9_counted_4 F S I n a (nI (m_wt s.2.2 j)) (nI j) = some (nI (m_w s)) := by
  have h8 : I a 8 = nI s.2.1 := hs.2.1
  intro n
  induction n with
  | zero => intro j h1 h2; omega
  | succ n ih =>
    intro j h1 h2
    show z_X9_counted_4B F S I (z_X9_counted_4 F S I n) a (nI (m_wt s.2.2 j)) (nI j) = _
    unfold z_X9_counted_4B z_X9_counted_28
    rw [ix8 hn (by omega) (by omega), tn8, h8]
    by_cases hj : j < s.2.1
    · have hv := hs.2.2 j hj
      rw [show 0 + 9 + j = 9 + j by omega] at hv
      have hb := hB j hj
      rw [if_pos ((nI_ltI (by omega) (by omega)).mpr hj), nl9, nI_add, ixk hn (by omega) (by omega), nc (by omega), hv]
      have key := ih (j + 1) (by omega) (by omega)
      by_cases h2' : s.2.2 j = 2
      · rw [if_pos (show nI (s.2.2 j) = 2 by rw [h2']; rfl), nl2, nI_add, nI_1]
        have e : m_wt s.2.2 (j + 1) = m_wt s.2.2 j + 2 := by simp [m_wt, m_t, h2']
        rw [← e]; exact key
      · rw [if_neg (fun q => h2' ((nI_eq (by omega) (by omega)).mp (q.trans nl2))), nI_1, nI_1]
        have e : m_wt s.2.2 (j + 1) = m_wt s.2.2 j + 1 := by simp [m_wt, m_t, h2']
        rw [← e]; exact key
    · rw [if_neg (fun q => hj ((nI_ltI (by omega) (by omega)).mp q))]
      have : j = s.2.1 := by omega
      subst this; rfl
theorem r_count (hF : 20 ≤ F) {a : Nat} (hn : (S.2.1 a).2 = 20) (hs : rSn I a 0 s) (h11 : s.2.1 ≤ 11) (hB : ∀ j, j < s.2.1 → s.2.2 j < 200) : z_X9_counted F S I a = some (nI (m_w s)) := r_count_lp hn hs h11 hB F 0 (Nat.zero_le _) (by omega)
theorem r_244 (hF : 20 ≤ F) (hL : rL S A) (hr : rW T I A r) : ∃ I', z_X9_does_244 F S A I = some I' ∧ rW T I' A (m_chk r) ∧ fN A I I' := by
  obtain ⟨a1, a2, a3⟩ := hr
  unfold z_X9_does_244 m_chk
  rw [a1]
  by_cases h : r.1 = 0
  · obtain ⟨b1, b2, b3⟩ := a3 h
    have hw := m_wt_le r.2.2.2 r.2.2.1
    rw [if_pos (show nI r.1 = 0 by rw [h]; rfl), ob_mk hL.f22, ob_mk (r_count hF hL.n22 b1 b2 (fun j hj => (b3.2 j hj).1)), nl10]
    have hw' : m_w r.2 ≤ 2 * r.2.2.1 := hw
    by_cases hd : 10 < m_w r.2
    · rw [if_pos ((nI_ltI (by omega) (by omega)).mpr hd), if_pos ⟨h, hd⟩, ob_mk (r_fails0 (by rw [a1, h]) 3)]
      exact ⟨_, rfl, ⟨by rw [z_up_at]; rfl, by show 3 < 20; omega, fun g => absurd g (by show ¬ 3 = 0; omega)⟩, fN.rf.upW⟩
    · rw [if_neg (fun d => hd ((nI_ltI (by omega) (by omega)).mp d)), if_neg (fun g => hd g.2)]
      exact ⟨I, rfl, ⟨a1, a2, a3⟩, fN.rf⟩
  · rw [if_neg (fun d => h ((nI_eq (by omega) (by omega)).mp (d.trans nl0))), if_neg (fun g => h g.1)]
    exact ⟨I, rfl, ⟨a1, a2, a3⟩, fN.rf⟩
end RD
