/-! the reference: places, make, does -/
def mTy (T : mTr) (n : Nat) (K : Nat → mAc) (t : Nat) : Prop := t ≤ 4 ∨ (10 ≤ t ∧ t < 10 + T.1) ∨ (100 ≤ t ∧ t < 100 + n ∧ (K (t - 100)).1 = 9)
def mPr (pl : Nat → Nat) : Prop := ∀ x, x < 8 → (pl x = 3 → 1 ≤ x ∧ pl (x - 1) = 2) ∧ (pl x = 2 → x + 1 < 8 ∧ pl (x + 1) = 3)
def mVs (T : mTr) (n : Nat) (K : Nat → mAc) (s : mSn) : Prop := (∀ x, x < 8 → mTy T n K (s.1 x)) ∧ (∀ j, j < s.2.1 → mTy T n K (s.2.2 j) ∧ s.2.2 j ≠ 3) ∧ m_w s ≤ 10 ∧ mPr s.1
theorem mTy.ob {T : mTr} {n : Nat} {K : Nat → mAc} {t : Nat} (h : mTy T n K t) (hT : T.1 ≤ 16) (hn : n ≤ 40) : mOb T t := by
  unfold mTy at h
  refine ⟨?_, fun h1 h2 => ?_⟩
  · rcases h with h | h | h <;> omega
  · rcases h with h | h | h <;> omega
theorem mVs.b {T : mTr} {n : Nat} {K : Nat → mAc} {s : mSn} (h : mVs T n K s) (hT : T.1 ≤ 16) (hn : n ≤ 40) : mB T s := ⟨fun x hx => (h.1 x hx).ob hT hn, fun j hj => (h.2.1 j hj).1.ob hT hn⟩
theorem mVs.h {T : mTr} {n : Nat} {K : Nat → mAc} {s : mSn} (h : mVs T n K s) : s.2.1 ≤ 10 := by
  have h1 := m_wt_ge s.2.2 s.2.1
  have h2 : m_wt s.2.2 s.2.1 ≤ 10 := h.2.2.1
  omega
theorem m_b1_lt {pl : Nat → Nat} {p : Nat} (h : ∀ x, x < 8 → pl x < 200) : ∀ x, x < 8 → m_b1 pl p x < 200 := fun x hx => by
  unfold m_b1
  split
  · by_cases e : x = p - 1
    · subst e; rw [nup_at]; omega
    · rw [nup_ne e]; exact h x hx
  · exact h x hx
theorem m_b2_lt {pl : Nat → Nat} {p : Nat} (h : ∀ x, x < 8 → pl x < 200) : ∀ x, x < 8 → m_b2 pl p x < 200 := fun x hx => by
  unfold m_b2
  split
  · by_cases e : x = p + 1
    · subst e; rw [nup_at]; omega
    · rw [nup_ne e]; exact h x hx
  · exact h x hx
theorem m_b1_p {pl : Nat → Nat} {p : Nat} : m_b1 pl p p = pl p := by
  unfold m_b1
  split
  · rw [nup_ne (by omega)]
  · rfl
section RD2
variable {F : Nat} {S : zS} {I : zI} {A : Nat} {T : mTr} {s : mSn} {pl : Nat → Nat}
theorem r_put19 (hL : rL S A) (hP : ∀ x, x < 8 → I (A + 20) x = nI (pl x)) (hb : ∀ x, x < 8 → pl x < 200) {p t : Nat} (hp : p < 8) (h2 : pl p = 2 → p + 1 < 8) : ∃ I', z_X9_put_19 F S A (nI p) (nI t) I = some I' ∧ (∀ x, x < 8 → I' (A + 20) x = nI (nup (m_b2 pl p) p t x)) ∧ (∀ k, 8 ≤ k → I' (A + 20) k = I (A + 20) k) ∧ ∀ b, b ≠ A + 20 → I' b = I b := by
  have hbp := hb p hp
  unfold z_X9_put_19
  rw [ob_mk hL.f22, ixk hL.n22 (by omega) (by omega), nc (by omega), hP p hp, nI_1]
  unfold m_b2
  by_cases h : pl p = 2
  · have h8 := h2 h
    rw [if_pos (show nI (pl p) = 2 by rw [h]; rfl), ixk hL.n22 (by omega) (by omega), ixc hL.n22 (by omega) (by omega), nc (by omega), if_pos h]
    refine ⟨_, rfl, fun x hx => ?_, fun k hk => ?_, fun b hb => ?_⟩
    · by_cases e : x = p
      · subst e; rw [z_up_at, nup_at]
      · rw [z_up_ne (Or.inr e), nup_ne e]
        by_cases e2 : x = p + 1
        · subst e2; rw [z_up_at, nup_at]; rfl
        · rw [z_up_ne (Or.inr e2), nup_ne e2]; exact hP x hx
    · rw [z_up_ne (Or.inr (by omega)), z_up_ne (Or.inr (by omega))]
    · rw [z_up_off hb, z_up_off hb]
  · rw [if_neg (fun d => h ((nI_eq (by omega) (by omega)).mp (d.trans nl2))), ixc hL.n22 (by omega) (by omega), if_neg h]
    refine ⟨_, rfl, fun x hx => ?_, fun k hk => ?_, fun b hb => ?_⟩
    · by_cases e : x = p
      · subst e; rw [z_up_at, nup_at]
      · rw [z_up_ne (Or.inr e), nup_ne e]; exact hP x hx
    · rw [z_up_ne (Or.inr (by omega))]
    · rw [z_up_off hb]
theorem r_put (hL : rL S A) (hP : ∀ x, x < 8 → I (A + 20) x = nI (pl x)) (hb : ∀ x, x < 8 → pl x < 200) {p t : Nat} (hp : p < 8) (h2 : pl p = 2 → p + 1 < 8) (h3 : pl p = 3 → 1 ≤ p) : ∃ I', z_X9_put F S I A (nI p) (nI t) = some I' ∧ (∀ x, x < 8 → I' (A + 20) x = nI (nup (m_brk pl p) p t x)) ∧ (∀ k, 8 ≤ k → I' (A + 20) k = I (A + 20) k) ∧ ∀ b, b ≠ A + 20 → I' b = I b := by
  have hbp := hb p hp
  unfold z_X9_put m_brk
  rw [ob_mk hL.f22, ixk hL.n22 (by omega) (by omega), nc (by omega), hP p hp]
  by_cases h : pl p = 3
  · have h1 := h3 h
    have e1 : m_b1 pl p = nup pl (p - 1) 0 := by unfold m_b1; rw [if_pos ⟨h, h1⟩]
    rw [if_pos (show nI (pl p) = 3 by rw [h]; rfl), n_pred h1, ixk hL.n22 (by omega) (by omega), nc (by omega)]
    obtain ⟨I', g1, g2, g3, g4⟩ := r_put19 (F := F) (I := z_up I (A + 20) (p - 1) 0) (pl := m_b1 pl p) (t := t) hL (fun x hx => by
      rw [e1]
      by_cases e : x = p - 1
      · subst e; rw [z_up_at, nup_at]; rfl
      · rw [z_up_ne (Or.inr e), nup_ne e]; exact hP x hx) (m_b1_lt hb) hp (fun g => by rw [m_b1_p] at g; exact h2 g)
    exact ⟨I', g1, g2, fun k hk => by rw [g3 k hk, z_up_ne (Or.inr (by omega))], fun b hb => by rw [g4 b hb, z_up_off hb]⟩
  · have e1 : m_b1 pl p = pl := by unfold m_b1; rw [if_neg (fun g => h g.1)]
    rw [if_neg (fun d => h ((nI_eq (by omega) (by omega)).mp (d.trans nl3))), e1]
    exact r_put19 hL hP hb hp h2
theorem m_brk_p {pl : Nat → Nat} {p : Nat} : m_brk pl p p = pl p := by
  unfold m_brk m_b2
  split
  · rw [nup_ne (by omega), m_b1_p]
  · rw [m_b1_p]
/-- after put at a, the place behind it is a wide one's only if it was -/
theorem m_brk_s {pl : Nat → Nat} {a : Nat} (h : m_brk pl a (a + 1) = 2) : pl (a + 1) = 2 := by
  unfold m_brk m_b2 at h
  split at h
  · rw [nup_at] at h; cases h
  · unfold m_b1 at h
    split at h
    · rw [nup_ne (by omega)] at h; exact h
    · exact h
theorem m_brk_nup {q : Nat → Nat} {a v y : Nat} (hy : y ≠ a) : m_brk (nup q a v) (a + 1) y = m_brk q (a + 1) y := by
  unfold m_brk m_b2
  rw [m_b1_p, m_b1_p, nup_ne (by omega)]
  have e : m_b1 (nup q a v) (a + 1) y = m_b1 q (a + 1) y := by
    unfold m_b1
    rw [nup_ne (by omega), show a + 1 - 1 = a by omega]
    split
    · rw [nup_ne hy, nup_ne hy, nup_ne hy]
    · rw [nup_ne hy]
  split
  · by_cases e2 : y = a + 1 + 1
    · subst e2; rw [nup_at, nup_at]
    · rw [nup_ne e2, nup_ne e2]; exact e
  · exact e
theorem r_store (hL : rL S A) (hP : ∀ x, x < 8 → I (A + 20) x = nI (pl x)) (hb : ∀ x, x < 8 → pl x < 200) (hR : mPr pl) (hw : I A 24 = nI 0) {a t : Nat} (ha : a < 8) (ht : t < 200) (h2 : t = 2 → a + 1 < 8) : ∃ I', z_X9_placeActs_128 F S A (nI a) (nI t) I = some I' ∧ (∀ x, x < 8 → I' (A + 20) x = nI (m_sto pl a t x)) ∧ (∀ k, 8 ≤ k → I' (A + 20) k = I (A + 20) k) ∧ ∀ b, b ≠ A + 20 → I' b = I b := by
  unfold z_X9_placeActs_128 m_sto
  rw [if_pos (show I A 24 = 0 from hw)]
  obtain ⟨J, g1, g2, g3, g4⟩ := r_put (F := F) (t := t) hL hP hb ha (fun g => ((hR a ha).2 g).1) (fun g => ((hR a ha).1 g).1)
  rw [ob_mk g1]
  by_cases h : t = 2
  · have h8 := h2 h
    rw [if_pos (show nI t = 2 by rw [h]; rfl), if_pos h, nI_1, nl3]
    obtain ⟨J2, k1, k2, k3, k4⟩ := r_put (F := F) (t := 3) hL g2 (fun x hx => by
      by_cases e : x = a
      · subst e; rw [nup_at]; exact ht
      · rw [nup_ne e]; exact m_b2_lt (m_b1_lt hb) x hx) h8 (fun g => by
        rw [nup_ne (by omega)] at g
        exact ((hR (a + 1) h8).2 (m_brk_s g)).1) (fun _ => by omega)
    rw [ob_mk k1, ob_mk hL.f22, ixk hL.n22 (by omega) (by omega), nc (by omega)]
    refine ⟨_, rfl, fun x hx => ?_, fun k hk => by rw [z_up_ne (Or.inr (by omega)), k3 k hk, g3 k hk], fun b hb => by rw [z_up_off hb, k4 b hb, g4 b hb]⟩
    by_cases e : x = a
    · subst e; rw [z_up_at, nup_at]; rfl
    · rw [z_up_ne (Or.inr e), nup_ne e, k2 x hx]
      by_cases e2 : x = a + 1
      · subst e2; rw [nup_at, nup_at]
      · rw [nup_ne e2, nup_ne e2, m_brk_nup e]
  · rw [if_neg (fun d => h ((nI_eq (by omega) (by omega)).mp (d.trans nl2))), if_neg h]
    exact ⟨J, rfl, g2, g3, g4⟩
/-- what make's loop leaves, from i on -/
def rMk (I J : zI) (A h c t i : Nat) : Prop := J A 24 = nI 0 ∧ J (A + 20) 8 = nI h ∧ (∀ k, k ≠ 8 → J (A + 20) k = if k < i ∧ I (A + 20) k = nI t then nI (10 + c) else I (A + 20) k) ∧ ∀ b, b ≠ A + 20 → J b = I b
theorem r_mk_lp (hL : rL S A) {h c t : Nat} (hh : h ≤ 10) : ∀ (n i : Nat) (J : zI), i ≤ 9 + h → 9 + h < i + n → rMk I J A h c t i → ∃ J', z_X9_make_47 F S n A (nI c) (nI t) (nI i) J = some J' ∧ rMk I J' A h c t (9 + h) := by
  intro n
  induction n with
  | zero => intro i J h1 h2; omega
  | succ n ih =>
    intro i J h1 h2 hJ
    obtain ⟨j1, j2, j3, j4⟩ := hJ
    show ∃ J', z_X9_make_47B F S (z_X9_make_47 F S n) A (nI c) (nI t) (nI i) J = some J' ∧ _
    unfold z_X9_make_47B
    rw [ob_mk hL.f22, ix8 hL.n22 (by omega) (by omega), tn8, j2, nl9, nI_add, j1]
    by_cases hi : i < 9 + h
    · rw [if_pos ((nI_ltI (by omega) (by omega)).mpr hi), if_pos (show nI 0 = 0 from rfl), nI_1]
      by_cases h8 : i = 8
      · rw [if_pos (show nI i = 8 by rw [h8]; rfl)]
        refine ih (i + 1) J (by omega) (by omega) ⟨j1, j2, fun k hk => ?_, j4⟩
        rw [j3 k hk]
        by_cases g : k < i ∧ I (A + 20) k = nI t
        · rw [if_pos g, if_pos ⟨by omega, g.2⟩]
        · rw [if_neg g, if_neg (fun q => g ⟨by have := q.1; omega, q.2⟩)]
      · rw [if_neg (fun d => h8 ((nI_eq (by omega) (by omega)).mp (d.trans nl8))), ixk hL.n22 (by omega) (by omega), nc (by omega), ixc hL.n22 (by omega) (by omega), j3 i h8, if_neg (show ¬ (i < i ∧ I (A + 20) i = nI t) from fun g => Nat.lt_irrefl _ g.1), nl10, nI_add]
        by_cases hv : I (A + 20) i = nI t
        · rw [if_pos hv]
          refine ih (i + 1) _ (by omega) (by omega) ⟨by rw [z_up_off (by omega)]; exact j1, by rw [z_up_ne (Or.inr (by omega))]; exact j2, fun k hk => ?_, fun b hb => by rw [z_up_off hb]; exact j4 b hb⟩
          by_cases e : k = i
          · subst e; rw [z_up_at, if_pos ⟨by omega, hv⟩]
          · rw [z_up_ne (Or.inr e), j3 k hk]
            by_cases g : k < i ∧ I (A + 20) k = nI t
            · rw [if_pos g, if_pos ⟨by omega, g.2⟩]
            · rw [if_neg g, if_neg (fun q => g ⟨by have := q.1; omega, q.2⟩)]
        · rw [if_neg hv]
          refine ih (i + 1) J (by omega) (by omega) ⟨j1, j2, fun k hk => ?_, j4⟩
          rw [j3 k hk]
          by_cases g : k < i ∧ I (A + 20) k = nI t
          · rw [if_pos g, if_pos ⟨by omega, g.2⟩]
          · rw [if_neg g, if_neg (fun q => by
              by_cases e : k = i
              · subst e; exact hv q.2
              · exact g ⟨by have := q.1; omega, q.2⟩)]
    · rw [if_neg (fun d => hi ((nI_ltI (by omega) (by omega)).mp d))]
      have e : i = 9 + h := by omega
      subst e
      exact ⟨J, rfl, j1, j2, j3, j4⟩
theorem r_mk_no (hL : rL S A) {n h w : Nat} {c t i : Int32} (hn : 0 < n) (hh : h ≤ 11) (hi : i = 0) (h8 : I (A + 20) 8 = nI h) (h24 : I A 24 = nI w) (hw : w ≠ 0 ∧ w < 20) : z_X9_make_47 F S n A c t i I = some I := by
  obtain ⟨m, rfl⟩ : ∃ m, n = m + 1 := ⟨n - 1, by omega⟩
  show z_X9_make_47B F S (z_X9_make_47 F S m) A c t i I = some I
  unfold z_X9_make_47B
  rw [ob_mk hL.f22, ix8 hL.n22 (by omega) (by omega), tn8, h8, nl9, nI_add, h24, hi, if_pos (show (0 : Int32) < nI (9 + h) from (nI_ltI (a := 0) (by omega) (by omega)).mpr (by omega)), if_neg (fun d => hw.1 ((nI_eq (by omega) (by omega)).mp (d.trans nl0)))]
theorem r_make (hF : 40 ≤ F) {i n pc : Nat} {K : Nat → mAc} (hE : rE S I A i T pc n K) (hw : I A 24 = nI 0) (hs : rSn I (A + 20) 0 s) (hV : mVs T n K s) {c : Nat} (hc : c < T.1) : ∃ I', z_X9_make F S I A (nI c) = some I' ∧ rW T I' A (m_make n K c s) ∧ fN A I I' := by
  obtain ⟨hL, hT, ⟨e21, hi⟩, _, hn40, hK⟩ := hE
  have h16 := hT.2.1.2.1
  have hB := hV.b h16 hn40
  have h10 := hV.h
  unfold z_X9_make m_make
  by_cases h0 : s.2.1 = 0
  · rw [ob_mk (r_pop0 hL hw hs h0), if_pos h0]
    dsimp only
    rw [if_neg (show ¬ z_up I A 24 1 A 24 = 0 by rw [z_up_at]; decide), r_mk_no (h := s.2.1) (w := 1) hL (by omega) (by omega) rfl (by rw [z_up_off (by omega)]; exact hs.2.1) (by rw [z_up_at]; rfl) (by omega)]
    exact ⟨_, rfl, ⟨by rw [z_up_at]; rfl, by show 1 < 20; omega, fun g => absurd g (by show ¬ 1 = 0; omega)⟩, fN.rf.upW⟩
  · rw [ob_mk (r_pop1 hL hs (by omega) hB h0), if_neg h0]
    dsimp only
    have hv := (hV.2.1 (s.2.1 - 1) (by omega)).1
    generalize ht : s.2.2 (s.2.1 - 1) = t at hv
    have htb := (hv.ob h16 hn40).1
    generalize hJ : z_up I (A + 20) 8 (nI (s.2.1 - 1)) = J
    have fJ : fN A I J := by rw [← hJ]; exact fN.rf.upN
    have j24 : J A 24 = nI 0 := by rw [← hJ, z_up_off (by omega)]; exact hw
    have j8 : J (A + 20) 8 = nI (s.2.1 - 1) := by rw [← hJ, z_up_at]
    have hsJ : rSn J (A + 20) 0 (s.1, s.2.1 - 1, s.2.2) := by rw [← hJ]; exact hs.dn
    have bad : ∃ I', z_X9_make_40 F S A (nI c) (nI t) J = some I' ∧ rW T I' A (2, s) ∧ fN A I I' := by
      unfold z_X9_make_40
      rw [ob_mk (r_fails0 j24 2), r_mk_no (h := s.2.1 - 1) (w := 2) hL (by omega) (by omega) rfl (by rw [z_up_off (by omega)]; exact j8) (by rw [z_up_at]; rfl) (by omega)]
      exact ⟨_, rfl, ⟨by rw [z_up_at]; rfl, by show 2 < 20; omega, fun g => absurd g (by show ¬ 2 = 0; omega)⟩, fJ.upW⟩
    have e21J : J A 21 = nI i := by rw [fJ.2 21 (by omega)]; exact e21
    rw [if_pos (show J A 24 = 0 from j24), ob_mk (r_unm htb), b01]
    simp only [e21J]
    by_cases h100 : 100 ≤ t
    · have hk9 : t < 100 + n ∧ (K (t - 100)).1 = 9 := by
        unfold mTy at hv
        rcases hv with h | h | h
        · omega
        · omega
        · exact h.2
      have ha := (hK (t - 100) (by omega)).2.2.1
      obtain ⟨a, ha1, ha2⟩ := (hK (t - 100) (by omega)).1.2.2.1 (by omega)
      rw [if_pos h100, ob_mk hL.f8, nl40, pk_mul, nI_add, nl100, pk_sub (by omega), show 40 * i + t - 100 = 40 * i + (t - 100) by omega, ixk hL.n8 (by omega) (by omega), nc (by omega), fJ.1 _ (by omega) (by omega), ha]
      by_cases hca : (K (t - 100)).2.1 = nI c
      · have eu : m_ump n K t c = true := by unfold m_ump; exact decide_eq_true ⟨h100, by omega, hk9.2, hca⟩
        rw [if_pos hca, if_pos eu]
        obtain ⟨J', l1, l2, l3, l4, l5⟩ := r_mk_lp (F := F) (I := J) hL (h := s.2.1 - 1) (c := c) (t := t) (by omega) F 0 J (by omega) (by omega) ⟨j24, j8, fun k hk => by rw [if_neg (fun g => absurd g.1 (Nat.not_lt_zero _))], fun _ _ => rfl⟩
        refine ⟨J', l1, ⟨l2, by show 0 < 20; omega, fun _ => ⟨⟨fun x hx => ?_, l3, fun j hj => ?_⟩, by show s.2.1 - 1 ≤ 11; omega, fun x hx => ?_, fun j hj => ?_⟩⟩, fJ.trans ⟨fun b _ h2 => l5 b h2, fun k hk => by rw [l5 A (by omega)]⟩⟩
        · have hx1 := hsJ.1 x hx
          rw [Nat.zero_add] at hx1 ⊢
          rw [l4 x (by omega), hx1]
          show _ = nI (if s.1 x = t then 10 + c else s.1 x)
          have hbx := (hB.1 x hx).1
          by_cases e : s.1 x = t
          · rw [if_pos ⟨by omega, by show nI (s.1 x) = nI t; rw [e]⟩, if_pos e]
          · rw [if_neg (fun g => e ((nI_eq (by omega) (by omega)).mp g.2)), if_neg e]
        · have hj' : j < s.2.1 - 1 := hj
          have hx1 := hsJ.2.2 j hj'
          rw [l4 _ (by omega), hx1]
          show _ = nI (if s.2.2 j = t then 10 + c else s.2.2 j)
          have hbx := (hB.2 j (by omega)).1
          by_cases e : s.2.2 j = t
          · rw [if_pos ⟨by omega, by show nI (s.2.2 j) = nI t; rw [e]⟩, if_pos e]
          · rw [if_neg (fun g => e ((nI_eq (by omega) (by omega)).mp g.2)), if_neg e]
        · show mOb T (if s.1 x = t then 10 + c else s.1 x)
          split
          · exact ⟨by omega, fun _ _ => by omega⟩
          · exact hB.1 x hx
        · have hj' : j < s.2.1 - 1 := hj
          show mOb T (if s.2.2 j = t then 10 + c else s.2.2 j)
          split
          · exact ⟨by omega, fun _ _ => by omega⟩
          · exact hB.2 j (by omega)
      · have eu : m_ump n K t c = false := by unfold m_ump; exact decide_eq_false (fun g => hca g.2.2.2)
        rw [if_neg hca, eu, if_neg (show ¬ false = true by decide)]
        exact bad
    · have eu : m_ump n K t c = false := by unfold m_ump; exact decide_eq_false (fun g => h100 g.1)
      rw [if_neg h100, eu, if_neg (show ¬ false = true by decide)]
      exact bad
end RD2
