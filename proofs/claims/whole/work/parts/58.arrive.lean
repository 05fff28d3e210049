/-! the class's cells: layout, and a state that comes to an act -/
abbrev mGd : Type := Nat × Nat × Nat × Nat
def mGok (T : mTr) (g : mGd) : Prop := g.1 < g.2.1 ∧ g.2.1 ≤ 40 ∧ g.2.2.1 < 40 ∧ g.2.2.2 < T.1
def cLm (S : zS) (B i : Nat) : Prop := S.1 (B + 4) i = some (B + 5 + 6 * i) ∧ S.1 (B + 5 + 6 * i) 0 = some (B + 5 + 6 * i + 1) ∧ S.1 (B + 5 + 6 * i) 1 = some (B + 5 + 6 * i + 2) ∧ S.1 (B + 5 + 6 * i) 2 = some (B + 5 + 6 * i + 3) ∧ (S.2.1 (B + 5 + 6 * i + 1)).2 = 40 ∧ (S.2.1 (B + 5 + 6 * i + 2)).2 = 4 ∧ cOK S (B + 5 + 6 * i + 3)
def cLc (S : zS) (B : Nat) : Prop := S.1 (B + 53) 0 = some (B + 1) ∧ S.1 (B + 54) 0 = some (B + 1) ∧ S.1 (B + 54) 1 = some (B + 53) ∧ S.1 (B + 54) 2 = some (B + 55) ∧ S.1 (B + 54) 3 = some (B + 58) ∧ cOK S (B + 55) ∧ cOK S (B + 58)
def cQ (S : zS) (B M n : Nat) (Q : Nat → Nat) : Prop := (∀ p, p < n → B + 94 ≤ Q p ∧ S.1 (M + 1) p = some (Q p) ∧ S.1 (Q p) 6 = some (Q p + 1) ∧ S.1 (Q p) 7 = some (Q p + 4) ∧ cOK S (Q p + 1) ∧ cOK S (Q p + 4)) ∧ ∀ p p', p < n → p' < n → p ≠ p' → Q p + 7 ≤ Q p' ∨ Q p' + 7 ≤ Q p
def cGs (S : zS) (I : zI) (B M n : Nat) (Q : Nat → Nat) (T : mTr) (gn : Nat) (G : Nat → mGd) : Prop := I M 4 = nI gn ∧ gn ≤ 4 ∧ ∀ j, j < gn → mGok T (G j) ∧ ∃ g, S.1 (M + 2) j = some g ∧ B + 94 ≤ g ∧ (∀ p, p < n → g < Q p ∨ Q p + 7 ≤ g) ∧ I g 0 = nI (G j).1 ∧ I g 1 = nI (G j).2.1 ∧ I g 2 = nI (G j).2.2.1 ∧ I g 3 = nI (G j).2.2.2
/-- all that computing reads of a method -/
def cV (S : zS) (I : zI) (B i : Nat) (T : mTr) (pc n : Nat) (K : Nat → mAc) (Q : Nat → Nat) (gn : Nat) (G : Nat → mGd) : Prop := cLc S B ∧ i < 8 ∧ cLm S B i ∧ cT S I (B + 1) T ∧ cAs S I (B + 5 + 6 * i) n K ∧ cQ S B (B + 5 + 6 * i) n Q ∧ (I (B + 5 + 6 * i) 5 = nI pc ∧ pc ≤ 8) ∧ (∀ p, p < n → mAok T (K p)) ∧ cGs S I B (B + 5 + 6 * i) n Q T gn G
/-- what computing may change -/
def fW (B i n : Nat) (Q : Nat → Nat) (I I' : zI) : Prop := (∀ b, b ≠ B + 5 + 6 * i → (b < B + 54 ∨ B + 61 ≤ b) → (∀ p, p < n → b < Q p ∨ Q p + 4 ≤ b) → I' b = I b) ∧ (∀ k, k ≠ 8 → k ≠ 9 → I' (B + 5 + 6 * i) k = I (B + 5 + 6 * i) k) ∧ ∀ p, p < n → ∀ k, k ≠ 3 → k ≠ 4 → I' (Q p) k = I (Q p) k
theorem fW.rf {B i n : Nat} {Q : Nat → Nat} {I : zI} : fW B i n Q I I := ⟨fun _ _ _ _ => rfl, fun _ _ _ => rfl, fun _ _ _ _ _ => rfl⟩
theorem fW.trans {B i n : Nat} {Q : Nat → Nat} {I I1 I2 : zI} (h : fW B i n Q I I1) (g : fW B i n Q I1 I2) : fW B i n Q I I2 := ⟨fun b h1 h2 h3 => (g.1 b h1 h2 h3).trans (h.1 b h1 h2 h3), fun k h1 h2 => (g.2.1 k h1 h2).trans (h.2.1 k h1 h2), fun p hp k h1 h2 => (g.2.2 p hp k h1 h2).trans (h.2.2 p hp k h1 h2)⟩
/-- only acts' flags 3, 4 and states have changed -/
def fQ (n : Nat) (Q : Nat → Nat) (I I' : zI) : Prop := (∀ b, (∀ p, p < n → b < Q p ∨ Q p + 4 ≤ b) → I' b = I b) ∧ ∀ p, p < n → ∀ k, k ≠ 3 → k ≠ 4 → I' (Q p) k = I (Q p) k
theorem fQ.rf {n : Nat} {Q : Nat → Nat} {I : zI} : fQ n Q I I := ⟨fun _ _ => rfl, fun _ _ _ _ _ => rfl⟩
theorem fQ.trans {n : Nat} {Q : Nat → Nat} {I I1 I2 : zI} (h : fQ n Q I I1) (g : fQ n Q I1 I2) : fQ n Q I I2 := ⟨fun b h1 => (g.1 b h1).trans (h.1 b h1), fun p hp k h1 h2 => (g.2 p hp k h1 h2).trans (h.2 p hp k h1 h2)⟩
section CV
variable {F : Nat} {S : zS} {I I' : zI} {B i n pc gn : Nat} {T : mTr} {K : Nat → mAc} {Q : Nat → Nat} {G : Nat → mGd}
theorem fQ.W (hV : cV S I B i T pc n K Q gn G) {I1 I2 : zI} (h : fQ n Q I1 I2) : fW B i n Q I1 I2 := by
  obtain ⟨h1, h2, h3, h4, h5, h6, h7, h8, h9⟩ := hV
  refine ⟨fun b _ _ hb => h.1 b hb, fun k _ _ => ?_, h.2⟩
  rw [h.1 (B + 5 + 6 * i) (fun p hp => by have := (h6.1 p hp).1; omega)]
theorem fr.W (hV : cV S I B i T pc n K Q gn G) {I1 I2 : zI} {a : Nat} (h : fr a 3 I1 I2) (h1 : B + 54 ≤ a) (h2 : a + 3 ≤ B + 61) : fW B i n Q I1 I2 := by
  refine ⟨fun b _ hb _ => h b (by omega), fun k _ _ => ?_, fun p hp k _ _ => ?_⟩
  · have := hV.2.1
    rw [h (B + 5 + 6 * i) (by omega)]
  · have := (hV.2.2.2.2.2.1.1 p hp).1
    rw [h (Q p) (by omega)]
theorem cV.W (hV : cV S I B i T pc n K Q gn G) (f : fW B i n Q I I') : cV S I' B i T pc n K Q gn G := by
  obtain ⟨h1, h2, h3, h4, ⟨a1, a2, a3, a4, a5⟩, h6, h7, h8, ⟨g1, g2, g3⟩⟩ := hV
  have hq : ∀ b, b < B + 94 → ∀ p, p < n → b < Q p ∨ Q p + 4 ≤ b := fun b hb p hp => by have := (h6.1 p hp).1; omega
  refine ⟨h1, h2, h3, h4.kept (f.1 _ (by omega) (by omega) (hq _ (by omega))) (f.1 _ (by omega) (by omega) (hq _ (by omega))) (f.1 _ (by omega) (by omega) (hq _ (by omega))), ⟨a1, a2, by rw [f.2.1 3 (by omega) (by omega)]; exact a3, a4, fun p hp => ?_⟩, h6, ⟨by rw [f.2.1 5 (by omega) (by omega)]; exact h7.1, h7.2⟩, h8, ⟨by rw [f.2.1 4 (by omega) (by omega)]; exact g1, g2, fun j hj => ?_⟩⟩
  · obtain ⟨q, e0, e1, e2, e3⟩ := a5 p hp
    have hqq : Q p = q := Option.some.inj ((h6.1 p hp).2.1.symm.trans e0)
    subst hqq
    exact ⟨Q p, e0, by rw [f.2.2 p hp 0 (by omega) (by omega)]; exact e1, by rw [f.2.2 p hp 1 (by omega) (by omega)]; exact e2, by rw [f.2.2 p hp 2 (by omega) (by omega)]; exact e3⟩
  · obtain ⟨k0, g, k1, k2, k3, k4, k5, k6, k7⟩ := g3 j hj
    have e : I' g = I g := f.1 g (by omega) (by omega) (fun p hp => by have := k3 p hp; omega)
    exact ⟨k0, g, k1, k2, k3, by rw [e]; exact k4, by rw [e]; exact k5, by rw [e]; exact k6, by rw [e]; exact k7⟩
theorem cV.act (hV : cV S I B i T pc n K Q gn G) {p : Nat} (hp : p < n) : z_X5_actAt F S I (B + 5 + 6 * i) (nI p) = some (some (Q p)) ∧ I (Q p) 0 = nI (K p).1 ∧ I (Q p) 1 = (K p).2.1 ∧ I (Q p) 2 = (K p).2.2 := by
  obtain ⟨q, e, e0, e1⟩ := x_actAt (F := F) hV.2.2.2.2.1 hp
  have hqq : Q p = q := Option.some.inj ((hV.2.2.2.2.2.1.1 p hp).2.1.symm.trans e0)
  subst hqq
  exact ⟨e, e1⟩
theorem cV.act_n (hV : cV S I B i T pc n K Q gn G) {x : Nat} (hx : n ≤ x) (hb : x < 2 ^ 31) : z_X5_actAt F S I (B + 5 + 6 * i) (nI x) = some none := x_actAt_n hV.2.2.2.2.1 (Or.inr (nI_le hx hb))
end CV
/-- the acts' states in the class's cells -/
def cC (I : zI) (n : Nat) (Q : Nat → Nat) (C : mC) : Prop := ∀ p, p < n → I (Q p) 3 = b2i (C.1 p) ∧ I (Q p) 4 = b2i (C.2.1 p) ∧ (C.1 p = true → cSn I (Q p + 1) (C.2.2 p))
section CA
variable {F : Nat} {S : zS} {I : zI} {B i n pc gn : Nat} {T : mTr} {K : Nat → mAc} {Q : Nat → Nat} {G : Nat → mGd} {C : mC} {a : Nat} {s : mSn}
theorem fq.toQ (hQ : cQ S B (B + 5 + 6 * i) n Q) {I1 I2 : zI} {p : Nat} (hp : p < n) (h : fq (Q p) I1 I2) : fQ n Q I1 I2 := by
  refine ⟨fun b hb => h.1 b (hb p hp), fun p' hp' k h3 h4 => ?_⟩
  by_cases e : p' = p
  · subst e; exact h.2 k h3 h4
  · have := hQ.2 p' p hp' hp e
    rw [h.1 (Q p') (by omega)]
theorem cC.set (hQ : cQ S B (B + 5 + 6 * i) n Q) {I1 : zI} {p : Nat} (hp : p < n) (hC : cC I n Q C) (h : fq (Q p) I I1) {r d : Bool} {s : mSn} (e3 : I1 (Q p) 3 = b2i r) (e4 : I1 (Q p) 4 = b2i d) (es : r = true → cSn I1 (Q p + 1) s) : cC I1 n Q (nup C.1 p r, nup C.2.1 p d, nup C.2.2 p s) := by
  intro p' hp'
  by_cases e : p' = p
  · subst e
    show _ = b2i (nup C.1 p' r p') ∧ _ = b2i (nup C.2.1 p' d p') ∧ (nup C.1 p' r p' = true → cSn I1 (Q p' + 1) (nup C.2.2 p' s p'))
    rw [nup_at, nup_at, nup_at]; exact ⟨e3, e4, es⟩
  · have hd := hQ.2 p' p hp' hp e
    obtain ⟨k1, k2, k3⟩ := hC p' hp'
    show _ = b2i (nup C.1 p r p') ∧ _ = b2i (nup C.2.1 p d p') ∧ (nup C.1 p r p' = true → cSn I1 (Q p' + 1) (nup C.2.2 p s p'))
    rw [nup_ne e, nup_ne e, nup_ne e, h.1 (Q p') (by omega)]
    exact ⟨k1, k2, fun g => (k3 g).fr h.fr (by omega)⟩
theorem c_arr (hF : 20 ≤ F) (hV : cV S I B i T pc n K Q gn G) (hO : cOK S a) (hab : a + 3 ≤ B + 94) (hs : cSn I a s) (hC : cC I n Q C) {xp : Int32} {x : Nat} (hx : x < 2 ^ 31) {chk : Bool} (hchk : xp < nI x ↔ chk = false) :
    ∃ I', z_X2_arrive F S I (B + 54) (B + 5 + 6 * i) xp (nI x) a = some (nI (m_arr T n chk x s C).1, I') ∧ ((m_arr T n chk x s C).1 = 0 → cC I' n Q (m_arr T n chk x s C).2) ∧ fQ n Q I I' := by
  unfold z_X2_arrive m_arr
  by_cases hn : x < n
  · obtain ⟨e0, e1, e2, e3⟩ := hV.act (F := F) hn
    obtain ⟨q1, q2, q3, q4, q5, q6⟩ := hV.2.2.2.2.2.1.1 x hn
    obtain ⟨c1, c2, c3⟩ := hC x hn
    rw [ob_mk e0, ob2_mk rfl, if_neg (show ¬ ¬ x < n by omega)]
    have key : ∃ I', z_X2_arrive_30 F S (B + 54) a (Q x) I = some (nI (if C.1 x = false then ((0, nup C.1 x true, nup C.2.1 x true, nup C.2.2 x s) : Nat × mC) else if (C.2.2 x).2.1 ≠ s.2.1 then (4, C) else if m_bad T (C.2.2 x) s = true then (2, C) else (0, C.1, nup C.2.1 x (C.2.1 x || m_chg T (C.2.2 x) s), nup C.2.2 x (m_jn T (C.2.2 x) s))).1, I') ∧ ((if C.1 x = false then ((0, nup C.1 x true, nup C.2.1 x true, nup C.2.2 x s) : Nat × mC) else if (C.2.2 x).2.1 ≠ s.2.1 then (4, C) else if m_bad T (C.2.2 x) s = true then (2, C) else (0, C.1, nup C.2.1 x (C.2.1 x || m_chg T (C.2.2 x) s), nup C.2.2 x (m_jn T (C.2.2 x) s))).1 = 0 → cC I' n Q (if C.1 x = false then ((0, nup C.1 x true, nup C.2.1 x true, nup C.2.2 x s) : Nat × mC) else if (C.2.2 x).2.1 ≠ s.2.1 then (4, C) else if m_bad T (C.2.2 x) s = true then (2, C) else (0, C.1, nup C.2.1 x (C.2.1 x || m_chg T (C.2.2 x) s), nup C.2.2 x (m_jn T (C.2.2 x) s))).2) ∧ fQ n Q I I' := by
      unfold z_X2_arrive_30
      rw [c1]
      cases hr : C.1 x
      · rw [if_pos (show b2i false = 0 from rfl), if_pos (show false = false from rfl), ob_mk q3]
        obtain ⟨I1, g1, g2, g3⟩ := s_become (F := F) (a := Q x + 1) q5 hO hs (by omega)
        rw [ob_mk g1]
        have f1 : fq (Q x) I (z_up (z_up I1 (Q x) 3 1) (Q x) 4 1) := ((fq.of g3).up (Or.inl rfl)).up (Or.inr rfl)
        refine ⟨_, rfl, fun _ => cC.set hV.2.2.2.2.2.1 hn hC f1 (r := true) (d := true) ?_ ?_ (fun _ => ?_), fq.toQ hV.2.2.2.2.2.1 hn f1⟩
        · rw [z_up_ne (Or.inr (by omega)), z_up_at]; rfl
        · rw [z_up_at]; rfl
        · exact g2.kept (by rw [z_up_off (by omega), z_up_off (by omega)]) (by rw [z_up_off (by omega), z_up_off (by omega)]) (by rw [z_up_off (by omega), z_up_off (by omega)])
      · rw [if_neg (show ¬ b2i true = 0 by decide), if_neg (show ¬ true = false by decide)]
        have hold := c3 hr
        have h1 := hold.2.2.1
        have h2 := hs.2.2.1
        unfold z_X2_merge
        rw [ob_mk q3, hold.2.1, hs.2.1]
        by_cases hh : (C.2.2 x).2.1 = s.2.1
        · rw [if_pos (show nI (C.2.2 x).2.1 = nI s.2.1 by rw [hh]), if_neg (show ¬ (C.2.2 x).2.1 ≠ s.2.1 from fun g => g hh), nl0]
          obtain ⟨I', g1, g2, g3⟩ := mg_st (T := T) (o := C.2.2 x) (s := s) hV.1.2.1 q5 hO (by omega) (by omega) hF hh (C.2.1 x) F 0 I (Nat.zero_le _) (by omega) hV.2.2.2.1 hs ⟨hold.1, by rw [hold.2.1, hh], h2, fun j hj => by
            show _ = nI (if j < 0 then m_join T ((C.2.2 x).2.2 j) (s.2.2 j) else (C.2.2 x).2.2 j) ∧ (if j < 0 then m_join T ((C.2.2 x).2.2 j) (s.2.2 j) else (C.2.2 x).2.2 j) < 200
            rw [if_neg (by omega)]; exact hold.2.2.2 j (by rw [hh]; exact hj)⟩ (by rw [c2]; show _ = b2i (_ || false); rw [Bool.or_false]) (fun j hj => by omega)
          rw [ob_mk g1]
          cases hbd : m_bad T (C.2.2 x) s
          · rw [if_neg (show ¬ false = true by decide), if_neg (show ¬ false = true by decide)]
            obtain ⟨k1, k2, k3⟩ := g2 hbd
            refine ⟨I', rfl, fun _ => ?_, fq.toQ hV.2.2.2.2.2.1 hn g3⟩
            have := cC.set hV.2.2.2.2.2.1 hn hC g3 (r := true) (d := C.2.1 x || m_chg T (C.2.2 x) s) (s := m_jn T (C.2.2 x) s) (by rw [k3, c1, hr]) k2 (fun _ => k1)
            have e9 : nup C.1 x true = C.1 := by
              funext y
              by_cases hy : y = x
              · subst hy; rw [nup_at, hr]
              · rw [nup_ne hy]
            rw [e9] at this
            exact this
          · rw [if_pos (show true = true from rfl), if_pos (show true = true from rfl)]
            exact ⟨I', rfl, fun g => absurd g (by simp), fq.toQ hV.2.2.2.2.2.1 hn g3⟩
        · rw [if_neg (fun g => hh ((nI_eq (by omega) (by omega)).mp g)), if_pos (show (C.2.2 x).2.1 ≠ s.2.1 from hh)]
          exact ⟨I, rfl, fun g => absurd g (by simp), fQ.rf⟩
    cases hc : chk
    · rw [if_pos (hchk.mpr hc), if_neg (show ¬ (false && m_unm s) = true by simp)]
      exact key
    · rw [if_neg (fun g => by rw [hchk, hc] at g; cases g), ob_mk (s_unm hF hO hs)]
      cases hu : m_unm s
      · rw [if_pos (show b2i false = 0 from rfl), if_neg (show ¬ (true && false) = true by simp)]
        exact key
      · rw [if_neg (show ¬ b2i true = 0 by decide), if_pos (show (true && true) = true from rfl)]
        exact ⟨I, rfl, fun g => absurd g (by simp), fQ.rf⟩
  · rw [ob_mk (hV.act_n (by omega) hx), ob2_none, if_pos hn]
    exact ⟨I, rfl, fun g => absurd g (by simp), fQ.rf⟩
end CA
