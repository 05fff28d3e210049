/-! computing, as a whole -/
def mH (r : Nat × mSn) : Prop := r.1 = 0 → r.2.2.1 ≤ 10
theorem mH.ite {c : Prop} [Decidable c] {x y : Nat × mSn} (h1 : mH x) (h2 : mH y) : mH (if c then x else y) := by
  by_cases h : c
  · rw [if_pos h]; exact h1
  · rw [if_neg h]; exact h2
theorem mH.bd {r : Nat × mSn} {f : mSn → Nat × mSn} (h1 : mH r) (h2 : ∀ s, s.2.1 ≤ 10 → mH (f s)) : mH (m_bd r f) := by
  unfold m_bd
  by_cases h : r.1 = 0
  · rw [if_pos h]; exact h2 _ (h1 h)
  · rw [if_neg h]; exact h1
theorem mH_push {s : mSn} {t : Nat} (h : s.2.1 ≤ 10) : mH (m_push s t) := by
  unfold m_push
  by_cases hd : 10 < m_w s + m_t t
  · rw [if_pos hd]; exact fun _ => h
  · rw [if_neg hd]
    intro _
    have h1 := m_wt_ge s.2.2 s.2.1
    have h2 := m_t_pos t
    have h3 : s.2.1 ≤ m_w s := h1
    show s.2.1 + 1 ≤ 10
    omega
theorem mH_id {s : mSn} {k : Nat} (h : s.2.1 ≤ 10) : mH (k, s) := fun _ => h
theorem mH_pop {s : mSn} {k : Nat} {f : Nat → Nat} (h : s.2.1 ≤ 10) : mH (k, f, s.2.1 - 1, s.2.2) := fun _ => by show s.2.1 - 1 ≤ 10; omega
theorem mH_take {s : mSn} {t : Nat} (h : s.2.1 ≤ 10) : mH (m_take s t) := by unfold m_take; exact (mH_id h).ite ((mH_pop h).ite (mH_id h))
theorem mH_takeO {T : mTr} {s : mSn} {t : Nat} (h : s.2.1 ≤ 10) : mH (m_takeO T s t) := by unfold m_takeO; exact (mH_id h).ite ((mH_pop h).ite (mH_id h))
theorem mH_load {pc a : Nat} {s : mSn} (h : s.2.1 ≤ 10) : mH (m_load pc a s) := by unfold m_load; exact (mH_id h).ite (mH_push h)
theorem mH_store {pc a : Nat} {s : mSn} (h : s.2.1 ≤ 10) : mH (m_store pc a s) := by unfold m_store; exact (mH_id h).ite ((mH_id h).ite ((mH_id h).ite (mH_pop h)))
theorem mH_make {n : Nat} {K : Nat → mAc} {c : Nat} {s : mSn} (h : s.2.1 ≤ 10) : mH (m_make n K c s) := by
  unfold m_make
  refine (mH_id h).ite (mH.ite (fun _ => ?_) (mH_id h))
  show s.2.1 - 1 ≤ 10
  omega
theorem mH_more {pc a : Nat} {s : mSn} (h : s.2.1 ≤ 10) : mH (m_more pc a s) := by unfold m_more; exact (mH_id h).ite (mH_id h)
theorem mH_do {T : mTr} {pc n : Nat} {K : Nat → mAc} {k a p : Nat} {s : mSn} (h : s.2.1 ≤ 10) : mH (m_do T pc n K k a p s) := by
  unfold m_do
  exact (mH_push h).ite ((mH_push h).ite ((mH_push h).ite ((mH_load h).ite ((mH_store h).ite (((mH_id h).ite (mH_pop h)).ite (((mH_id h).ite (mH_push h)).ite (((mH_take h).bd (fun _ g => (mH_take g).bd (fun _ g => mH_push g))).ite (((mH_take h).bd (fun _ g => (mH_take g).bd (fun _ g => mH_push g))).ite ((mH_push h).ite ((mH_make h).ite (((mH_takeO h).bd (fun _ g => mH_push g)).ite (((mH_take h).bd (fun _ g => (mH_takeO g).bd (fun _ g => mH_push g))).ite (((mH_takeO h).bd (fun _ g => mH_push g)).ite ((mH_take h).ite ((mH_takeO h).ite ((mH_more h).ite (mH_id h)))))))))))))))))
theorem m_ld_some {d : Nat → Bool} : ∀ (m j p : Nat), m_ld d m j = some p → j ≤ p ∧ p < j + m ∧ d p = true := by
  intro m
  induction m with
  | zero => intro j p h; cases h
  | succ m ih =>
    intro j p h
    simp only [m_ld] at h
    by_cases hd : d j = true
    · rw [if_pos hd] at h
      have e : j = p := Option.some.inj h
      subst e
      exact ⟨Nat.le_refl _, by omega, hd⟩
    · rw [if_neg hd] at h
      obtain ⟨h1, h2, h3⟩ := ih (j + 1) p h
      exact ⟨by omega, by omega, h3⟩
theorem m_ld_none {d : Nat → Bool} : ∀ (m j : Nat), m_ld d m j = none → ∀ p, j ≤ p → p < j + m → d p = false := by
  intro m
  induction m with
  | zero => intro j _ p h1 h2; omega
  | succ m ih =>
    intro j h p h1 h2
    simp only [m_ld] at h
    by_cases hd : d j = true
    · rw [if_pos hd] at h; cases h
    · rw [if_neg hd] at h
      by_cases e : p = j
      · subst e
        cases hv : d p
        · rfl
        · exact absurd hv hd
      · exact ih (j + 1) h p (by omega) (by omega)
/-- most on a stack, most places, the acts' states -/
abbrev mR : Type := Nat × Nat × mC
def m_nx (T : mTr) (pc n : Nat) (K : Nat → mAc) (gn : Nat) (G : Nat → mGd) (p : Nat) (R : mR) : mR := (max (max R.1 (m_w (R.2.2.2.2 p))) (m_w (m_wd T pc n K p (R.2.2.2.2 p)).2), max R.2.1 (m_up (K p) (m_wd T pc n K p (R.2.2.2.2 p)).2), (m_work T pc n K gn G p R.2.2).2)
def m_run (T : mTr) (pc n : Nat) (K : Nat → mAc) (gn : Nat) (G : Nat → mGd) : Nat → mR → Option (Nat × Nat × mR)
  | 0 => fun _ => none
  | f + 1 => fun R => ob2 (m_ld R.2.2.2.1 n 0) (some (0, 0, R)) (fun p => if (m_work T pc n K gn G p R.2.2).1 = 0 then m_run T pc n K gn G f (m_nx T pc n K gn G p R) else some ((m_work T pc n K gn G p R.2.2).1, p, R))
theorem m_wd_h {T : mTr} {pc n : Nat} {K : Nat → mAc} {p : Nat} {C : mC} (hI : mI n C) (hp : p < n) (hr : C.1 p = true) : (m_wd T pc n K p (C.2.2 p)).1 = 0 → (m_wd T pc n K p (C.2.2 p)).2.2.1 ≤ 10 := mH_do ((hI p hp).2 hr)
/-- computing ends -/
theorem m_run_ends {T : mTr} (hT : mTok T) {pc n : Nat} {K : Nat → mAc} {gn : Nat} {G : Nat → mGd} : ∀ (f : Nat) (R : mR), mI n R.2.2 → m_ph n R.2.2 < f → ∃ x, m_run T pc n K gn G f R = some x := by
  intro f
  induction f with
  | zero => intro R _ h; omega
  | succ f ih =>
    intro R hI hf
    show ∃ x, ob2 (m_ld R.2.2.2.1 n 0) (some (0, 0, R)) (fun p => if (m_work T pc n K gn G p R.2.2).1 = 0 then m_run T pc n K gn G f (m_nx T pc n K gn G p R) else some ((m_work T pc n K gn G p R.2.2).1, p, R)) = some x
    cases hl : m_ld R.2.2.2.1 n 0 with
    | none => exact ⟨_, rfl⟩
    | some p =>
      obtain ⟨h1, h2, h3⟩ := m_ld_some n 0 p hl
      have hp : p < n := by omega
      rw [ob2_mk rfl]
      by_cases hw : (m_work T pc n K gn G p R.2.2).1 = 0
      · rw [if_pos hw]
        obtain ⟨a1, a2⟩ := m_work_ph hT hp hI h3 (m_wd_h hI hp ((hI p hp).1 h3)) hw
        exact ih (m_nx T pc n K gn G p R) a2 (by show m_ph n (m_work T pc n K gn G p R.2.2).2 < f; omega)
      · rw [if_neg hw]; exact ⟨_, rfl⟩
theorem m_ph_max {n : Nat} {C : mC} (hn : n ≤ 40) (hI : mI n C) : m_ph n C ≤ 24640 := by
  have h1 := m_sm_max (f := m_p1 C) (n := n) (k := 616) (fun p hp => by
    unfold m_p1
    by_cases h : C.1 p = true
    · rw [if_pos h]
      have := m_rk_max ((hI p hp).2 h)
      split <;> omega
    · rw [if_neg h]; exact Nat.le_refl _)
  have h2 : 616 * n ≤ 616 * 40 := Nat.mul_le_mul_left 616 hn
  unfold m_ph
  omega
theorem nlM : (1000000 : Int32) = nI 1000000 := by decide
section CR
variable {F : Nat} {S : zS} {B i n pc gn : Nat} {T : mTr} {K : Nat → mAc} {Q : Nat → Nat} {G : Nat → mGd}
theorem m_up_le {x : mAc} {s : mSn} (h : mAok T x) : m_up x s ≤ 9 := by
  unfold m_up
  by_cases hk : x.1 = 3 ∨ x.1 = 4 ∨ x.1 = 20
  · rw [if_pos hk]
    obtain ⟨al, ha, ea⟩ := h.2.1 hk
    have eta : m_ta x = al := by unfold m_ta; rw [ea]; exact nc (by omega)
    rw [eta]
    split <;> omega
  · rw [if_neg hk]; omega
theorem c_run_lp (hF : 100 ≤ F) : ∀ (f k cnt : Nat) (J : zI) (R : mR) (x : Nat × Nat × mR), m_run T pc n K gn G f R = some x → f < k → cnt + f < 1000000 → cV S J B i T pc n K Q gn G → cC J n Q R.2.2 → mI n R.2.2 → J (B + 5 + 6 * i) 8 = nI R.1 → R.1 ≤ 20 → J (B + 5 + 6 * i) 9 = nI R.2.1 → R.2.1 ≤ 20 → J (B + 54) 4 = 0 →
    ∃ I', fW B i n Q J I' ∧ (x.1 = 0 → z_X2_run_26 F S k (B + 54) (B + 5 + 6 * i) (m_oi (m_ld R.2.2.2.1 n 0)) (nI cnt) J = z_X2_run_67 F S (B + 5 + 6 * i) I' ∧ cC I' n Q x.2.2.2.2 ∧ mI n x.2.2.2.2 ∧ I' (B + 5 + 6 * i) 8 = nI x.2.2.1 ∧ x.2.2.1 ≤ 20 ∧ I' (B + 5 + 6 * i) 9 = nI x.2.2.2.1 ∧ x.2.2.2.1 ≤ 20 ∧ I' (B + 54) 4 = 0) ∧ (x.1 ≠ 0 → z_X2_run_26 F S k (B + 54) (B + 5 + 6 * i) (m_oi (m_ld R.2.2.2.1 n 0)) (nI cnt) J = some (nI x.2.1, I') ∧ I' (B + 54) 4 = nI x.1 ∧ x.1 < 20 ∧ x.2.1 < n) := by
  intro f
  induction f with
  | zero => intro k cnt J R x h; cases h
  | succ f ih =>
    intro k cnt J R x hx hk hc hV hC hI h8 b8 h9 b9 h4
    have h40 := hV.2.2.2.2.1.2.2.2.1
    obtain ⟨k', rfl⟩ : ∃ k', k = k' + 1 := ⟨k - 1, by omega⟩
    have hx' : ob2 (m_ld R.2.2.2.1 n 0) (some (0, 0, R)) (fun p => if (m_work T pc n K gn G p R.2.2).1 = 0 then m_run T pc n K gn G f (m_nx T pc n K gn G p R) else some ((m_work T pc n K gn G p R.2.2).1, p, R)) = some x := hx
    have unf : ∀ (y : Int32), z_X2_run_26 F S (k' + 1) (B + 54) (B + 5 + 6 * i) y (nI cnt) J = z_X2_run_26B F S (z_X2_run_26 F S k') (B + 54) (B + 5 + 6 * i) y (nI cnt) J := fun _ => rfl
    rw [unf]
    unfold z_X2_run_26B
    rw [nlM, if_pos ((nI_ltI (by omega) (by omega)).mpr (show cnt < 1000000 by omega))]
    cases hl : m_ld R.2.2.2.1 n 0 with
    | none =>
      rw [hl] at hx'
      have e : (0, 0, R) = x := Option.some.inj hx'
      subst e
      rw [if_pos (show m_oi none = -1 from rfl)]
      exact ⟨J, fW.rf, fun _ => ⟨rfl, hC, hI, h8, b8, h9, b9, h4⟩, fun g => absurd rfl g⟩
    | some p =>
      rw [hl, ob2_mk rfl] at hx'
      obtain ⟨_, hp2, hp3⟩ := m_ld_some n 0 p hl
      have hp : p < n := by omega
      have hr := (hI p hp).1 hp3
      rw [if_neg (show ¬ m_oi (some p) = -1 from nI_m1 (by omega))]
      obtain ⟨I1, g1, g2, g3⟩ := c_work (F := F) hF hV hp hC hr h8 (by omega) h9 (by omega)
      have g1' : z_X2_workOn F S J (B + 54) (B + 5 + 6 * i) (m_oi (some p)) = some (nI (m_work T pc n K gn G p R.2.2).1, I1) := g1
      rw [ob_mk g1', z_up_at]
      have hlt : (m_work T pc n K gn G p R.2.2).1 < 20 := by
        unfold m_work
        by_cases hz : (m_wg T n gn G p R.2.2).1 = 0
        · rw [if_pos hz]
          by_cases hd : (m_wd T pc n K p (R.2.2.2.2 p)).1 = 0
          · rw [if_pos hd]
            unfold m_on
            have : ∀ (m j : Nat) (r : Nat × mC), r.1 < 20 → (m_tg T n p (m_wd T pc n K p (R.2.2.2.2 p)).2 m j r).1 < 20 := by
              intro m
              induction m with
              | zero => intro j r h; exact h
              | succ m ihm =>
                intro j r h
                simp only [m_tg]
                by_cases h0 : r.1 = 0
                · rw [if_pos h0]; exact ihm _ _ (m_arr_lt _ _ _ _ _ _)
                · rw [if_neg h0]; exact h
            refine this _ _ _ ?_
            by_cases hg : m_goes (K p).1 = true
            · rw [if_pos hg]; exact m_arr_lt _ _ _ _ _ _
            · rw [if_neg hg]; exact (by decide : 0 < 20)
          · rw [if_neg hd]; exact m_do_lt T pc n K _ _ p _
        · rw [if_neg hz]; exact m_grd_lt T n G p _ gn 0 _
      have wI : fW B i n Q J (z_up I1 (B + 54) 4 (nI (m_work T pc n K gn G p R.2.2).1)) := by
        have hi8 := hV.2.1
        refine g3.trans ⟨fun b _ hb _ => z_up_off (by omega), fun j _ _ => z_up_ne (Or.inl (by omega)), fun p' hp' j _ _ => ?_⟩
        have hb := (hV.2.2.2.2.2.1.1 p' hp').1
        exact z_up_ne (Or.inl (by omega))
      by_cases hw : (m_work T pc n K gn G p R.2.2).1 = 0
      · rw [if_pos hw] at hx'
        rw [if_pos (show nI (m_work T pc n K gn G p R.2.2).1 = 0 by rw [hw]; rfl)]
        obtain ⟨d1, d2, d3, d4⟩ := g2 hw
        have hi8 := hV.2.1
        have hV1 := hV.W wI
        have hC1 : cC (z_up I1 (B + 54) 4 (nI (m_work T pc n K gn G p R.2.2).1)) n Q (m_work T pc n K gn G p R.2.2).2 := fun p' hp' => by
          have hb := (hV.2.2.2.2.2.1.1 p' hp').1
          rw [z_up_off (by omega)]
          exact ⟨(d2 p' hp').1, (d2 p' hp').2.1, fun q => ((d2 p' hp').2.2 q).kept (z_up_off (by omega)) (z_up_off (by omega)) (z_up_off (by omega))⟩
        obtain ⟨a1, a2⟩ := m_work_ph hV.2.2.2.1.2.2.2.2.2.1 hp hI hp3 (m_wd_h hI hp hr) hw
        have hh1 := (hI p hp).2 hr
        have hh2 := m_wd_h (T := T) (pc := pc) (K := K) hI hp hr d1
        have w1 := m_wt_le (R.2.2.2.2 p).2.2 (R.2.2.2.2 p).2.1
        have w2 := m_wt_le (m_wd T pc n K p (R.2.2.2.2 p)).2.2.2 (m_wd T pc n K p (R.2.2.2.2 p)).2.2.1
        have w1' : m_w (R.2.2.2.2 p) ≤ 20 := by show m_wt _ _ ≤ 20; omega
        have w2' : m_w (m_wd T pc n K p (R.2.2.2.2 p)).2 ≤ 20 := by show m_wt _ _ ≤ 20; omega
        have u1 := m_up_le (s := (m_wd T pc n K p (R.2.2.2.2 p)).2) (hV.2.2.2.2.2.2.2.1 p hp)
        have ld : z_X5_leastDue F S (z_up I1 (B + 54) 4 (nI (m_work T pc n K gn G p R.2.2).1)) (B + 5 + 6 * i) = some (m_oi (m_ld (m_work T pc n K gn G p R.2.2).2.2.1 n 0)) := c_ld hV1 hC1 F n 0 (by omega) (by omega)
        rw [ob_mk ld, nI_1]
        obtain ⟨I2, v1, v2, v3⟩ := ih k' (cnt + 1) (z_up I1 (B + 54) 4 (nI (m_work T pc n K gn G p R.2.2).1)) (m_nx T pc n K gn G p R) x hx' (by omega) (by omega) hV1 hC1 a2 (by rw [z_up_off (by omega)]; exact d3) (by show max (max _ _) _ ≤ 20; omega) (by rw [z_up_off (by omega)]; exact d4) (by show max _ _ ≤ 20; omega) (by rw [z_up_at, hw]; rfl)
        exact ⟨I2, wI.trans v1, v2, v3⟩
      · rw [if_neg hw] at hx'
        have e : ((m_work T pc n K gn G p R.2.2).1, p, R) = x := Option.some.inj hx'
        subst e
        rw [if_neg (fun q => hw ((nI_eq (by omega) (by omega)).mp (q.trans nl0)))]
        exact ⟨_, wI, fun g => absurd g hw, fun _ => ⟨rfl, by rw [z_up_at], hlt, hp⟩⟩
end CR
