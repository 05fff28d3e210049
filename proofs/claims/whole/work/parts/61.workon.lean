/-! workOn: class side -/
theorem m_grd_lt (T : mTr) (n : Nat) (G : Nat → mGd) (p : Nat) (s : mSn) : ∀ (m j : Nat) (C : mC), (m_grd T n G p s m j C).1 < 20 := by
  intro m
  induction m with
  | zero => intro j C; exact (by decide : 0 < 20)
  | succ m ih =>
    intro j C
    simp only [m_grd]
    split
    · split
      · exact ih _ _
      · exact m_arr_lt _ _ _ _ _ _
    · exact ih _ _
theorem m_load_lt (pc a : Nat) (s : mSn) : (m_load pc a s).1 < 20 := by unfold m_load; split; exact (by decide : 7 < 20); exact m_push_lt _ _
theorem m_store_lt (pc a : Nat) (s : mSn) : (m_store pc a s).1 < 20 := by unfold m_store; split; exact (by decide : 7 < 20); split; exact (by decide : 1 < 20); split; exact (by decide : 7 < 20); exact (by decide : 0 < 20)
theorem m_make_lt (n : Nat) (K : Nat → mAc) (c : Nat) (s : mSn) : (m_make n K c s).1 < 20 := by unfold m_make; split; exact (by decide : 1 < 20); split; exact (by decide : 0 < 20); exact (by decide : 2 < 20)
theorem m_more_lt (pc a : Nat) (s : mSn) : (m_more pc a s).1 < 20 := by unfold m_more; split; exact (by decide : 0 < 20); exact (by decide : 7 < 20)
theorem ite20 {c : Prop} [Decidable c] {x y : Nat × mSn} (h1 : x.1 < 20) (h2 : y.1 < 20) : (if c then x else y).1 < 20 := by
  by_cases h : c
  · rw [if_pos h]; exact h1
  · rw [if_neg h]; exact h2
theorem m_do_lt (T : mTr) (pc n : Nat) (K : Nat → mAc) (k a p : Nat) (s : mSn) : (m_do T pc n K k a p s).1 < 20 := by
  unfold m_do
  exact (ite20 (m_push_lt _ _) (ite20 (m_push_lt _ _) (ite20 (m_push_lt _ _) (ite20 (m_load_lt _ _ _) (ite20 (m_store_lt _ _ _) (ite20 (ite20 (show 1 < 20 by decide) (show 0 < 20 by decide)) (ite20 (ite20 (show 1 < 20 by decide) (m_push_lt _ _)) (ite20 (m_bd_lt (m_take_lt _ _) (fun _ => m_bd_lt (m_take_lt _ _) (fun _ => m_push_lt _ _))) (ite20 (m_bd_lt (m_take_lt _ _) (fun _ => m_bd_lt (m_take_lt _ _) (fun _ => m_push_lt _ _))) (ite20 (m_push_lt _ _) (ite20 (m_make_lt _ _ _ _) (ite20 (m_bd_lt (m_takeO_lt _ _ _) (fun _ => m_push_lt _ _)) (ite20 (m_bd_lt (m_take_lt _ _) (fun _ => m_bd_lt (m_takeO_lt _ _ _) (fun _ => m_push_lt _ _))) (ite20 (m_bd_lt (m_takeO_lt _ _ _) (fun _ => m_push_lt _ _)) (ite20 (m_take_lt _ _) (ite20 (m_takeO_lt _ _ _) (ite20 (m_more_lt _ _ _) (show 0 < 20 by decide))))))))))))))))))
section CY
variable {F : Nat} {S : zS} {I : zI} {B i n pc gn : Nat} {T : mTr} {K : Nat → mAc} {Q : Nat → Nat} {G : Nat → mGd} {C : mC}
theorem cV.toE (hV : cV S I B i T pc n K Q gn G) : cE S I (B + 1) T (B + 5 + 6 * i) pc n K (B + 55) := by
  obtain ⟨h1, h2, h3, h4, h5, h6, h7, h8, h9⟩ := hV
  refine ⟨h4, Or.inl (by omega), h7.1, h7.2, Or.inl (by omega), h5, fun p q hp hq => ?_, h8⟩
  have e : Q p = q := Option.some.inj ((h6.1 p hp).2.1.symm.trans hq)
  have hb := (h6.1 p hp).1
  exact Or.inr (by omega)
theorem c_work (hF : 100 ≤ F) (hV : cV S I B i T pc n K Q gn G) {p : Nat} (hp : p < n) (hC : cC I n Q C) (hr : C.1 p = true) {ms mp : Nat} (h8 : I (B + 5 + 6 * i) 8 = nI ms) (hms : ms < 500) (h9 : I (B + 5 + 6 * i) 9 = nI mp) (hmp : mp < 500) :
    ∃ I', z_X2_workOn F S I (B + 54) (B + 5 + 6 * i) (nI p) = some (nI (m_work T pc n K gn G p C).1, I') ∧ ((m_work T pc n K gn G p C).1 = 0 → (m_wd T pc n K p (C.2.2 p)).1 = 0 ∧ cC I' n Q (m_work T pc n K gn G p C).2 ∧ I' (B + 5 + 6 * i) 8 = nI (max (max ms (m_w (C.2.2 p))) (m_w (m_wd T pc n K p (C.2.2 p)).2)) ∧ I' (B + 5 + 6 * i) 9 = nI (max mp (m_up (K p) (m_wd T pc n K p (C.2.2 p)).2))) ∧ fW B i n Q I I' := by
  have h40 := hV.2.2.2.2.1.2.2.2.1
  have hi8 := hV.2.1
  obtain ⟨e0, e1, e2, e3⟩ := hV.act (F := F) hp
  obtain ⟨q1, q2, q3, q4, q5, q6⟩ := hV.2.2.2.2.2.1.1 p hp
  have hs0 := (hC p hp).2.2 hr
  have hw1 := m_wt_le (C.2.2 p).2.2 (C.2.2 p).2.1
  have hw2 := hs0.2.2.1
  have hw3 : m_w (C.2.2 p) ≤ 2 * (C.2.2 p).2.1 := hw1
  unfold z_X2_workOn
  rw [ob_mk e0, ob2_mk rfl, ob_mk hV.1.2.2.2.1, ob_mk q3]
  -- the act isn't due any more
  have f1 : fq (Q p) I (z_up I (Q p) 4 0) := fq.rf.up (Or.inr rfl)
  have w1 : fW B i n Q I (z_up I (Q p) 4 0) := (fq.toQ hV.2.2.2.2.2.1 hp f1).W hV
  have hC1 : cC (z_up I (Q p) 4 0) n Q (C.1, nup C.2.1 p false, C.2.2) := by
    have := cC.set hV.2.2.2.2.2.1 hp hC f1 (r := true) (d := false) (s := C.2.2 p) (by rw [z_up_ne (Or.inr (by omega)), (hC p hp).1, hr]) (by rw [z_up_at]; rfl) (fun _ => hs0.kept (z_up_off (by omega)) (z_up_off (by omega)) (z_up_off (by omega)))
    have a1 : nup C.1 p true = C.1 := by
      funext y
      by_cases hy : y = p
      · subst hy; rw [nup_at, hr]
      · rw [nup_ne hy]
    have a2 : nup C.2.2 p (C.2.2 p) = C.2.2 := by
      funext y
      by_cases hy : y = p
      · subst hy; rw [nup_at]
      · rw [nup_ne hy]
    rw [a1, a2] at this
    exact this
  have hs1 : cSn (z_up I (Q p) 4 0) (Q p + 1) (C.2.2 p) := hs0.kept (z_up_off (by omega)) (z_up_off (by omega)) (z_up_off (by omega))
  obtain ⟨I2, g1, g2, g3⟩ := s_become (F := F) (a := B + 55) hV.1.2.2.2.2.2.1 q5 hs1 (by omega)
  rw [ob_mk g1]
  have w2 : fW B i n Q I I2 := w1.trans (fr.W hV g3 (by omega) (by omega))
  have m8 : I2 (B + 5 + 6 * i) 8 = nI ms := by rw [g3 (B + 5 + 6 * i) (by omega), z_up_off (by omega)]; exact h8
  have m9 : I2 (B + 5 + 6 * i) 9 = nI mp := by rw [g3 (B + 5 + 6 * i) (by omega), z_up_off (by omega)]; exact h9
  have hC2 := cC.frK hV hC1 g3 (by omega)
  rw [ob_mk (x_noteS (by omega) hV.1.2.2.2.2.2.1 g2 m8 (by omega))]
  generalize hI3 : z_up I2 (B + 5 + 6 * i) 8 (nI (max ms (m_w (C.2.2 p)))) = I3
  have w3 : fW B i n Q I I3 := by rw [← hI3]; exact cV.upK hV w2 (Or.inl rfl)
  have hC3 : cC I3 n Q (C.1, nup C.2.1 p false, C.2.2) := by rw [← hI3]; exact cC.upK hV hC2
  have hs3 : cSn I3 (B + 55) (C.2.2 p) := by rw [← hI3]; exact g2.kept (z_up_off (by omega)) (z_up_off (by omega)) (z_up_off (by omega))
  have n8 : I3 (B + 5 + 6 * i) 8 = nI (max ms (m_w (C.2.2 p))) := by rw [← hI3, z_up_at]
  have n9 : I3 (B + 5 + 6 * i) 9 = nI mp := by rw [← hI3, z_up_ne (Or.inr (by omega))]; exact m9
  have hV3 := hV.W w3
  have hg4 := hV.2.2.2.2.2.2.2.2.2.1
  obtain ⟨I4, d1, d2, d3⟩ := c_grd (F := F) (s := C.2.2 p) (by omega) (show p < 40 by omega) F gn 0 I3 (C.1, nup C.2.1 p false, C.2.2) (by omega) (by omega) hV3 hs3 hC3
  have d1' : z_X2_sendToGuards F S I3 (B + 54) (B + 5 + 6 * i) (nI p) = some (nI (m_wg T n gn G p C).1, I4) := d1
  have d2' : (m_wg T n gn G p C).1 = 0 → cC I4 n Q (m_wg T n gn G p C).2 := d2
  have hl1 : (m_wg T n gn G p C).1 < 20 := m_grd_lt T n G p (C.2.2 p) gn 0 _
  have w4 : fW B i n Q I I4 := w3.trans (d3.toW hV)
  rw [ob_mk d1']
  have hMq : ∀ p', p' < n → B + 5 + 6 * i < Q p' ∨ Q p' + 4 ≤ B + 5 + 6 * i := fun p' hp' => by have := (hV.2.2.2.2.2.1.1 p' hp').1; omega
  unfold m_work
  by_cases hz : (m_wg T n gn G p C).1 = 0
  · rw [if_pos (show nI (m_wg T n gn G p C).1 = 0 by rw [hz]; rfl), if_pos hz, ob_mk hV.1.2.2.1]
    have hs4 := cSn.keepG hV hs3 d3
    have hV4 := hV.W w4
    obtain ⟨I5, k1, k2, k3⟩ := x_do (F := F) (w := B + 53) (by omega) hV.1.1 hV4.toE hV.1.2.2.2.2.2.1 hs4 hp q2
    have k1' : z_X7_perform F S I4 (B + 53) (B + 5 + 6 * i) (nI p) (Q p) (B + 55) = some (nI (m_wd T pc n K p (C.2.2 p)).1, I5) := k1
    have k2' : (m_wd T pc n K p (C.2.2 p)).1 = 0 → cSn I5 (B + 55) (m_wd T pc n K p (C.2.2 p)).2 := k2
    have hl2 : (m_wd T pc n K p (C.2.2 p)).1 < 20 := m_do_lt T pc n K _ _ p _
    have w5 : fW B i n Q I I5 := w4.trans (fr.W hV k3 (by omega) (by omega))
    rw [ob_mk k1']
    unfold z_X2_workOn_65
    by_cases hd : (m_wd T pc n K p (C.2.2 p)).1 = 0
    · rw [if_pos (show nI (m_wd T pc n K p (C.2.2 p)).1 = 0 by rw [hd]; rfl), if_pos hd, ob_mk hV.1.2.2.2.1]
      have hs5 := k2' hd
      have hC5 := cC.frK hV (d2' hz) k3 (by omega)
      have p8 : I5 (B + 5 + 6 * i) 8 = nI (max ms (m_w (C.2.2 p))) := by rw [k3 (B + 5 + 6 * i) (by omega), d3.1 (B + 5 + 6 * i) (by omega) hMq]; exact n8
      have p9 : I5 (B + 5 + 6 * i) 9 = nI mp := by rw [k3 (B + 5 + 6 * i) (by omega), d3.1 (B + 5 + 6 * i) (by omega) hMq]; exact n9
      rw [ob_mk (x_noteS (by omega) hV.1.2.2.2.2.2.1 hs5 p8 (by omega))]
      generalize hI6 : z_up I5 (B + 5 + 6 * i) 8 (nI (max (max ms (m_w (C.2.2 p))) (m_w (m_wd T pc n K p (C.2.2 p)).2))) = I6
      have w6 : fW B i n Q I I6 := by rw [← hI6]; exact cV.upK hV w5 (Or.inl rfl)
      have hC6 : cC I6 n Q (m_wg T n gn G p C).2 := by rw [← hI6]; exact cC.upK hV hC5
      have hs6 : cSn I6 (B + 55) (m_wd T pc n K p (C.2.2 p)).2 := by rw [← hI6]; exact hs5.kept (z_up_off (by omega)) (z_up_off (by omega)) (z_up_off (by omega))
      have r8 : I6 (B + 5 + 6 * i) 8 = nI (max (max ms (m_w (C.2.2 p))) (m_w (m_wd T pc n K p (C.2.2 p)).2)) := by rw [← hI6, z_up_at]
      have r9 : I6 (B + 5 + 6 * i) 9 = nI mp := by rw [← hI6, z_up_ne (Or.inr (by omega))]; exact p9
      obtain ⟨I7, t1, t2, t3⟩ := x_noteP (F := F) (hV.W w6) hp hV.1.2.2.2.2.2.1 hs6 r9 (by omega)
      rw [ob_mk t1]
      have x8 : I7 (B + 5 + 6 * i) 8 = nI (max (max ms (m_w (C.2.2 p))) (m_w (m_wd T pc n K p (C.2.2 p)).2)) := by
        rcases t3 with h | ⟨x, h⟩
        · rw [h]; exact r8
        · rw [h, z_up_ne (Or.inr (by omega))]; exact r8
      have w7 : fW B i n Q I I7 := by
        rcases t3 with h | ⟨x, h⟩
        · rw [h]; exact w6
        · rw [h]; exact cV.upK hV w6 (Or.inr rfl)
      have hC7 : cC I7 n Q (m_wg T n gn G p C).2 := by
        rcases t3 with h | ⟨x, h⟩
        · rw [h]; exact hC6
        · rw [h]; exact cC.upK hV hC6
      have hs7 : cSn I7 (B + 55) (m_wd T pc n K p (C.2.2 p)).2 := by
        rcases t3 with h | ⟨x, h⟩
        · rw [h]; exact hs6
        · rw [h]; exact hs6.kept (z_up_off (by omega)) (z_up_off (by omega)) (z_up_off (by omega))
      obtain ⟨I8, u1, u2, u3⟩ := c_on (F := F) hF (hV.W w7) hp hs7 hC7
      rw [ob_mk u1]
      refine ⟨I8, rfl, fun hh => ⟨hd, u2 hh, ?_, ?_⟩, w7.trans (u3.W hV)⟩
      · rw [u3.1 (B + 5 + 6 * i) hMq]; exact x8
      · rw [u3.1 (B + 5 + 6 * i) hMq]; exact t2
    · rw [if_neg (fun e => hd ((nI_eq (by omega) (by omega)).mp (e.trans nl0))), if_neg hd]
      exact ⟨I5, rfl, fun e => absurd e hd, w5⟩
  · rw [if_neg (fun e => hz ((nI_eq (by omega) (by omega)).mp (e.trans nl0))), if_neg hz]
    unfold z_X2_workOn_65
    rw [if_neg (fun e => hz ((nI_eq (by omega) (by omega)).mp (e.trans nl0)))]
    exact ⟨I4, rfl, fun e => absurd e hz, w4⟩
end CY
