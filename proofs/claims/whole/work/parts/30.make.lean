theorem zy_X6_init : z_y yX6_init cX6_init 1 none 0 := ⟨kw_55, kw_4, by decide +kernel, by decide +kernel, by decide +kernel⟩
def z_X6_init (F : Nat) (S : zS) (I : zI) (x0 : Nat) : Option (zS × zI) :=
  zlet (z_new S 10 8) (fun S1 => zlet (z_newI S I) (fun J2 => zlet (z_upR S1 x0 0 (some (S.2.2))) (fun S4 => zlet (z_new S4 10 10) (fun S5 => zlet (z_newI S4 J2) (fun J6 => zlet (z_upR S5 x0 1 (some (S4.2.2))) (fun S8 => zlet (z_up J6 x0 2 0) (fun J9 => some (S8, J9))))))))
set_option maxRecDepth 100000 in
set_option maxHeartbeats 4000000 in
theorem c_X6_init {l : Launch} {D : zD} {b0 : Nat} {S : zS} {I : zI} {X : zS × zI} (F : Nat) (x0 : Nat) (h_x0 : z_is b0 S x0 6) (hz : z_X6_init F S I x0 = some X) : z_M l D b0 yX6_init cX6_init 1 none { frames := 1, cells := 2, slots := 18, locals := 40 } [.ref (x0)] S I none X.1 X.2 := by
  refine z_met (by decide) (Nat.le_of_ble_eq_true rfl) ?_
  intro p e s m below meth c hC hnm hT ls hl
  have hl : lv_has ls 1 [(0, .ref (x0))] := hl
  unfold z_X6_init at hz
  obtain ⟨S0, e_S0⟩ : ∃ z : zS, z = S := ⟨S, rfl⟩
  have hE : z_Ext S0 S := by rw [e_S0]; exact z_Ext.rf S
  refine z_aload_n hC dX6_init_0 rfl (lv_at hl 0 rfl) ?_
  refine z_objInit hC kw_56 kw_19 kw_20 dX6_init_1 hl.1 (by decide) (Nat.le_of_ble_eq_true rfl) ?_
  refine z_aload_n hC dX6_init_4 rfl (lv_at hl 0 rfl) ?_
  refine z_bipush (v := 8) hC dX6_init_5 (by decide) ?_
  refine z_newI10 (N := 8) hC kw_38 dX6_init_7 (by decide) (by decide) (by decide) (by decide) (by decide) ?_
  obtain ⟨S1, e_S1, hz⟩ := zlet_some hz
  rw [← e_S1]
  obtain ⟨J2, e_J2, hz⟩ := zlet_some hz
  rw [← e_J2]
  have hb9 : b0 ≤ S.2.2 := Nat.le_of_lt (Nat.lt_of_le_of_lt h_x0.1 h_x0.2.1)
  have h_x0 : z_is b0 S1 (x0) 6 := by rw [e_S1]; exact h_x0.new
  have hn3 : z_is b0 S1 S.2.2 10 := by rw [e_S1]; exact z_is.fresh hb9 10 8
  have hT : z_T b0 S1 := by rw [e_S1]; exact hT.new _ _
  have hE : z_Ext S0 S1 := by rw [e_S1]; exact hE.new _ _
  have hT9 := hT.upR (x := S.2.2) (k := 0) h_x0 hn3
  have hE9 := hE.upR (a := x0) (k := 0) (x := some (S.2.2))
  refine z_putR hC zc_6 0 (by decide) kw_57 dX6_init_9 h_x0 rfl rfl hnm rfl rfl rfl ?_
  obtain ⟨S4, e_S4, hz⟩ := zlet_some hz
  rw [← e_S4]
  have hT : z_T b0 S4 := by rw [e_S4]; exact hT9
  have hE : z_Ext S0 S4 := by rw [e_S4]; exact hE9
  have h_x0 : z_is b0 S4 (x0) 6 := by rw [e_S4]; exact h_x0.upR
  have hn3 : z_is b0 S4 (S.2.2) 10 := by rw [e_S4]; exact hn3.upR
  refine z_aload_n hC dX6_init_12 rfl (lv_at hl 0 rfl) ?_
  refine z_bipush (v := 10) hC dX6_init_13 (by decide) ?_
  refine z_newI10 (N := 10) hC kw_38 dX6_init_15 (by decide) (by decide) (by decide) (by decide) (by decide) ?_
  obtain ⟨S5, e_S5, hz⟩ := zlet_some hz
  rw [← e_S5]
  obtain ⟨J6, e_J6, hz⟩ := zlet_some hz
  rw [← e_J6]
  have hb9 : b0 ≤ S4.2.2 := Nat.le_of_lt (Nat.lt_of_le_of_lt h_x0.1 h_x0.2.1)
  have h_x0 : z_is b0 S5 (x0) 6 := by rw [e_S5]; exact h_x0.new
  have hn3 : z_is b0 S5 (S.2.2) 10 := by rw [e_S5]; exact hn3.new
  have hn7 : z_is b0 S5 S4.2.2 10 := by rw [e_S5]; exact z_is.fresh hb9 10 10
  have hT : z_T b0 S5 := by rw [e_S5]; exact hT.new _ _
  have hE : z_Ext S0 S5 := by rw [e_S5]; exact hE.new _ _
  have hT9 := hT.upR (x := S4.2.2) (k := 1) h_x0 hn7
  have hE9 := hE.upR (a := x0) (k := 1) (x := some (S4.2.2))
  refine z_putR hC zc_6 1 (by decide) kw_58 dX6_init_17 h_x0 rfl rfl hnm rfl rfl rfl ?_
  obtain ⟨S8, e_S8, hz⟩ := zlet_some hz
  rw [← e_S8]
  have hT : z_T b0 S8 := by rw [e_S8]; exact hT9
  have hE : z_Ext S0 S8 := by rw [e_S8]; exact hE9
  have h_x0 : z_is b0 S8 (x0) 6 := by rw [e_S8]; exact h_x0.upR
  have hn3 : z_is b0 S8 (S.2.2) 10 := by rw [e_S8]; exact hn3.upR
  have hn7 : z_is b0 S8 (S4.2.2) 10 := by rw [e_S8]; exact hn7.upR
  refine z_aload_n hC dX6_init_20 rfl (lv_at hl 0 rfl) ?_
  refine z_iconst (v := 0) hC dX6_init_21 (by decide) ?_
  refine z_putI hC zc_6 2 (by decide) kw_59 dX6_init_22 h_x0 rfl rfl rfl rfl ?_
  obtain ⟨J9, e_J9, hz⟩ := zlet_some hz
  rw [← e_J9]
  obtain rfl := Option.some.inj hz
  exact z_vret hC hT dX6_init_25 (by decide) (by decide)
set_option maxRecDepth 100000 in
set_option maxHeartbeats 4000000 in
theorem xt_X6_init {b0 : Nat} {S : zS} {I : zI} {F : Nat} {X : zS × zI} {x0 : Nat} (hT : z_T b0 S) (h_x0 : z_is b0 S x0 6) (hz : z_X6_init F S I x0 = some X) : z_T b0 (X.1) ∧ z_Ext S (X.1) := by
  unfold z_X6_init at hz
  have hE : z_Ext S S := z_Ext.rf S
  obtain ⟨S1, e_S1, hz⟩ := zlet_some hz
  obtain ⟨J2, e_J2, hz⟩ := zlet_some hz
  have hb9 : b0 ≤ S.2.2 := Nat.le_of_lt (Nat.lt_of_le_of_lt h_x0.1 h_x0.2.1)
  have h_x0 : z_is b0 S1 (x0) 6 := by rw [e_S1]; exact h_x0.new
  have hn3 : z_is b0 S1 S.2.2 10 := by rw [e_S1]; exact z_is.fresh hb9 10 8
  have hT : z_T b0 S1 := by rw [e_S1]; exact hT.new _ _
  have hE : z_Ext S S1 := by rw [e_S1]; exact hE.new _ _
  have hT9 := hT.upR (x := S.2.2) (k := 0) h_x0 hn3
  have hE9 := hE.upR (a := x0) (k := 0) (x := some (S.2.2))
  obtain ⟨S4, e_S4, hz⟩ := zlet_some hz
  have hT : z_T b0 S4 := by rw [e_S4]; exact hT9
  have hE : z_Ext S S4 := by rw [e_S4]; exact hE9
  have h_x0 : z_is b0 S4 (x0) 6 := by rw [e_S4]; exact h_x0.upR
  have hn3 : z_is b0 S4 (S.2.2) 10 := by rw [e_S4]; exact hn3.upR
  obtain ⟨S5, e_S5, hz⟩ := zlet_some hz
  obtain ⟨J6, e_J6, hz⟩ := zlet_some hz
  have hb9 : b0 ≤ S4.2.2 := Nat.le_of_lt (Nat.lt_of_le_of_lt h_x0.1 h_x0.2.1)
  have h_x0 : z_is b0 S5 (x0) 6 := by rw [e_S5]; exact h_x0.new
  have hn3 : z_is b0 S5 (S.2.2) 10 := by rw [e_S5]; exact hn3.new
  have hn7 : z_is b0 S5 S4.2.2 10 := by rw [e_S5]; exact z_is.fresh hb9 10 10
  have hT : z_T b0 S5 := by rw [e_S5]; exact hT.new _ _
  have hE : z_Ext S S5 := by rw [e_S5]; exact hE.new _ _
  have hT9 := hT.upR (x := S4.2.2) (k := 1) h_x0 hn7
  have hE9 := hE.upR (a := x0) (k := 1) (x := some (S4.2.2))
  obtain ⟨S8, e_S8, hz⟩ := zlet_some hz
  have hT : z_T b0 S8 := by rw [e_S8]; exact hT9
  have hE : z_Ext S S8 := by rw [e_S8]; exact hE9
  have h_x0 : z_is b0 S8 (x0) 6 := by rw [e_S8]; exact h_x0.upR
  have hn3 : z_is b0 S8 (S.2.2) 10 := by rw [e_S8]; exact hn3.upR
  have hn7 : z_is b0 S8 (S4.2.2) 10 := by rw [e_S8]; exact hn7.upR
  obtain ⟨J9, e_J9, hz⟩ := zlet_some hz
  obtain rfl := Option.some.inj hz
  exact ⟨hT, hE⟩
theorem zy_X0_init : z_y yX0_init cX0_init 1 none 0 := ⟨kw_290, kw_9, by decide +kernel, by decide +kernel, by decide +kernel⟩
def z_X0_init (F : Nat) (S : zS) (I : zI) (x0 : Nat) : Option (zS × zI) :=
  zlet (z_new S 6 0) (fun S1 => zlet (z_newI S I) (fun J2 => ob (z_X6_init F S1 J2 (S.2.2)) (fun q4 => zlet (z_upR q4.1 x0 6 (some (S.2.2))) (fun S5 => zlet (z_new S5 6 0) (fun S6 => zlet (z_newI S5 (q4.2)) (fun J7 => ob (z_X6_init F S6 J7 (S5.2.2)) (fun q9 => zlet (z_upR q9.1 x0 7 (some (S5.2.2))) (fun S10 => some (S10, q9.2)))))))))
set_option maxRecDepth 100000 in
set_option maxHeartbeats 4000000 in
theorem c_X0_init {l : Launch} {D : zD} {b0 : Nat} {S : zS} {I : zI} {X : zS × zI} (F : Nat) (x0 : Nat) (h_x0 : z_is b0 S x0 0) (hz : z_X0_init F S I x0 = some X) : z_M l D b0 yX0_init cX0_init 1 none { frames := 2, cells := 6, slots := 42, locals := 60 } [.ref (x0)] S I none X.1 X.2 := by
  refine z_met (by decide) (Nat.le_of_ble_eq_true rfl) ?_
  intro p e s m below meth c hC hnm hT ls hl
  have hl : lv_has ls 1 [(0, .ref (x0))] := hl
  unfold z_X0_init at hz
  obtain ⟨S0, e_S0⟩ : ∃ z : zS, z = S := ⟨S, rfl⟩
  have hE : z_Ext S0 S := by rw [e_S0]; exact z_Ext.rf S
  refine z_aload_n hC dX0_init_0 rfl (lv_at hl 0 rfl) ?_
  refine z_objInit hC kw_291 kw_19 kw_20 dX0_init_1 hl.1 (by decide) (Nat.le_of_ble_eq_true rfl) ?_
  refine z_aload_n hC dX0_init_4 rfl (lv_at hl 0 rfl) ?_
  refine z_newc hC zc_6 kw_292 kw_52 kw_4 dX0_init_5 zdv_6 (by decide) (by decide) ?_
  obtain ⟨S1, e_S1, hz⟩ := zlet_some hz
  rw [← e_S1]
  obtain ⟨J2, e_J2, hz⟩ := zlet_some hz
  rw [← e_J2]
  have hb9 : b0 ≤ S.2.2 := Nat.le_of_lt (Nat.lt_of_le_of_lt h_x0.1 h_x0.2.1)
  have h_x0 : z_is b0 S1 (x0) 0 := by rw [e_S1]; exact h_x0.new
  have hn3 : z_is b0 S1 S.2.2 6 := by rw [e_S1]; exact z_is.fresh hb9 6 0
  have hT : z_T b0 S1 := by rw [e_S1]; exact hT.new _ _
  have hE : z_Ext S0 S1 := by rw [e_S1]; exact hE.new _ _
  refine z_dup hC dX0_init_8 rfl ?_
  obtain ⟨q4, hq_q4, hz⟩ := ob_some hz
  refine z_callIN (As := []) hC hT (c_X6_init F (S.2.2) hn3 hq_q4) zy_X6_init rfl kw_54 kn_5 dX0_init_9 rfl rfl hl.1 (Nat.le_of_ble_eq_true rfl) (by decide) (by decide) ?_
  have hx_q4 := xt_X6_init hT hn3 hq_q4
  have hT : z_T b0 q4.1 := hx_q4.1
  have hE : z_Ext S0 q4.1 := hE.trans hx_q4.2
  have h_x0 : z_is b0 q4.1 (x0) 0 := hx_q4.2.is h_x0
  have hn3 : z_is b0 q4.1 (S.2.2) 6 := hx_q4.2.is hn3
  have hT9 := hT.upR (x := S.2.2) (k := 6) h_x0 hn3
  have hE9 := hE.upR (a := x0) (k := 6) (x := some (S.2.2))
  refine z_putR hC zc_0 6 (by decide) kw_311 dX0_init_12 h_x0 rfl rfl hnm rfl rfl rfl ?_
  obtain ⟨S5, e_S5, hz⟩ := zlet_some hz
  rw [← e_S5]
  have hT : z_T b0 S5 := by rw [e_S5]; exact hT9
  have hE : z_Ext S0 S5 := by rw [e_S5]; exact hE9
  have h_x0 : z_is b0 S5 (x0) 0 := by rw [e_S5]; exact h_x0.upR
  have hn3 : z_is b0 S5 (S.2.2) 6 := by rw [e_S5]; exact hn3.upR
  refine z_aload_n hC dX0_init_15 rfl (lv_at hl 0 rfl) ?_
  refine z_newc hC zc_6 kw_292 kw_52 kw_4 dX0_init_16 zdv_6 (by decide) (by decide) ?_
  obtain ⟨S6, e_S6, hz⟩ := zlet_some hz
  rw [← e_S6]
  obtain ⟨J7, e_J7, hz⟩ := zlet_some hz
  rw [← e_J7]
  have hb9 : b0 ≤ S5.2.2 := Nat.le_of_lt (Nat.lt_of_le_of_lt h_x0.1 h_x0.2.1)
  have h_x0 : z_is b0 S6 (x0) 0 := by rw [e_S6]; exact h_x0.new
  have hn3 : z_is b0 S6 (S.2.2) 6 := by rw [e_S6]; exact hn3.new
  have hn8 : z_is b0 S6 S5.2.2 6 := by rw [e_S6]; exact z_is.fresh hb9 6 0
  have hT : z_T b0 S6 := by rw [e_S6]; exact hT.new _ _
  have hE : z_Ext S0 S6 := by rw [e_S6]; exact hE.new _ _
  refine z_dup hC dX0_init_19 rfl ?_
  obtain ⟨q9, hq_q9, hz⟩ := ob_some hz
  refine z_callIN (As := []) hC hT (c_X6_init F (S5.2.2) hn8 hq_q9) zy_X6_init rfl kw_54 kn_5 dX0_init_20 rfl rfl hl.1 (Nat.le_of_ble_eq_true rfl) (by decide) (by decide) ?_
  have hx_q9 := xt_X6_init hT hn8 hq_q9
  have hT : z_T b0 q9.1 := hx_q9.1
  have hE : z_Ext S0 q9.1 := hE.trans hx_q9.2
  have h_x0 : z_is b0 q9.1 (x0) 0 := hx_q9.2.is h_x0
  have hn3 : z_is b0 q9.1 (S.2.2) 6 := hx_q9.2.is hn3
  have hn8 : z_is b0 q9.1 (S5.2.2) 6 := hx_q9.2.is hn8
  have hT9 := hT.upR (x := S5.2.2) (k := 7) h_x0 hn8
  have hE9 := hE.upR (a := x0) (k := 7) (x := some (S5.2.2))
  refine z_putR hC zc_0 7 (by decide) kw_315 dX0_init_23 h_x0 rfl rfl hnm rfl rfl rfl ?_
  obtain ⟨S10, e_S10, hz⟩ := zlet_some hz
  rw [← e_S10]
  have hT : z_T b0 S10 := by rw [e_S10]; exact hT9
  have hE : z_Ext S0 S10 := by rw [e_S10]; exact hE9
  have h_x0 : z_is b0 S10 (x0) 0 := by rw [e_S10]; exact h_x0.upR
  have hn3 : z_is b0 S10 (S.2.2) 6 := by rw [e_S10]; exact hn3.upR
  have hn8 : z_is b0 S10 (S5.2.2) 6 := by rw [e_S10]; exact hn8.upR
  obtain rfl := Option.some.inj hz
  exact z_vret hC hT dX0_init_26 (by decide) (by decide)
set_option maxRecDepth 100000 in
set_option maxHeartbeats 4000000 in
theorem xt_X0_init {b0 : Nat} {S : zS} {I : zI} {F : Nat} {X : zS × zI} {x0 : Nat} (hT : z_T b0 S) (h_x0 : z_is b0 S x0 0) (hz : z_X0_init F S I x0 = some X) : z_T b0 (X.1) ∧ z_Ext S (X.1) := by
  unfold z_X0_init at hz
  have hE : z_Ext S S := z_Ext.rf S
  obtain ⟨S1, e_S1, hz⟩ := zlet_some hz
  obtain ⟨J2, e_J2, hz⟩ := zlet_some hz
  have hb9 : b0 ≤ S.2.2 := Nat.le_of_lt (Nat.lt_of_le_of_lt h_x0.1 h_x0.2.1)
  have h_x0 : z_is b0 S1 (x0) 0 := by rw [e_S1]; exact h_x0.new
  have hn3 : z_is b0 S1 S.2.2 6 := by rw [e_S1]; exact z_is.fresh hb9 6 0
  have hT : z_T b0 S1 := by rw [e_S1]; exact hT.new _ _
  have hE : z_Ext S S1 := by rw [e_S1]; exact hE.new _ _
  obtain ⟨q4, hq_q4, hz⟩ := ob_some hz
  have hx_q4 := xt_X6_init hT hn3 hq_q4
  have hT : z_T b0 q4.1 := hx_q4.1
  have hE : z_Ext S q4.1 := hE.trans hx_q4.2
  have h_x0 : z_is b0 q4.1 (x0) 0 := hx_q4.2.is h_x0
  have hn3 : z_is b0 q4.1 (S.2.2) 6 := hx_q4.2.is hn3
  have hT9 := hT.upR (x := S.2.2) (k := 6) h_x0 hn3
  have hE9 := hE.upR (a := x0) (k := 6) (x := some (S.2.2))
  obtain ⟨S5, e_S5, hz⟩ := zlet_some hz
  have hT : z_T b0 S5 := by rw [e_S5]; exact hT9
  have hE : z_Ext S S5 := by rw [e_S5]; exact hE9
  have h_x0 : z_is b0 S5 (x0) 0 := by rw [e_S5]; exact h_x0.upR
  have hn3 : z_is b0 S5 (S.2.2) 6 := by rw [e_S5]; exact hn3.upR
  obtain ⟨S6, e_S6, hz⟩ := zlet_some hz
  obtain ⟨J7, e_J7, hz⟩ := zlet_some hz
  have hb9 : b0 ≤ S5.2.2 := Nat.le_of_lt (Nat.lt_of_le_of_lt h_x0.1 h_x0.2.1)
  have h_x0 : z_is b0 S6 (x0) 0 := by rw [e_S6]; exact h_x0.new
  have hn3 : z_is b0 S6 (S.2.2) 6 := by rw [e_S6]; exact hn3.new
  have hn8 : z_is b0 S6 S5.2.2 6 := by rw [e_S6]; exact z_is.fresh hb9 6 0
  have hT : z_T b0 S6 := by rw [e_S6]; exact hT.new _ _
  have hE : z_Ext S S6 := by rw [e_S6]; exact hE.new _ _
  obtain ⟨q9, hq_q9, hz⟩ := ob_some hz
  have hx_q9 := xt_X6_init hT hn8 hq_q9
  have hT : z_T b0 q9.1 := hx_q9.1
  have hE : z_Ext S q9.1 := hE.trans hx_q9.2
  have h_x0 : z_is b0 q9.1 (x0) 0 := hx_q9.2.is h_x0
  have hn3 : z_is b0 q9.1 (S.2.2) 6 := hx_q9.2.is hn3
  have hn8 : z_is b0 q9.1 (S5.2.2) 6 := hx_q9.2.is hn8
  have hT9 := hT.upR (x := S5.2.2) (k := 7) h_x0 hn8
  have hE9 := hE.upR (a := x0) (k := 7) (x := some (S5.2.2))
  obtain ⟨S10, e_S10, hz⟩ := zlet_some hz
  have hT : z_T b0 S10 := by rw [e_S10]; exact hT9
  have hE : z_Ext S S10 := by rw [e_S10]; exact hE9
  have h_x0 : z_is b0 S10 (x0) 0 := by rw [e_S10]; exact h_x0.upR
  have hn3 : z_is b0 S10 (S.2.2) 6 := by rw [e_S10]; exact hn3.upR
  have hn8 : z_is b0 S10 (S5.2.2) 6 := by rw [e_S10]; exact hn8.upR
  obtain rfl := Option.some.inj hz
  exact ⟨hT, hE⟩
theorem zy_X1_init : z_y yX1_init cX1_init 1 none 0 := ⟨kw_25, kw_2, by decide +kernel, by decide +kernel, by decide +kernel⟩
def z_X1_init (F : Nat) (S : zS) (I : zI) (x0 : Nat) : Option (zS × zI) :=
  zlet (z_new S 10 16) (fun S1 => zlet (z_newI S I) (fun J2 => zlet (z_upR S1 x0 0 (some (S.2.2))) (fun S4 => zlet (z_new S4 11 16) (fun S5 => zlet (z_newI S4 J2) (fun J6 => zlet (z_upR S5 x0 1 (some (S4.2.2))) (fun S8 => zlet (z_up J6 x0 2 0) (fun J9 => ob (S8.1 x0 0) (fun r10 => if (0 : Int32) < 0 ∨ (S8.2.1 r10).2 ≤ (0 : Int32).toNatClampNeg then none else (zlet (z_up J9 r10 (0 : Int32).toNatClampNeg 1) (fun J12 => zlet (z_up J12 x0 2 1) (fun J13 => some (S8, J13))))))))))))
set_option maxRecDepth 100000 in
set_option maxHeartbeats 4000000 in
theorem c_X1_init {l : Launch} {D : zD} {b0 : Nat} {S : zS} {I : zI} {X : zS × zI} (F : Nat) (x0 : Nat) (h_x0 : z_is b0 S x0 1) (hz : z_X1_init F S I x0 = some X) : z_M l D b0 yX1_init cX1_init 1 none { frames := 1, cells := 2, slots := 32, locals := 40 } [.ref (x0)] S I none X.1 X.2 := by
  refine z_met (by decide) (Nat.le_of_ble_eq_true rfl) ?_
  intro p e s m below meth c hC hnm hT ls hl
  have hl : lv_has ls 1 [(0, .ref (x0))] := hl
  unfold z_X1_init at hz
  obtain ⟨S0, e_S0⟩ : ∃ z : zS, z = S := ⟨S, rfl⟩
  have hE : z_Ext S0 S := by rw [e_S0]; exact z_Ext.rf S
  refine z_aload_n hC dX1_init_0 rfl (lv_at hl 0 rfl) ?_
  refine z_objInit hC kw_26 kw_19 kw_20 dX1_init_1 hl.1 (by decide) (Nat.le_of_ble_eq_true rfl) ?_
  refine z_aload_n hC dX1_init_4 rfl (lv_at hl 0 rfl) ?_
  refine z_bipush (v := 16) hC dX1_init_5 (by decide) ?_
  refine z_newI10 (N := 16) hC kw_38 dX1_init_7 (by decide) (by decide) (by decide) (by decide) (by decide) ?_
  obtain ⟨S1, e_S1, hz⟩ := zlet_some hz
  rw [← e_S1]
  obtain ⟨J2, e_J2, hz⟩ := zlet_some hz
  rw [← e_J2]
  have hb9 : b0 ≤ S.2.2 := Nat.le_of_lt (Nat.lt_of_le_of_lt h_x0.1 h_x0.2.1)
  have h_x0 : z_is b0 S1 (x0) 1 := by rw [e_S1]; exact h_x0.new
  have hn3 : z_is b0 S1 S.2.2 10 := by rw [e_S1]; exact z_is.fresh hb9 10 16
  have hT : z_T b0 S1 := by rw [e_S1]; exact hT.new _ _
  have hE : z_Ext S0 S1 := by rw [e_S1]; exact hE.new _ _
  have hT9 := hT.upR (x := S.2.2) (k := 0) h_x0 hn3
  have hE9 := hE.upR (a := x0) (k := 0) (x := some (S.2.2))
  refine z_putR hC zc_1 0 (by decide) kw_27 dX1_init_9 h_x0 rfl rfl hnm rfl rfl rfl ?_
  obtain ⟨S4, e_S4, hz⟩ := zlet_some hz
  rw [← e_S4]
  have hT : z_T b0 S4 := by rw [e_S4]; exact hT9
  have hE : z_Ext S0 S4 := by rw [e_S4]; exact hE9
  have h_x0 : z_is b0 S4 (x0) 1 := by rw [e_S4]; exact h_x0.upR
  have hn3 : z_is b0 S4 (S.2.2) 10 := by rw [e_S4]; exact hn3.upR
  refine z_aload_n hC dX1_init_12 rfl (lv_at hl 0 rfl) ?_
  refine z_bipush (v := 16) hC dX1_init_13 (by decide) ?_
  refine z_newI11 (N := 16) hC kw_39 dX1_init_15 (by decide) (by decide) (by decide) (by decide) (by decide) ?_
  obtain ⟨S5, e_S5, hz⟩ := zlet_some hz
  rw [← e_S5]
  obtain ⟨J6, e_J6, hz⟩ := zlet_some hz
  rw [← e_J6]
  have hb9 : b0 ≤ S4.2.2 := Nat.le_of_lt (Nat.lt_of_le_of_lt h_x0.1 h_x0.2.1)
  have h_x0 : z_is b0 S5 (x0) 1 := by rw [e_S5]; exact h_x0.new
  have hn3 : z_is b0 S5 (S.2.2) 10 := by rw [e_S5]; exact hn3.new
  have hn7 : z_is b0 S5 S4.2.2 11 := by rw [e_S5]; exact z_is.fresh hb9 11 16
  have hT : z_T b0 S5 := by rw [e_S5]; exact hT.new _ _
  have hE : z_Ext S0 S5 := by rw [e_S5]; exact hE.new _ _
  have hT9 := hT.upR (x := S4.2.2) (k := 1) h_x0 hn7
  have hE9 := hE.upR (a := x0) (k := 1) (x := some (S4.2.2))
  refine z_putR hC zc_1 1 (by decide) kw_28 dX1_init_17 h_x0 rfl rfl hnm rfl rfl rfl ?_
  obtain ⟨S8, e_S8, hz⟩ := zlet_some hz
  rw [← e_S8]
  have hT : z_T b0 S8 := by rw [e_S8]; exact hT9
  have hE : z_Ext S0 S8 := by rw [e_S8]; exact hE9
  have h_x0 : z_is b0 S8 (x0) 1 := by rw [e_S8]; exact h_x0.upR
  have hn3 : z_is b0 S8 (S.2.2) 10 := by rw [e_S8]; exact hn3.upR
  have hn7 : z_is b0 S8 (S4.2.2) 11 := by rw [e_S8]; exact hn7.upR
  refine z_aload_n hC dX1_init_20 rfl (lv_at hl 0 rfl) ?_
  refine z_iconst (v := 0) hC dX1_init_21 (by decide) ?_
  refine z_putI hC zc_1 2 (by decide) kw_29 dX1_init_22 h_x0 rfl rfl rfl rfl ?_
  obtain ⟨J9, e_J9, hz⟩ := zlet_some hz
  rw [← e_J9]
  refine z_aload_n hC dX1_init_25 rfl (lv_at hl 0 rfl) ?_
  obtain ⟨r10, hr_r10, hz⟩ := ob_some hz
  have hk_r10 : z_is b0 S8 r10 10 := hT.at h_x0 hr_r10
  refine z_getR hC zc_1 0 (by decide) kw_27 dX1_init_26 h_x0 rfl hr_r10 ?_
  refine z_iconst (v := 0) hC dX1_init_29 (by decide) ?_
  refine z_iconst (v := 1) hC dX1_init_30 (by decide) ?_
  obtain ⟨hi11, hz⟩ := ifn_some hz
  refine z_iast hC dX1_init_31 hk_r10 hi11 ?_
  obtain ⟨J12, e_J12, hz⟩ := zlet_some hz
  rw [← e_J12]
  refine z_aload_n hC dX1_init_32 rfl (lv_at hl 0 rfl) ?_
  refine z_iconst (v := 1) hC dX1_init_33 (by decide) ?_
  refine z_putI hC zc_1 2 (by decide) kw_29 dX1_init_34 h_x0 rfl rfl rfl rfl ?_
  obtain ⟨J13, e_J13, hz⟩ := zlet_some hz
  rw [← e_J13]
  obtain rfl := Option.some.inj hz
  exact z_vret hC hT dX1_init_37 (by decide) (by decide)
set_option maxRecDepth 100000 in
set_option maxHeartbeats 4000000 in
theorem xt_X1_init {b0 : Nat} {S : zS} {I : zI} {F : Nat} {X : zS × zI} {x0 : Nat} (hT : z_T b0 S) (h_x0 : z_is b0 S x0 1) (hz : z_X1_init F S I x0 = some X) : z_T b0 (X.1) ∧ z_Ext S (X.1) := by
  unfold z_X1_init at hz
  have hE : z_Ext S S := z_Ext.rf S
  obtain ⟨S1, e_S1, hz⟩ := zlet_some hz
  obtain ⟨J2, e_J2, hz⟩ := zlet_some hz
  have hb9 : b0 ≤ S.2.2 := Nat.le_of_lt (Nat.lt_of_le_of_lt h_x0.1 h_x0.2.1)
  have h_x0 : z_is b0 S1 (x0) 1 := by rw [e_S1]; exact h_x0.new
  have hn3 : z_is b0 S1 S.2.2 10 := by rw [e_S1]; exact z_is.fresh hb9 10 16
  have hT : z_T b0 S1 := by rw [e_S1]; exact hT.new _ _
  have hE : z_Ext S S1 := by rw [e_S1]; exact hE.new _ _
  have hT9 := hT.upR (x := S.2.2) (k := 0) h_x0 hn3
  have hE9 := hE.upR (a := x0) (k := 0) (x := some (S.2.2))
  obtain ⟨S4, e_S4, hz⟩ := zlet_some hz
  have hT : z_T b0 S4 := by rw [e_S4]; exact hT9
  have hE : z_Ext S S4 := by rw [e_S4]; exact hE9
  have h_x0 : z_is b0 S4 (x0) 1 := by rw [e_S4]; exact h_x0.upR
  have hn3 : z_is b0 S4 (S.2.2) 10 := by rw [e_S4]; exact hn3.upR
  obtain ⟨S5, e_S5, hz⟩ := zlet_some hz
  obtain ⟨J6, e_J6, hz⟩ := zlet_some hz
  have hb9 : b0 ≤ S4.2.2 := Nat.le_of_lt (Nat.lt_of_le_of_lt h_x0.1 h_x0.2.1)
  have h_x0 : z_is b0 S5 (x0) 1 := by rw [e_S5]; exact h_x0.new
  have hn3 : z_is b0 S5 (S.2.2) 10 := by rw [e_S5]; exact hn3.new
  have hn7 : z_is b0 S5 S4.2.2 11 := by rw [e_S5]; exact z_is.fresh hb9 11 16
  have hT : z_T b0 S5 := by rw [e_S5]; exact hT.new _ _
  have hE : z_Ext S S5 := by rw [e_S5]; exact hE.new _ _
  have hT9 := hT.upR (x := S4.2.2) (k := 1) h_x0 hn7
  have hE9 := hE.upR (a := x0) (k := 1) (x := some (S4.2.2))
  obtain ⟨S8, e_S8, hz⟩ := zlet_some hz
  have hT : z_T b0 S8 := by rw [e_S8]; exact hT9
  have hE : z_Ext S S8 := by rw [e_S8]; exact hE9
  have h_x0 : z_is b0 S8 (x0) 1 := by rw [e_S8]; exact h_x0.upR
  have hn3 : z_is b0 S8 (S.2.2) 10 := by rw [e_S8]; exact hn3.upR
  have hn7 : z_is b0 S8 (S4.2.2) 11 := by rw [e_S8]; exact hn7.upR
  obtain ⟨J9, e_J9, hz⟩ := zlet_some hz
  obtain ⟨r10, hr_r10, hz⟩ := ob_some hz
  have hk_r10 : z_is b0 S8 r10 10 := hT.at h_x0 hr_r10
  obtain ⟨hi11, hz⟩ := ifn_some hz
  obtain ⟨J12, e_J12, hz⟩ := zlet_some hz
  obtain ⟨J13, e_J13, hz⟩ := zlet_some hz
  obtain rfl := Option.some.inj hz
  exact ⟨hT, hE⟩
theorem zy_X2_init : z_y yX2_init cX2_init 3 none 2 := ⟨kw_127, kw_6, by decide +kernel, by decide +kernel, by decide +kernel⟩
def z_X2_init (F : Nat) (S : zS) (I : zI) (x0 : Nat) (x1 : Nat) (x2 : Nat) : Option (zS × zI) :=
  zlet (z_new S 6 0) (fun S1 => zlet (z_newI S I) (fun J2 => ob (z_X6_init F S1 J2 (S.2.2)) (fun q4 => zlet (z_upR q4.1 x0 2 (some (S.2.2))) (fun S5 => zlet (z_new S5 6 0) (fun S6 => zlet (z_newI S5 (q4.2)) (fun J7 => ob (z_X6_init F S6 J7 (S5.2.2)) (fun q9 => zlet (z_upR q9.1 x0 3 (some (S5.2.2))) (fun S10 => zlet (z_up (q9.2) x0 4 0) (fun J11 => zlet (z_upR S10 x0 0 (some x1)) (fun S12 => zlet (z_upR S12 x0 1 (some x2)) (fun S13 => some (S13, J11))))))))))))
set_option maxRecDepth 100000 in
set_option maxHeartbeats 4000000 in
theorem c_X2_init {l : Launch} {D : zD} {b0 : Nat} {S : zS} {I : zI} {X : zS × zI} (F : Nat) (x0 : Nat) (x1 : Nat) (x2 : Nat) (h_x0 : z_is b0 S x0 2) (h_x1 : z_is b0 S x1 1) (h_x2 : z_is b0 S x2 7) (hz : z_X2_init F S I x0 x1 x2 = some X) : z_M l D b0 yX2_init cX2_init 3 none { frames := 2, cells := 6, slots := 42, locals := 60 } [.ref (x0), .ref (x1), .ref (x2)] S I none X.1 X.2 := by
  refine z_met (by decide) (Nat.le_of_ble_eq_true rfl) ?_
  intro p e s m below meth c hC hnm hT ls hl
  have hl : lv_has ls 3 [(0, .ref (x0)), (1, .ref (x1)), (2, .ref (x2))] := hl
  unfold z_X2_init at hz
  obtain ⟨S0, e_S0⟩ : ∃ z : zS, z = S := ⟨S, rfl⟩
  have hE : z_Ext S0 S := by rw [e_S0]; exact z_Ext.rf S
  refine z_aload_n hC dX2_init_0 rfl (lv_at hl 0 rfl) ?_
  refine z_objInit hC kw_128 kw_19 kw_20 dX2_init_1 hl.1 (by decide) (Nat.le_of_ble_eq_true rfl) ?_
  refine z_aload_n hC dX2_init_4 rfl (lv_at hl 0 rfl) ?_
  refine z_newc hC zc_6 kw_129 kw_52 kw_4 dX2_init_5 zdv_6 (by decide) (by decide) ?_
  obtain ⟨S1, e_S1, hz⟩ := zlet_some hz
  rw [← e_S1]
  obtain ⟨J2, e_J2, hz⟩ := zlet_some hz
  rw [← e_J2]
  have hb9 : b0 ≤ S.2.2 := Nat.le_of_lt (Nat.lt_of_le_of_lt h_x0.1 h_x0.2.1)
  have h_x0 : z_is b0 S1 (x0) 2 := by rw [e_S1]; exact h_x0.new
  have h_x1 : z_is b0 S1 (x1) 1 := by rw [e_S1]; exact h_x1.new
  have h_x2 : z_is b0 S1 (x2) 7 := by rw [e_S1]; exact h_x2.new
  have hn3 : z_is b0 S1 S.2.2 6 := by rw [e_S1]; exact z_is.fresh hb9 6 0
  have hT : z_T b0 S1 := by rw [e_S1]; exact hT.new _ _
  have hE : z_Ext S0 S1 := by rw [e_S1]; exact hE.new _ _
  refine z_dup hC dX2_init_8 rfl ?_
  obtain ⟨q4, hq_q4, hz⟩ := ob_some hz
  refine z_callIN (As := []) hC hT (c_X6_init F (S.2.2) hn3 hq_q4) zy_X6_init rfl kw_54 kn_2 dX2_init_9 rfl rfl hl.1 (Nat.le_of_ble_eq_true rfl) (by decide) (by decide) ?_
  have hx_q4 := xt_X6_init hT hn3 hq_q4
  have hT : z_T b0 q4.1 := hx_q4.1
  have hE : z_Ext S0 q4.1 := hE.trans hx_q4.2
  have h_x0 : z_is b0 q4.1 (x0) 2 := hx_q4.2.is h_x0
  have h_x1 : z_is b0 q4.1 (x1) 1 := hx_q4.2.is h_x1
  have h_x2 : z_is b0 q4.1 (x2) 7 := hx_q4.2.is h_x2
  have hn3 : z_is b0 q4.1 (S.2.2) 6 := hx_q4.2.is hn3
  have hT9 := hT.upR (x := S.2.2) (k := 2) h_x0 hn3
  have hE9 := hE.upR (a := x0) (k := 2) (x := some (S.2.2))
  refine z_putR hC zc_2 2 (by decide) kw_133 dX2_init_12 h_x0 rfl rfl hnm rfl rfl rfl ?_
  obtain ⟨S5, e_S5, hz⟩ := zlet_some hz
  rw [← e_S5]
  have hT : z_T b0 S5 := by rw [e_S5]; exact hT9
  have hE : z_Ext S0 S5 := by rw [e_S5]; exact hE9
  have h_x0 : z_is b0 S5 (x0) 2 := by rw [e_S5]; exact h_x0.upR
  have h_x1 : z_is b0 S5 (x1) 1 := by rw [e_S5]; exact h_x1.upR
  have h_x2 : z_is b0 S5 (x2) 7 := by rw [e_S5]; exact h_x2.upR
  have hn3 : z_is b0 S5 (S.2.2) 6 := by rw [e_S5]; exact hn3.upR
  refine z_aload_n hC dX2_init_15 rfl (lv_at hl 0 rfl) ?_
  refine z_newc hC zc_6 kw_129 kw_52 kw_4 dX2_init_16 zdv_6 (by decide) (by decide) ?_
  obtain ⟨S6, e_S6, hz⟩ := zlet_some hz
  rw [← e_S6]
  obtain ⟨J7, e_J7, hz⟩ := zlet_some hz
  rw [← e_J7]
  have hb9 : b0 ≤ S5.2.2 := Nat.le_of_lt (Nat.lt_of_le_of_lt h_x0.1 h_x0.2.1)
  have h_x0 : z_is b0 S6 (x0) 2 := by rw [e_S6]; exact h_x0.new
  have h_x1 : z_is b0 S6 (x1) 1 := by rw [e_S6]; exact h_x1.new
  have h_x2 : z_is b0 S6 (x2) 7 := by rw [e_S6]; exact h_x2.new
  have hn3 : z_is b0 S6 (S.2.2) 6 := by rw [e_S6]; exact hn3.new
  have hn8 : z_is b0 S6 S5.2.2 6 := by rw [e_S6]; exact z_is.fresh hb9 6 0
  have hT : z_T b0 S6 := by rw [e_S6]; exact hT.new _ _
  have hE : z_Ext S0 S6 := by rw [e_S6]; exact hE.new _ _
  refine z_dup hC dX2_init_19 rfl ?_
  obtain ⟨q9, hq_q9, hz⟩ := ob_some hz
  refine z_callIN (As := []) hC hT (c_X6_init F (S5.2.2) hn8 hq_q9) zy_X6_init rfl kw_54 kn_2 dX2_init_20 rfl rfl hl.1 (Nat.le_of_ble_eq_true rfl) (by decide) (by decide) ?_
  have hx_q9 := xt_X6_init hT hn8 hq_q9
  have hT : z_T b0 q9.1 := hx_q9.1
  have hE : z_Ext S0 q9.1 := hE.trans hx_q9.2
  have h_x0 : z_is b0 q9.1 (x0) 2 := hx_q9.2.is h_x0
  have h_x1 : z_is b0 q9.1 (x1) 1 := hx_q9.2.is h_x1
  have h_x2 : z_is b0 q9.1 (x2) 7 := hx_q9.2.is h_x2
  have hn3 : z_is b0 q9.1 (S.2.2) 6 := hx_q9.2.is hn3
  have hn8 : z_is b0 q9.1 (S5.2.2) 6 := hx_q9.2.is hn8
  have hT9 := hT.upR (x := S5.2.2) (k := 3) h_x0 hn8
  have hE9 := hE.upR (a := x0) (k := 3) (x := some (S5.2.2))
  refine z_putR hC zc_2 3 (by decide) kw_134 dX2_init_23 h_x0 rfl rfl hnm rfl rfl rfl ?_
  obtain ⟨S10, e_S10, hz⟩ := zlet_some hz
  rw [← e_S10]
  have hT : z_T b0 S10 := by rw [e_S10]; exact hT9
  have hE : z_Ext S0 S10 := by rw [e_S10]; exact hE9
  have h_x0 : z_is b0 S10 (x0) 2 := by rw [e_S10]; exact h_x0.upR
  have h_x1 : z_is b0 S10 (x1) 1 := by rw [e_S10]; exact h_x1.upR
  have h_x2 : z_is b0 S10 (x2) 7 := by rw [e_S10]; exact h_x2.upR
  have hn3 : z_is b0 S10 (S.2.2) 6 := by rw [e_S10]; exact hn3.upR
  have hn8 : z_is b0 S10 (S5.2.2) 6 := by rw [e_S10]; exact hn8.upR
  refine z_aload_n hC dX2_init_26 rfl (lv_at hl 0 rfl) ?_
  refine z_iconst (v := 0) hC dX2_init_27 (by decide) ?_
  refine z_putI hC zc_2 4 (by decide) kw_135 dX2_init_28 h_x0 rfl rfl rfl rfl ?_
  obtain ⟨J11, e_J11, hz⟩ := zlet_some hz
  rw [← e_J11]
  refine z_aload_n hC dX2_init_31 rfl (lv_at hl 0 rfl) ?_
  refine z_aload_n hC dX2_init_32 rfl (lv_at hl 1 rfl) ?_
  have hT9 := hT.upR (x := x1) (k := 0) h_x0 h_x1
  have hE9 := hE.upR (a := x0) (k := 0) (x := some (x1))
  refine z_putR hC zc_2 0 (by decide) kw_131 dX2_init_33 h_x0 rfl rfl hnm rfl rfl rfl ?_
  obtain ⟨S12, e_S12, hz⟩ := zlet_some hz
  rw [← e_S12]
  have hT : z_T b0 S12 := by rw [e_S12]; exact hT9
  have hE : z_Ext S0 S12 := by rw [e_S12]; exact hE9
  have h_x0 : z_is b0 S12 (x0) 2 := by rw [e_S12]; exact h_x0.upR
  have h_x1 : z_is b0 S12 (x1) 1 := by rw [e_S12]; exact h_x1.upR
  have h_x2 : z_is b0 S12 (x2) 7 := by rw [e_S12]; exact h_x2.upR
  have hn3 : z_is b0 S12 (S.2.2) 6 := by rw [e_S12]; exact hn3.upR
  have hn8 : z_is b0 S12 (S5.2.2) 6 := by rw [e_S12]; exact hn8.upR
  refine z_aload_n hC dX2_init_36 rfl (lv_at hl 0 rfl) ?_
  refine z_aload_n hC dX2_init_37 rfl (lv_at hl 2 rfl) ?_
  have hT9 := hT.upR (x := x2) (k := 1) h_x0 h_x2
  have hE9 := hE.upR (a := x0) (k := 1) (x := some (x2))
  refine z_putR hC zc_2 1 (by decide) kw_132 dX2_init_38 h_x0 rfl rfl hnm rfl rfl rfl ?_
  obtain ⟨S13, e_S13, hz⟩ := zlet_some hz
  rw [← e_S13]
  have hT : z_T b0 S13 := by rw [e_S13]; exact hT9
  have hE : z_Ext S0 S13 := by rw [e_S13]; exact hE9
  have h_x0 : z_is b0 S13 (x0) 2 := by rw [e_S13]; exact h_x0.upR
  have h_x1 : z_is b0 S13 (x1) 1 := by rw [e_S13]; exact h_x1.upR
  have h_x2 : z_is b0 S13 (x2) 7 := by rw [e_S13]; exact h_x2.upR
  have hn3 : z_is b0 S13 (S.2.2) 6 := by rw [e_S13]; exact hn3.upR
  have hn8 : z_is b0 S13 (S5.2.2) 6 := by rw [e_S13]; exact hn8.upR
  obtain rfl := Option.some.inj hz
  exact z_vret hC hT dX2_init_41 (by decide) (by decide)
set_option maxRecDepth 100000 in
set_option maxHeartbeats 4000000 in
theorem xt_X2_init {b0 : Nat} {S : zS} {I : zI} {F : Nat} {X : zS × zI} {x0 : Nat} {x1 : Nat} {x2 : Nat} (hT : z_T b0 S) (h_x0 : z_is b0 S x0 2) (h_x1 : z_is b0 S x1 1) (h_x2 : z_is b0 S x2 7) (hz : z_X2_init F S I x0 x1 x2 = some X) : z_T b0 (X.1) ∧ z_Ext S (X.1) := by
  unfold z_X2_init at hz
  have hE : z_Ext S S := z_Ext.rf S
  obtain ⟨S1, e_S1, hz⟩ := zlet_some hz
  obtain ⟨J2, e_J2, hz⟩ := zlet_some hz
  have hb9 : b0 ≤ S.2.2 := Nat.le_of_lt (Nat.lt_of_le_of_lt h_x0.1 h_x0.2.1)
  have h_x0 : z_is b0 S1 (x0) 2 := by rw [e_S1]; exact h_x0.new
  have h_x1 : z_is b0 S1 (x1) 1 := by rw [e_S1]; exact h_x1.new
  have h_x2 : z_is b0 S1 (x2) 7 := by rw [e_S1]; exact h_x2.new
  have hn3 : z_is b0 S1 S.2.2 6 := by rw [e_S1]; exact z_is.fresh hb9 6 0
  have hT : z_T b0 S1 := by rw [e_S1]; exact hT.new _ _
  have hE : z_Ext S S1 := by rw [e_S1]; exact hE.new _ _
  obtain ⟨q4, hq_q4, hz⟩ := ob_some hz
  have hx_q4 := xt_X6_init hT hn3 hq_q4
  have hT : z_T b0 q4.1 := hx_q4.1
  have hE : z_Ext S q4.1 := hE.trans hx_q4.2
  have h_x0 : z_is b0 q4.1 (x0) 2 := hx_q4.2.is h_x0
  have h_x1 : z_is b0 q4.1 (x1) 1 := hx_q4.2.is h_x1
  have h_x2 : z_is b0 q4.1 (x2) 7 := hx_q4.2.is h_x2
  have hn3 : z_is b0 q4.1 (S.2.2) 6 := hx_q4.2.is hn3
  have hT9 := hT.upR (x := S.2.2) (k := 2) h_x0 hn3
  have hE9 := hE.upR (a := x0) (k := 2) (x := some (S.2.2))
  obtain ⟨S5, e_S5, hz⟩ := zlet_some hz
  have hT : z_T b0 S5 := by rw [e_S5]; exact hT9
  have hE : z_Ext S S5 := by rw [e_S5]; exact hE9
  have h_x0 : z_is b0 S5 (x0) 2 := by rw [e_S5]; exact h_x0.upR
  have h_x1 : z_is b0 S5 (x1) 1 := by rw [e_S5]; exact h_x1.upR
  have h_x2 : z_is b0 S5 (x2) 7 := by rw [e_S5]; exact h_x2.upR
  have hn3 : z_is b0 S5 (S.2.2) 6 := by rw [e_S5]; exact hn3.upR
  obtain ⟨S6, e_S6, hz⟩ := zlet_some hz
  obtain ⟨J7, e_J7, hz⟩ := zlet_some hz
  have hb9 : b0 ≤ S5.2.2 := Nat.le_of_lt (Nat.lt_of_le_of_lt h_x0.1 h_x0.2.1)
  have h_x0 : z_is b0 S6 (x0) 2 := by rw [e_S6]; exact h_x0.new
  have h_x1 : z_is b0 S6 (x1) 1 := by rw [e_S6]; exact h_x1.new
  have h_x2 : z_is b0 S6 (x2) 7 := by rw [e_S6]; exact h_x2.new
  have hn3 : z_is b0 S6 (S.2.2) 6 := by rw [e_S6]; exact hn3.new
  have hn8 : z_is b0 S6 S5.2.2 6 := by rw [e_S6]; exact z_is.fresh hb9 6 0
  have hT : z_T b0 S6 := by rw [e_S6]; exact hT.new _ _
  have hE : z_Ext S S6 := by rw [e_S6]; exact hE.new _ _
  obtain ⟨q9, hq_q9, hz⟩ := ob_some hz
  have hx_q9 := xt_X6_init hT hn8 hq_q9
  have hT : z_T b0 q9.1 := hx_q9.1
  have hE : z_Ext S q9.1 := hE.trans hx_q9.2
  have h_x0 : z_is b0 q9.1 (x0) 2 := hx_q9.2.is h_x0
  have h_x1 : z_is b0 q9.1 (x1) 1 := hx_q9.2.is h_x1
  have h_x2 : z_is b0 q9.1 (x2) 7 := hx_q9.2.is h_x2
  have hn3 : z_is b0 q9.1 (S.2.2) 6 := hx_q9.2.is hn3
  have hn8 : z_is b0 q9.1 (S5.2.2) 6 := hx_q9.2.is hn8
  have hT9 := hT.upR (x := S5.2.2) (k := 3) h_x0 hn8
  have hE9 := hE.upR (a := x0) (k := 3) (x := some (S5.2.2))
  obtain ⟨S10, e_S10, hz⟩ := zlet_some hz
  have hT : z_T b0 S10 := by rw [e_S10]; exact hT9
  have hE : z_Ext S S10 := by rw [e_S10]; exact hE9
  have h_x0 : z_is b0 S10 (x0) 2 := by rw [e_S10]; exact h_x0.upR
  have h_x1 : z_is b0 S10 (x1) 1 := by rw [e_S10]; exact h_x1.upR
  have h_x2 : z_is b0 S10 (x2) 7 := by rw [e_S10]; exact h_x2.upR
  have hn3 : z_is b0 S10 (S.2.2) 6 := by rw [e_S10]; exact hn3.upR
  have hn8 : z_is b0 S10 (S5.2.2) 6 := by rw [e_S10]; exact hn8.upR
  obtain ⟨J11, e_J11, hz⟩ := zlet_some hz
  have hT9 := hT.upR (x := x1) (k := 0) h_x0 h_x1
  have hE9 := hE.upR (a := x0) (k := 0) (x := some (x1))
  obtain ⟨S12, e_S12, hz⟩ := zlet_some hz
  have hT : z_T b0 S12 := by rw [e_S12]; exact hT9
  have hE : z_Ext S S12 := by rw [e_S12]; exact hE9
  have h_x0 : z_is b0 S12 (x0) 2 := by rw [e_S12]; exact h_x0.upR
  have h_x1 : z_is b0 S12 (x1) 1 := by rw [e_S12]; exact h_x1.upR
  have h_x2 : z_is b0 S12 (x2) 7 := by rw [e_S12]; exact h_x2.upR
  have hn3 : z_is b0 S12 (S.2.2) 6 := by rw [e_S12]; exact hn3.upR
  have hn8 : z_is b0 S12 (S5.2.2) 6 := by rw [e_S12]; exact hn8.upR
  have hT9 := hT.upR (x := x2) (k := 1) h_x0 h_x2
  have hE9 := hE.upR (a := x0) (k := 1) (x := some (x2))
  obtain ⟨S13, e_S13, hz⟩ := zlet_some hz
  have hT : z_T b0 S13 := by rw [e_S13]; exact hT9
  have hE : z_Ext S S13 := by rw [e_S13]; exact hE9
  have h_x0 : z_is b0 S13 (x0) 2 := by rw [e_S13]; exact h_x0.upR
  have h_x1 : z_is b0 S13 (x1) 1 := by rw [e_S13]; exact h_x1.upR
  have h_x2 : z_is b0 S13 (x2) 7 := by rw [e_S13]; exact h_x2.upR
  have hn3 : z_is b0 S13 (S.2.2) 6 := by rw [e_S13]; exact hn3.upR
  have hn8 : z_is b0 S13 (S5.2.2) 6 := by rw [e_S13]; exact hn8.upR
  obtain rfl := Option.some.inj hz
  exact ⟨hT, hE⟩
theorem zy_X4_init : z_y yX4_init cX4_init 3 none 2 := ⟨kw_152, kw_7, by decide +kernel, by decide +kernel, by decide +kernel⟩
def z_X4_init (F : Nat) (S : zS) (I : zI) (x0 : Nat) (x1 : Nat) (x2 : Nat) : Option (zS × zI) :=
  zlet (z_new S 6 0) (fun S1 => zlet (z_newI S I) (fun J2 => ob (z_X6_init F S1 J2 (S.2.2)) (fun q4 => zlet (z_upR q4.1 x0 2 (some (S.2.2))) (fun S5 => zlet (z_new S5 6 0) (fun S6 => zlet (z_newI S5 (q4.2)) (fun J7 => ob (z_X6_init F S6 J7 (S5.2.2)) (fun q9 => zlet (z_upR q9.1 x0 3 (some (S5.2.2))) (fun S10 => zlet (z_up (q9.2) x0 4 0) (fun J11 => zlet (z_up J11 x0 5 0) (fun J12 => zlet (z_upR S10 x0 0 (some x1)) (fun S13 => zlet (z_upR S13 x0 1 (some x2)) (fun S14 => some (S14, J12)))))))))))))
set_option maxRecDepth 100000 in
set_option maxHeartbeats 4000000 in
theorem c_X4_init {l : Launch} {D : zD} {b0 : Nat} {S : zS} {I : zI} {X : zS × zI} (F : Nat) (x0 : Nat) (x1 : Nat) (x2 : Nat) (h_x0 : z_is b0 S x0 4) (h_x1 : z_is b0 S x1 1) (h_x2 : z_is b0 S x2 7) (hz : z_X4_init F S I x0 x1 x2 = some X) : z_M l D b0 yX4_init cX4_init 3 none { frames := 2, cells := 6, slots := 42, locals := 60 } [.ref (x0), .ref (x1), .ref (x2)] S I none X.1 X.2 := by
  refine z_met (by decide) (Nat.le_of_ble_eq_true rfl) ?_
  intro p e s m below meth c hC hnm hT ls hl
  have hl : lv_has ls 3 [(0, .ref (x0)), (1, .ref (x1)), (2, .ref (x2))] := hl
  unfold z_X4_init at hz
  obtain ⟨S0, e_S0⟩ : ∃ z : zS, z = S := ⟨S, rfl⟩
  have hE : z_Ext S0 S := by rw [e_S0]; exact z_Ext.rf S
  refine z_aload_n hC dX4_init_0 rfl (lv_at hl 0 rfl) ?_
  refine z_objInit hC kw_153 kw_19 kw_20 dX4_init_1 hl.1 (by decide) (Nat.le_of_ble_eq_true rfl) ?_
  refine z_aload_n hC dX4_init_4 rfl (lv_at hl 0 rfl) ?_
  refine z_newc hC zc_6 kw_154 kw_52 kw_4 dX4_init_5 zdv_6 (by decide) (by decide) ?_
  obtain ⟨S1, e_S1, hz⟩ := zlet_some hz
  rw [← e_S1]
  obtain ⟨J2, e_J2, hz⟩ := zlet_some hz
  rw [← e_J2]
  have hb9 : b0 ≤ S.2.2 := Nat.le_of_lt (Nat.lt_of_le_of_lt h_x0.1 h_x0.2.1)
  have h_x0 : z_is b0 S1 (x0) 4 := by rw [e_S1]; exact h_x0.new
  have h_x1 : z_is b0 S1 (x1) 1 := by rw [e_S1]; exact h_x1.new
  have h_x2 : z_is b0 S1 (x2) 7 := by rw [e_S1]; exact h_x2.new
  have hn3 : z_is b0 S1 S.2.2 6 := by rw [e_S1]; exact z_is.fresh hb9 6 0
  have hT : z_T b0 S1 := by rw [e_S1]; exact hT.new _ _
  have hE : z_Ext S0 S1 := by rw [e_S1]; exact hE.new _ _
  refine z_dup hC dX4_init_8 rfl ?_
  obtain ⟨q4, hq_q4, hz⟩ := ob_some hz
  refine z_callIN (As := []) hC hT (c_X6_init F (S.2.2) hn3 hq_q4) zy_X6_init rfl kw_54 kn_3 dX4_init_9 rfl rfl hl.1 (Nat.le_of_ble_eq_true rfl) (by decide) (by decide) ?_
  have hx_q4 := xt_X6_init hT hn3 hq_q4
  have hT : z_T b0 q4.1 := hx_q4.1
  have hE : z_Ext S0 q4.1 := hE.trans hx_q4.2
  have h_x0 : z_is b0 q4.1 (x0) 4 := hx_q4.2.is h_x0
  have h_x1 : z_is b0 q4.1 (x1) 1 := hx_q4.2.is h_x1
  have h_x2 : z_is b0 q4.1 (x2) 7 := hx_q4.2.is h_x2
  have hn3 : z_is b0 q4.1 (S.2.2) 6 := hx_q4.2.is hn3
  have hT9 := hT.upR (x := S.2.2) (k := 2) h_x0 hn3
  have hE9 := hE.upR (a := x0) (k := 2) (x := some (S.2.2))
  refine z_putR hC zc_4 2 (by decide) kw_158 dX4_init_12 h_x0 rfl rfl hnm rfl rfl rfl ?_
  obtain ⟨S5, e_S5, hz⟩ := zlet_some hz
  rw [← e_S5]
  have hT : z_T b0 S5 := by rw [e_S5]; exact hT9
  have hE : z_Ext S0 S5 := by rw [e_S5]; exact hE9
  have h_x0 : z_is b0 S5 (x0) 4 := by rw [e_S5]; exact h_x0.upR
  have h_x1 : z_is b0 S5 (x1) 1 := by rw [e_S5]; exact h_x1.upR
  have h_x2 : z_is b0 S5 (x2) 7 := by rw [e_S5]; exact h_x2.upR
  have hn3 : z_is b0 S5 (S.2.2) 6 := by rw [e_S5]; exact hn3.upR
  refine z_aload_n hC dX4_init_15 rfl (lv_at hl 0 rfl) ?_
  refine z_newc hC zc_6 kw_154 kw_52 kw_4 dX4_init_16 zdv_6 (by decide) (by decide) ?_
  obtain ⟨S6, e_S6, hz⟩ := zlet_some hz
  rw [← e_S6]
  obtain ⟨J7, e_J7, hz⟩ := zlet_some hz
  rw [← e_J7]
  have hb9 : b0 ≤ S5.2.2 := Nat.le_of_lt (Nat.lt_of_le_of_lt h_x0.1 h_x0.2.1)
  have h_x0 : z_is b0 S6 (x0) 4 := by rw [e_S6]; exact h_x0.new
  have h_x1 : z_is b0 S6 (x1) 1 := by rw [e_S6]; exact h_x1.new
  have h_x2 : z_is b0 S6 (x2) 7 := by rw [e_S6]; exact h_x2.new
  have hn3 : z_is b0 S6 (S.2.2) 6 := by rw [e_S6]; exact hn3.new
  have hn8 : z_is b0 S6 S5.2.2 6 := by rw [e_S6]; exact z_is.fresh hb9 6 0
  have hT : z_T b0 S6 := by rw [e_S6]; exact hT.new _ _
  have hE : z_Ext S0 S6 := by rw [e_S6]; exact hE.new _ _
  refine z_dup hC dX4_init_19 rfl ?_
  obtain ⟨q9, hq_q9, hz⟩ := ob_some hz
  refine z_callIN (As := []) hC hT (c_X6_init F (S5.2.2) hn8 hq_q9) zy_X6_init rfl kw_54 kn_3 dX4_init_20 rfl rfl hl.1 (Nat.le_of_ble_eq_true rfl) (by decide) (by decide) ?_
  have hx_q9 := xt_X6_init hT hn8 hq_q9
  have hT : z_T b0 q9.1 := hx_q9.1
  have hE : z_Ext S0 q9.1 := hE.trans hx_q9.2
  have h_x0 : z_is b0 q9.1 (x0) 4 := hx_q9.2.is h_x0
  have h_x1 : z_is b0 q9.1 (x1) 1 := hx_q9.2.is h_x1
  have h_x2 : z_is b0 q9.1 (x2) 7 := hx_q9.2.is h_x2
  have hn3 : z_is b0 q9.1 (S.2.2) 6 := hx_q9.2.is hn3
  have hn8 : z_is b0 q9.1 (S5.2.2) 6 := hx_q9.2.is hn8
  have hT9 := hT.upR (x := S5.2.2) (k := 3) h_x0 hn8
  have hE9 := hE.upR (a := x0) (k := 3) (x := some (S5.2.2))
  refine z_putR hC zc_4 3 (by decide) kw_159 dX4_init_23 h_x0 rfl rfl hnm rfl rfl rfl ?_
  obtain ⟨S10, e_S10, hz⟩ := zlet_some hz
  rw [← e_S10]
  have hT : z_T b0 S10 := by rw [e_S10]; exact hT9
  have hE : z_Ext S0 S10 := by rw [e_S10]; exact hE9
  have h_x0 : z_is b0 S10 (x0) 4 := by rw [e_S10]; exact h_x0.upR
  have h_x1 : z_is b0 S10 (x1) 1 := by rw [e_S10]; exact h_x1.upR
  have h_x2 : z_is b0 S10 (x2) 7 := by rw [e_S10]; exact h_x2.upR
  have hn3 : z_is b0 S10 (S.2.2) 6 := by rw [e_S10]; exact hn3.upR
  have hn8 : z_is b0 S10 (S5.2.2) 6 := by rw [e_S10]; exact hn8.upR
  refine z_aload_n hC dX4_init_26 rfl (lv_at hl 0 rfl) ?_
  refine z_iconst (v := 0) hC dX4_init_27 (by decide) ?_
  refine z_putI hC zc_4 4 (by decide) kw_160 dX4_init_28 h_x0 rfl rfl (z_bool (Or.inl rfl)) (z_boolf (Or.inl rfl)) ?_
  obtain ⟨J11, e_J11, hz⟩ := zlet_some hz
  rw [← e_J11]
  refine z_aload_n hC dX4_init_31 rfl (lv_at hl 0 rfl) ?_
  refine z_iconst (v := 0) hC dX4_init_32 (by decide) ?_
  refine z_putI hC zc_4 5 (by decide) kw_161 dX4_init_33 h_x0 rfl rfl rfl rfl ?_
  obtain ⟨J12, e_J12, hz⟩ := zlet_some hz
  rw [← e_J12]
  refine z_aload_n hC dX4_init_36 rfl (lv_at hl 0 rfl) ?_
  refine z_aload_n hC dX4_init_37 rfl (lv_at hl 1 rfl) ?_
  have hT9 := hT.upR (x := x1) (k := 0) h_x0 h_x1
  have hE9 := hE.upR (a := x0) (k := 0) (x := some (x1))
  refine z_putR hC zc_4 0 (by decide) kw_156 dX4_init_38 h_x0 rfl rfl hnm rfl rfl rfl ?_
  obtain ⟨S13, e_S13, hz⟩ := zlet_some hz
  rw [← e_S13]
  have hT : z_T b0 S13 := by rw [e_S13]; exact hT9
  have hE : z_Ext S0 S13 := by rw [e_S13]; exact hE9
  have h_x0 : z_is b0 S13 (x0) 4 := by rw [e_S13]; exact h_x0.upR
  have h_x1 : z_is b0 S13 (x1) 1 := by rw [e_S13]; exact h_x1.upR
  have h_x2 : z_is b0 S13 (x2) 7 := by rw [e_S13]; exact h_x2.upR
  have hn3 : z_is b0 S13 (S.2.2) 6 := by rw [e_S13]; exact hn3.upR
  have hn8 : z_is b0 S13 (S5.2.2) 6 := by rw [e_S13]; exact hn8.upR
  refine z_aload_n hC dX4_init_41 rfl (lv_at hl 0 rfl) ?_
  refine z_aload_n hC dX4_init_42 rfl (lv_at hl 2 rfl) ?_
  have hT9 := hT.upR (x := x2) (k := 1) h_x0 h_x2
  have hE9 := hE.upR (a := x0) (k := 1) (x := some (x2))
  refine z_putR hC zc_4 1 (by decide) kw_157 dX4_init_43 h_x0 rfl rfl hnm rfl rfl rfl ?_
  obtain ⟨S14, e_S14, hz⟩ := zlet_some hz
  rw [← e_S14]
  have hT : z_T b0 S14 := by rw [e_S14]; exact hT9
  have hE : z_Ext S0 S14 := by rw [e_S14]; exact hE9
  have h_x0 : z_is b0 S14 (x0) 4 := by rw [e_S14]; exact h_x0.upR
  have h_x1 : z_is b0 S14 (x1) 1 := by rw [e_S14]; exact h_x1.upR
  have h_x2 : z_is b0 S14 (x2) 7 := by rw [e_S14]; exact h_x2.upR
  have hn3 : z_is b0 S14 (S.2.2) 6 := by rw [e_S14]; exact hn3.upR
  have hn8 : z_is b0 S14 (S5.2.2) 6 := by rw [e_S14]; exact hn8.upR
  obtain rfl := Option.some.inj hz
  exact z_vret hC hT dX4_init_46 (by decide) (by decide)
set_option maxRecDepth 100000 in
set_option maxHeartbeats 4000000 in
theorem xt_X4_init {b0 : Nat} {S : zS} {I : zI} {F : Nat} {X : zS × zI} {x0 : Nat} {x1 : Nat} {x2 : Nat} (hT : z_T b0 S) (h_x0 : z_is b0 S x0 4) (h_x1 : z_is b0 S x1 1) (h_x2 : z_is b0 S x2 7) (hz : z_X4_init F S I x0 x1 x2 = some X) : z_T b0 (X.1) ∧ z_Ext S (X.1) := by
  unfold z_X4_init at hz
  have hE : z_Ext S S := z_Ext.rf S
  obtain ⟨S1, e_S1, hz⟩ := zlet_some hz
  obtain ⟨J2, e_J2, hz⟩ := zlet_some hz
  have hb9 : b0 ≤ S.2.2 := Nat.le_of_lt (Nat.lt_of_le_of_lt h_x0.1 h_x0.2.1)
  have h_x0 : z_is b0 S1 (x0) 4 := by rw [e_S1]; exact h_x0.new
  have h_x1 : z_is b0 S1 (x1) 1 := by rw [e_S1]; exact h_x1.new
  have h_x2 : z_is b0 S1 (x2) 7 := by rw [e_S1]; exact h_x2.new
  have hn3 : z_is b0 S1 S.2.2 6 := by rw [e_S1]; exact z_is.fresh hb9 6 0
  have hT : z_T b0 S1 := by rw [e_S1]; exact hT.new _ _
  have hE : z_Ext S S1 := by rw [e_S1]; exact hE.new _ _
  obtain ⟨q4, hq_q4, hz⟩ := ob_some hz
  have hx_q4 := xt_X6_init hT hn3 hq_q4
  have hT : z_T b0 q4.1 := hx_q4.1
  have hE : z_Ext S q4.1 := hE.trans hx_q4.2
  have h_x0 : z_is b0 q4.1 (x0) 4 := hx_q4.2.is h_x0
  have h_x1 : z_is b0 q4.1 (x1) 1 := hx_q4.2.is h_x1
  have h_x2 : z_is b0 q4.1 (x2) 7 := hx_q4.2.is h_x2
  have hn3 : z_is b0 q4.1 (S.2.2) 6 := hx_q4.2.is hn3
  have hT9 := hT.upR (x := S.2.2) (k := 2) h_x0 hn3
  have hE9 := hE.upR (a := x0) (k := 2) (x := some (S.2.2))
  obtain ⟨S5, e_S5, hz⟩ := zlet_some hz
  have hT : z_T b0 S5 := by rw [e_S5]; exact hT9
  have hE : z_Ext S S5 := by rw [e_S5]; exact hE9
  have h_x0 : z_is b0 S5 (x0) 4 := by rw [e_S5]; exact h_x0.upR
  have h_x1 : z_is b0 S5 (x1) 1 := by rw [e_S5]; exact h_x1.upR
  have h_x2 : z_is b0 S5 (x2) 7 := by rw [e_S5]; exact h_x2.upR
  have hn3 : z_is b0 S5 (S.2.2) 6 := by rw [e_S5]; exact hn3.upR
  obtain ⟨S6, e_S6, hz⟩ := zlet_some hz
  obtain ⟨J7, e_J7, hz⟩ := zlet_some hz
  have hb9 : b0 ≤ S5.2.2 := Nat.le_of_lt (Nat.lt_of_le_of_lt h_x0.1 h_x0.2.1)
  have h_x0 : z_is b0 S6 (x0) 4 := by rw [e_S6]; exact h_x0.new
  have h_x1 : z_is b0 S6 (x1) 1 := by rw [e_S6]; exact h_x1.new
  have h_x2 : z_is b0 S6 (x2) 7 := by rw [e_S6]; exact h_x2.new
  have hn3 : z_is b0 S6 (S.2.2) 6 := by rw [e_S6]; exact hn3.new
  have hn8 : z_is b0 S6 S5.2.2 6 := by rw [e_S6]; exact z_is.fresh hb9 6 0
  have hT : z_T b0 S6 := by rw [e_S6]; exact hT.new _ _
  have hE : z_Ext S S6 := by rw [e_S6]; exact hE.new _ _
  obtain ⟨q9, hq_q9, hz⟩ := ob_some hz
  have hx_q9 := xt_X6_init hT hn8 hq_q9
  have hT : z_T b0 q9.1 := hx_q9.1
  have hE : z_Ext S q9.1 := hE.trans hx_q9.2
  have h_x0 : z_is b0 q9.1 (x0) 4 := hx_q9.2.is h_x0
  have h_x1 : z_is b0 q9.1 (x1) 1 := hx_q9.2.is h_x1
  have h_x2 : z_is b0 q9.1 (x2) 7 := hx_q9.2.is h_x2
  have hn3 : z_is b0 q9.1 (S.2.2) 6 := hx_q9.2.is hn3
  have hn8 : z_is b0 q9.1 (S5.2.2) 6 := hx_q9.2.is hn8
  have hT9 := hT.upR (x := S5.2.2) (k := 3) h_x0 hn8
  have hE9 := hE.upR (a := x0) (k := 3) (x := some (S5.2.2))
  obtain ⟨S10, e_S10, hz⟩ := zlet_some hz
  have hT : z_T b0 S10 := by rw [e_S10]; exact hT9
  have hE : z_Ext S S10 := by rw [e_S10]; exact hE9
  have h_x0 : z_is b0 S10 (x0) 4 := by rw [e_S10]; exact h_x0.upR
  have h_x1 : z_is b0 S10 (x1) 1 := by rw [e_S10]; exact h_x1.upR
  have h_x2 : z_is b0 S10 (x2) 7 := by rw [e_S10]; exact h_x2.upR
  have hn3 : z_is b0 S10 (S.2.2) 6 := by rw [e_S10]; exact hn3.upR
  have hn8 : z_is b0 S10 (S5.2.2) 6 := by rw [e_S10]; exact hn8.upR
  obtain ⟨J11, e_J11, hz⟩ := zlet_some hz
  obtain ⟨J12, e_J12, hz⟩ := zlet_some hz
  have hT9 := hT.upR (x := x1) (k := 0) h_x0 h_x1
  have hE9 := hE.upR (a := x0) (k := 0) (x := some (x1))
  obtain ⟨S13, e_S13, hz⟩ := zlet_some hz
  have hT : z_T b0 S13 := by rw [e_S13]; exact hT9
  have hE : z_Ext S S13 := by rw [e_S13]; exact hE9
  have h_x0 : z_is b0 S13 (x0) 4 := by rw [e_S13]; exact h_x0.upR
  have h_x1 : z_is b0 S13 (x1) 1 := by rw [e_S13]; exact h_x1.upR
  have h_x2 : z_is b0 S13 (x2) 7 := by rw [e_S13]; exact h_x2.upR
  have hn3 : z_is b0 S13 (S.2.2) 6 := by rw [e_S13]; exact hn3.upR
  have hn8 : z_is b0 S13 (S5.2.2) 6 := by rw [e_S13]; exact hn8.upR
  have hT9 := hT.upR (x := x2) (k := 1) h_x0 h_x2
  have hE9 := hE.upR (a := x0) (k := 1) (x := some (x2))
  obtain ⟨S14, e_S14, hz⟩ := zlet_some hz
  have hT : z_T b0 S14 := by rw [e_S14]; exact hT9
  have hE : z_Ext S S14 := by rw [e_S14]; exact hE9
  have h_x0 : z_is b0 S14 (x0) 4 := by rw [e_S14]; exact h_x0.upR
  have h_x1 : z_is b0 S14 (x1) 1 := by rw [e_S14]; exact h_x1.upR
  have h_x2 : z_is b0 S14 (x2) 7 := by rw [e_S14]; exact h_x2.upR
  have hn3 : z_is b0 S14 (S.2.2) 6 := by rw [e_S14]; exact hn3.upR
  have hn8 : z_is b0 S14 (S5.2.2) 6 := by rw [e_S14]; exact hn8.upR
  obtain rfl := Option.some.inj hz
  exact ⟨hT, hE⟩
theorem zy_X5_init : z_y yX5_init cX5_init 1 none 0 := ⟨kw_45, kw_3, by decide +kernel, by decide +kernel, by decide +kernel⟩
def z_X5_init (F : Nat) (S : zS) (I : zI) (x0 : Nat) : Option (zS × zI) :=
  zlet (z_new S 12 40) (fun S1 => zlet (z_newI S I) (fun J2 => zlet (z_upR S1 x0 0 (some (S.2.2))) (fun S4 => zlet (z_new S4 13 4) (fun S5 => zlet (z_newI S4 J2) (fun J6 => zlet (z_upR S5 x0 1 (some (S4.2.2))) (fun S8 => zlet (z_new S8 6 0) (fun S9 => zlet (z_newI S8 J6) (fun J10 => ob (z_X6_init F S9 J10 (S8.2.2)) (fun q12 => zlet (z_upR q12.1 x0 2 (some (S8.2.2))) (fun S13 => zlet (z_up (q12.2) x0 3 0) (fun J14 => zlet (z_up J14 x0 4 0) (fun J15 => zlet (z_up J15 x0 5 4) (fun J16 => zlet (z_up J16 x0 6 0) (fun J17 => zlet (z_up J17 x0 7 0) (fun J18 => zlet (z_up J18 x0 8 0) (fun J19 => zlet (z_up J19 x0 9 0) (fun J20 => some (S13, J20))))))))))))))))))
set_option maxRecDepth 100000 in
set_option maxHeartbeats 4000000 in
theorem c_X5_init {l : Launch} {D : zD} {b0 : Nat} {S : zS} {I : zI} {X : zS × zI} (F : Nat) (x0 : Nat) (h_x0 : z_is b0 S x0 5) (hz : z_X5_init F S I x0 = some X) : z_M l D b0 yX5_init cX5_init 1 none { frames := 2, cells := 5, slots := 65, locals := 60 } [.ref (x0)] S I none X.1 X.2 := by
  refine z_met (by decide) (Nat.le_of_ble_eq_true rfl) ?_
  intro p e s m below meth c hC hnm hT ls hl
  have hl : lv_has ls 1 [(0, .ref (x0))] := hl
  unfold z_X5_init at hz
  obtain ⟨S0, e_S0⟩ : ∃ z : zS, z = S := ⟨S, rfl⟩
  have hE : z_Ext S0 S := by rw [e_S0]; exact z_Ext.rf S
  refine z_aload_n hC dX5_init_0 rfl (lv_at hl 0 rfl) ?_
  refine z_objInit hC kw_46 kw_19 kw_20 dX5_init_1 hl.1 (by decide) (Nat.le_of_ble_eq_true rfl) ?_
  refine z_aload_n hC dX5_init_4 rfl (lv_at hl 0 rfl) ?_
  refine z_bipush (v := 40) hC dX5_init_5 (by decide) ?_
  refine z_anew (k := 12) (N := 40) hC (by decide) (by decide) kw_47 hC.2.2.2.2.2.2.2.2.2.1 dX5_init_7 (by decide) (by decide) (by decide) (by decide) (by decide) ?_
  obtain ⟨S1, e_S1, hz⟩ := zlet_some hz
  rw [← e_S1]
  obtain ⟨J2, e_J2, hz⟩ := zlet_some hz
  rw [← e_J2]
  have hb9 : b0 ≤ S.2.2 := Nat.le_of_lt (Nat.lt_of_le_of_lt h_x0.1 h_x0.2.1)
  have h_x0 : z_is b0 S1 (x0) 5 := by rw [e_S1]; exact h_x0.new
  have hn3 : z_is b0 S1 S.2.2 12 := by rw [e_S1]; exact z_is.fresh hb9 12 40
  have hT : z_T b0 S1 := by rw [e_S1]; exact hT.new _ _
  have hE : z_Ext S0 S1 := by rw [e_S1]; exact hE.new _ _
  have hT9 := hT.upR (x := S.2.2) (k := 0) h_x0 hn3
  have hE9 := hE.upR (a := x0) (k := 0) (x := some (S.2.2))
  refine z_putR hC zc_5 0 (by decide) kw_69 dX5_init_10 h_x0 rfl rfl hnm rfl rfl rfl ?_
  obtain ⟨S4, e_S4, hz⟩ := zlet_some hz
  rw [← e_S4]
  have hT : z_T b0 S4 := by rw [e_S4]; exact hT9
  have hE : z_Ext S0 S4 := by rw [e_S4]; exact hE9
  have h_x0 : z_is b0 S4 (x0) 5 := by rw [e_S4]; exact h_x0.upR
  have hn3 : z_is b0 S4 (S.2.2) 12 := by rw [e_S4]; exact hn3.upR
  refine z_aload_n hC dX5_init_13 rfl (lv_at hl 0 rfl) ?_
  refine z_iconst (v := 4) hC dX5_init_14 (by decide) ?_
  refine z_anew (k := 13) (N := 4) hC (by decide) (by decide) kw_49 hC.2.2.2.2.2.2.2.2.2.2.1 dX5_init_15 (by decide) (by decide) (by decide) (by decide) (by decide) ?_
  obtain ⟨S5, e_S5, hz⟩ := zlet_some hz
  rw [← e_S5]
  obtain ⟨J6, e_J6, hz⟩ := zlet_some hz
  rw [← e_J6]
  have hb9 : b0 ≤ S4.2.2 := Nat.le_of_lt (Nat.lt_of_le_of_lt h_x0.1 h_x0.2.1)
  have h_x0 : z_is b0 S5 (x0) 5 := by rw [e_S5]; exact h_x0.new
  have hn3 : z_is b0 S5 (S.2.2) 12 := by rw [e_S5]; exact hn3.new
  have hn7 : z_is b0 S5 S4.2.2 13 := by rw [e_S5]; exact z_is.fresh hb9 13 4
  have hT : z_T b0 S5 := by rw [e_S5]; exact hT.new _ _
  have hE : z_Ext S0 S5 := by rw [e_S5]; exact hE.new _ _
  have hT9 := hT.upR (x := S4.2.2) (k := 1) h_x0 hn7
  have hE9 := hE.upR (a := x0) (k := 1) (x := some (S4.2.2))
  refine z_putR hC zc_5 1 (by decide) kw_70 dX5_init_18 h_x0 rfl rfl hnm rfl rfl rfl ?_
  obtain ⟨S8, e_S8, hz⟩ := zlet_some hz
  rw [← e_S8]
  have hT : z_T b0 S8 := by rw [e_S8]; exact hT9
  have hE : z_Ext S0 S8 := by rw [e_S8]; exact hE9
  have h_x0 : z_is b0 S8 (x0) 5 := by rw [e_S8]; exact h_x0.upR
  have hn3 : z_is b0 S8 (S.2.2) 12 := by rw [e_S8]; exact hn3.upR
  have hn7 : z_is b0 S8 (S4.2.2) 13 := by rw [e_S8]; exact hn7.upR
  refine z_aload_n hC dX5_init_21 rfl (lv_at hl 0 rfl) ?_
  refine z_newc hC zc_6 kw_51 kw_52 kw_4 dX5_init_22 zdv_6 (by decide) (by decide) ?_
  obtain ⟨S9, e_S9, hz⟩ := zlet_some hz
  rw [← e_S9]
  obtain ⟨J10, e_J10, hz⟩ := zlet_some hz
  rw [← e_J10]
  have hb9 : b0 ≤ S8.2.2 := Nat.le_of_lt (Nat.lt_of_le_of_lt h_x0.1 h_x0.2.1)
  have h_x0 : z_is b0 S9 (x0) 5 := by rw [e_S9]; exact h_x0.new
  have hn3 : z_is b0 S9 (S.2.2) 12 := by rw [e_S9]; exact hn3.new
  have hn7 : z_is b0 S9 (S4.2.2) 13 := by rw [e_S9]; exact hn7.new
  have hn11 : z_is b0 S9 S8.2.2 6 := by rw [e_S9]; exact z_is.fresh hb9 6 0
  have hT : z_T b0 S9 := by rw [e_S9]; exact hT.new _ _
  have hE : z_Ext S0 S9 := by rw [e_S9]; exact hE.new _ _
  refine z_dup hC dX5_init_25 rfl ?_
  obtain ⟨q12, hq_q12, hz⟩ := ob_some hz
  refine z_callIN (As := []) hC hT (c_X6_init F (S8.2.2) hn11 hq_q12) zy_X6_init rfl kw_54 kn_1 dX5_init_26 rfl rfl hl.1 (Nat.le_of_ble_eq_true rfl) (by decide) (by decide) ?_
  have hx_q12 := xt_X6_init hT hn11 hq_q12
  have hT : z_T b0 q12.1 := hx_q12.1
  have hE : z_Ext S0 q12.1 := hE.trans hx_q12.2
  have h_x0 : z_is b0 q12.1 (x0) 5 := hx_q12.2.is h_x0
  have hn3 : z_is b0 q12.1 (S.2.2) 12 := hx_q12.2.is hn3
  have hn7 : z_is b0 q12.1 (S4.2.2) 13 := hx_q12.2.is hn7
  have hn11 : z_is b0 q12.1 (S8.2.2) 6 := hx_q12.2.is hn11
  have hT9 := hT.upR (x := S8.2.2) (k := 2) h_x0 hn11
  have hE9 := hE.upR (a := x0) (k := 2) (x := some (S8.2.2))
  refine z_putR hC zc_5 2 (by decide) kw_71 dX5_init_29 h_x0 rfl rfl hnm rfl rfl rfl ?_
  obtain ⟨S13, e_S13, hz⟩ := zlet_some hz
  rw [← e_S13]
  have hT : z_T b0 S13 := by rw [e_S13]; exact hT9
  have hE : z_Ext S0 S13 := by rw [e_S13]; exact hE9
  have h_x0 : z_is b0 S13 (x0) 5 := by rw [e_S13]; exact h_x0.upR
  have hn3 : z_is b0 S13 (S.2.2) 12 := by rw [e_S13]; exact hn3.upR
  have hn7 : z_is b0 S13 (S4.2.2) 13 := by rw [e_S13]; exact hn7.upR
  have hn11 : z_is b0 S13 (S8.2.2) 6 := by rw [e_S13]; exact hn11.upR
  refine z_aload_n hC dX5_init_32 rfl (lv_at hl 0 rfl) ?_
  refine z_iconst (v := 0) hC dX5_init_33 (by decide) ?_
  refine z_putI hC zc_5 3 (by decide) kw_75 dX5_init_34 h_x0 rfl rfl rfl rfl ?_
  obtain ⟨J14, e_J14, hz⟩ := zlet_some hz
  rw [← e_J14]
  refine z_aload_n hC dX5_init_37 rfl (lv_at hl 0 rfl) ?_
  refine z_iconst (v := 0) hC dX5_init_38 (by decide) ?_
  refine z_putI hC zc_5 4 (by decide) kw_78 dX5_init_39 h_x0 rfl rfl rfl rfl ?_
  obtain ⟨J15, e_J15, hz⟩ := zlet_some hz
  rw [← e_J15]
  refine z_aload_n hC dX5_init_42 rfl (lv_at hl 0 rfl) ?_
  refine z_iconst (v := 4) hC dX5_init_43 (by decide) ?_
  refine z_putI hC zc_5 5 (by decide) kw_82 dX5_init_44 h_x0 rfl rfl rfl rfl ?_
  obtain ⟨J16, e_J16, hz⟩ := zlet_some hz
  rw [← e_J16]
  refine z_aload_n hC dX5_init_47 rfl (lv_at hl 0 rfl) ?_
  refine z_iconst (v := 0) hC dX5_init_48 (by decide) ?_
  refine z_putI hC zc_5 6 (by decide) kw_84 dX5_init_49 h_x0 rfl rfl rfl rfl ?_
  obtain ⟨J17, e_J17, hz⟩ := zlet_some hz
  rw [← e_J17]
  refine z_aload_n hC dX5_init_52 rfl (lv_at hl 0 rfl) ?_
  refine z_iconst (v := 0) hC dX5_init_53 (by decide) ?_
  refine z_putI hC zc_5 7 (by decide) kw_85 dX5_init_54 h_x0 rfl rfl (z_bool (Or.inl rfl)) (z_boolf (Or.inl rfl)) ?_
  obtain ⟨J18, e_J18, hz⟩ := zlet_some hz
  rw [← e_J18]
  refine z_aload_n hC dX5_init_57 rfl (lv_at hl 0 rfl) ?_
  refine z_iconst (v := 0) hC dX5_init_58 (by decide) ?_
  refine z_putI hC zc_5 8 (by decide) kw_88 dX5_init_59 h_x0 rfl rfl rfl rfl ?_
  obtain ⟨J19, e_J19, hz⟩ := zlet_some hz
  rw [← e_J19]
  refine z_aload_n hC dX5_init_62 rfl (lv_at hl 0 rfl) ?_
  refine z_iconst (v := 0) hC dX5_init_63 (by decide) ?_
  refine z_putI hC zc_5 9 (by decide) kw_90 dX5_init_64 h_x0 rfl rfl rfl rfl ?_
  obtain ⟨J20, e_J20, hz⟩ := zlet_some hz
  rw [← e_J20]
  obtain rfl := Option.some.inj hz
  exact z_vret hC hT dX5_init_67 (by decide) (by decide)
set_option maxRecDepth 100000 in
set_option maxHeartbeats 4000000 in
theorem xt_X5_init {b0 : Nat} {S : zS} {I : zI} {F : Nat} {X : zS × zI} {x0 : Nat} (hT : z_T b0 S) (h_x0 : z_is b0 S x0 5) (hz : z_X5_init F S I x0 = some X) : z_T b0 (X.1) ∧ z_Ext S (X.1) := by
  unfold z_X5_init at hz
  have hE : z_Ext S S := z_Ext.rf S
  obtain ⟨S1, e_S1, hz⟩ := zlet_some hz
  obtain ⟨J2, e_J2, hz⟩ := zlet_some hz
  have hb9 : b0 ≤ S.2.2 := Nat.le_of_lt (Nat.lt_of_le_of_lt h_x0.1 h_x0.2.1)
  have h_x0 : z_is b0 S1 (x0) 5 := by rw [e_S1]; exact h_x0.new
  have hn3 : z_is b0 S1 S.2.2 12 := by rw [e_S1]; exact z_is.fresh hb9 12 40
  have hT : z_T b0 S1 := by rw [e_S1]; exact hT.new _ _
  have hE : z_Ext S S1 := by rw [e_S1]; exact hE.new _ _
  have hT9 := hT.upR (x := S.2.2) (k := 0) h_x0 hn3
  have hE9 := hE.upR (a := x0) (k := 0) (x := some (S.2.2))
  obtain ⟨S4, e_S4, hz⟩ := zlet_some hz
  have hT : z_T b0 S4 := by rw [e_S4]; exact hT9
  have hE : z_Ext S S4 := by rw [e_S4]; exact hE9
  have h_x0 : z_is b0 S4 (x0) 5 := by rw [e_S4]; exact h_x0.upR
  have hn3 : z_is b0 S4 (S.2.2) 12 := by rw [e_S4]; exact hn3.upR
  obtain ⟨S5, e_S5, hz⟩ := zlet_some hz
  obtain ⟨J6, e_J6, hz⟩ := zlet_some hz
  have hb9 : b0 ≤ S4.2.2 := Nat.le_of_lt (Nat.lt_of_le_of_lt h_x0.1 h_x0.2.1)
  have h_x0 : z_is b0 S5 (x0) 5 := by rw [e_S5]; exact h_x0.new
  have hn3 : z_is b0 S5 (S.2.2) 12 := by rw [e_S5]; exact hn3.new
  have hn7 : z_is b0 S5 S4.2.2 13 := by rw [e_S5]; exact z_is.fresh hb9 13 4
  have hT : z_T b0 S5 := by rw [e_S5]; exact hT.new _ _
  have hE : z_Ext S S5 := by rw [e_S5]; exact hE.new _ _
  have hT9 := hT.upR (x := S4.2.2) (k := 1) h_x0 hn7
  have hE9 := hE.upR (a := x0) (k := 1) (x := some (S4.2.2))
  obtain ⟨S8, e_S8, hz⟩ := zlet_some hz
  have hT : z_T b0 S8 := by rw [e_S8]; exact hT9
  have hE : z_Ext S S8 := by rw [e_S8]; exact hE9
  have h_x0 : z_is b0 S8 (x0) 5 := by rw [e_S8]; exact h_x0.upR
  have hn3 : z_is b0 S8 (S.2.2) 12 := by rw [e_S8]; exact hn3.upR
  have hn7 : z_is b0 S8 (S4.2.2) 13 := by rw [e_S8]; exact hn7.upR
  obtain ⟨S9, e_S9, hz⟩ := zlet_some hz
  obtain ⟨J10, e_J10, hz⟩ := zlet_some hz
  have hb9 : b0 ≤ S8.2.2 := Nat.le_of_lt (Nat.lt_of_le_of_lt h_x0.1 h_x0.2.1)
  have h_x0 : z_is b0 S9 (x0) 5 := by rw [e_S9]; exact h_x0.new
  have hn3 : z_is b0 S9 (S.2.2) 12 := by rw [e_S9]; exact hn3.new
  have hn7 : z_is b0 S9 (S4.2.2) 13 := by rw [e_S9]; exact hn7.new
  have hn11 : z_is b0 S9 S8.2.2 6 := by rw [e_S9]; exact z_is.fresh hb9 6 0
  have hT : z_T b0 S9 := by rw [e_S9]; exact hT.new _ _
  have hE : z_Ext S S9 := by rw [e_S9]; exact hE.new _ _
  obtain ⟨q12, hq_q12, hz⟩ := ob_some hz
  have hx_q12 := xt_X6_init hT hn11 hq_q12
  have hT : z_T b0 q12.1 := hx_q12.1
  have hE : z_Ext S q12.1 := hE.trans hx_q12.2
  have h_x0 : z_is b0 q12.1 (x0) 5 := hx_q12.2.is h_x0
  have hn3 : z_is b0 q12.1 (S.2.2) 12 := hx_q12.2.is hn3
  have hn7 : z_is b0 q12.1 (S4.2.2) 13 := hx_q12.2.is hn7
  have hn11 : z_is b0 q12.1 (S8.2.2) 6 := hx_q12.2.is hn11
  have hT9 := hT.upR (x := S8.2.2) (k := 2) h_x0 hn11
  have hE9 := hE.upR (a := x0) (k := 2) (x := some (S8.2.2))
  obtain ⟨S13, e_S13, hz⟩ := zlet_some hz
  have hT : z_T b0 S13 := by rw [e_S13]; exact hT9
  have hE : z_Ext S S13 := by rw [e_S13]; exact hE9
  have h_x0 : z_is b0 S13 (x0) 5 := by rw [e_S13]; exact h_x0.upR
  have hn3 : z_is b0 S13 (S.2.2) 12 := by rw [e_S13]; exact hn3.upR
  have hn7 : z_is b0 S13 (S4.2.2) 13 := by rw [e_S13]; exact hn7.upR
  have hn11 : z_is b0 S13 (S8.2.2) 6 := by rw [e_S13]; exact hn11.upR
  obtain ⟨J14, e_J14, hz⟩ := zlet_some hz
  obtain ⟨J15, e_J15, hz⟩ := zlet_some hz
  obtain ⟨J16, e_J16, hz⟩ := zlet_some hz
  obtain ⟨J17, e_J17, hz⟩ := zlet_some hz
  obtain ⟨J18, e_J18, hz⟩ := zlet_some hz
  obtain ⟨J19, e_J19, hz⟩ := zlet_some hz
  obtain ⟨J20, e_J20, hz⟩ := zlet_some hz
  obtain rfl := Option.some.inj hz
  exact ⟨hT, hE⟩
theorem zy_X7_init : z_y yX7_init cX7_init 2 none 1 := ⟨kw_117, kw_5, by decide +kernel, by decide +kernel, by decide +kernel⟩
def z_X7_init (F : Nat) (S : zS) (I : zI) (x0 : Nat) (x1 : Nat) : Option (zS × zI) :=
  zlet (z_upR S x0 0 (some x1)) (fun S1 => some (S1, I))
set_option maxRecDepth 100000 in
set_option maxHeartbeats 4000000 in
theorem c_X7_init {l : Launch} {D : zD} {b0 : Nat} {S : zS} {I : zI} {X : zS × zI} (F : Nat) (x0 : Nat) (x1 : Nat) (h_x0 : z_is b0 S x0 7) (h_x1 : z_is b0 S x1 1) (hz : z_X7_init F S I x0 x1 = some X) : z_M l D b0 yX7_init cX7_init 2 none { frames := 1, cells := 0, slots := 0, locals := 40 } [.ref (x0), .ref (x1)] S I none X.1 X.2 := by
  refine z_met (by decide) (Nat.le_of_ble_eq_true rfl) ?_
  intro p e s m below meth c hC hnm hT ls hl
  have hl : lv_has ls 2 [(0, .ref (x0)), (1, .ref (x1))] := hl
  unfold z_X7_init at hz
  obtain ⟨S0, e_S0⟩ : ∃ z : zS, z = S := ⟨S, rfl⟩
  have hE : z_Ext S0 S := by rw [e_S0]; exact z_Ext.rf S
  refine z_aload_n hC dX7_init_0 rfl (lv_at hl 0 rfl) ?_
  refine z_objInit hC kw_118 kw_19 kw_20 dX7_init_1 hl.1 (by decide) (Nat.le_of_ble_eq_true rfl) ?_
  refine z_aload_n hC dX7_init_4 rfl (lv_at hl 0 rfl) ?_
  refine z_aload_n hC dX7_init_5 rfl (lv_at hl 1 rfl) ?_
  have hT9 := hT.upR (x := x1) (k := 0) h_x0 h_x1
  have hE9 := hE.upR (a := x0) (k := 0) (x := some (x1))
  refine z_putR hC zc_7 0 (by decide) kw_119 dX7_init_6 h_x0 rfl rfl hnm rfl rfl rfl ?_
  obtain ⟨S1, e_S1, hz⟩ := zlet_some hz
  rw [← e_S1]
  have hT : z_T b0 S1 := by rw [e_S1]; exact hT9
  have hE : z_Ext S0 S1 := by rw [e_S1]; exact hE9
  have h_x0 : z_is b0 S1 (x0) 7 := by rw [e_S1]; exact h_x0.upR
  have h_x1 : z_is b0 S1 (x1) 1 := by rw [e_S1]; exact h_x1.upR
  obtain rfl := Option.some.inj hz
  exact z_vret hC hT dX7_init_9 (by decide) (by decide)
set_option maxRecDepth 100000 in
set_option maxHeartbeats 4000000 in
theorem xt_X7_init {b0 : Nat} {S : zS} {I : zI} {F : Nat} {X : zS × zI} {x0 : Nat} {x1 : Nat} (hT : z_T b0 S) (h_x0 : z_is b0 S x0 7) (h_x1 : z_is b0 S x1 1) (hz : z_X7_init F S I x0 x1 = some X) : z_T b0 (X.1) ∧ z_Ext S (X.1) := by
  unfold z_X7_init at hz
  have hE : z_Ext S S := z_Ext.rf S
  have hT9 := hT.upR (x := x1) (k := 0) h_x0 h_x1
  have hE9 := hE.upR (a := x0) (k := 0) (x := some (x1))
  obtain ⟨S1, e_S1, hz⟩ := zlet_some hz
  have hT : z_T b0 S1 := by rw [e_S1]; exact hT9
  have hE : z_Ext S S1 := by rw [e_S1]; exact hE9
  have h_x0 : z_is b0 S1 (x0) 7 := by rw [e_S1]; exact h_x0.upR
  have h_x1 : z_is b0 S1 (x1) 1 := by rw [e_S1]; exact h_x1.upR
  obtain rfl := Option.some.inj hz
  exact ⟨hT, hE⟩
