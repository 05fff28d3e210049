theorem zy_X8_init : z_y yX8_init cX8_init 2 none 0 := ⟨kw_17, kw_1, by decide +kernel, by decide +kernel, by decide +kernel⟩
def z_X8_init (F : Nat) (S : zS) (I : zI) (x0 : Nat) : Option (zS × zI) :=
  zlet (z_new S 1 0) (fun S1 => zlet (z_newI S I) (fun J2 => ob (z_X1_init F S1 J2 (S.2.2)) (fun q4 => zlet (z_upR q4.1 x0 0 (some (S.2.2))) (fun S5 => zlet (z_new S5 14 8) (fun S6 => zlet (z_newI S5 (q4.2)) (fun J7 => zlet (z_upR S6 x0 1 (some (S5.2.2))) (fun S9 => ob (S9.1 x0 1) (fun r10 => zlet (z_new S9 5 0) (fun S11 => zlet (z_newI S9 J7) (fun J12 => ob (z_X5_init F S11 J12 (S9.2.2)) (fun q14 => if (0 : Int32) < 0 ∨ (q14.1.2.1 r10).2 ≤ (0 : Int32).toNatClampNeg then none else (zlet (z_upR q14.1 r10 (0 : Int32).toNatClampNeg (some (S9.2.2))) (fun S16 => ob (S16.1 x0 1) (fun r17 => zlet (z_new S16 5 0) (fun S18 => zlet (z_newI S16 (q14.2)) (fun J19 => ob (z_X5_init F S18 J19 (S16.2.2)) (fun q21 => if (1 : Int32) < 0 ∨ (q21.1.2.1 r17).2 ≤ (1 : Int32).toNatClampNeg then none else (zlet (z_upR q21.1 r17 (1 : Int32).toNatClampNeg (some (S16.2.2))) (fun S23 => ob (S23.1 x0 1) (fun r24 => zlet (z_new S23 5 0) (fun S25 => zlet (z_newI S23 (q21.2)) (fun J26 => ob (z_X5_init F S25 J26 (S23.2.2)) (fun q28 => if (2 : Int32) < 0 ∨ (q28.1.2.1 r24).2 ≤ (2 : Int32).toNatClampNeg then none else (zlet (z_upR q28.1 r24 (2 : Int32).toNatClampNeg (some (S23.2.2))) (fun S30 => ob (S30.1 x0 1) (fun r31 => zlet (z_new S30 5 0) (fun S32 => zlet (z_newI S30 (q28.2)) (fun J33 => ob (z_X5_init F S32 J33 (S30.2.2)) (fun q35 => if (3 : Int32) < 0 ∨ (q35.1.2.1 r31).2 ≤ (3 : Int32).toNatClampNeg then none else (zlet (z_upR q35.1 r31 (3 : Int32).toNatClampNeg (some (S30.2.2))) (fun S37 => ob (S37.1 x0 1) (fun r38 => zlet (z_new S37 5 0) (fun S39 => zlet (z_newI S37 (q35.2)) (fun J40 => ob (z_X5_init F S39 J40 (S37.2.2)) (fun q42 => if (4 : Int32) < 0 ∨ (q42.1.2.1 r38).2 ≤ (4 : Int32).toNatClampNeg then none else (zlet (z_upR q42.1 r38 (4 : Int32).toNatClampNeg (some (S37.2.2))) (fun S44 => ob (S44.1 x0 1) (fun r45 => zlet (z_new S44 5 0) (fun S46 => zlet (z_newI S44 (q42.2)) (fun J47 => ob (z_X5_init F S46 J47 (S44.2.2)) (fun q49 => if (5 : Int32) < 0 ∨ (q49.1.2.1 r45).2 ≤ (5 : Int32).toNatClampNeg then none else (zlet (z_upR q49.1 r45 (5 : Int32).toNatClampNeg (some (S44.2.2))) (fun S51 => ob (S51.1 x0 1) (fun r52 => zlet (z_new S51 5 0) (fun S53 => zlet (z_newI S51 (q49.2)) (fun J54 => ob (z_X5_init F S53 J54 (S51.2.2)) (fun q56 => if (6 : Int32) < 0 ∨ (q56.1.2.1 r52).2 ≤ (6 : Int32).toNatClampNeg then none else (zlet (z_upR q56.1 r52 (6 : Int32).toNatClampNeg (some (S51.2.2))) (fun S58 => ob (S58.1 x0 1) (fun r59 => zlet (z_new S58 5 0) (fun S60 => zlet (z_newI S58 (q56.2)) (fun J61 => ob (z_X5_init F S60 J61 (S58.2.2)) (fun q63 => if (7 : Int32) < 0 ∨ (q63.1.2.1 r59).2 ≤ (7 : Int32).toNatClampNeg then none else (zlet (z_upR q63.1 r59 (7 : Int32).toNatClampNeg (some (S58.2.2))) (fun S65 => zlet (z_new S65 7 0) (fun S66 => zlet (z_newI S65 (q63.2)) (fun J67 => ob (S66.1 x0 0) (fun r69 => ob (z_X7_init F S66 J67 (S65.2.2) r69) (fun q70 => zlet (z_new q70.1 2 0) (fun S71 => zlet (z_newI q70.1 (q70.2)) (fun J72 => ob (S71.1 x0 0) (fun r74 => ob (z_X2_init F S71 J72 (q70.1.2.2) r74 (S65.2.2)) (fun q75 => zlet (z_upR q75.1 x0 2 (some (q70.1.2.2))) (fun S76 => zlet (z_new S76 4 0) (fun S77 => zlet (z_newI S76 (q75.2)) (fun J78 => ob (S77.1 x0 0) (fun r80 => ob (z_X4_init F S77 J78 (S76.2.2) r80 (S65.2.2)) (fun q81 => zlet (z_upR q81.1 x0 3 (some (S76.2.2))) (fun S82 => zlet (z_up (q81.2) x0 4 0) (fun J83 => some (S82, J83)))))))))))))))))))))))))))))))))))))))))))))))))))))))))))))))))))))))
set_option maxRecDepth 100000 in
set_option maxHeartbeats 4000000 in
theorem c_X8_init {l : Launch} {D : zD} {b0 : Nat} {S : zS} {I : zI} {X : zS × zI} (F : Nat) (x0 : Nat) (h_x0 : z_is b0 S x0 8) (hz : z_X8_init F S I x0 = some X) : z_M l D b0 yX8_init cX8_init 2 none { frames := 3, cells := 67, slots := 739, locals := 82 } [.ref (x0)] S I none X.1 X.2 := by
  refine z_met (by decide) (Nat.le_of_ble_eq_true rfl) ?_
  intro p e s m below meth c hC hnm hT ls hl
  have hl : lv_has ls 2 [(0, .ref (x0))] := hl
  unfold z_X8_init at hz
  obtain ⟨S0, e_S0⟩ : ∃ z : zS, z = S := ⟨S, rfl⟩
  have hE : z_Ext S0 S := by rw [e_S0]; exact z_Ext.rf S
  refine z_aload_n hC dX8_init_0 rfl (lv_at hl 0 rfl) ?_
  refine z_objInit hC kw_18 kw_19 kw_20 dX8_init_1 hl.1 (by decide) (Nat.le_of_ble_eq_true rfl) ?_
  refine z_aload_n hC dX8_init_4 rfl (lv_at hl 0 rfl) ?_
  refine z_newc hC zc_1 kw_21 kw_22 kw_2 dX8_init_5 zdv_1 (by decide) (by decide) ?_
  obtain ⟨S1, e_S1, hz⟩ := zlet_some hz
  rw [← e_S1]
  obtain ⟨J2, e_J2, hz⟩ := zlet_some hz
  rw [← e_J2]
  have hb9 : b0 ≤ S.2.2 := Nat.le_of_lt (Nat.lt_of_le_of_lt h_x0.1 h_x0.2.1)
  have h_x0 : z_is b0 S1 (x0) 8 := by rw [e_S1]; exact h_x0.new
  have hn3 : z_is b0 S1 S.2.2 1 := by rw [e_S1]; exact z_is.fresh hb9 1 0
  have hT : z_T b0 S1 := by rw [e_S1]; exact hT.new _ _
  have hE : z_Ext S0 S1 := by rw [e_S1]; exact hE.new _ _
  refine z_dup hC dX8_init_8 rfl ?_
  obtain ⟨q4, hq_q4, hz⟩ := ob_some hz
  refine z_callI (As := []) hC hT (c_X1_init F (S.2.2) hn3 hq_q4) zy_X1_init rfl kw_24 kw_23 dX8_init_9 rfl rfl hl.1 (Nat.le_of_ble_eq_true rfl) (by decide) (by decide) ?_
  have hx_q4 := xt_X1_init hT hn3 hq_q4
  have hT : z_T b0 q4.1 := hx_q4.1
  have hE : z_Ext S0 q4.1 := hE.trans hx_q4.2
  have h_x0 : z_is b0 q4.1 (x0) 8 := hx_q4.2.is h_x0
  have hn3 : z_is b0 q4.1 (S.2.2) 1 := hx_q4.2.is hn3
  have hT9 := hT.upR (x := S.2.2) (k := 0) h_x0 hn3
  have hE9 := hE.upR (a := x0) (k := 0) (x := some (S.2.2))
  refine z_putR hC zc_8 0 (by decide) kw_176 dX8_init_12 h_x0 rfl rfl hnm rfl rfl rfl ?_
  obtain ⟨S5, e_S5, hz⟩ := zlet_some hz
  rw [← e_S5]
  have hT : z_T b0 S5 := by rw [e_S5]; exact hT9
  have hE : z_Ext S0 S5 := by rw [e_S5]; exact hE9
  have h_x0 : z_is b0 S5 (x0) 8 := by rw [e_S5]; exact h_x0.upR
  have hn3 : z_is b0 S5 (S.2.2) 1 := by rw [e_S5]; exact hn3.upR
  refine z_aload_n hC dX8_init_15 rfl (lv_at hl 0 rfl) ?_
  refine z_bipush (v := 8) hC dX8_init_16 (by decide) ?_
  refine z_anew (k := 14) (N := 8) hC (by decide) (by decide) kw_40 hC.2.2.2.2.2.2.2.2.2.2.2 dX8_init_18 (by decide) (by decide) (by decide) (by decide) (by decide) ?_
  obtain ⟨S6, e_S6, hz⟩ := zlet_some hz
  rw [← e_S6]
  obtain ⟨J7, e_J7, hz⟩ := zlet_some hz
  rw [← e_J7]
  have hb9 : b0 ≤ S5.2.2 := Nat.le_of_lt (Nat.lt_of_le_of_lt h_x0.1 h_x0.2.1)
  have h_x0 : z_is b0 S6 (x0) 8 := by rw [e_S6]; exact h_x0.new
  have hn3 : z_is b0 S6 (S.2.2) 1 := by rw [e_S6]; exact hn3.new
  have hn8 : z_is b0 S6 S5.2.2 14 := by rw [e_S6]; exact z_is.fresh hb9 14 8
  have hT : z_T b0 S6 := by rw [e_S6]; exact hT.new _ _
  have hE : z_Ext S0 S6 := by rw [e_S6]; exact hE.new _ _
  have hT9 := hT.upR (x := S5.2.2) (k := 1) h_x0 hn8
  have hE9 := hE.upR (a := x0) (k := 1) (x := some (S5.2.2))
  refine z_putR hC zc_8 1 (by decide) kw_177 dX8_init_21 h_x0 rfl rfl hnm rfl rfl rfl ?_
  obtain ⟨S9, e_S9, hz⟩ := zlet_some hz
  rw [← e_S9]
  have hT : z_T b0 S9 := by rw [e_S9]; exact hT9
  have hE : z_Ext S0 S9 := by rw [e_S9]; exact hE9
  have h_x0 : z_is b0 S9 (x0) 8 := by rw [e_S9]; exact h_x0.upR
  have hn3 : z_is b0 S9 (S.2.2) 1 := by rw [e_S9]; exact hn3.upR
  have hn8 : z_is b0 S9 (S5.2.2) 14 := by rw [e_S9]; exact hn8.upR
  refine z_iconst (v := 0) hC dX8_init_24 (by decide) ?_
  refine z_istore_n (lv' := [(1, .int (0)), (0, .ref (x0))]) hC dX8_init_25 rfl hl (by decide) rfl (fun ls hl => ?_)
  refine z_iload_n hC dX8_init_26 rfl (lv_at hl 0 rfl) ?_
  refine z_bipush (v := 8) hC dX8_init_27 (by decide) ?_
  refine z_icmp_ge (tgt := 51) hC dX8_init_29 (by decide) (ite_t (c := (0 : Int32) < 8) (B := none) (by decide) hz) (fun h9 => by cases h9) (fun hz => ?_)
  refine z_aload_n hC dX8_init_32 rfl (lv_at hl 1 rfl) ?_
  obtain ⟨r10, hr_r10, hz⟩ := ob_some hz
  have hk_r10 : z_is b0 S9 r10 14 := hT.at h_x0 hr_r10
  refine z_getR hC zc_8 1 (by decide) kw_177 dX8_init_33 h_x0 rfl hr_r10 ?_
  refine z_iload_n hC dX8_init_36 rfl (lv_at hl 0 rfl) ?_
  refine z_newc hC zc_5 kw_40 kw_42 kw_3 dX8_init_37 zdv_5 (by decide) (by decide) ?_
  obtain ⟨S11, e_S11, hz⟩ := zlet_some hz
  rw [← e_S11]
  obtain ⟨J12, e_J12, hz⟩ := zlet_some hz
  rw [← e_J12]
  have hb9 : b0 ≤ S9.2.2 := Nat.le_of_lt (Nat.lt_of_le_of_lt h_x0.1 h_x0.2.1)
  have h_x0 : z_is b0 S11 (x0) 8 := by rw [e_S11]; exact h_x0.new
  have hn3 : z_is b0 S11 (S.2.2) 1 := by rw [e_S11]; exact hn3.new
  have hn8 : z_is b0 S11 (S5.2.2) 14 := by rw [e_S11]; exact hn8.new
  have hk_r10 : z_is b0 S11 (r10) 14 := by rw [e_S11]; exact hk_r10.new
  have hn13 : z_is b0 S11 S9.2.2 5 := by rw [e_S11]; exact z_is.fresh hb9 5 0
  have hT : z_T b0 S11 := by rw [e_S11]; exact hT.new _ _
  have hE : z_Ext S0 S11 := by rw [e_S11]; exact hE.new _ _
  refine z_dup hC dX8_init_40 rfl ?_
  obtain ⟨q14, hq_q14, hz⟩ := ob_some hz
  refine z_callIN (As := []) hC hT (c_X5_init F (S9.2.2) hn13 hq_q14) zy_X5_init rfl kw_44 kn_0 dX8_init_41 rfl rfl hl.1 (Nat.le_of_ble_eq_true rfl) (by decide) (by decide) ?_
  have hx_q14 := xt_X5_init hT hn13 hq_q14
  have hT : z_T b0 q14.1 := hx_q14.1
  have hE : z_Ext S0 q14.1 := hE.trans hx_q14.2
  have h_x0 : z_is b0 q14.1 (x0) 8 := hx_q14.2.is h_x0
  have hn3 : z_is b0 q14.1 (S.2.2) 1 := hx_q14.2.is hn3
  have hn8 : z_is b0 q14.1 (S5.2.2) 14 := hx_q14.2.is hn8
  have hk_r10 : z_is b0 q14.1 (r10) 14 := hx_q14.2.is hk_r10
  have hn13 : z_is b0 q14.1 (S9.2.2) 5 := hx_q14.2.is hn13
  obtain ⟨hi15, hz⟩ := ifn_some hz
  have hT9 := hT.upR (x := S9.2.2) (k := (0 : Int32).toNatClampNeg) hk_r10 hn13
  have hE9 := hE.upR (a := r10) (k := (0 : Int32).toNatClampNeg) (x := some (S9.2.2))
  refine z_aast hC dX8_init_44 hk_r10 (by decide) (by decide) zc_5 rfl hn13 hi15 ?_
  obtain ⟨S16, e_S16, hz⟩ := zlet_some hz
  rw [← e_S16]
  have hT : z_T b0 S16 := by rw [e_S16]; exact hT9
  have hE : z_Ext S0 S16 := by rw [e_S16]; exact hE9
  have h_x0 : z_is b0 S16 (x0) 8 := by rw [e_S16]; exact h_x0.upR
  have hn3 : z_is b0 S16 (S.2.2) 1 := by rw [e_S16]; exact hn3.upR
  have hn8 : z_is b0 S16 (S5.2.2) 14 := by rw [e_S16]; exact hn8.upR
  have hk_r10 : z_is b0 S16 (r10) 14 := by rw [e_S16]; exact hk_r10.upR
  have hn13 : z_is b0 S16 (S9.2.2) 5 := by rw [e_S16]; exact hn13.upR
  refine z_iinc (k0 := 0) (v := 1) (lv' := [(1, .int (1)), (0, .ref (x0))]) hC dX8_init_45 hl rfl rfl (by decide) rfl (fun ls hl => ?_)
  refine z_goto (tgt := 26) hC dX8_init_48 (by decide) ?_
  refine z_iload_n hC dX8_init_26 rfl (lv_at hl 0 rfl) ?_
  refine z_bipush (v := 8) hC dX8_init_27 (by decide) ?_
  refine z_icmp_ge (tgt := 51) hC dX8_init_29 (by decide) (ite_t (c := (1 : Int32) < 8) (B := none) (by decide) hz) (fun h9 => by cases h9) (fun hz => ?_)
  refine z_aload_n hC dX8_init_32 rfl (lv_at hl 1 rfl) ?_
  obtain ⟨r17, hr_r17, hz⟩ := ob_some hz
  have hk_r17 : z_is b0 S16 r17 14 := hT.at h_x0 hr_r17
  refine z_getR hC zc_8 1 (by decide) kw_177 dX8_init_33 h_x0 rfl hr_r17 ?_
  refine z_iload_n hC dX8_init_36 rfl (lv_at hl 0 rfl) ?_
  refine z_newc hC zc_5 kw_40 kw_42 kw_3 dX8_init_37 zdv_5 (by decide) (by decide) ?_
  obtain ⟨S18, e_S18, hz⟩ := zlet_some hz
  rw [← e_S18]
  obtain ⟨J19, e_J19, hz⟩ := zlet_some hz
  rw [← e_J19]
  have hb9 : b0 ≤ S16.2.2 := Nat.le_of_lt (Nat.lt_of_le_of_lt h_x0.1 h_x0.2.1)
  have h_x0 : z_is b0 S18 (x0) 8 := by rw [e_S18]; exact h_x0.new
  have hn3 : z_is b0 S18 (S.2.2) 1 := by rw [e_S18]; exact hn3.new
  have hn8 : z_is b0 S18 (S5.2.2) 14 := by rw [e_S18]; exact hn8.new
  have hk_r10 : z_is b0 S18 (r10) 14 := by rw [e_S18]; exact hk_r10.new
  have hn13 : z_is b0 S18 (S9.2.2) 5 := by rw [e_S18]; exact hn13.new
  have hk_r17 : z_is b0 S18 (r17) 14 := by rw [e_S18]; exact hk_r17.new
  have hn20 : z_is b0 S18 S16.2.2 5 := by rw [e_S18]; exact z_is.fresh hb9 5 0
  have hT : z_T b0 S18 := by rw [e_S18]; exact hT.new _ _
  have hE : z_Ext S0 S18 := by rw [e_S18]; exact hE.new _ _
  refine z_dup hC dX8_init_40 rfl ?_
  obtain ⟨q21, hq_q21, hz⟩ := ob_some hz
  refine z_callIN (As := []) hC hT (c_X5_init F (S16.2.2) hn20 hq_q21) zy_X5_init rfl kw_44 kn_0 dX8_init_41 rfl rfl hl.1 (Nat.le_of_ble_eq_true rfl) (by decide) (by decide) ?_
  have hx_q21 := xt_X5_init hT hn20 hq_q21
  have hT : z_T b0 q21.1 := hx_q21.1
  have hE : z_Ext S0 q21.1 := hE.trans hx_q21.2
  have h_x0 : z_is b0 q21.1 (x0) 8 := hx_q21.2.is h_x0
  have hn3 : z_is b0 q21.1 (S.2.2) 1 := hx_q21.2.is hn3
  have hn8 : z_is b0 q21.1 (S5.2.2) 14 := hx_q21.2.is hn8
  have hk_r10 : z_is b0 q21.1 (r10) 14 := hx_q21.2.is hk_r10
  have hn13 : z_is b0 q21.1 (S9.2.2) 5 := hx_q21.2.is hn13
  have hk_r17 : z_is b0 q21.1 (r17) 14 := hx_q21.2.is hk_r17
  have hn20 : z_is b0 q21.1 (S16.2.2) 5 := hx_q21.2.is hn20
  obtain ⟨hi22, hz⟩ := ifn_some hz
  have hT9 := hT.upR (x := S16.2.2) (k := (1 : Int32).toNatClampNeg) hk_r17 hn20
  have hE9 := hE.upR (a := r17) (k := (1 : Int32).toNatClampNeg) (x := some (S16.2.2))
  refine z_aast hC dX8_init_44 hk_r17 (by decide) (by decide) zc_5 rfl hn20 hi22 ?_
  obtain ⟨S23, e_S23, hz⟩ := zlet_some hz
  rw [← e_S23]
  have hT : z_T b0 S23 := by rw [e_S23]; exact hT9
  have hE : z_Ext S0 S23 := by rw [e_S23]; exact hE9
  have h_x0 : z_is b0 S23 (x0) 8 := by rw [e_S23]; exact h_x0.upR
  have hn3 : z_is b0 S23 (S.2.2) 1 := by rw [e_S23]; exact hn3.upR
  have hn8 : z_is b0 S23 (S5.2.2) 14 := by rw [e_S23]; exact hn8.upR
  have hk_r10 : z_is b0 S23 (r10) 14 := by rw [e_S23]; exact hk_r10.upR
  have hn13 : z_is b0 S23 (S9.2.2) 5 := by rw [e_S23]; exact hn13.upR
  have hk_r17 : z_is b0 S23 (r17) 14 := by rw [e_S23]; exact hk_r17.upR
  have hn20 : z_is b0 S23 (S16.2.2) 5 := by rw [e_S23]; exact hn20.upR
  refine z_iinc (k0 := 0) (v := 2) (lv' := [(1, .int (2)), (0, .ref (x0))]) hC dX8_init_45 hl rfl rfl (by decide) rfl (fun ls hl => ?_)
  refine z_goto (tgt := 26) hC dX8_init_48 (by decide) ?_
  refine z_iload_n hC dX8_init_26 rfl (lv_at hl 0 rfl) ?_
  refine z_bipush (v := 8) hC dX8_init_27 (by decide) ?_
  refine z_icmp_ge (tgt := 51) hC dX8_init_29 (by decide) (ite_t (c := (2 : Int32) < 8) (B := none) (by decide) hz) (fun h9 => by cases h9) (fun hz => ?_)
  refine z_aload_n hC dX8_init_32 rfl (lv_at hl 1 rfl) ?_
  obtain ⟨r24, hr_r24, hz⟩ := ob_some hz
  have hk_r24 : z_is b0 S23 r24 14 := hT.at h_x0 hr_r24
  refine z_getR hC zc_8 1 (by decide) kw_177 dX8_init_33 h_x0 rfl hr_r24 ?_
  refine z_iload_n hC dX8_init_36 rfl (lv_at hl 0 rfl) ?_
  refine z_newc hC zc_5 kw_40 kw_42 kw_3 dX8_init_37 zdv_5 (by decide) (by decide) ?_
  obtain ⟨S25, e_S25, hz⟩ := zlet_some hz
  rw [← e_S25]
  obtain ⟨J26, e_J26, hz⟩ := zlet_some hz
  rw [← e_J26]
  have hb9 : b0 ≤ S23.2.2 := Nat.le_of_lt (Nat.lt_of_le_of_lt h_x0.1 h_x0.2.1)
  have h_x0 : z_is b0 S25 (x0) 8 := by rw [e_S25]; exact h_x0.new
  have hn3 : z_is b0 S25 (S.2.2) 1 := by rw [e_S25]; exact hn3.new
  have hn8 : z_is b0 S25 (S5.2.2) 14 := by rw [e_S25]; exact hn8.new
  have hk_r10 : z_is b0 S25 (r10) 14 := by rw [e_S25]; exact hk_r10.new
  have hn13 : z_is b0 S25 (S9.2.2) 5 := by rw [e_S25]; exact hn13.new
  have hk_r17 : z_is b0 S25 (r17) 14 := by rw [e_S25]; exact hk_r17.new
  have hn20 : z_is b0 S25 (S16.2.2) 5 := by rw [e_S25]; exact hn20.new
  have hk_r24 : z_is b0 S25 (r24) 14 := by rw [e_S25]; exact hk_r24.new
  have hn27 : z_is b0 S25 S23.2.2 5 := by rw [e_S25]; exact z_is.fresh hb9 5 0
  have hT : z_T b0 S25 := by rw [e_S25]; exact hT.new _ _
  have hE : z_Ext S0 S25 := by rw [e_S25]; exact hE.new _ _
  refine z_dup hC dX8_init_40 rfl ?_
  obtain ⟨q28, hq_q28, hz⟩ := ob_some hz
  refine z_callIN (As := []) hC hT (c_X5_init F (S23.2.2) hn27 hq_q28) zy_X5_init rfl kw_44 kn_0 dX8_init_41 rfl rfl hl.1 (Nat.le_of_ble_eq_true rfl) (by decide) (by decide) ?_
  have hx_q28 := xt_X5_init hT hn27 hq_q28
  have hT : z_T b0 q28.1 := hx_q28.1
  have hE : z_Ext S0 q28.1 := hE.trans hx_q28.2
  have h_x0 : z_is b0 q28.1 (x0) 8 := hx_q28.2.is h_x0
  have hn3 : z_is b0 q28.1 (S.2.2) 1 := hx_q28.2.is hn3
  have hn8 : z_is b0 q28.1 (S5.2.2) 14 := hx_q28.2.is hn8
  have hk_r10 : z_is b0 q28.1 (r10) 14 := hx_q28.2.is hk_r10
  have hn13 : z_is b0 q28.1 (S9.2.2) 5 := hx_q28.2.is hn13
  have hk_r17 : z_is b0 q28.1 (r17) 14 := hx_q28.2.is hk_r17
  have hn20 : z_is b0 q28.1 (S16.2.2) 5 := hx_q28.2.is hn20
  have hk_r24 : z_is b0 q28.1 (r24) 14 := hx_q28.2.is hk_r24
  have hn27 : z_is b0 q28.1 (S23.2.2) 5 := hx_q28.2.is hn27
  obtain ⟨hi29, hz⟩ := ifn_some hz
  have hT9 := hT.upR (x := S23.2.2) (k := (2 : Int32).toNatClampNeg) hk_r24 hn27
  have hE9 := hE.upR (a := r24) (k := (2 : Int32).toNatClampNeg) (x := some (S23.2.2))
  refine z_aast hC dX8_init_44 hk_r24 (by decide) (by decide) zc_5 rfl hn27 hi29 ?_
  obtain ⟨S30, e_S30, hz⟩ := zlet_some hz
  rw [← e_S30]
  have hT : z_T b0 S30 := by rw [e_S30]; exact hT9
  have hE : z_Ext S0 S30 := by rw [e_S30]; exact hE9
  have h_x0 : z_is b0 S30 (x0) 8 := by rw [e_S30]; exact h_x0.upR
  have hn3 : z_is b0 S30 (S.2.2) 1 := by rw [e_S30]; exact hn3.upR
  have hn8 : z_is b0 S30 (S5.2.2) 14 := by rw [e_S30]; exact hn8.upR
  have hk_r10 : z_is b0 S30 (r10) 14 := by rw [e_S30]; exact hk_r10.upR
  have hn13 : z_is b0 S30 (S9.2.2) 5 := by rw [e_S30]; exact hn13.upR
  have hk_r17 : z_is b0 S30 (r17) 14 := by rw [e_S30]; exact hk_r17.upR
  have hn20 : z_is b0 S30 (S16.2.2) 5 := by rw [e_S30]; exact hn20.upR
  have hk_r24 : z_is b0 S30 (r24) 14 := by rw [e_S30]; exact hk_r24.upR
  have hn27 : z_is b0 S30 (S23.2.2) 5 := by rw [e_S30]; exact hn27.upR
  refine z_iinc (k0 := 0) (v := 3) (lv' := [(1, .int (3)), (0, .ref (x0))]) hC dX8_init_45 hl rfl rfl (by decide) rfl (fun ls hl => ?_)
  refine z_goto (tgt := 26) hC dX8_init_48 (by decide) ?_
  refine z_iload_n hC dX8_init_26 rfl (lv_at hl 0 rfl) ?_
  refine z_bipush (v := 8) hC dX8_init_27 (by decide) ?_
  refine z_icmp_ge (tgt := 51) hC dX8_init_29 (by decide) (ite_t (c := (3 : Int32) < 8) (B := none) (by decide) hz) (fun h9 => by cases h9) (fun hz => ?_)
  refine z_aload_n hC dX8_init_32 rfl (lv_at hl 1 rfl) ?_
  obtain ⟨r31, hr_r31, hz⟩ := ob_some hz
  have hk_r31 : z_is b0 S30 r31 14 := hT.at h_x0 hr_r31
  refine z_getR hC zc_8 1 (by decide) kw_177 dX8_init_33 h_x0 rfl hr_r31 ?_
  refine z_iload_n hC dX8_init_36 rfl (lv_at hl 0 rfl) ?_
  refine z_newc hC zc_5 kw_40 kw_42 kw_3 dX8_init_37 zdv_5 (by decide) (by decide) ?_
  obtain ⟨S32, e_S32, hz⟩ := zlet_some hz
  rw [← e_S32]
  obtain ⟨J33, e_J33, hz⟩ := zlet_some hz
  rw [← e_J33]
  have hb9 : b0 ≤ S30.2.2 := Nat.le_of_lt (Nat.lt_of_le_of_lt h_x0.1 h_x0.2.1)
  have h_x0 : z_is b0 S32 (x0) 8 := by rw [e_S32]; exact h_x0.new
  have hn3 : z_is b0 S32 (S.2.2) 1 := by rw [e_S32]; exact hn3.new
  have hn8 : z_is b0 S32 (S5.2.2) 14 := by rw [e_S32]; exact hn8.new
  have hk_r10 : z_is b0 S32 (r10) 14 := by rw [e_S32]; exact hk_r10.new
  have hn13 : z_is b0 S32 (S9.2.2) 5 := by rw [e_S32]; exact hn13.new
  have hk_r17 : z_is b0 S32 (r17) 14 := by rw [e_S32]; exact hk_r17.new
  have hn20 : z_is b0 S32 (S16.2.2) 5 := by rw [e_S32]; exact hn20.new
  have hk_r24 : z_is b0 S32 (r24) 14 := by rw [e_S32]; exact hk_r24.new
  have hn27 : z_is b0 S32 (S23.2.2) 5 := by rw [e_S32]; exact hn27.new
  have hk_r31 : z_is b0 S32 (r31) 14 := by rw [e_S32]; exact hk_r31.new
  have hn34 : z_is b0 S32 S30.2.2 5 := by rw [e_S32]; exact z_is.fresh hb9 5 0
  have hT : z_T b0 S32 := by rw [e_S32]; exact hT.new _ _
  have hE : z_Ext S0 S32 := by rw [e_S32]; exact hE.new _ _
  refine z_dup hC dX8_init_40 rfl ?_
  obtain ⟨q35, hq_q35, hz⟩ := ob_some hz
  refine z_callIN (As := []) hC hT (c_X5_init F (S30.2.2) hn34 hq_q35) zy_X5_init rfl kw_44 kn_0 dX8_init_41 rfl rfl hl.1 (Nat.le_of_ble_eq_true rfl) (by decide) (by decide) ?_
  have hx_q35 := xt_X5_init hT hn34 hq_q35
  have hT : z_T b0 q35.1 := hx_q35.1
  have hE : z_Ext S0 q35.1 := hE.trans hx_q35.2
  have h_x0 : z_is b0 q35.1 (x0) 8 := hx_q35.2.is h_x0
  have hn3 : z_is b0 q35.1 (S.2.2) 1 := hx_q35.2.is hn3
  have hn8 : z_is b0 q35.1 (S5.2.2) 14 := hx_q35.2.is hn8
  have hk_r10 : z_is b0 q35.1 (r10) 14 := hx_q35.2.is hk_r10
  have hn13 : z_is b0 q35.1 (S9.2.2) 5 := hx_q35.2.is hn13
  have hk_r17 : z_is b0 q35.1 (r17) 14 := hx_q35.2.is hk_r17
  have hn20 : z_is b0 q35.1 (S16.2.2) 5 := hx_q35.2.is hn20
  have hk_r24 : z_is b0 q35.1 (r24) 14 := hx_q35.2.is hk_r24
  have hn27 : z_is b0 q35.1 (S23.2.2) 5 := hx_q35.2.is hn27
  have hk_r31 : z_is b0 q35.1 (r31) 14 := hx_q35.2.is hk_r31
  have hn34 : z_is b0 q35.1 (S30.2.2) 5 := hx_q35.2.is hn34
  obtain ⟨hi36, hz⟩ := ifn_some hz
  have hT9 := hT.upR (x := S30.2.2) (k := (3 : Int32).toNatClampNeg) hk_r31 hn34
  have hE9 := hE.upR (a := r31) (k := (3 : Int32).toNatClampNeg) (x := some (S30.2.2))
  refine z_aast hC dX8_init_44 hk_r31 (by decide) (by decide) zc_5 rfl hn34 hi36 ?_
  obtain ⟨S37, e_S37, hz⟩ := zlet_some hz
  rw [← e_S37]
  have hT : z_T b0 S37 := by rw [e_S37]; exact hT9
  have hE : z_Ext S0 S37 := by rw [e_S37]; exact hE9
  have h_x0 : z_is b0 S37 (x0) 8 := by rw [e_S37]; exact h_x0.upR
  have hn3 : z_is b0 S37 (S.2.2) 1 := by rw [e_S37]; exact hn3.upR
  have hn8 : z_is b0 S37 (S5.2.2) 14 := by rw [e_S37]; exact hn8.upR
  have hk_r10 : z_is b0 S37 (r10) 14 := by rw [e_S37]; exact hk_r10.upR
  have hn13 : z_is b0 S37 (S9.2.2) 5 := by rw [e_S37]; exact hn13.upR
  have hk_r17 : z_is b0 S37 (r17) 14 := by rw [e_S37]; exact hk_r17.upR
  have hn20 : z_is b0 S37 (S16.2.2) 5 := by rw [e_S37]; exact hn20.upR
  have hk_r24 : z_is b0 S37 (r24) 14 := by rw [e_S37]; exact hk_r24.upR
  have hn27 : z_is b0 S37 (S23.2.2) 5 := by rw [e_S37]; exact hn27.upR
  have hk_r31 : z_is b0 S37 (r31) 14 := by rw [e_S37]; exact hk_r31.upR
  have hn34 : z_is b0 S37 (S30.2.2) 5 := by rw [e_S37]; exact hn34.upR
  refine z_iinc (k0 := 0) (v := 4) (lv' := [(1, .int (4)), (0, .ref (x0))]) hC dX8_init_45 hl rfl rfl (by decide) rfl (fun ls hl => ?_)
  refine z_goto (tgt := 26) hC dX8_init_48 (by decide) ?_
  refine z_iload_n hC dX8_init_26 rfl (lv_at hl 0 rfl) ?_
  refine z_bipush (v := 8) hC dX8_init_27 (by decide) ?_
  refine z_icmp_ge (tgt := 51) hC dX8_init_29 (by decide) (ite_t (c := (4 : Int32) < 8) (B := none) (by decide) hz) (fun h9 => by cases h9) (fun hz => ?_)
  refine z_aload_n hC dX8_init_32 rfl (lv_at hl 1 rfl) ?_
  obtain ⟨r38, hr_r38, hz⟩ := ob_some hz
  have hk_r38 : z_is b0 S37 r38 14 := hT.at h_x0 hr_r38
  refine z_getR hC zc_8 1 (by decide) kw_177 dX8_init_33 h_x0 rfl hr_r38 ?_
  refine z_iload_n hC dX8_init_36 rfl (lv_at hl 0 rfl) ?_
  refine z_newc hC zc_5 kw_40 kw_42 kw_3 dX8_init_37 zdv_5 (by decide) (by decide) ?_
  obtain ⟨S39, e_S39, hz⟩ := zlet_some hz
  rw [← e_S39]
  obtain ⟨J40, e_J40, hz⟩ := zlet_some hz
  rw [← e_J40]
  have hb9 : b0 ≤ S37.2.2 := Nat.le_of_lt (Nat.lt_of_le_of_lt h_x0.1 h_x0.2.1)
  have h_x0 : z_is b0 S39 (x0) 8 := by rw [e_S39]; exact h_x0.new
  have hn3 : z_is b0 S39 (S.2.2) 1 := by rw [e_S39]; exact hn3.new
  have hn8 : z_is b0 S39 (S5.2.2) 14 := by rw [e_S39]; exact hn8.new
  have hk_r10 : z_is b0 S39 (r10) 14 := by rw [e_S39]; exact hk_r10.new
  have hn13 : z_is b0 S39 (S9.2.2) 5 := by rw [e_S39]; exact hn13.new
  have hk_r17 : z_is b0 S39 (r17) 14 := by rw [e_S39]; exact hk_r17.new
  have hn20 : z_is b0 S39 (S16.2.2) 5 := by rw [e_S39]; exact hn20.new
  have hk_r24 : z_is b0 S39 (r24) 14 := by rw [e_S39]; exact hk_r24.new
  have hn27 : z_is b0 S39 (S23.2.2) 5 := by rw [e_S39]; exact hn27.new
  have hk_r31 : z_is b0 S39 (r31) 14 := by rw [e_S39]; exact hk_r31.new
  have hn34 : z_is b0 S39 (S30.2.2) 5 := by rw [e_S39]; exact hn34.new
  have hk_r38 : z_is b0 S39 (r38) 14 := by rw [e_S39]; exact hk_r38.new
  have hn41 : z_is b0 S39 S37.2.2 5 := by rw [e_S39]; exact z_is.fresh hb9 5 0
  have hT : z_T b0 S39 := by rw [e_S39]; exact hT.new _ _
  have hE : z_Ext S0 S39 := by rw [e_S39]; exact hE.new _ _
  refine z_dup hC dX8_init_40 rfl ?_
  obtain ⟨q42, hq_q42, hz⟩ := ob_some hz
  refine z_callIN (As := []) hC hT (c_X5_init F (S37.2.2) hn41 hq_q42) zy_X5_init rfl kw_44 kn_0 dX8_init_41 rfl rfl hl.1 (Nat.le_of_ble_eq_true rfl) (by decide) (by decide) ?_
  have hx_q42 := xt_X5_init hT hn41 hq_q42
  have hT : z_T b0 q42.1 := hx_q42.1
  have hE : z_Ext S0 q42.1 := hE.trans hx_q42.2
  have h_x0 : z_is b0 q42.1 (x0) 8 := hx_q42.2.is h_x0
  have hn3 : z_is b0 q42.1 (S.2.2) 1 := hx_q42.2.is hn3
  have hn8 : z_is b0 q42.1 (S5.2.2) 14 := hx_q42.2.is hn8
  have hk_r10 : z_is b0 q42.1 (r10) 14 := hx_q42.2.is hk_r10
  have hn13 : z_is b0 q42.1 (S9.2.2) 5 := hx_q42.2.is hn13
  have hk_r17 : z_is b0 q42.1 (r17) 14 := hx_q42.2.is hk_r17
  have hn20 : z_is b0 q42.1 (S16.2.2) 5 := hx_q42.2.is hn20
  have hk_r24 : z_is b0 q42.1 (r24) 14 := hx_q42.2.is hk_r24
  have hn27 : z_is b0 q42.1 (S23.2.2) 5 := hx_q42.2.is hn27
  have hk_r31 : z_is b0 q42.1 (r31) 14 := hx_q42.2.is hk_r31
  have hn34 : z_is b0 q42.1 (S30.2.2) 5 := hx_q42.2.is hn34
  have hk_r38 : z_is b0 q42.1 (r38) 14 := hx_q42.2.is hk_r38
  have hn41 : z_is b0 q42.1 (S37.2.2) 5 := hx_q42.2.is hn41
  obtain ⟨hi43, hz⟩ := ifn_some hz
  have hT9 := hT.upR (x := S37.2.2) (k := (4 : Int32).toNatClampNeg) hk_r38 hn41
  have hE9 := hE.upR (a := r38) (k := (4 : Int32).toNatClampNeg) (x := some (S37.2.2))
  refine z_aast hC dX8_init_44 hk_r38 (by decide) (by decide) zc_5 rfl hn41 hi43 ?_
  obtain ⟨S44, e_S44, hz⟩ := zlet_some hz
  rw [← e_S44]
  have hT : z_T b0 S44 := by rw [e_S44]; exact hT9
  have hE : z_Ext S0 S44 := by rw [e_S44]; exact hE9
  have h_x0 : z_is b0 S44 (x0) 8 := by rw [e_S44]; exact h_x0.upR
  have hn3 : z_is b0 S44 (S.2.2) 1 := by rw [e_S44]; exact hn3.upR
  have hn8 : z_is b0 S44 (S5.2.2) 14 := by rw [e_S44]; exact hn8.upR
  have hk_r10 : z_is b0 S44 (r10) 14 := by rw [e_S44]; exact hk_r10.upR
  have hn13 : z_is b0 S44 (S9.2.2) 5 := by rw [e_S44]; exact hn13.upR
  have hk_r17 : z_is b0 S44 (r17) 14 := by rw [e_S44]; exact hk_r17.upR
  have hn20 : z_is b0 S44 (S16.2.2) 5 := by rw [e_S44]; exact hn20.upR
  have hk_r24 : z_is b0 S44 (r24) 14 := by rw [e_S44]; exact hk_r24.upR
  have hn27 : z_is b0 S44 (S23.2.2) 5 := by rw [e_S44]; exact hn27.upR
  have hk_r31 : z_is b0 S44 (r31) 14 := by rw [e_S44]; exact hk_r31.upR
  have hn34 : z_is b0 S44 (S30.2.2) 5 := by rw [e_S44]; exact hn34.upR
  have hk_r38 : z_is b0 S44 (r38) 14 := by rw [e_S44]; exact hk_r38.upR
  have hn41 : z_is b0 S44 (S37.2.2) 5 := by rw [e_S44]; exact hn41.upR
  refine z_iinc (k0 := 0) (v := 5) (lv' := [(1, .int (5)), (0, .ref (x0))]) hC dX8_init_45 hl rfl rfl (by decide) rfl (fun ls hl => ?_)
  refine z_goto (tgt := 26) hC dX8_init_48 (by decide) ?_
  refine z_iload_n hC dX8_init_26 rfl (lv_at hl 0 rfl) ?_
  refine z_bipush (v := 8) hC dX8_init_27 (by decide) ?_
  refine z_icmp_ge (tgt := 51) hC dX8_init_29 (by decide) (ite_t (c := (5 : Int32) < 8) (B := none) (by decide) hz) (fun h9 => by cases h9) (fun hz => ?_)
  refine z_aload_n hC dX8_init_32 rfl (lv_at hl 1 rfl) ?_
  obtain ⟨r45, hr_r45, hz⟩ := ob_some hz
  have hk_r45 : z_is b0 S44 r45 14 := hT.at h_x0 hr_r45
  refine z_getR hC zc_8 1 (by decide) kw_177 dX8_init_33 h_x0 rfl hr_r45 ?_
  refine z_iload_n hC dX8_init_36 rfl (lv_at hl 0 rfl) ?_
  refine z_newc hC zc_5 kw_40 kw_42 kw_3 dX8_init_37 zdv_5 (by decide) (by decide) ?_
  obtain ⟨S46, e_S46, hz⟩ := zlet_some hz
  rw [← e_S46]
  obtain ⟨J47, e_J47, hz⟩ := zlet_some hz
  rw [← e_J47]
  have hb9 : b0 ≤ S44.2.2 := Nat.le_of_lt (Nat.lt_of_le_of_lt h_x0.1 h_x0.2.1)
  have h_x0 : z_is b0 S46 (x0) 8 := by rw [e_S46]; exact h_x0.new
  have hn3 : z_is b0 S46 (S.2.2) 1 := by rw [e_S46]; exact hn3.new
  have hn8 : z_is b0 S46 (S5.2.2) 14 := by rw [e_S46]; exact hn8.new
  have hk_r10 : z_is b0 S46 (r10) 14 := by rw [e_S46]; exact hk_r10.new
  have hn13 : z_is b0 S46 (S9.2.2) 5 := by rw [e_S46]; exact hn13.new
  have hk_r17 : z_is b0 S46 (r17) 14 := by rw [e_S46]; exact hk_r17.new
  have hn20 : z_is b0 S46 (S16.2.2) 5 := by rw [e_S46]; exact hn20.new
  have hk_r24 : z_is b0 S46 (r24) 14 := by rw [e_S46]; exact hk_r24.new
  have hn27 : z_is b0 S46 (S23.2.2) 5 := by rw [e_S46]; exact hn27.new
  have hk_r31 : z_is b0 S46 (r31) 14 := by rw [e_S46]; exact hk_r31.new
  have hn34 : z_is b0 S46 (S30.2.2) 5 := by rw [e_S46]; exact hn34.new
  have hk_r38 : z_is b0 S46 (r38) 14 := by rw [e_S46]; exact hk_r38.new
  have hn41 : z_is b0 S46 (S37.2.2) 5 := by rw [e_S46]; exact hn41.new
  have hk_r45 : z_is b0 S46 (r45) 14 := by rw [e_S46]; exact hk_r45.new
  have hn48 : z_is b0 S46 S44.2.2 5 := by rw [e_S46]; exact z_is.fresh hb9 5 0
  have hT : z_T b0 S46 := by rw [e_S46]; exact hT.new _ _
  have hE : z_Ext S0 S46 := by rw [e_S46]; exact hE.new _ _
  refine z_dup hC dX8_init_40 rfl ?_
  obtain ⟨q49, hq_q49, hz⟩ := ob_some hz
  refine z_callIN (As := []) hC hT (c_X5_init F (S44.2.2) hn48 hq_q49) zy_X5_init rfl kw_44 kn_0 dX8_init_41 rfl rfl hl.1 (Nat.le_of_ble_eq_true rfl) (by decide) (by decide) ?_
  have hx_q49 := xt_X5_init hT hn48 hq_q49
  have hT : z_T b0 q49.1 := hx_q49.1
  have hE : z_Ext S0 q49.1 := hE.trans hx_q49.2
  have h_x0 : z_is b0 q49.1 (x0) 8 := hx_q49.2.is h_x0
  have hn3 : z_is b0 q49.1 (S.2.2) 1 := hx_q49.2.is hn3
  have hn8 : z_is b0 q49.1 (S5.2.2) 14 := hx_q49.2.is hn8
  have hk_r10 : z_is b0 q49.1 (r10) 14 := hx_q49.2.is hk_r10
  have hn13 : z_is b0 q49.1 (S9.2.2) 5 := hx_q49.2.is hn13
  have hk_r17 : z_is b0 q49.1 (r17) 14 := hx_q49.2.is hk_r17
  have hn20 : z_is b0 q49.1 (S16.2.2) 5 := hx_q49.2.is hn20
  have hk_r24 : z_is b0 q49.1 (r24) 14 := hx_q49.2.is hk_r24
  have hn27 : z_is b0 q49.1 (S23.2.2) 5 := hx_q49.2.is hn27
  have hk_r31 : z_is b0 q49.1 (r31) 14 := hx_q49.2.is hk_r31
  have hn34 : z_is b0 q49.1 (S30.2.2) 5 := hx_q49.2.is hn34
  have hk_r38 : z_is b0 q49.1 (r38) 14 := hx_q49.2.is hk_r38
  have hn41 : z_is b0 q49.1 (S37.2.2) 5 := hx_q49.2.is hn41
  have hk_r45 : z_is b0 q49.1 (r45) 14 := hx_q49.2.is hk_r45
  have hn48 : z_is b0 q49.1 (S44.2.2) 5 := hx_q49.2.is hn48
  obtain ⟨hi50, hz⟩ := ifn_some hz
  have hT9 := hT.upR (x := S44.2.2) (k := (5 : Int32).toNatClampNeg) hk_r45 hn48
  have hE9 := hE.upR (a := r45) (k := (5 : Int32).toNatClampNeg) (x := some (S44.2.2))
  refine z_aast hC dX8_init_44 hk_r45 (by decide) (by decide) zc_5 rfl hn48 hi50 ?_
  obtain ⟨S51, e_S51, hz⟩ := zlet_some hz
  rw [← e_S51]
  have hT : z_T b0 S51 := by rw [e_S51]; exact hT9
  have hE : z_Ext S0 S51 := by rw [e_S51]; exact hE9
  have h_x0 : z_is b0 S51 (x0) 8 := by rw [e_S51]; exact h_x0.upR
  have hn3 : z_is b0 S51 (S.2.2) 1 := by rw [e_S51]; exact hn3.upR
  have hn8 : z_is b0 S51 (S5.2.2) 14 := by rw [e_S51]; exact hn8.upR
  have hk_r10 : z_is b0 S51 (r10) 14 := by rw [e_S51]; exact hk_r10.upR
  have hn13 : z_is b0 S51 (S9.2.2) 5 := by rw [e_S51]; exact hn13.upR
  have hk_r17 : z_is b0 S51 (r17) 14 := by rw [e_S51]; exact hk_r17.upR
  have hn20 : z_is b0 S51 (S16.2.2) 5 := by rw [e_S51]; exact hn20.upR
  have hk_r24 : z_is b0 S51 (r24) 14 := by rw [e_S51]; exact hk_r24.upR
  have hn27 : z_is b0 S51 (S23.2.2) 5 := by rw [e_S51]; exact hn27.upR
  have hk_r31 : z_is b0 S51 (r31) 14 := by rw [e_S51]; exact hk_r31.upR
  have hn34 : z_is b0 S51 (S30.2.2) 5 := by rw [e_S51]; exact hn34.upR
  have hk_r38 : z_is b0 S51 (r38) 14 := by rw [e_S51]; exact hk_r38.upR
  have hn41 : z_is b0 S51 (S37.2.2) 5 := by rw [e_S51]; exact hn41.upR
  have hk_r45 : z_is b0 S51 (r45) 14 := by rw [e_S51]; exact hk_r45.upR
  have hn48 : z_is b0 S51 (S44.2.2) 5 := by rw [e_S51]; exact hn48.upR
  refine z_iinc (k0 := 0) (v := 6) (lv' := [(1, .int (6)), (0, .ref (x0))]) hC dX8_init_45 hl rfl rfl (by decide) rfl (fun ls hl => ?_)
  refine z_goto (tgt := 26) hC dX8_init_48 (by decide) ?_
  refine z_iload_n hC dX8_init_26 rfl (lv_at hl 0 rfl) ?_
  refine z_bipush (v := 8) hC dX8_init_27 (by decide) ?_
  refine z_icmp_ge (tgt := 51) hC dX8_init_29 (by decide) (ite_t (c := (6 : Int32) < 8) (B := none) (by decide) hz) (fun h9 => by cases h9) (fun hz => ?_)
  refine z_aload_n hC dX8_init_32 rfl (lv_at hl 1 rfl) ?_
  obtain ⟨r52, hr_r52, hz⟩ := ob_some hz
  have hk_r52 : z_is b0 S51 r52 14 := hT.at h_x0 hr_r52
  refine z_getR hC zc_8 1 (by decide) kw_177 dX8_init_33 h_x0 rfl hr_r52 ?_
  refine z_iload_n hC dX8_init_36 rfl (lv_at hl 0 rfl) ?_
  refine z_newc hC zc_5 kw_40 kw_42 kw_3 dX8_init_37 zdv_5 (by decide) (by decide) ?_
  obtain ⟨S53, e_S53, hz⟩ := zlet_some hz
  rw [← e_S53]
  obtain ⟨J54, e_J54, hz⟩ := zlet_some hz
  rw [← e_J54]
  have hb9 : b0 ≤ S51.2.2 := Nat.le_of_lt (Nat.lt_of_le_of_lt h_x0.1 h_x0.2.1)
  have h_x0 : z_is b0 S53 (x0) 8 := by rw [e_S53]; exact h_x0.new
  have hn3 : z_is b0 S53 (S.2.2) 1 := by rw [e_S53]; exact hn3.new
  have hn8 : z_is b0 S53 (S5.2.2) 14 := by rw [e_S53]; exact hn8.new
  have hk_r10 : z_is b0 S53 (r10) 14 := by rw [e_S53]; exact hk_r10.new
  have hn13 : z_is b0 S53 (S9.2.2) 5 := by rw [e_S53]; exact hn13.new
  have hk_r17 : z_is b0 S53 (r17) 14 := by rw [e_S53]; exact hk_r17.new
  have hn20 : z_is b0 S53 (S16.2.2) 5 := by rw [e_S53]; exact hn20.new
  have hk_r24 : z_is b0 S53 (r24) 14 := by rw [e_S53]; exact hk_r24.new
  have hn27 : z_is b0 S53 (S23.2.2) 5 := by rw [e_S53]; exact hn27.new
  have hk_r31 : z_is b0 S53 (r31) 14 := by rw [e_S53]; exact hk_r31.new
  have hn34 : z_is b0 S53 (S30.2.2) 5 := by rw [e_S53]; exact hn34.new
  have hk_r38 : z_is b0 S53 (r38) 14 := by rw [e_S53]; exact hk_r38.new
  have hn41 : z_is b0 S53 (S37.2.2) 5 := by rw [e_S53]; exact hn41.new
  have hk_r45 : z_is b0 S53 (r45) 14 := by rw [e_S53]; exact hk_r45.new
  have hn48 : z_is b0 S53 (S44.2.2) 5 := by rw [e_S53]; exact hn48.new
  have hk_r52 : z_is b0 S53 (r52) 14 := by rw [e_S53]; exact hk_r52.new
  have hn55 : z_is b0 S53 S51.2.2 5 := by rw [e_S53]; exact z_is.fresh hb9 5 0
  have hT : z_T b0 S53 := by rw [e_S53]; exact hT.new _ _
  have hE : z_Ext S0 S53 := by rw [e_S53]; exact hE.new _ _
  refine z_dup hC dX8_init_40 rfl ?_
  obtain ⟨q56, hq_q56, hz⟩ := ob_some hz
  refine z_callIN (As := []) hC hT (c_X5_init F (S51.2.2) hn55 hq_q56) zy_X5_init rfl kw_44 kn_0 dX8_init_41 rfl rfl hl.1 (Nat.le_of_ble_eq_true rfl) (by decide) (by decide) ?_
  have hx_q56 := xt_X5_init hT hn55 hq_q56
  have hT : z_T b0 q56.1 := hx_q56.1
  have hE : z_Ext S0 q56.1 := hE.trans hx_q56.2
  have h_x0 : z_is b0 q56.1 (x0) 8 := hx_q56.2.is h_x0
  have hn3 : z_is b0 q56.1 (S.2.2) 1 := hx_q56.2.is hn3
  have hn8 : z_is b0 q56.1 (S5.2.2) 14 := hx_q56.2.is hn8
  have hk_r10 : z_is b0 q56.1 (r10) 14 := hx_q56.2.is hk_r10
  have hn13 : z_is b0 q56.1 (S9.2.2) 5 := hx_q56.2.is hn13
  have hk_r17 : z_is b0 q56.1 (r17) 14 := hx_q56.2.is hk_r17
  have hn20 : z_is b0 q56.1 (S16.2.2) 5 := hx_q56.2.is hn20
  have hk_r24 : z_is b0 q56.1 (r24) 14 := hx_q56.2.is hk_r24
  have hn27 : z_is b0 q56.1 (S23.2.2) 5 := hx_q56.2.is hn27
  have hk_r31 : z_is b0 q56.1 (r31) 14 := hx_q56.2.is hk_r31
  have hn34 : z_is b0 q56.1 (S30.2.2) 5 := hx_q56.2.is hn34
  have hk_r38 : z_is b0 q56.1 (r38) 14 := hx_q56.2.is hk_r38
  have hn41 : z_is b0 q56.1 (S37.2.2) 5 := hx_q56.2.is hn41
  have hk_r45 : z_is b0 q56.1 (r45) 14 := hx_q56.2.is hk_r45
  have hn48 : z_is b0 q56.1 (S44.2.2) 5 := hx_q56.2.is hn48
  have hk_r52 : z_is b0 q56.1 (r52) 14 := hx_q56.2.is hk_r52
  have hn55 : z_is b0 q56.1 (S51.2.2) 5 := hx_q56.2.is hn55
  obtain ⟨hi57, hz⟩ := ifn_some hz
  have hT9 := hT.upR (x := S51.2.2) (k := (6 : Int32).toNatClampNeg) hk_r52 hn55
  have hE9 := hE.upR (a := r52) (k := (6 : Int32).toNatClampNeg) (x := some (S51.2.2))
  refine z_aast hC dX8_init_44 hk_r52 (by decide) (by decide) zc_5 rfl hn55 hi57 ?_
  obtain ⟨S58, e_S58, hz⟩ := zlet_some hz
  rw [← e_S58]
  have hT : z_T b0 S58 := by rw [e_S58]; exact hT9
  have hE : z_Ext S0 S58 := by rw [e_S58]; exact hE9
  have h_x0 : z_is b0 S58 (x0) 8 := by rw [e_S58]; exact h_x0.upR
  have hn3 : z_is b0 S58 (S.2.2) 1 := by rw [e_S58]; exact hn3.upR
  have hn8 : z_is b0 S58 (S5.2.2) 14 := by rw [e_S58]; exact hn8.upR
  have hk_r10 : z_is b0 S58 (r10) 14 := by rw [e_S58]; exact hk_r10.upR
  have hn13 : z_is b0 S58 (S9.2.2) 5 := by rw [e_S58]; exact hn13.upR
  have hk_r17 : z_is b0 S58 (r17) 14 := by rw [e_S58]; exact hk_r17.upR
  have hn20 : z_is b0 S58 (S16.2.2) 5 := by rw [e_S58]; exact hn20.upR
  have hk_r24 : z_is b0 S58 (r24) 14 := by rw [e_S58]; exact hk_r24.upR
  have hn27 : z_is b0 S58 (S23.2.2) 5 := by rw [e_S58]; exact hn27.upR
  have hk_r31 : z_is b0 S58 (r31) 14 := by rw [e_S58]; exact hk_r31.upR
  have hn34 : z_is b0 S58 (S30.2.2) 5 := by rw [e_S58]; exact hn34.upR
  have hk_r38 : z_is b0 S58 (r38) 14 := by rw [e_S58]; exact hk_r38.upR
  have hn41 : z_is b0 S58 (S37.2.2) 5 := by rw [e_S58]; exact hn41.upR
  have hk_r45 : z_is b0 S58 (r45) 14 := by rw [e_S58]; exact hk_r45.upR
  have hn48 : z_is b0 S58 (S44.2.2) 5 := by rw [e_S58]; exact hn48.upR
  have hk_r52 : z_is b0 S58 (r52) 14 := by rw [e_S58]; exact hk_r52.upR
  have hn55 : z_is b0 S58 (S51.2.2) 5 := by rw [e_S58]; exact hn55.upR
  refine z_iinc (k0 := 0) (v := 7) (lv' := [(1, .int (7)), (0, .ref (x0))]) hC dX8_init_45 hl rfl rfl (by decide) rfl (fun ls hl => ?_)
  refine z_goto (tgt := 26) hC dX8_init_48 (by decide) ?_
  refine z_iload_n hC dX8_init_26 rfl (lv_at hl 0 rfl) ?_
  refine z_bipush (v := 8) hC dX8_init_27 (by decide) ?_
  refine z_icmp_ge (tgt := 51) hC dX8_init_29 (by decide) (ite_t (c := (7 : Int32) < 8) (B := none) (by decide) hz) (fun h9 => by cases h9) (fun hz => ?_)
  refine z_aload_n hC dX8_init_32 rfl (lv_at hl 1 rfl) ?_
  obtain ⟨r59, hr_r59, hz⟩ := ob_some hz
  have hk_r59 : z_is b0 S58 r59 14 := hT.at h_x0 hr_r59
  refine z_getR hC zc_8 1 (by decide) kw_177 dX8_init_33 h_x0 rfl hr_r59 ?_
  refine z_iload_n hC dX8_init_36 rfl (lv_at hl 0 rfl) ?_
  refine z_newc hC zc_5 kw_40 kw_42 kw_3 dX8_init_37 zdv_5 (by decide) (by decide) ?_
  obtain ⟨S60, e_S60, hz⟩ := zlet_some hz
  rw [← e_S60]
  obtain ⟨J61, e_J61, hz⟩ := zlet_some hz
  rw [← e_J61]
  have hb9 : b0 ≤ S58.2.2 := Nat.le_of_lt (Nat.lt_of_le_of_lt h_x0.1 h_x0.2.1)
  have h_x0 : z_is b0 S60 (x0) 8 := by rw [e_S60]; exact h_x0.new
  have hn3 : z_is b0 S60 (S.2.2) 1 := by rw [e_S60]; exact hn3.new
  have hn8 : z_is b0 S60 (S5.2.2) 14 := by rw [e_S60]; exact hn8.new
  have hk_r10 : z_is b0 S60 (r10) 14 := by rw [e_S60]; exact hk_r10.new
  have hn13 : z_is b0 S60 (S9.2.2) 5 := by rw [e_S60]; exact hn13.new
  have hk_r17 : z_is b0 S60 (r17) 14 := by rw [e_S60]; exact hk_r17.new
  have hn20 : z_is b0 S60 (S16.2.2) 5 := by rw [e_S60]; exact hn20.new
  have hk_r24 : z_is b0 S60 (r24) 14 := by rw [e_S60]; exact hk_r24.new
  have hn27 : z_is b0 S60 (S23.2.2) 5 := by rw [e_S60]; exact hn27.new
  have hk_r31 : z_is b0 S60 (r31) 14 := by rw [e_S60]; exact hk_r31.new
  have hn34 : z_is b0 S60 (S30.2.2) 5 := by rw [e_S60]; exact hn34.new
  have hk_r38 : z_is b0 S60 (r38) 14 := by rw [e_S60]; exact hk_r38.new
  have hn41 : z_is b0 S60 (S37.2.2) 5 := by rw [e_S60]; exact hn41.new
  have hk_r45 : z_is b0 S60 (r45) 14 := by rw [e_S60]; exact hk_r45.new
  have hn48 : z_is b0 S60 (S44.2.2) 5 := by rw [e_S60]; exact hn48.new
  have hk_r52 : z_is b0 S60 (r52) 14 := by rw [e_S60]; exact hk_r52.new
  have hn55 : z_is b0 S60 (S51.2.2) 5 := by rw [e_S60]; exact hn55.new
  have hk_r59 : z_is b0 S60 (r59) 14 := by rw [e_S60]; exact hk_r59.new
  have hn62 : z_is b0 S60 S58.2.2 5 := by rw [e_S60]; exact z_is.fresh hb9 5 0
  have hT : z_T b0 S60 := by rw [e_S60]; exact hT.new _ _
  have hE : z_Ext S0 S60 := by rw [e_S60]; exact hE.new _ _
  refine z_dup hC dX8_init_40 rfl ?_
  obtain ⟨q63, hq_q63, hz⟩ := ob_some hz
  refine z_callIN (As := []) hC hT (c_X5_init F (S58.2.2) hn62 hq_q63) zy_X5_init rfl kw_44 kn_0 dX8_init_41 rfl rfl hl.1 (Nat.le_of_ble_eq_true rfl) (by decide) (by decide) ?_
  have hx_q63 := xt_X5_init hT hn62 hq_q63
  have hT : z_T b0 q63.1 := hx_q63.1
  have hE : z_Ext S0 q63.1 := hE.trans hx_q63.2
  have h_x0 : z_is b0 q63.1 (x0) 8 := hx_q63.2.is h_x0
  have hn3 : z_is b0 q63.1 (S.2.2) 1 := hx_q63.2.is hn3
  have hn8 : z_is b0 q63.1 (S5.2.2) 14 := hx_q63.2.is hn8
  have hk_r10 : z_is b0 q63.1 (r10) 14 := hx_q63.2.is hk_r10
  have hn13 : z_is b0 q63.1 (S9.2.2) 5 := hx_q63.2.is hn13
  have hk_r17 : z_is b0 q63.1 (r17) 14 := hx_q63.2.is hk_r17
  have hn20 : z_is b0 q63.1 (S16.2.2) 5 := hx_q63.2.is hn20
  have hk_r24 : z_is b0 q63.1 (r24) 14 := hx_q63.2.is hk_r24
  have hn27 : z_is b0 q63.1 (S23.2.2) 5 := hx_q63.2.is hn27
  have hk_r31 : z_is b0 q63.1 (r31) 14 := hx_q63.2.is hk_r31
  have hn34 : z_is b0 q63.1 (S30.2.2) 5 := hx_q63.2.is hn34
  have hk_r38 : z_is b0 q63.1 (r38) 14 := hx_q63.2.is hk_r38
  have hn41 : z_is b0 q63.1 (S37.2.2) 5 := hx_q63.2.is hn41
  have hk_r45 : z_is b0 q63.1 (r45) 14 := hx_q63.2.is hk_r45
  have hn48 : z_is b0 q63.1 (S44.2.2) 5 := hx_q63.2.is hn48
  have hk_r52 : z_is b0 q63.1 (r52) 14 := hx_q63.2.is hk_r52
  have hn55 : z_is b0 q63.1 (S51.2.2) 5 := hx_q63.2.is hn55
  have hk_r59 : z_is b0 q63.1 (r59) 14 := hx_q63.2.is hk_r59
  have hn62 : z_is b0 q63.1 (S58.2.2) 5 := hx_q63.2.is hn62
  obtain ⟨hi64, hz⟩ := ifn_some hz
  have hT9 := hT.upR (x := S58.2.2) (k := (7 : Int32).toNatClampNeg) hk_r59 hn62
  have hE9 := hE.upR (a := r59) (k := (7 : Int32).toNatClampNeg) (x := some (S58.2.2))
  refine z_aast hC dX8_init_44 hk_r59 (by decide) (by decide) zc_5 rfl hn62 hi64 ?_
  obtain ⟨S65, e_S65, hz⟩ := zlet_some hz
  rw [← e_S65]
  have hT : z_T b0 S65 := by rw [e_S65]; exact hT9
  have hE : z_Ext S0 S65 := by rw [e_S65]; exact hE9
  have h_x0 : z_is b0 S65 (x0) 8 := by rw [e_S65]; exact h_x0.upR
  have hn3 : z_is b0 S65 (S.2.2) 1 := by rw [e_S65]; exact hn3.upR
  have hn8 : z_is b0 S65 (S5.2.2) 14 := by rw [e_S65]; exact hn8.upR
  have hk_r10 : z_is b0 S65 (r10) 14 := by rw [e_S65]; exact hk_r10.upR
  have hn13 : z_is b0 S65 (S9.2.2) 5 := by rw [e_S65]; exact hn13.upR
  have hk_r17 : z_is b0 S65 (r17) 14 := by rw [e_S65]; exact hk_r17.upR
  have hn20 : z_is b0 S65 (S16.2.2) 5 := by rw [e_S65]; exact hn20.upR
  have hk_r24 : z_is b0 S65 (r24) 14 := by rw [e_S65]; exact hk_r24.upR
  have hn27 : z_is b0 S65 (S23.2.2) 5 := by rw [e_S65]; exact hn27.upR
  have hk_r31 : z_is b0 S65 (r31) 14 := by rw [e_S65]; exact hk_r31.upR
  have hn34 : z_is b0 S65 (S30.2.2) 5 := by rw [e_S65]; exact hn34.upR
  have hk_r38 : z_is b0 S65 (r38) 14 := by rw [e_S65]; exact hk_r38.upR
  have hn41 : z_is b0 S65 (S37.2.2) 5 := by rw [e_S65]; exact hn41.upR
  have hk_r45 : z_is b0 S65 (r45) 14 := by rw [e_S65]; exact hk_r45.upR
  have hn48 : z_is b0 S65 (S44.2.2) 5 := by rw [e_S65]; exact hn48.upR
  have hk_r52 : z_is b0 S65 (r52) 14 := by rw [e_S65]; exact hk_r52.upR
  have hn55 : z_is b0 S65 (S51.2.2) 5 := by rw [e_S65]; exact hn55.upR
  have hk_r59 : z_is b0 S65 (r59) 14 := by rw [e_S65]; exact hk_r59.upR
  have hn62 : z_is b0 S65 (S58.2.2) 5 := by rw [e_S65]; exact hn62.upR
  refine z_iinc (k0 := 0) (v := 8) (lv' := [(1, .int (8)), (0, .ref (x0))]) hC dX8_init_45 hl rfl rfl (by decide) rfl (fun ls hl => ?_)
  refine z_goto (tgt := 26) hC dX8_init_48 (by decide) ?_
  refine z_iload_n hC dX8_init_26 rfl (lv_at hl 0 rfl) ?_
  refine z_bipush (v := 8) hC dX8_init_27 (by decide) ?_
  refine z_icmp_ge (tgt := 51) hC dX8_init_29 (by decide) (ite_f (c := (8 : Int32) < 8) (A := none) (by decide) hz) (fun hz => ?_) (fun h9 => by cases h9)
  refine z_newc hC zc_7 kw_113 kw_114 kw_5 dX8_init_51 zdv_7 (by decide) (by decide) ?_
  obtain ⟨S66, e_S66, hz⟩ := zlet_some hz
  rw [← e_S66]
  obtain ⟨J67, e_J67, hz⟩ := zlet_some hz
  rw [← e_J67]
  have hb9 : b0 ≤ S65.2.2 := Nat.le_of_lt (Nat.lt_of_le_of_lt h_x0.1 h_x0.2.1)
  have h_x0 : z_is b0 S66 (x0) 8 := by rw [e_S66]; exact h_x0.new
  have hn3 : z_is b0 S66 (S.2.2) 1 := by rw [e_S66]; exact hn3.new
  have hn8 : z_is b0 S66 (S5.2.2) 14 := by rw [e_S66]; exact hn8.new
  have hk_r10 : z_is b0 S66 (r10) 14 := by rw [e_S66]; exact hk_r10.new
  have hn13 : z_is b0 S66 (S9.2.2) 5 := by rw [e_S66]; exact hn13.new
  have hk_r17 : z_is b0 S66 (r17) 14 := by rw [e_S66]; exact hk_r17.new
  have hn20 : z_is b0 S66 (S16.2.2) 5 := by rw [e_S66]; exact hn20.new
  have hk_r24 : z_is b0 S66 (r24) 14 := by rw [e_S66]; exact hk_r24.new
  have hn27 : z_is b0 S66 (S23.2.2) 5 := by rw [e_S66]; exact hn27.new
  have hk_r31 : z_is b0 S66 (r31) 14 := by rw [e_S66]; exact hk_r31.new
  have hn34 : z_is b0 S66 (S30.2.2) 5 := by rw [e_S66]; exact hn34.new
  have hk_r38 : z_is b0 S66 (r38) 14 := by rw [e_S66]; exact hk_r38.new
  have hn41 : z_is b0 S66 (S37.2.2) 5 := by rw [e_S66]; exact hn41.new
  have hk_r45 : z_is b0 S66 (r45) 14 := by rw [e_S66]; exact hk_r45.new
  have hn48 : z_is b0 S66 (S44.2.2) 5 := by rw [e_S66]; exact hn48.new
  have hk_r52 : z_is b0 S66 (r52) 14 := by rw [e_S66]; exact hk_r52.new
  have hn55 : z_is b0 S66 (S51.2.2) 5 := by rw [e_S66]; exact hn55.new
  have hk_r59 : z_is b0 S66 (r59) 14 := by rw [e_S66]; exact hk_r59.new
  have hn62 : z_is b0 S66 (S58.2.2) 5 := by rw [e_S66]; exact hn62.new
  have hn68 : z_is b0 S66 S65.2.2 7 := by rw [e_S66]; exact z_is.fresh hb9 7 0
  have hT : z_T b0 S66 := by rw [e_S66]; exact hT.new _ _
  have hE : z_Ext S0 S66 := by rw [e_S66]; exact hE.new _ _
  refine z_dup hC dX8_init_54 rfl ?_
  refine z_aload_n hC dX8_init_55 rfl (lv_at hl 1 rfl) ?_
  obtain ⟨r69, hr_r69, hz⟩ := ob_some hz
  have hk_r69 : z_is b0 S66 r69 1 := hT.at h_x0 hr_r69
  refine z_getR hC zc_8 0 (by decide) kw_176 dX8_init_56 h_x0 rfl hr_r69 ?_
  obtain ⟨q70, hq_q70, hz⟩ := ob_some hz
  refine z_callI (As := [.ref (r69)]) hC hT (c_X7_init F (S65.2.2) r69 hn68 hk_r69 hq_q70) zy_X7_init rfl kw_116 kw_115 dX8_init_59 rfl rfl hl.1 (Nat.le_of_ble_eq_true rfl) (by decide) (by decide) ?_
  have hx_q70 := xt_X7_init hT hn68 hk_r69 hq_q70
  have hT : z_T b0 q70.1 := hx_q70.1
  have hE : z_Ext S0 q70.1 := hE.trans hx_q70.2
  have h_x0 : z_is b0 q70.1 (x0) 8 := hx_q70.2.is h_x0
  have hn3 : z_is b0 q70.1 (S.2.2) 1 := hx_q70.2.is hn3
  have hn8 : z_is b0 q70.1 (S5.2.2) 14 := hx_q70.2.is hn8
  have hk_r10 : z_is b0 q70.1 (r10) 14 := hx_q70.2.is hk_r10
  have hn13 : z_is b0 q70.1 (S9.2.2) 5 := hx_q70.2.is hn13
  have hk_r17 : z_is b0 q70.1 (r17) 14 := hx_q70.2.is hk_r17
  have hn20 : z_is b0 q70.1 (S16.2.2) 5 := hx_q70.2.is hn20
  have hk_r24 : z_is b0 q70.1 (r24) 14 := hx_q70.2.is hk_r24
  have hn27 : z_is b0 q70.1 (S23.2.2) 5 := hx_q70.2.is hn27
  have hk_r31 : z_is b0 q70.1 (r31) 14 := hx_q70.2.is hk_r31
  have hn34 : z_is b0 q70.1 (S30.2.2) 5 := hx_q70.2.is hn34
  have hk_r38 : z_is b0 q70.1 (r38) 14 := hx_q70.2.is hk_r38
  have hn41 : z_is b0 q70.1 (S37.2.2) 5 := hx_q70.2.is hn41
  have hk_r45 : z_is b0 q70.1 (r45) 14 := hx_q70.2.is hk_r45
  have hn48 : z_is b0 q70.1 (S44.2.2) 5 := hx_q70.2.is hn48
  have hk_r52 : z_is b0 q70.1 (r52) 14 := hx_q70.2.is hk_r52
  have hn55 : z_is b0 q70.1 (S51.2.2) 5 := hx_q70.2.is hn55
  have hk_r59 : z_is b0 q70.1 (r59) 14 := hx_q70.2.is hk_r59
  have hn62 : z_is b0 q70.1 (S58.2.2) 5 := hx_q70.2.is hn62
  have hn68 : z_is b0 q70.1 (S65.2.2) 7 := hx_q70.2.is hn68
  have hk_r69 : z_is b0 q70.1 (r69) 1 := hx_q70.2.is hk_r69
  refine z_astore_n (lv' := [(1, .ref (S65.2.2)), (0, .ref (x0))]) hC dX8_init_62 rfl hl (by decide) rfl (fun ls hl => ?_)
  refine z_aload_n hC dX8_init_63 rfl (lv_at hl 1 rfl) ?_
  refine z_newc hC zc_2 kw_123 kw_124 kw_6 dX8_init_64 zdv_2 (by decide) (by decide) ?_
  obtain ⟨S71, e_S71, hz⟩ := zlet_some hz
  rw [← e_S71]
  obtain ⟨J72, e_J72, hz⟩ := zlet_some hz
  rw [← e_J72]
  have hb9 : b0 ≤ q70.1.2.2 := Nat.le_of_lt (Nat.lt_of_le_of_lt h_x0.1 h_x0.2.1)
  have h_x0 : z_is b0 S71 (x0) 8 := by rw [e_S71]; exact h_x0.new
  have hn3 : z_is b0 S71 (S.2.2) 1 := by rw [e_S71]; exact hn3.new
  have hn8 : z_is b0 S71 (S5.2.2) 14 := by rw [e_S71]; exact hn8.new
  have hk_r10 : z_is b0 S71 (r10) 14 := by rw [e_S71]; exact hk_r10.new
  have hn13 : z_is b0 S71 (S9.2.2) 5 := by rw [e_S71]; exact hn13.new
  have hk_r17 : z_is b0 S71 (r17) 14 := by rw [e_S71]; exact hk_r17.new
  have hn20 : z_is b0 S71 (S16.2.2) 5 := by rw [e_S71]; exact hn20.new
  have hk_r24 : z_is b0 S71 (r24) 14 := by rw [e_S71]; exact hk_r24.new
  have hn27 : z_is b0 S71 (S23.2.2) 5 := by rw [e_S71]; exact hn27.new
  have hk_r31 : z_is b0 S71 (r31) 14 := by rw [e_S71]; exact hk_r31.new
  have hn34 : z_is b0 S71 (S30.2.2) 5 := by rw [e_S71]; exact hn34.new
  have hk_r38 : z_is b0 S71 (r38) 14 := by rw [e_S71]; exact hk_r38.new
  have hn41 : z_is b0 S71 (S37.2.2) 5 := by rw [e_S71]; exact hn41.new
  have hk_r45 : z_is b0 S71 (r45) 14 := by rw [e_S71]; exact hk_r45.new
  have hn48 : z_is b0 S71 (S44.2.2) 5 := by rw [e_S71]; exact hn48.new
  have hk_r52 : z_is b0 S71 (r52) 14 := by rw [e_S71]; exact hk_r52.new
  have hn55 : z_is b0 S71 (S51.2.2) 5 := by rw [e_S71]; exact hn55.new
  have hk_r59 : z_is b0 S71 (r59) 14 := by rw [e_S71]; exact hk_r59.new
  have hn62 : z_is b0 S71 (S58.2.2) 5 := by rw [e_S71]; exact hn62.new
  have hn68 : z_is b0 S71 (S65.2.2) 7 := by rw [e_S71]; exact hn68.new
  have hk_r69 : z_is b0 S71 (r69) 1 := by rw [e_S71]; exact hk_r69.new
  have hn73 : z_is b0 S71 q70.1.2.2 2 := by rw [e_S71]; exact z_is.fresh hb9 2 0
  have hT : z_T b0 S71 := by rw [e_S71]; exact hT.new _ _
  have hE : z_Ext S0 S71 := by rw [e_S71]; exact hE.new _ _
  refine z_dup hC dX8_init_67 rfl ?_
  refine z_aload_n hC dX8_init_68 rfl (lv_at hl 1 rfl) ?_
  obtain ⟨r74, hr_r74, hz⟩ := ob_some hz
  have hk_r74 : z_is b0 S71 r74 1 := hT.at h_x0 hr_r74
  refine z_getR hC zc_8 0 (by decide) kw_176 dX8_init_69 h_x0 rfl hr_r74 ?_
  refine z_aload_n hC dX8_init_72 rfl (lv_at hl 0 rfl) ?_
  obtain ⟨q75, hq_q75, hz⟩ := ob_some hz
  refine z_callI (As := [.ref (r74), .ref (S65.2.2)]) hC hT (c_X2_init F (q70.1.2.2) r74 (S65.2.2) hn73 hk_r74 hn68 hq_q75) zy_X2_init rfl kw_126 kw_125 dX8_init_73 rfl rfl hl.1 (Nat.le_of_ble_eq_true rfl) (by decide) (by decide) ?_
  have hx_q75 := xt_X2_init hT hn73 hk_r74 hn68 hq_q75
  have hT : z_T b0 q75.1 := hx_q75.1
  have hE : z_Ext S0 q75.1 := hE.trans hx_q75.2
  have h_x0 : z_is b0 q75.1 (x0) 8 := hx_q75.2.is h_x0
  have hn3 : z_is b0 q75.1 (S.2.2) 1 := hx_q75.2.is hn3
  have hn8 : z_is b0 q75.1 (S5.2.2) 14 := hx_q75.2.is hn8
  have hk_r10 : z_is b0 q75.1 (r10) 14 := hx_q75.2.is hk_r10
  have hn13 : z_is b0 q75.1 (S9.2.2) 5 := hx_q75.2.is hn13
  have hk_r17 : z_is b0 q75.1 (r17) 14 := hx_q75.2.is hk_r17
  have hn20 : z_is b0 q75.1 (S16.2.2) 5 := hx_q75.2.is hn20
  have hk_r24 : z_is b0 q75.1 (r24) 14 := hx_q75.2.is hk_r24
  have hn27 : z_is b0 q75.1 (S23.2.2) 5 := hx_q75.2.is hn27
  have hk_r31 : z_is b0 q75.1 (r31) 14 := hx_q75.2.is hk_r31
  have hn34 : z_is b0 q75.1 (S30.2.2) 5 := hx_q75.2.is hn34
  have hk_r38 : z_is b0 q75.1 (r38) 14 := hx_q75.2.is hk_r38
  have hn41 : z_is b0 q75.1 (S37.2.2) 5 := hx_q75.2.is hn41
  have hk_r45 : z_is b0 q75.1 (r45) 14 := hx_q75.2.is hk_r45
  have hn48 : z_is b0 q75.1 (S44.2.2) 5 := hx_q75.2.is hn48
  have hk_r52 : z_is b0 q75.1 (r52) 14 := hx_q75.2.is hk_r52
  have hn55 : z_is b0 q75.1 (S51.2.2) 5 := hx_q75.2.is hn55
  have hk_r59 : z_is b0 q75.1 (r59) 14 := hx_q75.2.is hk_r59
  have hn62 : z_is b0 q75.1 (S58.2.2) 5 := hx_q75.2.is hn62
  have hn68 : z_is b0 q75.1 (S65.2.2) 7 := hx_q75.2.is hn68
  have hk_r69 : z_is b0 q75.1 (r69) 1 := hx_q75.2.is hk_r69
  have hn73 : z_is b0 q75.1 (q70.1.2.2) 2 := hx_q75.2.is hn73
  have hk_r74 : z_is b0 q75.1 (r74) 1 := hx_q75.2.is hk_r74
  have hT9 := hT.upR (x := q70.1.2.2) (k := 2) h_x0 hn73
  have hE9 := hE.upR (a := x0) (k := 2) (x := some (q70.1.2.2))
  refine z_putR hC zc_8 2 (by decide) kw_178 dX8_init_76 h_x0 rfl rfl hnm rfl rfl rfl ?_
  obtain ⟨S76, e_S76, hz⟩ := zlet_some hz
  rw [← e_S76]
  have hT : z_T b0 S76 := by rw [e_S76]; exact hT9
  have hE : z_Ext S0 S76 := by rw [e_S76]; exact hE9
  have h_x0 : z_is b0 S76 (x0) 8 := by rw [e_S76]; exact h_x0.upR
  have hn3 : z_is b0 S76 (S.2.2) 1 := by rw [e_S76]; exact hn3.upR
  have hn8 : z_is b0 S76 (S5.2.2) 14 := by rw [e_S76]; exact hn8.upR
  have hk_r10 : z_is b0 S76 (r10) 14 := by rw [e_S76]; exact hk_r10.upR
  have hn13 : z_is b0 S76 (S9.2.2) 5 := by rw [e_S76]; exact hn13.upR
  have hk_r17 : z_is b0 S76 (r17) 14 := by rw [e_S76]; exact hk_r17.upR
  have hn20 : z_is b0 S76 (S16.2.2) 5 := by rw [e_S76]; exact hn20.upR
  have hk_r24 : z_is b0 S76 (r24) 14 := by rw [e_S76]; exact hk_r24.upR
  have hn27 : z_is b0 S76 (S23.2.2) 5 := by rw [e_S76]; exact hn27.upR
  have hk_r31 : z_is b0 S76 (r31) 14 := by rw [e_S76]; exact hk_r31.upR
  have hn34 : z_is b0 S76 (S30.2.2) 5 := by rw [e_S76]; exact hn34.upR
  have hk_r38 : z_is b0 S76 (r38) 14 := by rw [e_S76]; exact hk_r38.upR
  have hn41 : z_is b0 S76 (S37.2.2) 5 := by rw [e_S76]; exact hn41.upR
  have hk_r45 : z_is b0 S76 (r45) 14 := by rw [e_S76]; exact hk_r45.upR
  have hn48 : z_is b0 S76 (S44.2.2) 5 := by rw [e_S76]; exact hn48.upR
  have hk_r52 : z_is b0 S76 (r52) 14 := by rw [e_S76]; exact hk_r52.upR
  have hn55 : z_is b0 S76 (S51.2.2) 5 := by rw [e_S76]; exact hn55.upR
  have hk_r59 : z_is b0 S76 (r59) 14 := by rw [e_S76]; exact hk_r59.upR
  have hn62 : z_is b0 S76 (S58.2.2) 5 := by rw [e_S76]; exact hn62.upR
  have hn68 : z_is b0 S76 (S65.2.2) 7 := by rw [e_S76]; exact hn68.upR
  have hk_r69 : z_is b0 S76 (r69) 1 := by rw [e_S76]; exact hk_r69.upR
  have hn73 : z_is b0 S76 (q70.1.2.2) 2 := by rw [e_S76]; exact hn73.upR
  have hk_r74 : z_is b0 S76 (r74) 1 := by rw [e_S76]; exact hk_r74.upR
  refine z_aload_n hC dX8_init_79 rfl (lv_at hl 1 rfl) ?_
  refine z_newc hC zc_4 kw_148 kw_149 kw_7 dX8_init_80 zdv_4 (by decide) (by decide) ?_
  obtain ⟨S77, e_S77, hz⟩ := zlet_some hz
  rw [← e_S77]
  obtain ⟨J78, e_J78, hz⟩ := zlet_some hz
  rw [← e_J78]
  have hb9 : b0 ≤ S76.2.2 := Nat.le_of_lt (Nat.lt_of_le_of_lt h_x0.1 h_x0.2.1)
  have h_x0 : z_is b0 S77 (x0) 8 := by rw [e_S77]; exact h_x0.new
  have hn3 : z_is b0 S77 (S.2.2) 1 := by rw [e_S77]; exact hn3.new
  have hn8 : z_is b0 S77 (S5.2.2) 14 := by rw [e_S77]; exact hn8.new
  have hk_r10 : z_is b0 S77 (r10) 14 := by rw [e_S77]; exact hk_r10.new
  have hn13 : z_is b0 S77 (S9.2.2) 5 := by rw [e_S77]; exact hn13.new
  have hk_r17 : z_is b0 S77 (r17) 14 := by rw [e_S77]; exact hk_r17.new
  have hn20 : z_is b0 S77 (S16.2.2) 5 := by rw [e_S77]; exact hn20.new
  have hk_r24 : z_is b0 S77 (r24) 14 := by rw [e_S77]; exact hk_r24.new
  have hn27 : z_is b0 S77 (S23.2.2) 5 := by rw [e_S77]; exact hn27.new
  have hk_r31 : z_is b0 S77 (r31) 14 := by rw [e_S77]; exact hk_r31.new
  have hn34 : z_is b0 S77 (S30.2.2) 5 := by rw [e_S77]; exact hn34.new
  have hk_r38 : z_is b0 S77 (r38) 14 := by rw [e_S77]; exact hk_r38.new
  have hn41 : z_is b0 S77 (S37.2.2) 5 := by rw [e_S77]; exact hn41.new
  have hk_r45 : z_is b0 S77 (r45) 14 := by rw [e_S77]; exact hk_r45.new
  have hn48 : z_is b0 S77 (S44.2.2) 5 := by rw [e_S77]; exact hn48.new
  have hk_r52 : z_is b0 S77 (r52) 14 := by rw [e_S77]; exact hk_r52.new
  have hn55 : z_is b0 S77 (S51.2.2) 5 := by rw [e_S77]; exact hn55.new
  have hk_r59 : z_is b0 S77 (r59) 14 := by rw [e_S77]; exact hk_r59.new
  have hn62 : z_is b0 S77 (S58.2.2) 5 := by rw [e_S77]; exact hn62.new
  have hn68 : z_is b0 S77 (S65.2.2) 7 := by rw [e_S77]; exact hn68.new
  have hk_r69 : z_is b0 S77 (r69) 1 := by rw [e_S77]; exact hk_r69.new
  have hn73 : z_is b0 S77 (q70.1.2.2) 2 := by rw [e_S77]; exact hn73.new
  have hk_r74 : z_is b0 S77 (r74) 1 := by rw [e_S77]; exact hk_r74.new
  have hn79 : z_is b0 S77 S76.2.2 4 := by rw [e_S77]; exact z_is.fresh hb9 4 0
  have hT : z_T b0 S77 := by rw [e_S77]; exact hT.new _ _
  have hE : z_Ext S0 S77 := by rw [e_S77]; exact hE.new _ _
  refine z_dup hC dX8_init_83 rfl ?_
  refine z_aload_n hC dX8_init_84 rfl (lv_at hl 1 rfl) ?_
  obtain ⟨r80, hr_r80, hz⟩ := ob_some hz
  have hk_r80 : z_is b0 S77 r80 1 := hT.at h_x0 hr_r80
  refine z_getR hC zc_8 0 (by decide) kw_176 dX8_init_85 h_x0 rfl hr_r80 ?_
  refine z_aload_n hC dX8_init_88 rfl (lv_at hl 0 rfl) ?_
  obtain ⟨q81, hq_q81, hz⟩ := ob_some hz
  refine z_callI (As := [.ref (r80), .ref (S65.2.2)]) hC hT (c_X4_init F (S76.2.2) r80 (S65.2.2) hn79 hk_r80 hn68 hq_q81) zy_X4_init rfl kw_151 kw_150 dX8_init_89 rfl rfl hl.1 (Nat.le_of_ble_eq_true rfl) (by decide) (by decide) ?_
  have hx_q81 := xt_X4_init hT hn79 hk_r80 hn68 hq_q81
  have hT : z_T b0 q81.1 := hx_q81.1
  have hE : z_Ext S0 q81.1 := hE.trans hx_q81.2
  have h_x0 : z_is b0 q81.1 (x0) 8 := hx_q81.2.is h_x0
  have hn3 : z_is b0 q81.1 (S.2.2) 1 := hx_q81.2.is hn3
  have hn8 : z_is b0 q81.1 (S5.2.2) 14 := hx_q81.2.is hn8
  have hk_r10 : z_is b0 q81.1 (r10) 14 := hx_q81.2.is hk_r10
  have hn13 : z_is b0 q81.1 (S9.2.2) 5 := hx_q81.2.is hn13
  have hk_r17 : z_is b0 q81.1 (r17) 14 := hx_q81.2.is hk_r17
  have hn20 : z_is b0 q81.1 (S16.2.2) 5 := hx_q81.2.is hn20
  have hk_r24 : z_is b0 q81.1 (r24) 14 := hx_q81.2.is hk_r24
  have hn27 : z_is b0 q81.1 (S23.2.2) 5 := hx_q81.2.is hn27
  have hk_r31 : z_is b0 q81.1 (r31) 14 := hx_q81.2.is hk_r31
  have hn34 : z_is b0 q81.1 (S30.2.2) 5 := hx_q81.2.is hn34
  have hk_r38 : z_is b0 q81.1 (r38) 14 := hx_q81.2.is hk_r38
  have hn41 : z_is b0 q81.1 (S37.2.2) 5 := hx_q81.2.is hn41
  have hk_r45 : z_is b0 q81.1 (r45) 14 := hx_q81.2.is hk_r45
  have hn48 : z_is b0 q81.1 (S44.2.2) 5 := hx_q81.2.is hn48
  have hk_r52 : z_is b0 q81.1 (r52) 14 := hx_q81.2.is hk_r52
  have hn55 : z_is b0 q81.1 (S51.2.2) 5 := hx_q81.2.is hn55
  have hk_r59 : z_is b0 q81.1 (r59) 14 := hx_q81.2.is hk_r59
  have hn62 : z_is b0 q81.1 (S58.2.2) 5 := hx_q81.2.is hn62
  have hn68 : z_is b0 q81.1 (S65.2.2) 7 := hx_q81.2.is hn68
  have hk_r69 : z_is b0 q81.1 (r69) 1 := hx_q81.2.is hk_r69
  have hn73 : z_is b0 q81.1 (q70.1.2.2) 2 := hx_q81.2.is hn73
  have hk_r74 : z_is b0 q81.1 (r74) 1 := hx_q81.2.is hk_r74
  have hn79 : z_is b0 q81.1 (S76.2.2) 4 := hx_q81.2.is hn79
  have hk_r80 : z_is b0 q81.1 (r80) 1 := hx_q81.2.is hk_r80
  have hT9 := hT.upR (x := S76.2.2) (k := 3) h_x0 hn79
  have hE9 := hE.upR (a := x0) (k := 3) (x := some (S76.2.2))
  refine z_putR hC zc_8 3 (by decide) kw_179 dX8_init_92 h_x0 rfl rfl hnm rfl rfl rfl ?_
  obtain ⟨S82, e_S82, hz⟩ := zlet_some hz
  rw [← e_S82]
  have hT : z_T b0 S82 := by rw [e_S82]; exact hT9
  have hE : z_Ext S0 S82 := by rw [e_S82]; exact hE9
  have h_x0 : z_is b0 S82 (x0) 8 := by rw [e_S82]; exact h_x0.upR
  have hn3 : z_is b0 S82 (S.2.2) 1 := by rw [e_S82]; exact hn3.upR
  have hn8 : z_is b0 S82 (S5.2.2) 14 := by rw [e_S82]; exact hn8.upR
  have hk_r10 : z_is b0 S82 (r10) 14 := by rw [e_S82]; exact hk_r10.upR
  have hn13 : z_is b0 S82 (S9.2.2) 5 := by rw [e_S82]; exact hn13.upR
  have hk_r17 : z_is b0 S82 (r17) 14 := by rw [e_S82]; exact hk_r17.upR
  have hn20 : z_is b0 S82 (S16.2.2) 5 := by rw [e_S82]; exact hn20.upR
  have hk_r24 : z_is b0 S82 (r24) 14 := by rw [e_S82]; exact hk_r24.upR
  have hn27 : z_is b0 S82 (S23.2.2) 5 := by rw [e_S82]; exact hn27.upR
  have hk_r31 : z_is b0 S82 (r31) 14 := by rw [e_S82]; exact hk_r31.upR
  have hn34 : z_is b0 S82 (S30.2.2) 5 := by rw [e_S82]; exact hn34.upR
  have hk_r38 : z_is b0 S82 (r38) 14 := by rw [e_S82]; exact hk_r38.upR
  have hn41 : z_is b0 S82 (S37.2.2) 5 := by rw [e_S82]; exact hn41.upR
  have hk_r45 : z_is b0 S82 (r45) 14 := by rw [e_S82]; exact hk_r45.upR
  have hn48 : z_is b0 S82 (S44.2.2) 5 := by rw [e_S82]; exact hn48.upR
  have hk_r52 : z_is b0 S82 (r52) 14 := by rw [e_S82]; exact hk_r52.upR
  have hn55 : z_is b0 S82 (S51.2.2) 5 := by rw [e_S82]; exact hn55.upR
  have hk_r59 : z_is b0 S82 (r59) 14 := by rw [e_S82]; exact hk_r59.upR
  have hn62 : z_is b0 S82 (S58.2.2) 5 := by rw [e_S82]; exact hn62.upR
  have hn68 : z_is b0 S82 (S65.2.2) 7 := by rw [e_S82]; exact hn68.upR
  have hk_r69 : z_is b0 S82 (r69) 1 := by rw [e_S82]; exact hk_r69.upR
  have hn73 : z_is b0 S82 (q70.1.2.2) 2 := by rw [e_S82]; exact hn73.upR
  have hk_r74 : z_is b0 S82 (r74) 1 := by rw [e_S82]; exact hk_r74.upR
  have hn79 : z_is b0 S82 (S76.2.2) 4 := by rw [e_S82]; exact hn79.upR
  have hk_r80 : z_is b0 S82 (r80) 1 := by rw [e_S82]; exact hk_r80.upR
  refine z_aload_n hC dX8_init_95 rfl (lv_at hl 1 rfl) ?_
  refine z_iconst (v := 0) hC dX8_init_96 (by decide) ?_
  refine z_putI hC zc_8 4 (by decide) kw_180 dX8_init_97 h_x0 rfl rfl rfl rfl ?_
  obtain ⟨J83, e_J83, hz⟩ := zlet_some hz
  rw [← e_J83]
  obtain rfl := Option.some.inj hz
  exact z_vret hC hT dX8_init_100 (by decide) (by decide)
set_option maxRecDepth 100000 in
set_option maxHeartbeats 4000000 in
theorem xt_X8_init {b0 : Nat} {S : zS} {I : zI} {F : Nat} {X : zS × zI} {x0 : Nat} (hT : z_T b0 S) (h_x0 : z_is b0 S x0 8) (hz : z_X8_init F S I x0 = some X) : z_T b0 (X.1) ∧ z_Ext S (X.1) := by
  unfold z_X8_init at hz
  have hE : z_Ext S S := z_Ext.rf S
  obtain ⟨S1, e_S1, hz⟩ := zlet_some hz
  obtain ⟨J2, e_J2, hz⟩ := zlet_some hz
  have hb9 : b0 ≤ S.2.2 := Nat.le_of_lt (Nat.lt_of_le_of_lt h_x0.1 h_x0.2.1)
  have h_x0 : z_is b0 S1 (x0) 8 := by rw [e_S1]; exact h_x0.new
  have hn3 : z_is b0 S1 S.2.2 1 := by rw [e_S1]; exact z_is.fresh hb9 1 0
  have hT : z_T b0 S1 := by rw [e_S1]; exact hT.new _ _
  have hE : z_Ext S S1 := by rw [e_S1]; exact hE.new _ _
  obtain ⟨q4, hq_q4, hz⟩ := ob_some hz
  have hx_q4 := xt_X1_init hT hn3 hq_q4
  have hT : z_T b0 q4.1 := hx_q4.1
  have hE : z_Ext S q4.1 := hE.trans hx_q4.2
  have h_x0 : z_is b0 q4.1 (x0) 8 := hx_q4.2.is h_x0
  have hn3 : z_is b0 q4.1 (S.2.2) 1 := hx_q4.2.is hn3
  have hT9 := hT.upR (x := S.2.2) (k := 0) h_x0 hn3
  have hE9 := hE.upR (a := x0) (k := 0) (x := some (S.2.2))
  obtain ⟨S5, e_S5, hz⟩ := zlet_some hz
  have hT : z_T b0 S5 := by rw [e_S5]; exact hT9
  have hE : z_Ext S S5 := by rw [e_S5]; exact hE9
  have h_x0 : z_is b0 S5 (x0) 8 := by rw [e_S5]; exact h_x0.upR
  have hn3 : z_is b0 S5 (S.2.2) 1 := by rw [e_S5]; exact hn3.upR
  obtain ⟨S6, e_S6, hz⟩ := zlet_some hz
  obtain ⟨J7, e_J7, hz⟩ := zlet_some hz
  have hb9 : b0 ≤ S5.2.2 := Nat.le_of_lt (Nat.lt_of_le_of_lt h_x0.1 h_x0.2.1)
  have h_x0 : z_is b0 S6 (x0) 8 := by rw [e_S6]; exact h_x0.new
  have hn3 : z_is b0 S6 (S.2.2) 1 := by rw [e_S6]; exact hn3.new
  have hn8 : z_is b0 S6 S5.2.2 14 := by rw [e_S6]; exact z_is.fresh hb9 14 8
  have hT : z_T b0 S6 := by rw [e_S6]; exact hT.new _ _
  have hE : z_Ext S S6 := by rw [e_S6]; exact hE.new _ _
  have hT9 := hT.upR (x := S5.2.2) (k := 1) h_x0 hn8
  have hE9 := hE.upR (a := x0) (k := 1) (x := some (S5.2.2))
  obtain ⟨S9, e_S9, hz⟩ := zlet_some hz
  have hT : z_T b0 S9 := by rw [e_S9]; exact hT9
  have hE : z_Ext S S9 := by rw [e_S9]; exact hE9
  have h_x0 : z_is b0 S9 (x0) 8 := by rw [e_S9]; exact h_x0.upR
  have hn3 : z_is b0 S9 (S.2.2) 1 := by rw [e_S9]; exact hn3.upR
  have hn8 : z_is b0 S9 (S5.2.2) 14 := by rw [e_S9]; exact hn8.upR
  obtain ⟨r10, hr_r10, hz⟩ := ob_some hz
  have hk_r10 : z_is b0 S9 r10 14 := hT.at h_x0 hr_r10
  obtain ⟨S11, e_S11, hz⟩ := zlet_some hz
  obtain ⟨J12, e_J12, hz⟩ := zlet_some hz
  have hb9 : b0 ≤ S9.2.2 := Nat.le_of_lt (Nat.lt_of_le_of_lt h_x0.1 h_x0.2.1)
  have h_x0 : z_is b0 S11 (x0) 8 := by rw [e_S11]; exact h_x0.new
  have hn3 : z_is b0 S11 (S.2.2) 1 := by rw [e_S11]; exact hn3.new
  have hn8 : z_is b0 S11 (S5.2.2) 14 := by rw [e_S11]; exact hn8.new
  have hk_r10 : z_is b0 S11 (r10) 14 := by rw [e_S11]; exact hk_r10.new
  have hn13 : z_is b0 S11 S9.2.2 5 := by rw [e_S11]; exact z_is.fresh hb9 5 0
  have hT : z_T b0 S11 := by rw [e_S11]; exact hT.new _ _
  have hE : z_Ext S S11 := by rw [e_S11]; exact hE.new _ _
  obtain ⟨q14, hq_q14, hz⟩ := ob_some hz
  have hx_q14 := xt_X5_init hT hn13 hq_q14
  have hT : z_T b0 q14.1 := hx_q14.1
  have hE : z_Ext S q14.1 := hE.trans hx_q14.2
  have h_x0 : z_is b0 q14.1 (x0) 8 := hx_q14.2.is h_x0
  have hn3 : z_is b0 q14.1 (S.2.2) 1 := hx_q14.2.is hn3
  have hn8 : z_is b0 q14.1 (S5.2.2) 14 := hx_q14.2.is hn8
  have hk_r10 : z_is b0 q14.1 (r10) 14 := hx_q14.2.is hk_r10
  have hn13 : z_is b0 q14.1 (S9.2.2) 5 := hx_q14.2.is hn13
  obtain ⟨hi15, hz⟩ := ifn_some hz
  have hT9 := hT.upR (x := S9.2.2) (k := (0 : Int32).toNatClampNeg) hk_r10 hn13
  have hE9 := hE.upR (a := r10) (k := (0 : Int32).toNatClampNeg) (x := some (S9.2.2))
  obtain ⟨S16, e_S16, hz⟩ := zlet_some hz
  have hT : z_T b0 S16 := by rw [e_S16]; exact hT9
  have hE : z_Ext S S16 := by rw [e_S16]; exact hE9
  have h_x0 : z_is b0 S16 (x0) 8 := by rw [e_S16]; exact h_x0.upR
  have hn3 : z_is b0 S16 (S.2.2) 1 := by rw [e_S16]; exact hn3.upR
  have hn8 : z_is b0 S16 (S5.2.2) 14 := by rw [e_S16]; exact hn8.upR
  have hk_r10 : z_is b0 S16 (r10) 14 := by rw [e_S16]; exact hk_r10.upR
  have hn13 : z_is b0 S16 (S9.2.2) 5 := by rw [e_S16]; exact hn13.upR
  obtain ⟨r17, hr_r17, hz⟩ := ob_some hz
  have hk_r17 : z_is b0 S16 r17 14 := hT.at h_x0 hr_r17
  obtain ⟨S18, e_S18, hz⟩ := zlet_some hz
  obtain ⟨J19, e_J19, hz⟩ := zlet_some hz
  have hb9 : b0 ≤ S16.2.2 := Nat.le_of_lt (Nat.lt_of_le_of_lt h_x0.1 h_x0.2.1)
  have h_x0 : z_is b0 S18 (x0) 8 := by rw [e_S18]; exact h_x0.new
  have hn3 : z_is b0 S18 (S.2.2) 1 := by rw [e_S18]; exact hn3.new
  have hn8 : z_is b0 S18 (S5.2.2) 14 := by rw [e_S18]; exact hn8.new
  have hk_r10 : z_is b0 S18 (r10) 14 := by rw [e_S18]; exact hk_r10.new
  have hn13 : z_is b0 S18 (S9.2.2) 5 := by rw [e_S18]; exact hn13.new
  have hk_r17 : z_is b0 S18 (r17) 14 := by rw [e_S18]; exact hk_r17.new
  have hn20 : z_is b0 S18 S16.2.2 5 := by rw [e_S18]; exact z_is.fresh hb9 5 0
  have hT : z_T b0 S18 := by rw [e_S18]; exact hT.new _ _
  have hE : z_Ext S S18 := by rw [e_S18]; exact hE.new _ _
  obtain ⟨q21, hq_q21, hz⟩ := ob_some hz
  have hx_q21 := xt_X5_init hT hn20 hq_q21
  have hT : z_T b0 q21.1 := hx_q21.1
  have hE : z_Ext S q21.1 := hE.trans hx_q21.2
  have h_x0 : z_is b0 q21.1 (x0) 8 := hx_q21.2.is h_x0
  have hn3 : z_is b0 q21.1 (S.2.2) 1 := hx_q21.2.is hn3
  have hn8 : z_is b0 q21.1 (S5.2.2) 14 := hx_q21.2.is hn8
  have hk_r10 : z_is b0 q21.1 (r10) 14 := hx_q21.2.is hk_r10
  have hn13 : z_is b0 q21.1 (S9.2.2) 5 := hx_q21.2.is hn13
  have hk_r17 : z_is b0 q21.1 (r17) 14 := hx_q21.2.is hk_r17
  have hn20 : z_is b0 q21.1 (S16.2.2) 5 := hx_q21.2.is hn20
  obtain ⟨hi22, hz⟩ := ifn_some hz
  have hT9 := hT.upR (x := S16.2.2) (k := (1 : Int32).toNatClampNeg) hk_r17 hn20
  have hE9 := hE.upR (a := r17) (k := (1 : Int32).toNatClampNeg) (x := some (S16.2.2))
  obtain ⟨S23, e_S23, hz⟩ := zlet_some hz
  have hT : z_T b0 S23 := by rw [e_S23]; exact hT9
  have hE : z_Ext S S23 := by rw [e_S23]; exact hE9
  have h_x0 : z_is b0 S23 (x0) 8 := by rw [e_S23]; exact h_x0.upR
  have hn3 : z_is b0 S23 (S.2.2) 1 := by rw [e_S23]; exact hn3.upR
  have hn8 : z_is b0 S23 (S5.2.2) 14 := by rw [e_S23]; exact hn8.upR
  have hk_r10 : z_is b0 S23 (r10) 14 := by rw [e_S23]; exact hk_r10.upR
  have hn13 : z_is b0 S23 (S9.2.2) 5 := by rw [e_S23]; exact hn13.upR
  have hk_r17 : z_is b0 S23 (r17) 14 := by rw [e_S23]; exact hk_r17.upR
  have hn20 : z_is b0 S23 (S16.2.2) 5 := by rw [e_S23]; exact hn20.upR
  obtain ⟨r24, hr_r24, hz⟩ := ob_some hz
  have hk_r24 : z_is b0 S23 r24 14 := hT.at h_x0 hr_r24
  obtain ⟨S25, e_S25, hz⟩ := zlet_some hz
  obtain ⟨J26, e_J26, hz⟩ := zlet_some hz
  have hb9 : b0 ≤ S23.2.2 := Nat.le_of_lt (Nat.lt_of_le_of_lt h_x0.1 h_x0.2.1)
  have h_x0 : z_is b0 S25 (x0) 8 := by rw [e_S25]; exact h_x0.new
  have hn3 : z_is b0 S25 (S.2.2) 1 := by rw [e_S25]; exact hn3.new
  have hn8 : z_is b0 S25 (S5.2.2) 14 := by rw [e_S25]; exact hn8.new
  have hk_r10 : z_is b0 S25 (r10) 14 := by rw [e_S25]; exact hk_r10.new
  have hn13 : z_is b0 S25 (S9.2.2) 5 := by rw [e_S25]; exact hn13.new
  have hk_r17 : z_is b0 S25 (r17) 14 := by rw [e_S25]; exact hk_r17.new
  have hn20 : z_is b0 S25 (S16.2.2) 5 := by rw [e_S25]; exact hn20.new
  have hk_r24 : z_is b0 S25 (r24) 14 := by rw [e_S25]; exact hk_r24.new
  have hn27 : z_is b0 S25 S23.2.2 5 := by rw [e_S25]; exact z_is.fresh hb9 5 0
  have hT : z_T b0 S25 := by rw [e_S25]; exact hT.new _ _
  have hE : z_Ext S S25 := by rw [e_S25]; exact hE.new _ _
  obtain ⟨q28, hq_q28, hz⟩ := ob_some hz
  have hx_q28 := xt_X5_init hT hn27 hq_q28
  have hT : z_T b0 q28.1 := hx_q28.1
  have hE : z_Ext S q28.1 := hE.trans hx_q28.2
  have h_x0 : z_is b0 q28.1 (x0) 8 := hx_q28.2.is h_x0
  have hn3 : z_is b0 q28.1 (S.2.2) 1 := hx_q28.2.is hn3
  have hn8 : z_is b0 q28.1 (S5.2.2) 14 := hx_q28.2.is hn8
  have hk_r10 : z_is b0 q28.1 (r10) 14 := hx_q28.2.is hk_r10
  have hn13 : z_is b0 q28.1 (S9.2.2) 5 := hx_q28.2.is hn13
  have hk_r17 : z_is b0 q28.1 (r17) 14 := hx_q28.2.is hk_r17
  have hn20 : z_is b0 q28.1 (S16.2.2) 5 := hx_q28.2.is hn20
  have hk_r24 : z_is b0 q28.1 (r24) 14 := hx_q28.2.is hk_r24
  have hn27 : z_is b0 q28.1 (S23.2.2) 5 := hx_q28.2.is hn27
  obtain ⟨hi29, hz⟩ := ifn_some hz
  have hT9 := hT.upR (x := S23.2.2) (k := (2 : Int32).toNatClampNeg) hk_r24 hn27
  have hE9 := hE.upR (a := r24) (k := (2 : Int32).toNatClampNeg) (x := some (S23.2.2))
  obtain ⟨S30, e_S30, hz⟩ := zlet_some hz
  have hT : z_T b0 S30 := by rw [e_S30]; exact hT9
  have hE : z_Ext S S30 := by rw [e_S30]; exact hE9
  have h_x0 : z_is b0 S30 (x0) 8 := by rw [e_S30]; exact h_x0.upR
  have hn3 : z_is b0 S30 (S.2.2) 1 := by rw [e_S30]; exact hn3.upR
  have hn8 : z_is b0 S30 (S5.2.2) 14 := by rw [e_S30]; exact hn8.upR
  have hk_r10 : z_is b0 S30 (r10) 14 := by rw [e_S30]; exact hk_r10.upR
  have hn13 : z_is b0 S30 (S9.2.2) 5 := by rw [e_S30]; exact hn13.upR
  have hk_r17 : z_is b0 S30 (r17) 14 := by rw [e_S30]; exact hk_r17.upR
  have hn20 : z_is b0 S30 (S16.2.2) 5 := by rw [e_S30]; exact hn20.upR
  have hk_r24 : z_is b0 S30 (r24) 14 := by rw [e_S30]; exact hk_r24.upR
  have hn27 : z_is b0 S30 (S23.2.2) 5 := by rw [e_S30]; exact hn27.upR
  obtain ⟨r31, hr_r31, hz⟩ := ob_some hz
  have hk_r31 : z_is b0 S30 r31 14 := hT.at h_x0 hr_r31
  obtain ⟨S32, e_S32, hz⟩ := zlet_some hz
  obtain ⟨J33, e_J33, hz⟩ := zlet_some hz
  have hb9 : b0 ≤ S30.2.2 := Nat.le_of_lt (Nat.lt_of_le_of_lt h_x0.1 h_x0.2.1)
  have h_x0 : z_is b0 S32 (x0) 8 := by rw [e_S32]; exact h_x0.new
  have hn3 : z_is b0 S32 (S.2.2) 1 := by rw [e_S32]; exact hn3.new
  have hn8 : z_is b0 S32 (S5.2.2) 14 := by rw [e_S32]; exact hn8.new
  have hk_r10 : z_is b0 S32 (r10) 14 := by rw [e_S32]; exact hk_r10.new
  have hn13 : z_is b0 S32 (S9.2.2) 5 := by rw [e_S32]; exact hn13.new
  have hk_r17 : z_is b0 S32 (r17) 14 := by rw [e_S32]; exact hk_r17.new
  have hn20 : z_is b0 S32 (S16.2.2) 5 := by rw [e_S32]; exact hn20.new
  have hk_r24 : z_is b0 S32 (r24) 14 := by rw [e_S32]; exact hk_r24.new
  have hn27 : z_is b0 S32 (S23.2.2) 5 := by rw [e_S32]; exact hn27.new
  have hk_r31 : z_is b0 S32 (r31) 14 := by rw [e_S32]; exact hk_r31.new
  have hn34 : z_is b0 S32 S30.2.2 5 := by rw [e_S32]; exact z_is.fresh hb9 5 0
  have hT : z_T b0 S32 := by rw [e_S32]; exact hT.new _ _
  have hE : z_Ext S S32 := by rw [e_S32]; exact hE.new _ _
  obtain ⟨q35, hq_q35, hz⟩ := ob_some hz
  have hx_q35 := xt_X5_init hT hn34 hq_q35
  have hT : z_T b0 q35.1 := hx_q35.1
  have hE : z_Ext S q35.1 := hE.trans hx_q35.2
  have h_x0 : z_is b0 q35.1 (x0) 8 := hx_q35.2.is h_x0
  have hn3 : z_is b0 q35.1 (S.2.2) 1 := hx_q35.2.is hn3
  have hn8 : z_is b0 q35.1 (S5.2.2) 14 := hx_q35.2.is hn8
  have hk_r10 : z_is b0 q35.1 (r10) 14 := hx_q35.2.is hk_r10
  have hn13 : z_is b0 q35.1 (S9.2.2) 5 := hx_q35.2.is hn13
  have hk_r17 : z_is b0 q35.1 (r17) 14 := hx_q35.2.is hk_r17
  have hn20 : z_is b0 q35.1 (S16.2.2) 5 := hx_q35.2.is hn20
  have hk_r24 : z_is b0 q35.1 (r24) 14 := hx_q35.2.is hk_r24
  have hn27 : z_is b0 q35.1 (S23.2.2) 5 := hx_q35.2.is hn27
  have hk_r31 : z_is b0 q35.1 (r31) 14 := hx_q35.2.is hk_r31
  have hn34 : z_is b0 q35.1 (S30.2.2) 5 := hx_q35.2.is hn34
  obtain ⟨hi36, hz⟩ := ifn_some hz
  have hT9 := hT.upR (x := S30.2.2) (k := (3 : Int32).toNatClampNeg) hk_r31 hn34
  have hE9 := hE.upR (a := r31) (k := (3 : Int32).toNatClampNeg) (x := some (S30.2.2))
  obtain ⟨S37, e_S37, hz⟩ := zlet_some hz
  have hT : z_T b0 S37 := by rw [e_S37]; exact hT9
  have hE : z_Ext S S37 := by rw [e_S37]; exact hE9
  have h_x0 : z_is b0 S37 (x0) 8 := by rw [e_S37]; exact h_x0.upR
  have hn3 : z_is b0 S37 (S.2.2) 1 := by rw [e_S37]; exact hn3.upR
  have hn8 : z_is b0 S37 (S5.2.2) 14 := by rw [e_S37]; exact hn8.upR
  have hk_r10 : z_is b0 S37 (r10) 14 := by rw [e_S37]; exact hk_r10.upR
  have hn13 : z_is b0 S37 (S9.2.2) 5 := by rw [e_S37]; exact hn13.upR
  have hk_r17 : z_is b0 S37 (r17) 14 := by rw [e_S37]; exact hk_r17.upR
  have hn20 : z_is b0 S37 (S16.2.2) 5 := by rw [e_S37]; exact hn20.upR
  have hk_r24 : z_is b0 S37 (r24) 14 := by rw [e_S37]; exact hk_r24.upR
  have hn27 : z_is b0 S37 (S23.2.2) 5 := by rw [e_S37]; exact hn27.upR
  have hk_r31 : z_is b0 S37 (r31) 14 := by rw [e_S37]; exact hk_r31.upR
  have hn34 : z_is b0 S37 (S30.2.2) 5 := by rw [e_S37]; exact hn34.upR
  obtain ⟨r38, hr_r38, hz⟩ := ob_some hz
  have hk_r38 : z_is b0 S37 r38 14 := hT.at h_x0 hr_r38
  obtain ⟨S39, e_S39, hz⟩ := zlet_some hz
  obtain ⟨J40, e_J40, hz⟩ := zlet_some hz
  have hb9 : b0 ≤ S37.2.2 := Nat.le_of_lt (Nat.lt_of_le_of_lt h_x0.1 h_x0.2.1)
  have h_x0 : z_is b0 S39 (x0) 8 := by rw [e_S39]; exact h_x0.new
  have hn3 : z_is b0 S39 (S.2.2) 1 := by rw [e_S39]; exact hn3.new
  have hn8 : z_is b0 S39 (S5.2.2) 14 := by rw [e_S39]; exact hn8.new
  have hk_r10 : z_is b0 S39 (r10) 14 := by rw [e_S39]; exact hk_r10.new
  have hn13 : z_is b0 S39 (S9.2.2) 5 := by rw [e_S39]; exact hn13.new
  have hk_r17 : z_is b0 S39 (r17) 14 := by rw [e_S39]; exact hk_r17.new
  have hn20 : z_is b0 S39 (S16.2.2) 5 := by rw [e_S39]; exact hn20.new
  have hk_r24 : z_is b0 S39 (r24) 14 := by rw [e_S39]; exact hk_r24.new
  have hn27 : z_is b0 S39 (S23.2.2) 5 := by rw [e_S39]; exact hn27.new
  have hk_r31 : z_is b0 S39 (r31) 14 := by rw [e_S39]; exact hk_r31.new
  have hn34 : z_is b0 S39 (S30.2.2) 5 := by rw [e_S39]; exact hn34.new
  have hk_r38 : z_is b0 S39 (r38) 14 := by rw [e_S39]; exact hk_r38.new
  have hn41 : z_is b0 S39 S37.2.2 5 := by rw [e_S39]; exact z_is.fresh hb9 5 0
  have hT : z_T b0 S39 := by rw [e_S39]; exact hT.new _ _
  have hE : z_Ext S S39 := by rw [e_S39]; exact hE.new _ _
  obtain ⟨q42, hq_q42, hz⟩ := ob_some hz
  have hx_q42 := xt_X5_init hT hn41 hq_q42
  have hT : z_T b0 q42.1 := hx_q42.1
  have hE : z_Ext S q42.1 := hE.trans hx_q42.2
  have h_x0 : z_is b0 q42.1 (x0) 8 := hx_q42.2.is h_x0
  have hn3 : z_is b0 q42.1 (S.2.2) 1 := hx_q42.2.is hn3
  have hn8 : z_is b0 q42.1 (S5.2.2) 14 := hx_q42.2.is hn8
  have hk_r10 : z_is b0 q42.1 (r10) 14 := hx_q42.2.is hk_r10
  have hn13 : z_is b0 q42.1 (S9.2.2) 5 := hx_q42.2.is hn13
  have hk_r17 : z_is b0 q42.1 (r17) 14 := hx_q42.2.is hk_r17
  have hn20 : z_is b0 q42.1 (S16.2.2) 5 := hx_q42.2.is hn20
  have hk_r24 : z_is b0 q42.1 (r24) 14 := hx_q42.2.is hk_r24
  have hn27 : z_is b0 q42.1 (S23.2.2) 5 := hx_q42.2.is hn27
  have hk_r31 : z_is b0 q42.1 (r31) 14 := hx_q42.2.is hk_r31
  have hn34 : z_is b0 q42.1 (S30.2.2) 5 := hx_q42.2.is hn34
  have hk_r38 : z_is b0 q42.1 (r38) 14 := hx_q42.2.is hk_r38
  have hn41 : z_is b0 q42.1 (S37.2.2) 5 := hx_q42.2.is hn41
  obtain ⟨hi43, hz⟩ := ifn_some hz
  have hT9 := hT.upR (x := S37.2.2) (k := (4 : Int32).toNatClampNeg) hk_r38 hn41
  have hE9 := hE.upR (a := r38) (k := (4 : Int32).toNatClampNeg) (x := some (S37.2.2))
  obtain ⟨S44, e_S44, hz⟩ := zlet_some hz
  have hT : z_T b0 S44 := by rw [e_S44]; exact hT9
  have hE : z_Ext S S44 := by rw [e_S44]; exact hE9
  have h_x0 : z_is b0 S44 (x0) 8 := by rw [e_S44]; exact h_x0.upR
  have hn3 : z_is b0 S44 (S.2.2) 1 := by rw [e_S44]; exact hn3.upR
  have hn8 : z_is b0 S44 (S5.2.2) 14 := by rw [e_S44]; exact hn8.upR
  have hk_r10 : z_is b0 S44 (r10) 14 := by rw [e_S44]; exact hk_r10.upR
  have hn13 : z_is b0 S44 (S9.2.2) 5 := by rw [e_S44]; exact hn13.upR
  have hk_r17 : z_is b0 S44 (r17) 14 := by rw [e_S44]; exact hk_r17.upR
  have hn20 : z_is b0 S44 (S16.2.2) 5 := by rw [e_S44]; exact hn20.upR
  have hk_r24 : z_is b0 S44 (r24) 14 := by rw [e_S44]; exact hk_r24.upR
  have hn27 : z_is b0 S44 (S23.2.2) 5 := by rw [e_S44]; exact hn27.upR
  have hk_r31 : z_is b0 S44 (r31) 14 := by rw [e_S44]; exact hk_r31.upR
  have hn34 : z_is b0 S44 (S30.2.2) 5 := by rw [e_S44]; exact hn34.upR
  have hk_r38 : z_is b0 S44 (r38) 14 := by rw [e_S44]; exact hk_r38.upR
  have hn41 : z_is b0 S44 (S37.2.2) 5 := by rw [e_S44]; exact hn41.upR
  obtain ⟨r45, hr_r45, hz⟩ := ob_some hz
  have hk_r45 : z_is b0 S44 r45 14 := hT.at h_x0 hr_r45
  obtain ⟨S46, e_S46, hz⟩ := zlet_some hz
  obtain ⟨J47, e_J47, hz⟩ := zlet_some hz
  have hb9 : b0 ≤ S44.2.2 := Nat.le_of_lt (Nat.lt_of_le_of_lt h_x0.1 h_x0.2.1)
  have h_x0 : z_is b0 S46 (x0) 8 := by rw [e_S46]; exact h_x0.new
  have hn3 : z_is b0 S46 (S.2.2) 1 := by rw [e_S46]; exact hn3.new
  have hn8 : z_is b0 S46 (S5.2.2) 14 := by rw [e_S46]; exact hn8.new
  have hk_r10 : z_is b0 S46 (r10) 14 := by rw [e_S46]; exact hk_r10.new
  have hn13 : z_is b0 S46 (S9.2.2) 5 := by rw [e_S46]; exact hn13.new
  have hk_r17 : z_is b0 S46 (r17) 14 := by rw [e_S46]; exact hk_r17.new
  have hn20 : z_is b0 S46 (S16.2.2) 5 := by rw [e_S46]; exact hn20.new
  have hk_r24 : z_is b0 S46 (r24) 14 := by rw [e_S46]; exact hk_r24.new
  have hn27 : z_is b0 S46 (S23.2.2) 5 := by rw [e_S46]; exact hn27.new
  have hk_r31 : z_is b0 S46 (r31) 14 := by rw [e_S46]; exact hk_r31.new
  have hn34 : z_is b0 S46 (S30.2.2) 5 := by rw [e_S46]; exact hn34.new
  have hk_r38 : z_is b0 S46 (r38) 14 := by rw [e_S46]; exact hk_r38.new
  have hn41 : z_is b0 S46 (S37.2.2) 5 := by rw [e_S46]; exact hn41.new
  have hk_r45 : z_is b0 S46 (r45) 14 := by rw [e_S46]; exact hk_r45.new
  have hn48 : z_is b0 S46 S44.2.2 5 := by rw [e_S46]; exact z_is.fresh hb9 5 0
  have hT : z_T b0 S46 := by rw [e_S46]; exact hT.new _ _
  have hE : z_Ext S S46 := by rw [e_S46]; exact hE.new _ _
  obtain ⟨q49, hq_q49, hz⟩ := ob_some hz
  have hx_q49 := xt_X5_init hT hn48 hq_q49
  have hT : z_T b0 q49.1 := hx_q49.1
  have hE : z_Ext S q49.1 := hE.trans hx_q49.2
  have h_x0 : z_is b0 q49.1 (x0) 8 := hx_q49.2.is h_x0
  have hn3 : z_is b0 q49.1 (S.2.2) 1 := hx_q49.2.is hn3
  have hn8 : z_is b0 q49.1 (S5.2.2) 14 := hx_q49.2.is hn8
  have hk_r10 : z_is b0 q49.1 (r10) 14 := hx_q49.2.is hk_r10
  have hn13 : z_is b0 q49.1 (S9.2.2) 5 := hx_q49.2.is hn13
  have hk_r17 : z_is b0 q49.1 (r17) 14 := hx_q49.2.is hk_r17
  have hn20 : z_is b0 q49.1 (S16.2.2) 5 := hx_q49.2.is hn20
  have hk_r24 : z_is b0 q49.1 (r24) 14 := hx_q49.2.is hk_r24
  have hn27 : z_is b0 q49.1 (S23.2.2) 5 := hx_q49.2.is hn27
  have hk_r31 : z_is b0 q49.1 (r31) 14 := hx_q49.2.is hk_r31
  have hn34 : z_is b0 q49.1 (S30.2.2) 5 := hx_q49.2.is hn34
  have hk_r38 : z_is b0 q49.1 (r38) 14 := hx_q49.2.is hk_r38
  have hn41 : z_is b0 q49.1 (S37.2.2) 5 := hx_q49.2.is hn41
  have hk_r45 : z_is b0 q49.1 (r45) 14 := hx_q49.2.is hk_r45
  have hn48 : z_is b0 q49.1 (S44.2.2) 5 := hx_q49.2.is hn48
  obtain ⟨hi50, hz⟩ := ifn_some hz
  have hT9 := hT.upR (x := S44.2.2) (k := (5 : Int32).toNatClampNeg) hk_r45 hn48
  have hE9 := hE.upR (a := r45) (k := (5 : Int32).toNatClampNeg) (x := some (S44.2.2))
  obtain ⟨S51, e_S51, hz⟩ := zlet_some hz
  have hT : z_T b0 S51 := by rw [e_S51]; exact hT9
  have hE : z_Ext S S51 := by rw [e_S51]; exact hE9
  have h_x0 : z_is b0 S51 (x0) 8 := by rw [e_S51]; exact h_x0.upR
  have hn3 : z_is b0 S51 (S.2.2) 1 := by rw [e_S51]; exact hn3.upR
  have hn8 : z_is b0 S51 (S5.2.2) 14 := by rw [e_S51]; exact hn8.upR
  have hk_r10 : z_is b0 S51 (r10) 14 := by rw [e_S51]; exact hk_r10.upR
  have hn13 : z_is b0 S51 (S9.2.2) 5 := by rw [e_S51]; exact hn13.upR
  have hk_r17 : z_is b0 S51 (r17) 14 := by rw [e_S51]; exact hk_r17.upR
  have hn20 : z_is b0 S51 (S16.2.2) 5 := by rw [e_S51]; exact hn20.upR
  have hk_r24 : z_is b0 S51 (r24) 14 := by rw [e_S51]; exact hk_r24.upR
  have hn27 : z_is b0 S51 (S23.2.2) 5 := by rw [e_S51]; exact hn27.upR
  have hk_r31 : z_is b0 S51 (r31) 14 := by rw [e_S51]; exact hk_r31.upR
  have hn34 : z_is b0 S51 (S30.2.2) 5 := by rw [e_S51]; exact hn34.upR
  have hk_r38 : z_is b0 S51 (r38) 14 := by rw [e_S51]; exact hk_r38.upR
  have hn41 : z_is b0 S51 (S37.2.2) 5 := by rw [e_S51]; exact hn41.upR
  have hk_r45 : z_is b0 S51 (r45) 14 := by rw [e_S51]; exact hk_r45.upR
  have hn48 : z_is b0 S51 (S44.2.2) 5 := by rw [e_S51]; exact hn48.upR
  obtain ⟨r52, hr_r52, hz⟩ := ob_some hz
  have hk_r52 : z_is b0 S51 r52 14 := hT.at h_x0 hr_r52
  obtain ⟨S53, e_S53, hz⟩ := zlet_some hz
  obtain ⟨J54, e_J54, hz⟩ := zlet_some hz
  have hb9 : b0 ≤ S51.2.2 := Nat.le_of_lt (Nat.lt_of_le_of_lt h_x0.1 h_x0.2.1)
  have h_x0 : z_is b0 S53 (x0) 8 := by rw [e_S53]; exact h_x0.new
  have hn3 : z_is b0 S53 (S.2.2) 1 := by rw [e_S53]; exact hn3.new
  have hn8 : z_is b0 S53 (S5.2.2) 14 := by rw [e_S53]; exact hn8.new
  have hk_r10 : z_is b0 S53 (r10) 14 := by rw [e_S53]; exact hk_r10.new
  have hn13 : z_is b0 S53 (S9.2.2) 5 := by rw [e_S53]; exact hn13.new
  have hk_r17 : z_is b0 S53 (r17) 14 := by rw [e_S53]; exact hk_r17.new
  have hn20 : z_is b0 S53 (S16.2.2) 5 := by rw [e_S53]; exact hn20.new
  have hk_r24 : z_is b0 S53 (r24) 14 := by rw [e_S53]; exact hk_r24.new
  have hn27 : z_is b0 S53 (S23.2.2) 5 := by rw [e_S53]; exact hn27.new
  have hk_r31 : z_is b0 S53 (r31) 14 := by rw [e_S53]; exact hk_r31.new
  have hn34 : z_is b0 S53 (S30.2.2) 5 := by rw [e_S53]; exact hn34.new
  have hk_r38 : z_is b0 S53 (r38) 14 := by rw [e_S53]; exact hk_r38.new
  have hn41 : z_is b0 S53 (S37.2.2) 5 := by rw [e_S53]; exact hn41.new
  have hk_r45 : z_is b0 S53 (r45) 14 := by rw [e_S53]; exact hk_r45.new
  have hn48 : z_is b0 S53 (S44.2.2) 5 := by rw [e_S53]; exact hn48.new
  have hk_r52 : z_is b0 S53 (r52) 14 := by rw [e_S53]; exact hk_r52.new
  have hn55 : z_is b0 S53 S51.2.2 5 := by rw [e_S53]; exact z_is.fresh hb9 5 0
  have hT : z_T b0 S53 := by rw [e_S53]; exact hT.new _ _
  have hE : z_Ext S S53 := by rw [e_S53]; exact hE.new _ _
  obtain ⟨q56, hq_q56, hz⟩ := ob_some hz
  have hx_q56 := xt_X5_init hT hn55 hq_q56
  have hT : z_T b0 q56.1 := hx_q56.1
  have hE : z_Ext S q56.1 := hE.trans hx_q56.2
  have h_x0 : z_is b0 q56.1 (x0) 8 := hx_q56.2.is h_x0
  have hn3 : z_is b0 q56.1 (S.2.2) 1 := hx_q56.2.is hn3
  have hn8 : z_is b0 q56.1 (S5.2.2) 14 := hx_q56.2.is hn8
  have hk_r10 : z_is b0 q56.1 (r10) 14 := hx_q56.2.is hk_r10
  have hn13 : z_is b0 q56.1 (S9.2.2) 5 := hx_q56.2.is hn13
  have hk_r17 : z_is b0 q56.1 (r17) 14 := hx_q56.2.is hk_r17
  have hn20 : z_is b0 q56.1 (S16.2.2) 5 := hx_q56.2.is hn20
  have hk_r24 : z_is b0 q56.1 (r24) 14 := hx_q56.2.is hk_r24
  have hn27 : z_is b0 q56.1 (S23.2.2) 5 := hx_q56.2.is hn27
  have hk_r31 : z_is b0 q56.1 (r31) 14 := hx_q56.2.is hk_r31
  have hn34 : z_is b0 q56.1 (S30.2.2) 5 := hx_q56.2.is hn34
  have hk_r38 : z_is b0 q56.1 (r38) 14 := hx_q56.2.is hk_r38
  have hn41 : z_is b0 q56.1 (S37.2.2) 5 := hx_q56.2.is hn41
  have hk_r45 : z_is b0 q56.1 (r45) 14 := hx_q56.2.is hk_r45
  have hn48 : z_is b0 q56.1 (S44.2.2) 5 := hx_q56.2.is hn48
  have hk_r52 : z_is b0 q56.1 (r52) 14 := hx_q56.2.is hk_r52
  have hn55 : z_is b0 q56.1 (S51.2.2) 5 := hx_q56.2.is hn55
  obtain ⟨hi57, hz⟩ := ifn_some hz
  have hT9 := hT.upR (x := S51.2.2) (k := (6 : Int32).toNatClampNeg) hk_r52 hn55
  have hE9 := hE.upR (a := r52) (k := (6 : Int32).toNatClampNeg) (x := some (S51.2.2))
  obtain ⟨S58, e_S58, hz⟩ := zlet_some hz
  have hT : z_T b0 S58 := by rw [e_S58]; exact hT9
  have hE : z_Ext S S58 := by rw [e_S58]; exact hE9
  have h_x0 : z_is b0 S58 (x0) 8 := by rw [e_S58]; exact h_x0.upR
  have hn3 : z_is b0 S58 (S.2.2) 1 := by rw [e_S58]; exact hn3.upR
  have hn8 : z_is b0 S58 (S5.2.2) 14 := by rw [e_S58]; exact hn8.upR
  have hk_r10 : z_is b0 S58 (r10) 14 := by rw [e_S58]; exact hk_r10.upR
  have hn13 : z_is b0 S58 (S9.2.2) 5 := by rw [e_S58]; exact hn13.upR
  have hk_r17 : z_is b0 S58 (r17) 14 := by rw [e_S58]; exact hk_r17.upR
  have hn20 : z_is b0 S58 (S16.2.2) 5 := by rw [e_S58]; exact hn20.upR
  have hk_r24 : z_is b0 S58 (r24) 14 := by rw [e_S58]; exact hk_r24.upR
  have hn27 : z_is b0 S58 (S23.2.2) 5 := by rw [e_S58]; exact hn27.upR
  have hk_r31 : z_is b0 S58 (r31) 14 := by rw [e_S58]; exact hk_r31.upR
  have hn34 : z_is b0 S58 (S30.2.2) 5 := by rw [e_S58]; exact hn34.upR
  have hk_r38 : z_is b0 S58 (r38) 14 := by rw [e_S58]; exact hk_r38.upR
  have hn41 : z_is b0 S58 (S37.2.2) 5 := by rw [e_S58]; exact hn41.upR
  have hk_r45 : z_is b0 S58 (r45) 14 := by rw [e_S58]; exact hk_r45.upR
  have hn48 : z_is b0 S58 (S44.2.2) 5 := by rw [e_S58]; exact hn48.upR
  have hk_r52 : z_is b0 S58 (r52) 14 := by rw [e_S58]; exact hk_r52.upR
  have hn55 : z_is b0 S58 (S51.2.2) 5 := by rw [e_S58]; exact hn55.upR
  obtain ⟨r59, hr_r59, hz⟩ := ob_some hz
  have hk_r59 : z_is b0 S58 r59 14 := hT.at h_x0 hr_r59
  obtain ⟨S60, e_S60, hz⟩ := zlet_some hz
  obtain ⟨J61, e_J61, hz⟩ := zlet_some hz
  have hb9 : b0 ≤ S58.2.2 := Nat.le_of_lt (Nat.lt_of_le_of_lt h_x0.1 h_x0.2.1)
  have h_x0 : z_is b0 S60 (x0) 8 := by rw [e_S60]; exact h_x0.new
  have hn3 : z_is b0 S60 (S.2.2) 1 := by rw [e_S60]; exact hn3.new
  have hn8 : z_is b0 S60 (S5.2.2) 14 := by rw [e_S60]; exact hn8.new
  have hk_r10 : z_is b0 S60 (r10) 14 := by rw [e_S60]; exact hk_r10.new
  have hn13 : z_is b0 S60 (S9.2.2) 5 := by rw [e_S60]; exact hn13.new
  have hk_r17 : z_is b0 S60 (r17) 14 := by rw [e_S60]; exact hk_r17.new
  have hn20 : z_is b0 S60 (S16.2.2) 5 := by rw [e_S60]; exact hn20.new
  have hk_r24 : z_is b0 S60 (r24) 14 := by rw [e_S60]; exact hk_r24.new
  have hn27 : z_is b0 S60 (S23.2.2) 5 := by rw [e_S60]; exact hn27.new
  have hk_r31 : z_is b0 S60 (r31) 14 := by rw [e_S60]; exact hk_r31.new
  have hn34 : z_is b0 S60 (S30.2.2) 5 := by rw [e_S60]; exact hn34.new
  have hk_r38 : z_is b0 S60 (r38) 14 := by rw [e_S60]; exact hk_r38.new
  have hn41 : z_is b0 S60 (S37.2.2) 5 := by rw [e_S60]; exact hn41.new
  have hk_r45 : z_is b0 S60 (r45) 14 := by rw [e_S60]; exact hk_r45.new
  have hn48 : z_is b0 S60 (S44.2.2) 5 := by rw [e_S60]; exact hn48.new
  have hk_r52 : z_is b0 S60 (r52) 14 := by rw [e_S60]; exact hk_r52.new
  have hn55 : z_is b0 S60 (S51.2.2) 5 := by rw [e_S60]; exact hn55.new
  have hk_r59 : z_is b0 S60 (r59) 14 := by rw [e_S60]; exact hk_r59.new
  have hn62 : z_is b0 S60 S58.2.2 5 := by rw [e_S60]; exact z_is.fresh hb9 5 0
  have hT : z_T b0 S60 := by rw [e_S60]; exact hT.new _ _
  have hE : z_Ext S S60 := by rw [e_S60]; exact hE.new _ _
  obtain ⟨q63, hq_q63, hz⟩ := ob_some hz
  have hx_q63 := xt_X5_init hT hn62 hq_q63
  have hT : z_T b0 q63.1 := hx_q63.1
  have hE : z_Ext S q63.1 := hE.trans hx_q63.2
  have h_x0 : z_is b0 q63.1 (x0) 8 := hx_q63.2.is h_x0
  have hn3 : z_is b0 q63.1 (S.2.2) 1 := hx_q63.2.is hn3
  have hn8 : z_is b0 q63.1 (S5.2.2) 14 := hx_q63.2.is hn8
  have hk_r10 : z_is b0 q63.1 (r10) 14 := hx_q63.2.is hk_r10
  have hn13 : z_is b0 q63.1 (S9.2.2) 5 := hx_q63.2.is hn13
  have hk_r17 : z_is b0 q63.1 (r17) 14 := hx_q63.2.is hk_r17
  have hn20 : z_is b0 q63.1 (S16.2.2) 5 := hx_q63.2.is hn20
  have hk_r24 : z_is b0 q63.1 (r24) 14 := hx_q63.2.is hk_r24
  have hn27 : z_is b0 q63.1 (S23.2.2) 5 := hx_q63.2.is hn27
  have hk_r31 : z_is b0 q63.1 (r31) 14 := hx_q63.2.is hk_r31
  have hn34 : z_is b0 q63.1 (S30.2.2) 5 := hx_q63.2.is hn34
  have hk_r38 : z_is b0 q63.1 (r38) 14 := hx_q63.2.is hk_r38
  have hn41 : z_is b0 q63.1 (S37.2.2) 5 := hx_q63.2.is hn41
  have hk_r45 : z_is b0 q63.1 (r45) 14 := hx_q63.2.is hk_r45
  have hn48 : z_is b0 q63.1 (S44.2.2) 5 := hx_q63.2.is hn48
  have hk_r52 : z_is b0 q63.1 (r52) 14 := hx_q63.2.is hk_r52
  have hn55 : z_is b0 q63.1 (S51.2.2) 5 := hx_q63.2.is hn55
  have hk_r59 : z_is b0 q63.1 (r59) 14 := hx_q63.2.is hk_r59
  have hn62 : z_is b0 q63.1 (S58.2.2) 5 := hx_q63.2.is hn62
  obtain ⟨hi64, hz⟩ := ifn_some hz
  have hT9 := hT.upR (x := S58.2.2) (k := (7 : Int32).toNatClampNeg) hk_r59 hn62
  have hE9 := hE.upR (a := r59) (k := (7 : Int32).toNatClampNeg) (x := some (S58.2.2))
  obtain ⟨S65, e_S65, hz⟩ := zlet_some hz
  have hT : z_T b0 S65 := by rw [e_S65]; exact hT9
  have hE : z_Ext S S65 := by rw [e_S65]; exact hE9
  have h_x0 : z_is b0 S65 (x0) 8 := by rw [e_S65]; exact h_x0.upR
  have hn3 : z_is b0 S65 (S.2.2) 1 := by rw [e_S65]; exact hn3.upR
  have hn8 : z_is b0 S65 (S5.2.2) 14 := by rw [e_S65]; exact hn8.upR
  have hk_r10 : z_is b0 S65 (r10) 14 := by rw [e_S65]; exact hk_r10.upR
  have hn13 : z_is b0 S65 (S9.2.2) 5 := by rw [e_S65]; exact hn13.upR
  have hk_r17 : z_is b0 S65 (r17) 14 := by rw [e_S65]; exact hk_r17.upR
  have hn20 : z_is b0 S65 (S16.2.2) 5 := by rw [e_S65]; exact hn20.upR
  have hk_r24 : z_is b0 S65 (r24) 14 := by rw [e_S65]; exact hk_r24.upR
  have hn27 : z_is b0 S65 (S23.2.2) 5 := by rw [e_S65]; exact hn27.upR
  have hk_r31 : z_is b0 S65 (r31) 14 := by rw [e_S65]; exact hk_r31.upR
  have hn34 : z_is b0 S65 (S30.2.2) 5 := by rw [e_S65]; exact hn34.upR
  have hk_r38 : z_is b0 S65 (r38) 14 := by rw [e_S65]; exact hk_r38.upR
  have hn41 : z_is b0 S65 (S37.2.2) 5 := by rw [e_S65]; exact hn41.upR
  have hk_r45 : z_is b0 S65 (r45) 14 := by rw [e_S65]; exact hk_r45.upR
  have hn48 : z_is b0 S65 (S44.2.2) 5 := by rw [e_S65]; exact hn48.upR
  have hk_r52 : z_is b0 S65 (r52) 14 := by rw [e_S65]; exact hk_r52.upR
  have hn55 : z_is b0 S65 (S51.2.2) 5 := by rw [e_S65]; exact hn55.upR
  have hk_r59 : z_is b0 S65 (r59) 14 := by rw [e_S65]; exact hk_r59.upR
  have hn62 : z_is b0 S65 (S58.2.2) 5 := by rw [e_S65]; exact hn62.upR
  obtain ⟨S66, e_S66, hz⟩ := zlet_some hz
  obtain ⟨J67, e_J67, hz⟩ := zlet_some hz
  have hb9 : b0 ≤ S65.2.2 := Nat.le_of_lt (Nat.lt_of_le_of_lt h_x0.1 h_x0.2.1)
  have h_x0 : z_is b0 S66 (x0) 8 := by rw [e_S66]; exact h_x0.new
  have hn3 : z_is b0 S66 (S.2.2) 1 := by rw [e_S66]; exact hn3.new
  have hn8 : z_is b0 S66 (S5.2.2) 14 := by rw [e_S66]; exact hn8.new
  have hk_r10 : z_is b0 S66 (r10) 14 := by rw [e_S66]; exact hk_r10.new
  have hn13 : z_is b0 S66 (S9.2.2) 5 := by rw [e_S66]; exact hn13.new
  have hk_r17 : z_is b0 S66 (r17) 14 := by rw [e_S66]; exact hk_r17.new
  have hn20 : z_is b0 S66 (S16.2.2) 5 := by rw [e_S66]; exact hn20.new
  have hk_r24 : z_is b0 S66 (r24) 14 := by rw [e_S66]; exact hk_r24.new
  have hn27 : z_is b0 S66 (S23.2.2) 5 := by rw [e_S66]; exact hn27.new
  have hk_r31 : z_is b0 S66 (r31) 14 := by rw [e_S66]; exact hk_r31.new
  have hn34 : z_is b0 S66 (S30.2.2) 5 := by rw [e_S66]; exact hn34.new
  have hk_r38 : z_is b0 S66 (r38) 14 := by rw [e_S66]; exact hk_r38.new
  have hn41 : z_is b0 S66 (S37.2.2) 5 := by rw [e_S66]; exact hn41.new
  have hk_r45 : z_is b0 S66 (r45) 14 := by rw [e_S66]; exact hk_r45.new
  have hn48 : z_is b0 S66 (S44.2.2) 5 := by rw [e_S66]; exact hn48.new
  have hk_r52 : z_is b0 S66 (r52) 14 := by rw [e_S66]; exact hk_r52.new
  have hn55 : z_is b0 S66 (S51.2.2) 5 := by rw [e_S66]; exact hn55.new
  have hk_r59 : z_is b0 S66 (r59) 14 := by rw [e_S66]; exact hk_r59.new
  have hn62 : z_is b0 S66 (S58.2.2) 5 := by rw [e_S66]; exact hn62.new
  have hn68 : z_is b0 S66 S65.2.2 7 := by rw [e_S66]; exact z_is.fresh hb9 7 0
  have hT : z_T b0 S66 := by rw [e_S66]; exact hT.new _ _
  have hE : z_Ext S S66 := by rw [e_S66]; exact hE.new _ _
  obtain ⟨r69, hr_r69, hz⟩ := ob_some hz
  have hk_r69 : z_is b0 S66 r69 1 := hT.at h_x0 hr_r69
  obtain ⟨q70, hq_q70, hz⟩ := ob_some hz
  have hx_q70 := xt_X7_init hT hn68 hk_r69 hq_q70
  have hT : z_T b0 q70.1 := hx_q70.1
  have hE : z_Ext S q70.1 := hE.trans hx_q70.2
  have h_x0 : z_is b0 q70.1 (x0) 8 := hx_q70.2.is h_x0
  have hn3 : z_is b0 q70.1 (S.2.2) 1 := hx_q70.2.is hn3
  have hn8 : z_is b0 q70.1 (S5.2.2) 14 := hx_q70.2.is hn8
  have hk_r10 : z_is b0 q70.1 (r10) 14 := hx_q70.2.is hk_r10
  have hn13 : z_is b0 q70.1 (S9.2.2) 5 := hx_q70.2.is hn13
  have hk_r17 : z_is b0 q70.1 (r17) 14 := hx_q70.2.is hk_r17
  have hn20 : z_is b0 q70.1 (S16.2.2) 5 := hx_q70.2.is hn20
  have hk_r24 : z_is b0 q70.1 (r24) 14 := hx_q70.2.is hk_r24
  have hn27 : z_is b0 q70.1 (S23.2.2) 5 := hx_q70.2.is hn27
  have hk_r31 : z_is b0 q70.1 (r31) 14 := hx_q70.2.is hk_r31
  have hn34 : z_is b0 q70.1 (S30.2.2) 5 := hx_q70.2.is hn34
  have hk_r38 : z_is b0 q70.1 (r38) 14 := hx_q70.2.is hk_r38
  have hn41 : z_is b0 q70.1 (S37.2.2) 5 := hx_q70.2.is hn41
  have hk_r45 : z_is b0 q70.1 (r45) 14 := hx_q70.2.is hk_r45
  have hn48 : z_is b0 q70.1 (S44.2.2) 5 := hx_q70.2.is hn48
  have hk_r52 : z_is b0 q70.1 (r52) 14 := hx_q70.2.is hk_r52
  have hn55 : z_is b0 q70.1 (S51.2.2) 5 := hx_q70.2.is hn55
  have hk_r59 : z_is b0 q70.1 (r59) 14 := hx_q70.2.is hk_r59
  have hn62 : z_is b0 q70.1 (S58.2.2) 5 := hx_q70.2.is hn62
  have hn68 : z_is b0 q70.1 (S65.2.2) 7 := hx_q70.2.is hn68
  have hk_r69 : z_is b0 q70.1 (r69) 1 := hx_q70.2.is hk_r69
  obtain ⟨S71, e_S71, hz⟩ := zlet_some hz
  obtain ⟨J72, e_J72, hz⟩ := zlet_some hz
  have hb9 : b0 ≤ q70.1.2.2 := Nat.le_of_lt (Nat.lt_of_le_of_lt h_x0.1 h_x0.2.1)
  have h_x0 : z_is b0 S71 (x0) 8 := by rw [e_S71]; exact h_x0.new
  have hn3 : z_is b0 S71 (S.2.2) 1 := by rw [e_S71]; exact hn3.new
  have hn8 : z_is b0 S71 (S5.2.2) 14 := by rw [e_S71]; exact hn8.new
  have hk_r10 : z_is b0 S71 (r10) 14 := by rw [e_S71]; exact hk_r10.new
  have hn13 : z_is b0 S71 (S9.2.2) 5 := by rw [e_S71]; exact hn13.new
  have hk_r17 : z_is b0 S71 (r17) 14 := by rw [e_S71]; exact hk_r17.new
  have hn20 : z_is b0 S71 (S16.2.2) 5 := by rw [e_S71]; exact hn20.new
  have hk_r24 : z_is b0 S71 (r24) 14 := by rw [e_S71]; exact hk_r24.new
  have hn27 : z_is b0 S71 (S23.2.2) 5 := by rw [e_S71]; exact hn27.new
  have hk_r31 : z_is b0 S71 (r31) 14 := by rw [e_S71]; exact hk_r31.new
  have hn34 : z_is b0 S71 (S30.2.2) 5 := by rw [e_S71]; exact hn34.new
  have hk_r38 : z_is b0 S71 (r38) 14 := by rw [e_S71]; exact hk_r38.new
  have hn41 : z_is b0 S71 (S37.2.2) 5 := by rw [e_S71]; exact hn41.new
  have hk_r45 : z_is b0 S71 (r45) 14 := by rw [e_S71]; exact hk_r45.new
  have hn48 : z_is b0 S71 (S44.2.2) 5 := by rw [e_S71]; exact hn48.new
  have hk_r52 : z_is b0 S71 (r52) 14 := by rw [e_S71]; exact hk_r52.new
  have hn55 : z_is b0 S71 (S51.2.2) 5 := by rw [e_S71]; exact hn55.new
  have hk_r59 : z_is b0 S71 (r59) 14 := by rw [e_S71]; exact hk_r59.new
  have hn62 : z_is b0 S71 (S58.2.2) 5 := by rw [e_S71]; exact hn62.new
  have hn68 : z_is b0 S71 (S65.2.2) 7 := by rw [e_S71]; exact hn68.new
  have hk_r69 : z_is b0 S71 (r69) 1 := by rw [e_S71]; exact hk_r69.new
  have hn73 : z_is b0 S71 q70.1.2.2 2 := by rw [e_S71]; exact z_is.fresh hb9 2 0
  have hT : z_T b0 S71 := by rw [e_S71]; exact hT.new _ _
  have hE : z_Ext S S71 := by rw [e_S71]; exact hE.new _ _
  obtain ⟨r74, hr_r74, hz⟩ := ob_some hz
  have hk_r74 : z_is b0 S71 r74 1 := hT.at h_x0 hr_r74
  obtain ⟨q75, hq_q75, hz⟩ := ob_some hz
  have hx_q75 := xt_X2_init hT hn73 hk_r74 hn68 hq_q75
  have hT : z_T b0 q75.1 := hx_q75.1
  have hE : z_Ext S q75.1 := hE.trans hx_q75.2
  have h_x0 : z_is b0 q75.1 (x0) 8 := hx_q75.2.is h_x0
  have hn3 : z_is b0 q75.1 (S.2.2) 1 := hx_q75.2.is hn3
  have hn8 : z_is b0 q75.1 (S5.2.2) 14 := hx_q75.2.is hn8
  have hk_r10 : z_is b0 q75.1 (r10) 14 := hx_q75.2.is hk_r10
  have hn13 : z_is b0 q75.1 (S9.2.2) 5 := hx_q75.2.is hn13
  have hk_r17 : z_is b0 q75.1 (r17) 14 := hx_q75.2.is hk_r17
  have hn20 : z_is b0 q75.1 (S16.2.2) 5 := hx_q75.2.is hn20
  have hk_r24 : z_is b0 q75.1 (r24) 14 := hx_q75.2.is hk_r24
  have hn27 : z_is b0 q75.1 (S23.2.2) 5 := hx_q75.2.is hn27
  have hk_r31 : z_is b0 q75.1 (r31) 14 := hx_q75.2.is hk_r31
  have hn34 : z_is b0 q75.1 (S30.2.2) 5 := hx_q75.2.is hn34
  have hk_r38 : z_is b0 q75.1 (r38) 14 := hx_q75.2.is hk_r38
  have hn41 : z_is b0 q75.1 (S37.2.2) 5 := hx_q75.2.is hn41
  have hk_r45 : z_is b0 q75.1 (r45) 14 := hx_q75.2.is hk_r45
  have hn48 : z_is b0 q75.1 (S44.2.2) 5 := hx_q75.2.is hn48
  have hk_r52 : z_is b0 q75.1 (r52) 14 := hx_q75.2.is hk_r52
  have hn55 : z_is b0 q75.1 (S51.2.2) 5 := hx_q75.2.is hn55
  have hk_r59 : z_is b0 q75.1 (r59) 14 := hx_q75.2.is hk_r59
  have hn62 : z_is b0 q75.1 (S58.2.2) 5 := hx_q75.2.is hn62
  have hn68 : z_is b0 q75.1 (S65.2.2) 7 := hx_q75.2.is hn68
  have hk_r69 : z_is b0 q75.1 (r69) 1 := hx_q75.2.is hk_r69
  have hn73 : z_is b0 q75.1 (q70.1.2.2) 2 := hx_q75.2.is hn73
  have hk_r74 : z_is b0 q75.1 (r74) 1 := hx_q75.2.is hk_r74
  have hT9 := hT.upR (x := q70.1.2.2) (k := 2) h_x0 hn73
  have hE9 := hE.upR (a := x0) (k := 2) (x := some (q70.1.2.2))
  obtain ⟨S76, e_S76, hz⟩ := zlet_some hz
  have hT : z_T b0 S76 := by rw [e_S76]; exact hT9
  have hE : z_Ext S S76 := by rw [e_S76]; exact hE9
  have h_x0 : z_is b0 S76 (x0) 8 := by rw [e_S76]; exact h_x0.upR
  have hn3 : z_is b0 S76 (S.2.2) 1 := by rw [e_S76]; exact hn3.upR
  have hn8 : z_is b0 S76 (S5.2.2) 14 := by rw [e_S76]; exact hn8.upR
  have hk_r10 : z_is b0 S76 (r10) 14 := by rw [e_S76]; exact hk_r10.upR
  have hn13 : z_is b0 S76 (S9.2.2) 5 := by rw [e_S76]; exact hn13.upR
  have hk_r17 : z_is b0 S76 (r17) 14 := by rw [e_S76]; exact hk_r17.upR
  have hn20 : z_is b0 S76 (S16.2.2) 5 := by rw [e_S76]; exact hn20.upR
  have hk_r24 : z_is b0 S76 (r24) 14 := by rw [e_S76]; exact hk_r24.upR
  have hn27 : z_is b0 S76 (S23.2.2) 5 := by rw [e_S76]; exact hn27.upR
  have hk_r31 : z_is b0 S76 (r31) 14 := by rw [e_S76]; exact hk_r31.upR
  have hn34 : z_is b0 S76 (S30.2.2) 5 := by rw [e_S76]; exact hn34.upR
  have hk_r38 : z_is b0 S76 (r38) 14 := by rw [e_S76]; exact hk_r38.upR
  have hn41 : z_is b0 S76 (S37.2.2) 5 := by rw [e_S76]; exact hn41.upR
  have hk_r45 : z_is b0 S76 (r45) 14 := by rw [e_S76]; exact hk_r45.upR
  have hn48 : z_is b0 S76 (S44.2.2) 5 := by rw [e_S76]; exact hn48.upR
  have hk_r52 : z_is b0 S76 (r52) 14 := by rw [e_S76]; exact hk_r52.upR
  have hn55 : z_is b0 S76 (S51.2.2) 5 := by rw [e_S76]; exact hn55.upR
  have hk_r59 : z_is b0 S76 (r59) 14 := by rw [e_S76]; exact hk_r59.upR
  have hn62 : z_is b0 S76 (S58.2.2) 5 := by rw [e_S76]; exact hn62.upR
  have hn68 : z_is b0 S76 (S65.2.2) 7 := by rw [e_S76]; exact hn68.upR
  have hk_r69 : z_is b0 S76 (r69) 1 := by rw [e_S76]; exact hk_r69.upR
  have hn73 : z_is b0 S76 (q70.1.2.2) 2 := by rw [e_S76]; exact hn73.upR
  have hk_r74 : z_is b0 S76 (r74) 1 := by rw [e_S76]; exact hk_r74.upR
  obtain ⟨S77, e_S77, hz⟩ := zlet_some hz
  obtain ⟨J78, e_J78, hz⟩ := zlet_some hz
  have hb9 : b0 ≤ S76.2.2 := Nat.le_of_lt (Nat.lt_of_le_of_lt h_x0.1 h_x0.2.1)
  have h_x0 : z_is b0 S77 (x0) 8 := by rw [e_S77]; exact h_x0.new
  have hn3 : z_is b0 S77 (S.2.2) 1 := by rw [e_S77]; exact hn3.new
  have hn8 : z_is b0 S77 (S5.2.2) 14 := by rw [e_S77]; exact hn8.new
  have hk_r10 : z_is b0 S77 (r10) 14 := by rw [e_S77]; exact hk_r10.new
  have hn13 : z_is b0 S77 (S9.2.2) 5 := by rw [e_S77]; exact hn13.new
  have hk_r17 : z_is b0 S77 (r17) 14 := by rw [e_S77]; exact hk_r17.new
  have hn20 : z_is b0 S77 (S16.2.2) 5 := by rw [e_S77]; exact hn20.new
  have hk_r24 : z_is b0 S77 (r24) 14 := by rw [e_S77]; exact hk_r24.new
  have hn27 : z_is b0 S77 (S23.2.2) 5 := by rw [e_S77]; exact hn27.new
  have hk_r31 : z_is b0 S77 (r31) 14 := by rw [e_S77]; exact hk_r31.new
  have hn34 : z_is b0 S77 (S30.2.2) 5 := by rw [e_S77]; exact hn34.new
  have hk_r38 : z_is b0 S77 (r38) 14 := by rw [e_S77]; exact hk_r38.new
  have hn41 : z_is b0 S77 (S37.2.2) 5 := by rw [e_S77]; exact hn41.new
  have hk_r45 : z_is b0 S77 (r45) 14 := by rw [e_S77]; exact hk_r45.new
  have hn48 : z_is b0 S77 (S44.2.2) 5 := by rw [e_S77]; exact hn48.new
  have hk_r52 : z_is b0 S77 (r52) 14 := by rw [e_S77]; exact hk_r52.new
  have hn55 : z_is b0 S77 (S51.2.2) 5 := by rw [e_S77]; exact hn55.new
  have hk_r59 : z_is b0 S77 (r59) 14 := by rw [e_S77]; exact hk_r59.new
  have hn62 : z_is b0 S77 (S58.2.2) 5 := by rw [e_S77]; exact hn62.new
  have hn68 : z_is b0 S77 (S65.2.2) 7 := by rw [e_S77]; exact hn68.new
  have hk_r69 : z_is b0 S77 (r69) 1 := by rw [e_S77]; exact hk_r69.new
  have hn73 : z_is b0 S77 (q70.1.2.2) 2 := by rw [e_S77]; exact hn73.new
  have hk_r74 : z_is b0 S77 (r74) 1 := by rw [e_S77]; exact hk_r74.new
  have hn79 : z_is b0 S77 S76.2.2 4 := by rw [e_S77]; exact z_is.fresh hb9 4 0
  have hT : z_T b0 S77 := by rw [e_S77]; exact hT.new _ _
  have hE : z_Ext S S77 := by rw [e_S77]; exact hE.new _ _
  obtain ⟨r80, hr_r80, hz⟩ := ob_some hz
  have hk_r80 : z_is b0 S77 r80 1 := hT.at h_x0 hr_r80
  obtain ⟨q81, hq_q81, hz⟩ := ob_some hz
  have hx_q81 := xt_X4_init hT hn79 hk_r80 hn68 hq_q81
  have hT : z_T b0 q81.1 := hx_q81.1
  have hE : z_Ext S q81.1 := hE.trans hx_q81.2
  have h_x0 : z_is b0 q81.1 (x0) 8 := hx_q81.2.is h_x0
  have hn3 : z_is b0 q81.1 (S.2.2) 1 := hx_q81.2.is hn3
  have hn8 : z_is b0 q81.1 (S5.2.2) 14 := hx_q81.2.is hn8
  have hk_r10 : z_is b0 q81.1 (r10) 14 := hx_q81.2.is hk_r10
  have hn13 : z_is b0 q81.1 (S9.2.2) 5 := hx_q81.2.is hn13
  have hk_r17 : z_is b0 q81.1 (r17) 14 := hx_q81.2.is hk_r17
  have hn20 : z_is b0 q81.1 (S16.2.2) 5 := hx_q81.2.is hn20
  have hk_r24 : z_is b0 q81.1 (r24) 14 := hx_q81.2.is hk_r24
  have hn27 : z_is b0 q81.1 (S23.2.2) 5 := hx_q81.2.is hn27
  have hk_r31 : z_is b0 q81.1 (r31) 14 := hx_q81.2.is hk_r31
  have hn34 : z_is b0 q81.1 (S30.2.2) 5 := hx_q81.2.is hn34
  have hk_r38 : z_is b0 q81.1 (r38) 14 := hx_q81.2.is hk_r38
  have hn41 : z_is b0 q81.1 (S37.2.2) 5 := hx_q81.2.is hn41
  have hk_r45 : z_is b0 q81.1 (r45) 14 := hx_q81.2.is hk_r45
  have hn48 : z_is b0 q81.1 (S44.2.2) 5 := hx_q81.2.is hn48
  have hk_r52 : z_is b0 q81.1 (r52) 14 := hx_q81.2.is hk_r52
  have hn55 : z_is b0 q81.1 (S51.2.2) 5 := hx_q81.2.is hn55
  have hk_r59 : z_is b0 q81.1 (r59) 14 := hx_q81.2.is hk_r59
  have hn62 : z_is b0 q81.1 (S58.2.2) 5 := hx_q81.2.is hn62
  have hn68 : z_is b0 q81.1 (S65.2.2) 7 := hx_q81.2.is hn68
  have hk_r69 : z_is b0 q81.1 (r69) 1 := hx_q81.2.is hk_r69
  have hn73 : z_is b0 q81.1 (q70.1.2.2) 2 := hx_q81.2.is hn73
  have hk_r74 : z_is b0 q81.1 (r74) 1 := hx_q81.2.is hk_r74
  have hn79 : z_is b0 q81.1 (S76.2.2) 4 := hx_q81.2.is hn79
  have hk_r80 : z_is b0 q81.1 (r80) 1 := hx_q81.2.is hk_r80
  have hT9 := hT.upR (x := S76.2.2) (k := 3) h_x0 hn79
  have hE9 := hE.upR (a := x0) (k := 3) (x := some (S76.2.2))
  obtain ⟨S82, e_S82, hz⟩ := zlet_some hz
  have hT : z_T b0 S82 := by rw [e_S82]; exact hT9
  have hE : z_Ext S S82 := by rw [e_S82]; exact hE9
  have h_x0 : z_is b0 S82 (x0) 8 := by rw [e_S82]; exact h_x0.upR
  have hn3 : z_is b0 S82 (S.2.2) 1 := by rw [e_S82]; exact hn3.upR
  have hn8 : z_is b0 S82 (S5.2.2) 14 := by rw [e_S82]; exact hn8.upR
  have hk_r10 : z_is b0 S82 (r10) 14 := by rw [e_S82]; exact hk_r10.upR
  have hn13 : z_is b0 S82 (S9.2.2) 5 := by rw [e_S82]; exact hn13.upR
  have hk_r17 : z_is b0 S82 (r17) 14 := by rw [e_S82]; exact hk_r17.upR
  have hn20 : z_is b0 S82 (S16.2.2) 5 := by rw [e_S82]; exact hn20.upR
  have hk_r24 : z_is b0 S82 (r24) 14 := by rw [e_S82]; exact hk_r24.upR
  have hn27 : z_is b0 S82 (S23.2.2) 5 := by rw [e_S82]; exact hn27.upR
  have hk_r31 : z_is b0 S82 (r31) 14 := by rw [e_S82]; exact hk_r31.upR
  have hn34 : z_is b0 S82 (S30.2.2) 5 := by rw [e_S82]; exact hn34.upR
  have hk_r38 : z_is b0 S82 (r38) 14 := by rw [e_S82]; exact hk_r38.upR
  have hn41 : z_is b0 S82 (S37.2.2) 5 := by rw [e_S82]; exact hn41.upR
  have hk_r45 : z_is b0 S82 (r45) 14 := by rw [e_S82]; exact hk_r45.upR
  have hn48 : z_is b0 S82 (S44.2.2) 5 := by rw [e_S82]; exact hn48.upR
  have hk_r52 : z_is b0 S82 (r52) 14 := by rw [e_S82]; exact hk_r52.upR
  have hn55 : z_is b0 S82 (S51.2.2) 5 := by rw [e_S82]; exact hn55.upR
  have hk_r59 : z_is b0 S82 (r59) 14 := by rw [e_S82]; exact hk_r59.upR
  have hn62 : z_is b0 S82 (S58.2.2) 5 := by rw [e_S82]; exact hn62.upR
  have hn68 : z_is b0 S82 (S65.2.2) 7 := by rw [e_S82]; exact hn68.upR
  have hk_r69 : z_is b0 S82 (r69) 1 := by rw [e_S82]; exact hk_r69.upR
  have hn73 : z_is b0 S82 (q70.1.2.2) 2 := by rw [e_S82]; exact hn73.upR
  have hk_r74 : z_is b0 S82 (r74) 1 := by rw [e_S82]; exact hk_r74.upR
  have hn79 : z_is b0 S82 (S76.2.2) 4 := by rw [e_S82]; exact hn79.upR
  have hk_r80 : z_is b0 S82 (r80) 1 := by rw [e_S82]; exact hk_r80.upR
  obtain ⟨J83, e_J83, hz⟩ := zlet_some hz
  obtain rfl := Option.some.inj hz
  exact ⟨hT, hE⟩
