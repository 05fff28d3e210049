theorem zy_X9_init : z_y yX9_init cX9_init 1 none 0 := ⟨kw_735, kw_8, by decide +kernel, by decide +kernel, by decide +kernel⟩
def z_X9_init (F : Nat) (S : zS) (I : zI) (x0 : Nat) : Option (zS × zI) :=
  zlet (z_up I x0 0 1) (fun J1 => zlet (z_new S 10 16) (fun S2 => zlet (z_newI S J1) (fun J3 => zlet (z_upR S2 x0 1 (some (S.2.2))) (fun S5 => zlet (z_new S5 11 16) (fun S6 => zlet (z_newI S5 J3) (fun J7 => zlet (z_upR S6 x0 2 (some (S5.2.2))) (fun S9 => zlet (z_new S9 10 8) (fun S10 => zlet (z_newI S9 J7) (fun J11 => if (0 : Int32) < 0 ∨ (S10.2.1 (S9.2.2)).2 ≤ (0 : Int32).toNatClampNeg then none else (zlet (z_up J11 (S9.2.2) (0 : Int32).toNatClampNeg 4) (fun J14 => if (1 : Int32) < 0 ∨ (S10.2.1 (S9.2.2)).2 ≤ (1 : Int32).toNatClampNeg then none else (zlet (z_up J14 (S9.2.2) (1 : Int32).toNatClampNeg 4) (fun J16 => if (2 : Int32) < 0 ∨ (S10.2.1 (S9.2.2)).2 ≤ (2 : Int32).toNatClampNeg then none else (zlet (z_up J16 (S9.2.2) (2 : Int32).toNatClampNeg 4) (fun J18 => if (3 : Int32) < 0 ∨ (S10.2.1 (S9.2.2)).2 ≤ (3 : Int32).toNatClampNeg then none else (zlet (z_up J18 (S9.2.2) (3 : Int32).toNatClampNeg 4) (fun J20 => if (4 : Int32) < 0 ∨ (S10.2.1 (S9.2.2)).2 ≤ (4 : Int32).toNatClampNeg then none else (zlet (z_up J20 (S9.2.2) (4 : Int32).toNatClampNeg 4) (fun J22 => if (5 : Int32) < 0 ∨ (S10.2.1 (S9.2.2)).2 ≤ (5 : Int32).toNatClampNeg then none else (zlet (z_up J22 (S9.2.2) (5 : Int32).toNatClampNeg 4) (fun J24 => if (6 : Int32) < 0 ∨ (S10.2.1 (S9.2.2)).2 ≤ (6 : Int32).toNatClampNeg then none else (zlet (z_up J24 (S9.2.2) (6 : Int32).toNatClampNeg 4) (fun J26 => if (7 : Int32) < 0 ∨ (S10.2.1 (S9.2.2)).2 ≤ (7 : Int32).toNatClampNeg then none else (zlet (z_up J26 (S9.2.2) (7 : Int32).toNatClampNeg 4) (fun J28 => zlet (z_upR S10 x0 3 (some (S9.2.2))) (fun S29 => zlet (z_new S29 10 8) (fun S30 => zlet (z_newI S29 J28) (fun J31 => zlet (z_upR S30 x0 4 (some (S29.2.2))) (fun S33 => zlet (z_new S33 10 64) (fun S34 => zlet (z_newI S33 J31) (fun J35 => zlet (z_upR S34 x0 5 (some (S33.2.2))) (fun S37 => zlet (z_new S37 10 8) (fun S38 => zlet (z_newI S37 J35) (fun J39 => zlet (z_upR S38 x0 6 (some (S37.2.2))) (fun S41 => zlet (z_new S41 10 320) (fun S42 => zlet (z_newI S41 J39) (fun J43 => zlet (z_upR S42 x0 7 (some (S41.2.2))) (fun S45 => zlet (z_new S45 10 320) (fun S46 => zlet (z_newI S45 J43) (fun J47 => zlet (z_upR S46 x0 8 (some (S45.2.2))) (fun S49 => zlet (z_new S49 10 320) (fun S50 => zlet (z_newI S49 J47) (fun J51 => zlet (z_upR S50 x0 9 (some (S49.2.2))) (fun S53 => zlet (z_new S53 10 8) (fun S54 => zlet (z_newI S53 J51) (fun J55 => zlet (z_upR S54 x0 10 (some (S53.2.2))) (fun S57 => zlet (z_new S57 10 32) (fun S58 => zlet (z_newI S57 J55) (fun J59 => zlet (z_upR S58 x0 11 (some (S57.2.2))) (fun S61 => zlet (z_new S61 10 32) (fun S62 => zlet (z_newI S61 J59) (fun J63 => zlet (z_upR S62 x0 12 (some (S61.2.2))) (fun S65 => zlet (z_new S65 10 32) (fun S66 => zlet (z_newI S65 J63) (fun J67 => zlet (z_upR S66 x0 13 (some (S65.2.2))) (fun S69 => zlet (z_new S69 10 32) (fun S70 => zlet (z_newI S69 J67) (fun J71 => zlet (z_upR S70 x0 14 (some (S69.2.2))) (fun S73 => zlet (z_new S73 11 8) (fun S74 => zlet (z_newI S73 J71) (fun J75 => zlet (z_upR S74 x0 15 (some (S73.2.2))) (fun S77 => zlet (z_new S77 11 320) (fun S78 => zlet (z_newI S77 J75) (fun J79 => zlet (z_upR S78 x0 16 (some (S77.2.2))) (fun S81 => zlet (z_new S81 10 6400) (fun S82 => zlet (z_newI S81 J79) (fun J83 => zlet (z_upR S82 x0 17 (some (S81.2.2))) (fun S85 => zlet (z_new S85 11 320) (fun S86 => zlet (z_newI S85 J83) (fun J87 => zlet (z_upR S86 x0 18 (some (S85.2.2))) (fun S89 => zlet (z_new S89 10 6400) (fun S90 => zlet (z_newI S89 J87) (fun J91 => zlet (z_upR S90 x0 19 (some (S89.2.2))) (fun S93 => zlet (z_new S93 10 20) (fun S94 => zlet (z_newI S93 J91) (fun J95 => zlet (z_upR S94 x0 22 (some (S93.2.2))) (fun S97 => zlet (z_new S97 10 20) (fun S98 => zlet (z_newI S97 J95) (fun J99 => zlet (z_upR S98 x0 23 (some (S97.2.2))) (fun S101 => zlet (z_new S101 11 40) (fun S102 => zlet (z_newI S101 J99) (fun J103 => zlet (z_upR S102 x0 25 (some (S101.2.2))) (fun S105 => zlet (z_new S105 10 20) (fun S106 => zlet (z_newI S105 J103) (fun J107 => zlet (z_upR S106 x0 26 (some (S105.2.2))) (fun S109 => zlet (z_new S109 10 8) (fun S110 => zlet (z_newI S109 J107) (fun J111 => zlet (z_upR S110 x0 27 (some (S109.2.2))) (fun S113 => zlet (z_new S113 10 8) (fun S114 => zlet (z_newI S113 J111) (fun J115 => zlet (z_upR S114 x0 28 (some (S113.2.2))) (fun S117 => some (S117, J115)))))))))))))))))))))))))))))))))))))))))))))))))))))))))))))))))))))))))))))))))))))))))))))
set_option maxRecDepth 100000 in
set_option maxHeartbeats 4000000 in
theorem c_X9_init {l : Launch} {D : zD} {b0 : Nat} {S : zS} {I : zI} {X : zS × zI} (F : Nat) (x0 : Nat) (h_x0 : z_is b0 S x0 9) (hz : z_X9_init F S I x0 = some X) : z_M l D b0 yX9_init cX9_init 1 none { frames := 1, cells := 25, slots := 15000, locals := 40 } [.ref (x0)] S I none X.1 X.2 := by
  refine z_met (by decide) (Nat.le_of_ble_eq_true rfl) ?_
  intro p e s m below meth c hC hnm hT ls hl
  have hl : lv_has ls 1 [(0, .ref (x0))] := hl
  unfold z_X9_init at hz
  obtain ⟨S0, e_S0⟩ : ∃ z : zS, z = S := ⟨S, rfl⟩
  have hE : z_Ext S0 S := by rw [e_S0]; exact z_Ext.rf S
  refine z_aload_n hC dX9_init_0 rfl (lv_at hl 0 rfl) ?_
  refine z_objInit hC kw_736 kw_19 kw_20 dX9_init_1 hl.1 (by decide) (Nat.le_of_ble_eq_true rfl) ?_
  refine z_aload_n hC dX9_init_4 rfl (lv_at hl 0 rfl) ?_
  refine z_iconst (v := 1) hC dX9_init_5 (by decide) ?_
  refine z_putI hC zc_9 0 (by decide) kw_737 dX9_init_6 h_x0 rfl rfl rfl rfl ?_
  obtain ⟨J1, e_J1, hz⟩ := zlet_some hz
  rw [← e_J1]
  refine z_aload_n hC dX9_init_9 rfl (lv_at hl 0 rfl) ?_
  refine z_bipush (v := 16) hC dX9_init_10 (by decide) ?_
  refine z_newI10 (N := 16) hC kw_38 dX9_init_12 (by decide) (by decide) (by decide) (by decide) (by decide) ?_
  obtain ⟨S2, e_S2, hz⟩ := zlet_some hz
  rw [← e_S2]
  obtain ⟨J3, e_J3, hz⟩ := zlet_some hz
  rw [← e_J3]
  have hb9 : b0 ≤ S.2.2 := Nat.le_of_lt (Nat.lt_of_le_of_lt h_x0.1 h_x0.2.1)
  have h_x0 : z_is b0 S2 (x0) 9 := by rw [e_S2]; exact h_x0.new
  have hn4 : z_is b0 S2 S.2.2 10 := by rw [e_S2]; exact z_is.fresh hb9 10 16
  have hT : z_T b0 S2 := by rw [e_S2]; exact hT.new _ _
  have hE : z_Ext S0 S2 := by rw [e_S2]; exact hE.new _ _
  have hT9 := hT.upR (x := S.2.2) (k := 1) h_x0 hn4
  have hE9 := hE.upR (a := x0) (k := 1) (x := some (S.2.2))
  refine z_putR hC zc_9 1 (by decide) kw_738 dX9_init_14 h_x0 rfl rfl hnm rfl rfl rfl ?_
  obtain ⟨S5, e_S5, hz⟩ := zlet_some hz
  rw [← e_S5]
  have hT : z_T b0 S5 := by rw [e_S5]; exact hT9
  have hE : z_Ext S0 S5 := by rw [e_S5]; exact hE9
  have h_x0 : z_is b0 S5 (x0) 9 := by rw [e_S5]; exact h_x0.upR
  have hn4 : z_is b0 S5 (S.2.2) 10 := by rw [e_S5]; exact hn4.upR
  refine z_aload_n hC dX9_init_17 rfl (lv_at hl 0 rfl) ?_
  refine z_bipush (v := 16) hC dX9_init_18 (by decide) ?_
  refine z_newI11 (N := 16) hC kw_39 dX9_init_20 (by decide) (by decide) (by decide) (by decide) (by decide) ?_
  obtain ⟨S6, e_S6, hz⟩ := zlet_some hz
  rw [← e_S6]
  obtain ⟨J7, e_J7, hz⟩ := zlet_some hz
  rw [← e_J7]
  have hb9 : b0 ≤ S5.2.2 := Nat.le_of_lt (Nat.lt_of_le_of_lt h_x0.1 h_x0.2.1)
  have h_x0 : z_is b0 S6 (x0) 9 := by rw [e_S6]; exact h_x0.new
  have hn4 : z_is b0 S6 (S.2.2) 10 := by rw [e_S6]; exact hn4.new
  have hn8 : z_is b0 S6 S5.2.2 11 := by rw [e_S6]; exact z_is.fresh hb9 11 16
  have hT : z_T b0 S6 := by rw [e_S6]; exact hT.new _ _
  have hE : z_Ext S0 S6 := by rw [e_S6]; exact hE.new _ _
  have hT9 := hT.upR (x := S5.2.2) (k := 2) h_x0 hn8
  have hE9 := hE.upR (a := x0) (k := 2) (x := some (S5.2.2))
  refine z_putR hC zc_9 2 (by decide) kw_739 dX9_init_22 h_x0 rfl rfl hnm rfl rfl rfl ?_
  obtain ⟨S9, e_S9, hz⟩ := zlet_some hz
  rw [← e_S9]
  have hT : z_T b0 S9 := by rw [e_S9]; exact hT9
  have hE : z_Ext S0 S9 := by rw [e_S9]; exact hE9
  have h_x0 : z_is b0 S9 (x0) 9 := by rw [e_S9]; exact h_x0.upR
  have hn4 : z_is b0 S9 (S.2.2) 10 := by rw [e_S9]; exact hn4.upR
  have hn8 : z_is b0 S9 (S5.2.2) 11 := by rw [e_S9]; exact hn8.upR
  refine z_aload_n hC dX9_init_25 rfl (lv_at hl 0 rfl) ?_
  refine z_bipush (v := 8) hC dX9_init_26 (by decide) ?_
  refine z_newI10 (N := 8) hC kw_38 dX9_init_28 (by decide) (by decide) (by decide) (by decide) (by decide) ?_
  obtain ⟨S10, e_S10, hz⟩ := zlet_some hz
  rw [← e_S10]
  obtain ⟨J11, e_J11, hz⟩ := zlet_some hz
  rw [← e_J11]
  have hb9 : b0 ≤ S9.2.2 := Nat.le_of_lt (Nat.lt_of_le_of_lt h_x0.1 h_x0.2.1)
  have h_x0 : z_is b0 S10 (x0) 9 := by rw [e_S10]; exact h_x0.new
  have hn4 : z_is b0 S10 (S.2.2) 10 := by rw [e_S10]; exact hn4.new
  have hn8 : z_is b0 S10 (S5.2.2) 11 := by rw [e_S10]; exact hn8.new
  have hn12 : z_is b0 S10 S9.2.2 10 := by rw [e_S10]; exact z_is.fresh hb9 10 8
  have hT : z_T b0 S10 := by rw [e_S10]; exact hT.new _ _
  have hE : z_Ext S0 S10 := by rw [e_S10]; exact hE.new _ _
  refine z_dup hC dX9_init_30 rfl ?_
  refine z_iconst (v := 0) hC dX9_init_31 (by decide) ?_
  refine z_iconst (v := 4) hC dX9_init_32 (by decide) ?_
  obtain ⟨hi13, hz⟩ := ifn_some hz
  refine z_iast hC dX9_init_33 hn12 hi13 ?_
  obtain ⟨J14, e_J14, hz⟩ := zlet_some hz
  rw [← e_J14]
  refine z_dup hC dX9_init_34 rfl ?_
  refine z_iconst (v := 1) hC dX9_init_35 (by decide) ?_
  refine z_iconst (v := 4) hC dX9_init_36 (by decide) ?_
  obtain ⟨hi15, hz⟩ := ifn_some hz
  refine z_iast hC dX9_init_37 hn12 hi15 ?_
  obtain ⟨J16, e_J16, hz⟩ := zlet_some hz
  rw [← e_J16]
  refine z_dup hC dX9_init_38 rfl ?_
  refine z_iconst (v := 2) hC dX9_init_39 (by decide) ?_
  refine z_iconst (v := 4) hC dX9_init_40 (by decide) ?_
  obtain ⟨hi17, hz⟩ := ifn_some hz
  refine z_iast hC dX9_init_41 hn12 hi17 ?_
  obtain ⟨J18, e_J18, hz⟩ := zlet_some hz
  rw [← e_J18]
  refine z_dup hC dX9_init_42 rfl ?_
  refine z_iconst (v := 3) hC dX9_init_43 (by decide) ?_
  refine z_iconst (v := 4) hC dX9_init_44 (by decide) ?_
  obtain ⟨hi19, hz⟩ := ifn_some hz
  refine z_iast hC dX9_init_45 hn12 hi19 ?_
  obtain ⟨J20, e_J20, hz⟩ := zlet_some hz
  rw [← e_J20]
  refine z_dup hC dX9_init_46 rfl ?_
  refine z_iconst (v := 4) hC dX9_init_47 (by decide) ?_
  refine z_iconst (v := 4) hC dX9_init_48 (by decide) ?_
  obtain ⟨hi21, hz⟩ := ifn_some hz
  refine z_iast hC dX9_init_49 hn12 hi21 ?_
  obtain ⟨J22, e_J22, hz⟩ := zlet_some hz
  rw [← e_J22]
  refine z_dup hC dX9_init_50 rfl ?_
  refine z_iconst (v := 5) hC dX9_init_51 (by decide) ?_
  refine z_iconst (v := 4) hC dX9_init_52 (by decide) ?_
  obtain ⟨hi23, hz⟩ := ifn_some hz
  refine z_iast hC dX9_init_53 hn12 hi23 ?_
  obtain ⟨J24, e_J24, hz⟩ := zlet_some hz
  rw [← e_J24]
  refine z_dup hC dX9_init_54 rfl ?_
  refine z_bipush (v := 6) hC dX9_init_55 (by decide) ?_
  refine z_iconst (v := 4) hC dX9_init_57 (by decide) ?_
  obtain ⟨hi25, hz⟩ := ifn_some hz
  refine z_iast hC dX9_init_58 hn12 hi25 ?_
  obtain ⟨J26, e_J26, hz⟩ := zlet_some hz
  rw [← e_J26]
  refine z_dup hC dX9_init_59 rfl ?_
  refine z_bipush (v := 7) hC dX9_init_60 (by decide) ?_
  refine z_iconst (v := 4) hC dX9_init_62 (by decide) ?_
  obtain ⟨hi27, hz⟩ := ifn_some hz
  refine z_iast hC dX9_init_63 hn12 hi27 ?_
  obtain ⟨J28, e_J28, hz⟩ := zlet_some hz
  rw [← e_J28]
  have hT9 := hT.upR (x := S9.2.2) (k := 3) h_x0 hn12
  have hE9 := hE.upR (a := x0) (k := 3) (x := some (S9.2.2))
  refine z_putR hC zc_9 3 (by decide) kw_740 dX9_init_64 h_x0 rfl rfl hnm rfl rfl rfl ?_
  obtain ⟨S29, e_S29, hz⟩ := zlet_some hz
  rw [← e_S29]
  have hT : z_T b0 S29 := by rw [e_S29]; exact hT9
  have hE : z_Ext S0 S29 := by rw [e_S29]; exact hE9
  have h_x0 : z_is b0 S29 (x0) 9 := by rw [e_S29]; exact h_x0.upR
  have hn4 : z_is b0 S29 (S.2.2) 10 := by rw [e_S29]; exact hn4.upR
  have hn8 : z_is b0 S29 (S5.2.2) 11 := by rw [e_S29]; exact hn8.upR
  have hn12 : z_is b0 S29 (S9.2.2) 10 := by rw [e_S29]; exact hn12.upR
  refine z_aload_n hC dX9_init_67 rfl (lv_at hl 0 rfl) ?_
  refine z_bipush (v := 8) hC dX9_init_68 (by decide) ?_
  refine z_newI10 (N := 8) hC kw_38 dX9_init_70 (by decide) (by decide) (by decide) (by decide) (by decide) ?_
  obtain ⟨S30, e_S30, hz⟩ := zlet_some hz
  rw [← e_S30]
  obtain ⟨J31, e_J31, hz⟩ := zlet_some hz
  rw [← e_J31]
  have hb9 : b0 ≤ S29.2.2 := Nat.le_of_lt (Nat.lt_of_le_of_lt h_x0.1 h_x0.2.1)
  have h_x0 : z_is b0 S30 (x0) 9 := by rw [e_S30]; exact h_x0.new
  have hn4 : z_is b0 S30 (S.2.2) 10 := by rw [e_S30]; exact hn4.new
  have hn8 : z_is b0 S30 (S5.2.2) 11 := by rw [e_S30]; exact hn8.new
  have hn12 : z_is b0 S30 (S9.2.2) 10 := by rw [e_S30]; exact hn12.new
  have hn32 : z_is b0 S30 S29.2.2 10 := by rw [e_S30]; exact z_is.fresh hb9 10 8
  have hT : z_T b0 S30 := by rw [e_S30]; exact hT.new _ _
  have hE : z_Ext S0 S30 := by rw [e_S30]; exact hE.new _ _
  have hT9 := hT.upR (x := S29.2.2) (k := 4) h_x0 hn32
  have hE9 := hE.upR (a := x0) (k := 4) (x := some (S29.2.2))
  refine z_putR hC zc_9 4 (by decide) kw_741 dX9_init_72 h_x0 rfl rfl hnm rfl rfl rfl ?_
  obtain ⟨S33, e_S33, hz⟩ := zlet_some hz
  rw [← e_S33]
  have hT : z_T b0 S33 := by rw [e_S33]; exact hT9
  have hE : z_Ext S0 S33 := by rw [e_S33]; exact hE9
  have h_x0 : z_is b0 S33 (x0) 9 := by rw [e_S33]; exact h_x0.upR
  have hn4 : z_is b0 S33 (S.2.2) 10 := by rw [e_S33]; exact hn4.upR
  have hn8 : z_is b0 S33 (S5.2.2) 11 := by rw [e_S33]; exact hn8.upR
  have hn12 : z_is b0 S33 (S9.2.2) 10 := by rw [e_S33]; exact hn12.upR
  have hn32 : z_is b0 S33 (S29.2.2) 10 := by rw [e_S33]; exact hn32.upR
  refine z_aload_n hC dX9_init_75 rfl (lv_at hl 0 rfl) ?_
  refine z_bipush (v := 64) hC dX9_init_76 (by decide) ?_
  refine z_newI10 (N := 64) hC kw_38 dX9_init_78 (by decide) (by decide) (by decide) (by decide) (by decide) ?_
  obtain ⟨S34, e_S34, hz⟩ := zlet_some hz
  rw [← e_S34]
  obtain ⟨J35, e_J35, hz⟩ := zlet_some hz
  rw [← e_J35]
  have hb9 : b0 ≤ S33.2.2 := Nat.le_of_lt (Nat.lt_of_le_of_lt h_x0.1 h_x0.2.1)
  have h_x0 : z_is b0 S34 (x0) 9 := by rw [e_S34]; exact h_x0.new
  have hn4 : z_is b0 S34 (S.2.2) 10 := by rw [e_S34]; exact hn4.new
  have hn8 : z_is b0 S34 (S5.2.2) 11 := by rw [e_S34]; exact hn8.new
  have hn12 : z_is b0 S34 (S9.2.2) 10 := by rw [e_S34]; exact hn12.new
  have hn32 : z_is b0 S34 (S29.2.2) 10 := by rw [e_S34]; exact hn32.new
  have hn36 : z_is b0 S34 S33.2.2 10 := by rw [e_S34]; exact z_is.fresh hb9 10 64
  have hT : z_T b0 S34 := by rw [e_S34]; exact hT.new _ _
  have hE : z_Ext S0 S34 := by rw [e_S34]; exact hE.new _ _
  have hT9 := hT.upR (x := S33.2.2) (k := 5) h_x0 hn36
  have hE9 := hE.upR (a := x0) (k := 5) (x := some (S33.2.2))
  refine z_putR hC zc_9 5 (by decide) kw_742 dX9_init_80 h_x0 rfl rfl hnm rfl rfl rfl ?_
  obtain ⟨S37, e_S37, hz⟩ := zlet_some hz
  rw [← e_S37]
  have hT : z_T b0 S37 := by rw [e_S37]; exact hT9
  have hE : z_Ext S0 S37 := by rw [e_S37]; exact hE9
  have h_x0 : z_is b0 S37 (x0) 9 := by rw [e_S37]; exact h_x0.upR
  have hn4 : z_is b0 S37 (S.2.2) 10 := by rw [e_S37]; exact hn4.upR
  have hn8 : z_is b0 S37 (S5.2.2) 11 := by rw [e_S37]; exact hn8.upR
  have hn12 : z_is b0 S37 (S9.2.2) 10 := by rw [e_S37]; exact hn12.upR
  have hn32 : z_is b0 S37 (S29.2.2) 10 := by rw [e_S37]; exact hn32.upR
  have hn36 : z_is b0 S37 (S33.2.2) 10 := by rw [e_S37]; exact hn36.upR
  refine z_aload_n hC dX9_init_83 rfl (lv_at hl 0 rfl) ?_
  refine z_bipush (v := 8) hC dX9_init_84 (by decide) ?_
  refine z_newI10 (N := 8) hC kw_38 dX9_init_86 (by decide) (by decide) (by decide) (by decide) (by decide) ?_
  obtain ⟨S38, e_S38, hz⟩ := zlet_some hz
  rw [← e_S38]
  obtain ⟨J39, e_J39, hz⟩ := zlet_some hz
  rw [← e_J39]
  have hb9 : b0 ≤ S37.2.2 := Nat.le_of_lt (Nat.lt_of_le_of_lt h_x0.1 h_x0.2.1)
  have h_x0 : z_is b0 S38 (x0) 9 := by rw [e_S38]; exact h_x0.new
  have hn4 : z_is b0 S38 (S.2.2) 10 := by rw [e_S38]; exact hn4.new
  have hn8 : z_is b0 S38 (S5.2.2) 11 := by rw [e_S38]; exact hn8.new
  have hn12 : z_is b0 S38 (S9.2.2) 10 := by rw [e_S38]; exact hn12.new
  have hn32 : z_is b0 S38 (S29.2.2) 10 := by rw [e_S38]; exact hn32.new
  have hn36 : z_is b0 S38 (S33.2.2) 10 := by rw [e_S38]; exact hn36.new
  have hn40 : z_is b0 S38 S37.2.2 10 := by rw [e_S38]; exact z_is.fresh hb9 10 8
  have hT : z_T b0 S38 := by rw [e_S38]; exact hT.new _ _
  have hE : z_Ext S0 S38 := by rw [e_S38]; exact hE.new _ _
  have hT9 := hT.upR (x := S37.2.2) (k := 6) h_x0 hn40
  have hE9 := hE.upR (a := x0) (k := 6) (x := some (S37.2.2))
  refine z_putR hC zc_9 6 (by decide) kw_743 dX9_init_88 h_x0 rfl rfl hnm rfl rfl rfl ?_
  obtain ⟨S41, e_S41, hz⟩ := zlet_some hz
  rw [← e_S41]
  have hT : z_T b0 S41 := by rw [e_S41]; exact hT9
  have hE : z_Ext S0 S41 := by rw [e_S41]; exact hE9
  have h_x0 : z_is b0 S41 (x0) 9 := by rw [e_S41]; exact h_x0.upR
  have hn4 : z_is b0 S41 (S.2.2) 10 := by rw [e_S41]; exact hn4.upR
  have hn8 : z_is b0 S41 (S5.2.2) 11 := by rw [e_S41]; exact hn8.upR
  have hn12 : z_is b0 S41 (S9.2.2) 10 := by rw [e_S41]; exact hn12.upR
  have hn32 : z_is b0 S41 (S29.2.2) 10 := by rw [e_S41]; exact hn32.upR
  have hn36 : z_is b0 S41 (S33.2.2) 10 := by rw [e_S41]; exact hn36.upR
  have hn40 : z_is b0 S41 (S37.2.2) 10 := by rw [e_S41]; exact hn40.upR
  refine z_aload_n hC dX9_init_91 rfl (lv_at hl 0 rfl) ?_
  refine z_sipush (v := 320) hC dX9_init_92 (by decide) ?_
  refine z_newI10 (N := 320) hC kw_38 dX9_init_95 (by decide) (by decide) (by decide) (by decide) (by decide) ?_
  obtain ⟨S42, e_S42, hz⟩ := zlet_some hz
  rw [← e_S42]
  obtain ⟨J43, e_J43, hz⟩ := zlet_some hz
  rw [← e_J43]
  have hb9 : b0 ≤ S41.2.2 := Nat.le_of_lt (Nat.lt_of_le_of_lt h_x0.1 h_x0.2.1)
  have h_x0 : z_is b0 S42 (x0) 9 := by rw [e_S42]; exact h_x0.new
  have hn4 : z_is b0 S42 (S.2.2) 10 := by rw [e_S42]; exact hn4.new
  have hn8 : z_is b0 S42 (S5.2.2) 11 := by rw [e_S42]; exact hn8.new
  have hn12 : z_is b0 S42 (S9.2.2) 10 := by rw [e_S42]; exact hn12.new
  have hn32 : z_is b0 S42 (S29.2.2) 10 := by rw [e_S42]; exact hn32.new
  have hn36 : z_is b0 S42 (S33.2.2) 10 := by rw [e_S42]; exact hn36.new
  have hn40 : z_is b0 S42 (S37.2.2) 10 := by rw [e_S42]; exact hn40.new
  have hn44 : z_is b0 S42 S41.2.2 10 := by rw [e_S42]; exact z_is.fresh hb9 10 320
  have hT : z_T b0 S42 := by rw [e_S42]; exact hT.new _ _
  have hE : z_Ext S0 S42 := by rw [e_S42]; exact hE.new _ _
  have hT9 := hT.upR (x := S41.2.2) (k := 7) h_x0 hn44
  have hE9 := hE.upR (a := x0) (k := 7) (x := some (S41.2.2))
  refine z_putR hC zc_9 7 (by decide) kw_744 dX9_init_97 h_x0 rfl rfl hnm rfl rfl rfl ?_
  obtain ⟨S45, e_S45, hz⟩ := zlet_some hz
  rw [← e_S45]
  have hT : z_T b0 S45 := by rw [e_S45]; exact hT9
  have hE : z_Ext S0 S45 := by rw [e_S45]; exact hE9
  have h_x0 : z_is b0 S45 (x0) 9 := by rw [e_S45]; exact h_x0.upR
  have hn4 : z_is b0 S45 (S.2.2) 10 := by rw [e_S45]; exact hn4.upR
  have hn8 : z_is b0 S45 (S5.2.2) 11 := by rw [e_S45]; exact hn8.upR
  have hn12 : z_is b0 S45 (S9.2.2) 10 := by rw [e_S45]; exact hn12.upR
  have hn32 : z_is b0 S45 (S29.2.2) 10 := by rw [e_S45]; exact hn32.upR
  have hn36 : z_is b0 S45 (S33.2.2) 10 := by rw [e_S45]; exact hn36.upR
  have hn40 : z_is b0 S45 (S37.2.2) 10 := by rw [e_S45]; exact hn40.upR
  have hn44 : z_is b0 S45 (S41.2.2) 10 := by rw [e_S45]; exact hn44.upR
  refine z_aload_n hC dX9_init_100 rfl (lv_at hl 0 rfl) ?_
  refine z_sipush (v := 320) hC dX9_init_101 (by decide) ?_
  refine z_newI10 (N := 320) hC kw_38 dX9_init_104 (by decide) (by decide) (by decide) (by decide) (by decide) ?_
  obtain ⟨S46, e_S46, hz⟩ := zlet_some hz
  rw [← e_S46]
  obtain ⟨J47, e_J47, hz⟩ := zlet_some hz
  rw [← e_J47]
  have hb9 : b0 ≤ S45.2.2 := Nat.le_of_lt (Nat.lt_of_le_of_lt h_x0.1 h_x0.2.1)
  have h_x0 : z_is b0 S46 (x0) 9 := by rw [e_S46]; exact h_x0.new
  have hn4 : z_is b0 S46 (S.2.2) 10 := by rw [e_S46]; exact hn4.new
  have hn8 : z_is b0 S46 (S5.2.2) 11 := by rw [e_S46]; exact hn8.new
  have hn12 : z_is b0 S46 (S9.2.2) 10 := by rw [e_S46]; exact hn12.new
  have hn32 : z_is b0 S46 (S29.2.2) 10 := by rw [e_S46]; exact hn32.new
  have hn36 : z_is b0 S46 (S33.2.2) 10 := by rw [e_S46]; exact hn36.new
  have hn40 : z_is b0 S46 (S37.2.2) 10 := by rw [e_S46]; exact hn40.new
  have hn44 : z_is b0 S46 (S41.2.2) 10 := by rw [e_S46]; exact hn44.new
  have hn48 : z_is b0 S46 S45.2.2 10 := by rw [e_S46]; exact z_is.fresh hb9 10 320
  have hT : z_T b0 S46 := by rw [e_S46]; exact hT.new _ _
  have hE : z_Ext S0 S46 := by rw [e_S46]; exact hE.new _ _
  have hT9 := hT.upR (x := S45.2.2) (k := 8) h_x0 hn48
  have hE9 := hE.upR (a := x0) (k := 8) (x := some (S45.2.2))
  refine z_putR hC zc_9 8 (by decide) kw_745 dX9_init_106 h_x0 rfl rfl hnm rfl rfl rfl ?_
  obtain ⟨S49, e_S49, hz⟩ := zlet_some hz
  rw [← e_S49]
  have hT : z_T b0 S49 := by rw [e_S49]; exact hT9
  have hE : z_Ext S0 S49 := by rw [e_S49]; exact hE9
  have h_x0 : z_is b0 S49 (x0) 9 := by rw [e_S49]; exact h_x0.upR
  have hn4 : z_is b0 S49 (S.2.2) 10 := by rw [e_S49]; exact hn4.upR
  have hn8 : z_is b0 S49 (S5.2.2) 11 := by rw [e_S49]; exact hn8.upR
  have hn12 : z_is b0 S49 (S9.2.2) 10 := by rw [e_S49]; exact hn12.upR
  have hn32 : z_is b0 S49 (S29.2.2) 10 := by rw [e_S49]; exact hn32.upR
  have hn36 : z_is b0 S49 (S33.2.2) 10 := by rw [e_S49]; exact hn36.upR
  have hn40 : z_is b0 S49 (S37.2.2) 10 := by rw [e_S49]; exact hn40.upR
  have hn44 : z_is b0 S49 (S41.2.2) 10 := by rw [e_S49]; exact hn44.upR
  have hn48 : z_is b0 S49 (S45.2.2) 10 := by rw [e_S49]; exact hn48.upR
  refine z_aload_n hC dX9_init_109 rfl (lv_at hl 0 rfl) ?_
  refine z_sipush (v := 320) hC dX9_init_110 (by decide) ?_
  refine z_newI10 (N := 320) hC kw_38 dX9_init_113 (by decide) (by decide) (by decide) (by decide) (by decide) ?_
  obtain ⟨S50, e_S50, hz⟩ := zlet_some hz
  rw [← e_S50]
  obtain ⟨J51, e_J51, hz⟩ := zlet_some hz
  rw [← e_J51]
  have hb9 : b0 ≤ S49.2.2 := Nat.le_of_lt (Nat.lt_of_le_of_lt h_x0.1 h_x0.2.1)
  have h_x0 : z_is b0 S50 (x0) 9 := by rw [e_S50]; exact h_x0.new
  have hn4 : z_is b0 S50 (S.2.2) 10 := by rw [e_S50]; exact hn4.new
  have hn8 : z_is b0 S50 (S5.2.2) 11 := by rw [e_S50]; exact hn8.new
  have hn12 : z_is b0 S50 (S9.2.2) 10 := by rw [e_S50]; exact hn12.new
  have hn32 : z_is b0 S50 (S29.2.2) 10 := by rw [e_S50]; exact hn32.new
  have hn36 : z_is b0 S50 (S33.2.2) 10 := by rw [e_S50]; exact hn36.new
  have hn40 : z_is b0 S50 (S37.2.2) 10 := by rw [e_S50]; exact hn40.new
  have hn44 : z_is b0 S50 (S41.2.2) 10 := by rw [e_S50]; exact hn44.new
  have hn48 : z_is b0 S50 (S45.2.2) 10 := by rw [e_S50]; exact hn48.new
  have hn52 : z_is b0 S50 S49.2.2 10 := by rw [e_S50]; exact z_is.fresh hb9 10 320
  have hT : z_T b0 S50 := by rw [e_S50]; exact hT.new _ _
  have hE : z_Ext S0 S50 := by rw [e_S50]; exact hE.new _ _
  have hT9 := hT.upR (x := S49.2.2) (k := 9) h_x0 hn52
  have hE9 := hE.upR (a := x0) (k := 9) (x := some (S49.2.2))
  refine z_putR hC zc_9 9 (by decide) kw_746 dX9_init_115 h_x0 rfl rfl hnm rfl rfl rfl ?_
  obtain ⟨S53, e_S53, hz⟩ := zlet_some hz
  rw [← e_S53]
  have hT : z_T b0 S53 := by rw [e_S53]; exact hT9
  have hE : z_Ext S0 S53 := by rw [e_S53]; exact hE9
  have h_x0 : z_is b0 S53 (x0) 9 := by rw [e_S53]; exact h_x0.upR
  have hn4 : z_is b0 S53 (S.2.2) 10 := by rw [e_S53]; exact hn4.upR
  have hn8 : z_is b0 S53 (S5.2.2) 11 := by rw [e_S53]; exact hn8.upR
  have hn12 : z_is b0 S53 (S9.2.2) 10 := by rw [e_S53]; exact hn12.upR
  have hn32 : z_is b0 S53 (S29.2.2) 10 := by rw [e_S53]; exact hn32.upR
  have hn36 : z_is b0 S53 (S33.2.2) 10 := by rw [e_S53]; exact hn36.upR
  have hn40 : z_is b0 S53 (S37.2.2) 10 := by rw [e_S53]; exact hn40.upR
  have hn44 : z_is b0 S53 (S41.2.2) 10 := by rw [e_S53]; exact hn44.upR
  have hn48 : z_is b0 S53 (S45.2.2) 10 := by rw [e_S53]; exact hn48.upR
  have hn52 : z_is b0 S53 (S49.2.2) 10 := by rw [e_S53]; exact hn52.upR
  refine z_aload_n hC dX9_init_118 rfl (lv_at hl 0 rfl) ?_
  refine z_bipush (v := 8) hC dX9_init_119 (by decide) ?_
  refine z_newI10 (N := 8) hC kw_38 dX9_init_121 (by decide) (by decide) (by decide) (by decide) (by decide) ?_
  obtain ⟨S54, e_S54, hz⟩ := zlet_some hz
  rw [← e_S54]
  obtain ⟨J55, e_J55, hz⟩ := zlet_some hz
  rw [← e_J55]
  have hb9 : b0 ≤ S53.2.2 := Nat.le_of_lt (Nat.lt_of_le_of_lt h_x0.1 h_x0.2.1)
  have h_x0 : z_is b0 S54 (x0) 9 := by rw [e_S54]; exact h_x0.new
  have hn4 : z_is b0 S54 (S.2.2) 10 := by rw [e_S54]; exact hn4.new
  have hn8 : z_is b0 S54 (S5.2.2) 11 := by rw [e_S54]; exact hn8.new
  have hn12 : z_is b0 S54 (S9.2.2) 10 := by rw [e_S54]; exact hn12.new
  have hn32 : z_is b0 S54 (S29.2.2) 10 := by rw [e_S54]; exact hn32.new
  have hn36 : z_is b0 S54 (S33.2.2) 10 := by rw [e_S54]; exact hn36.new
  have hn40 : z_is b0 S54 (S37.2.2) 10 := by rw [e_S54]; exact hn40.new
  have hn44 : z_is b0 S54 (S41.2.2) 10 := by rw [e_S54]; exact hn44.new
  have hn48 : z_is b0 S54 (S45.2.2) 10 := by rw [e_S54]; exact hn48.new
  have hn52 : z_is b0 S54 (S49.2.2) 10 := by rw [e_S54]; exact hn52.new
  have hn56 : z_is b0 S54 S53.2.2 10 := by rw [e_S54]; exact z_is.fresh hb9 10 8
  have hT : z_T b0 S54 := by rw [e_S54]; exact hT.new _ _
  have hE : z_Ext S0 S54 := by rw [e_S54]; exact hE.new _ _
  have hT9 := hT.upR (x := S53.2.2) (k := 10) h_x0 hn56
  have hE9 := hE.upR (a := x0) (k := 10) (x := some (S53.2.2))
  refine z_putR hC zc_9 10 (by decide) kw_747 dX9_init_123 h_x0 rfl rfl hnm rfl rfl rfl ?_
  obtain ⟨S57, e_S57, hz⟩ := zlet_some hz
  rw [← e_S57]
  have hT : z_T b0 S57 := by rw [e_S57]; exact hT9
  have hE : z_Ext S0 S57 := by rw [e_S57]; exact hE9
  have h_x0 : z_is b0 S57 (x0) 9 := by rw [e_S57]; exact h_x0.upR
  have hn4 : z_is b0 S57 (S.2.2) 10 := by rw [e_S57]; exact hn4.upR
  have hn8 : z_is b0 S57 (S5.2.2) 11 := by rw [e_S57]; exact hn8.upR
  have hn12 : z_is b0 S57 (S9.2.2) 10 := by rw [e_S57]; exact hn12.upR
  have hn32 : z_is b0 S57 (S29.2.2) 10 := by rw [e_S57]; exact hn32.upR
  have hn36 : z_is b0 S57 (S33.2.2) 10 := by rw [e_S57]; exact hn36.upR
  have hn40 : z_is b0 S57 (S37.2.2) 10 := by rw [e_S57]; exact hn40.upR
  have hn44 : z_is b0 S57 (S41.2.2) 10 := by rw [e_S57]; exact hn44.upR
  have hn48 : z_is b0 S57 (S45.2.2) 10 := by rw [e_S57]; exact hn48.upR
  have hn52 : z_is b0 S57 (S49.2.2) 10 := by rw [e_S57]; exact hn52.upR
  have hn56 : z_is b0 S57 (S53.2.2) 10 := by rw [e_S57]; exact hn56.upR
  refine z_aload_n hC dX9_init_126 rfl (lv_at hl 0 rfl) ?_
  refine z_bipush (v := 32) hC dX9_init_127 (by decide) ?_
  refine z_newI10 (N := 32) hC kw_38 dX9_init_129 (by decide) (by decide) (by decide) (by decide) (by decide) ?_
  obtain ⟨S58, e_S58, hz⟩ := zlet_some hz
  rw [← e_S58]
  obtain ⟨J59, e_J59, hz⟩ := zlet_some hz
  rw [← e_J59]
  have hb9 : b0 ≤ S57.2.2 := Nat.le_of_lt (Nat.lt_of_le_of_lt h_x0.1 h_x0.2.1)
  have h_x0 : z_is b0 S58 (x0) 9 := by rw [e_S58]; exact h_x0.new
  have hn4 : z_is b0 S58 (S.2.2) 10 := by rw [e_S58]; exact hn4.new
  have hn8 : z_is b0 S58 (S5.2.2) 11 := by rw [e_S58]; exact hn8.new
  have hn12 : z_is b0 S58 (S9.2.2) 10 := by rw [e_S58]; exact hn12.new
  have hn32 : z_is b0 S58 (S29.2.2) 10 := by rw [e_S58]; exact hn32.new
  have hn36 : z_is b0 S58 (S33.2.2) 10 := by rw [e_S58]; exact hn36.new
  have hn40 : z_is b0 S58 (S37.2.2) 10 := by rw [e_S58]; exact hn40.new
  have hn44 : z_is b0 S58 (S41.2.2) 10 := by rw [e_S58]; exact hn44.new
  have hn48 : z_is b0 S58 (S45.2.2) 10 := by rw [e_S58]; exact hn48.new
  have hn52 : z_is b0 S58 (S49.2.2) 10 := by rw [e_S58]; exact hn52.new
  have hn56 : z_is b0 S58 (S53.2.2) 10 := by rw [e_S58]; exact hn56.new
  have hn60 : z_is b0 S58 S57.2.2 10 := by rw [e_S58]; exact z_is.fresh hb9 10 32
  have hT : z_T b0 S58 := by rw [e_S58]; exact hT.new _ _
  have hE : z_Ext S0 S58 := by rw [e_S58]; exact hE.new _ _
  have hT9 := hT.upR (x := S57.2.2) (k := 11) h_x0 hn60
  have hE9 := hE.upR (a := x0) (k := 11) (x := some (S57.2.2))
  refine z_putR hC zc_9 11 (by decide) kw_748 dX9_init_131 h_x0 rfl rfl hnm rfl rfl rfl ?_
  obtain ⟨S61, e_S61, hz⟩ := zlet_some hz
  rw [← e_S61]
  have hT : z_T b0 S61 := by rw [e_S61]; exact hT9
  have hE : z_Ext S0 S61 := by rw [e_S61]; exact hE9
  have h_x0 : z_is b0 S61 (x0) 9 := by rw [e_S61]; exact h_x0.upR
  have hn4 : z_is b0 S61 (S.2.2) 10 := by rw [e_S61]; exact hn4.upR
  have hn8 : z_is b0 S61 (S5.2.2) 11 := by rw [e_S61]; exact hn8.upR
  have hn12 : z_is b0 S61 (S9.2.2) 10 := by rw [e_S61]; exact hn12.upR
  have hn32 : z_is b0 S61 (S29.2.2) 10 := by rw [e_S61]; exact hn32.upR
  have hn36 : z_is b0 S61 (S33.2.2) 10 := by rw [e_S61]; exact hn36.upR
  have hn40 : z_is b0 S61 (S37.2.2) 10 := by rw [e_S61]; exact hn40.upR
  have hn44 : z_is b0 S61 (S41.2.2) 10 := by rw [e_S61]; exact hn44.upR
  have hn48 : z_is b0 S61 (S45.2.2) 10 := by rw [e_S61]; exact hn48.upR
  have hn52 : z_is b0 S61 (S49.2.2) 10 := by rw [e_S61]; exact hn52.upR
  have hn56 : z_is b0 S61 (S53.2.2) 10 := by rw [e_S61]; exact hn56.upR
  have hn60 : z_is b0 S61 (S57.2.2) 10 := by rw [e_S61]; exact hn60.upR
  refine z_aload_n hC dX9_init_134 rfl (lv_at hl 0 rfl) ?_
  refine z_bipush (v := 32) hC dX9_init_135 (by decide) ?_
  refine z_newI10 (N := 32) hC kw_38 dX9_init_137 (by decide) (by decide) (by decide) (by decide) (by decide) ?_
  obtain ⟨S62, e_S62, hz⟩ := zlet_some hz
  rw [← e_S62]
  obtain ⟨J63, e_J63, hz⟩ := zlet_some hz
  rw [← e_J63]
  have hb9 : b0 ≤ S61.2.2 := Nat.le_of_lt (Nat.lt_of_le_of_lt h_x0.1 h_x0.2.1)
  have h_x0 : z_is b0 S62 (x0) 9 := by rw [e_S62]; exact h_x0.new
  have hn4 : z_is b0 S62 (S.2.2) 10 := by rw [e_S62]; exact hn4.new
  have hn8 : z_is b0 S62 (S5.2.2) 11 := by rw [e_S62]; exact hn8.new
  have hn12 : z_is b0 S62 (S9.2.2) 10 := by rw [e_S62]; exact hn12.new
  have hn32 : z_is b0 S62 (S29.2.2) 10 := by rw [e_S62]; exact hn32.new
  have hn36 : z_is b0 S62 (S33.2.2) 10 := by rw [e_S62]; exact hn36.new
  have hn40 : z_is b0 S62 (S37.2.2) 10 := by rw [e_S62]; exact hn40.new
  have hn44 : z_is b0 S62 (S41.2.2) 10 := by rw [e_S62]; exact hn44.new
  have hn48 : z_is b0 S62 (S45.2.2) 10 := by rw [e_S62]; exact hn48.new
  have hn52 : z_is b0 S62 (S49.2.2) 10 := by rw [e_S62]; exact hn52.new
  have hn56 : z_is b0 S62 (S53.2.2) 10 := by rw [e_S62]; exact hn56.new
  have hn60 : z_is b0 S62 (S57.2.2) 10 := by rw [e_S62]; exact hn60.new
  have hn64 : z_is b0 S62 S61.2.2 10 := by rw [e_S62]; exact z_is.fresh hb9 10 32
  have hT : z_T b0 S62 := by rw [e_S62]; exact hT.new _ _
  have hE : z_Ext S0 S62 := by rw [e_S62]; exact hE.new _ _
  have hT9 := hT.upR (x := S61.2.2) (k := 12) h_x0 hn64
  have hE9 := hE.upR (a := x0) (k := 12) (x := some (S61.2.2))
  refine z_putR hC zc_9 12 (by decide) kw_749 dX9_init_139 h_x0 rfl rfl hnm rfl rfl rfl ?_
  obtain ⟨S65, e_S65, hz⟩ := zlet_some hz
  rw [← e_S65]
  have hT : z_T b0 S65 := by rw [e_S65]; exact hT9
  have hE : z_Ext S0 S65 := by rw [e_S65]; exact hE9
  have h_x0 : z_is b0 S65 (x0) 9 := by rw [e_S65]; exact h_x0.upR
  have hn4 : z_is b0 S65 (S.2.2) 10 := by rw [e_S65]; exact hn4.upR
  have hn8 : z_is b0 S65 (S5.2.2) 11 := by rw [e_S65]; exact hn8.upR
  have hn12 : z_is b0 S65 (S9.2.2) 10 := by rw [e_S65]; exact hn12.upR
  have hn32 : z_is b0 S65 (S29.2.2) 10 := by rw [e_S65]; exact hn32.upR
  have hn36 : z_is b0 S65 (S33.2.2) 10 := by rw [e_S65]; exact hn36.upR
  have hn40 : z_is b0 S65 (S37.2.2) 10 := by rw [e_S65]; exact hn40.upR
  have hn44 : z_is b0 S65 (S41.2.2) 10 := by rw [e_S65]; exact hn44.upR
  have hn48 : z_is b0 S65 (S45.2.2) 10 := by rw [e_S65]; exact hn48.upR
  have hn52 : z_is b0 S65 (S49.2.2) 10 := by rw [e_S65]; exact hn52.upR
  have hn56 : z_is b0 S65 (S53.2.2) 10 := by rw [e_S65]; exact hn56.upR
  have hn60 : z_is b0 S65 (S57.2.2) 10 := by rw [e_S65]; exact hn60.upR
  have hn64 : z_is b0 S65 (S61.2.2) 10 := by rw [e_S65]; exact hn64.upR
  refine z_aload_n hC dX9_init_142 rfl (lv_at hl 0 rfl) ?_
  refine z_bipush (v := 32) hC dX9_init_143 (by decide) ?_
  refine z_newI10 (N := 32) hC kw_38 dX9_init_145 (by decide) (by decide) (by decide) (by decide) (by decide) ?_
  obtain ⟨S66, e_S66, hz⟩ := zlet_some hz
  rw [← e_S66]
  obtain ⟨J67, e_J67, hz⟩ := zlet_some hz
  rw [← e_J67]
  have hb9 : b0 ≤ S65.2.2 := Nat.le_of_lt (Nat.lt_of_le_of_lt h_x0.1 h_x0.2.1)
  have h_x0 : z_is b0 S66 (x0) 9 := by rw [e_S66]; exact h_x0.new
  have hn4 : z_is b0 S66 (S.2.2) 10 := by rw [e_S66]; exact hn4.new
  have hn8 : z_is b0 S66 (S5.2.2) 11 := by rw [e_S66]; exact hn8.new
  have hn12 : z_is b0 S66 (S9.2.2) 10 := by rw [e_S66]; exact hn12.new
  have hn32 : z_is b0 S66 (S29.2.2) 10 := by rw [e_S66]; exact hn32.new
  have hn36 : z_is b0 S66 (S33.2.2) 10 := by rw [e_S66]; exact hn36.new
  have hn40 : z_is b0 S66 (S37.2.2) 10 := by rw [e_S66]; exact hn40.new
  have hn44 : z_is b0 S66 (S41.2.2) 10 := by rw [e_S66]; exact hn44.new
  have hn48 : z_is b0 S66 (S45.2.2) 10 := by rw [e_S66]; exact hn48.new
  have hn52 : z_is b0 S66 (S49.2.2) 10 := by rw [e_S66]; exact hn52.new
  have hn56 : z_is b0 S66 (S53.2.2) 10 := by rw [e_S66]; exact hn56.new
  have hn60 : z_is b0 S66 (S57.2.2) 10 := by rw [e_S66]; exact hn60.new
  have hn64 : z_is b0 S66 (S61.2.2) 10 := by rw [e_S66]; exact hn64.new
  have hn68 : z_is b0 S66 S65.2.2 10 := by rw [e_S66]; exact z_is.fresh hb9 10 32
  have hT : z_T b0 S66 := by rw [e_S66]; exact hT.new _ _
  have hE : z_Ext S0 S66 := by rw [e_S66]; exact hE.new _ _
  have hT9 := hT.upR (x := S65.2.2) (k := 13) h_x0 hn68
  have hE9 := hE.upR (a := x0) (k := 13) (x := some (S65.2.2))
  refine z_putR hC zc_9 13 (by decide) kw_750 dX9_init_147 h_x0 rfl rfl hnm rfl rfl rfl ?_
  obtain ⟨S69, e_S69, hz⟩ := zlet_some hz
  rw [← e_S69]
  have hT : z_T b0 S69 := by rw [e_S69]; exact hT9
  have hE : z_Ext S0 S69 := by rw [e_S69]; exact hE9
  have h_x0 : z_is b0 S69 (x0) 9 := by rw [e_S69]; exact h_x0.upR
  have hn4 : z_is b0 S69 (S.2.2) 10 := by rw [e_S69]; exact hn4.upR
  have hn8 : z_is b0 S69 (S5.2.2) 11 := by rw [e_S69]; exact hn8.upR
  have hn12 : z_is b0 S69 (S9.2.2) 10 := by rw [e_S69]; exact hn12.upR
  have hn32 : z_is b0 S69 (S29.2.2) 10 := by rw [e_S69]; exact hn32.upR
  have hn36 : z_is b0 S69 (S33.2.2) 10 := by rw [e_S69]; exact hn36.upR
  have hn40 : z_is b0 S69 (S37.2.2) 10 := by rw [e_S69]; exact hn40.upR
  have hn44 : z_is b0 S69 (S41.2.2) 10 := by rw [e_S69]; exact hn44.upR
  have hn48 : z_is b0 S69 (S45.2.2) 10 := by rw [e_S69]; exact hn48.upR
  have hn52 : z_is b0 S69 (S49.2.2) 10 := by rw [e_S69]; exact hn52.upR
  have hn56 : z_is b0 S69 (S53.2.2) 10 := by rw [e_S69]; exact hn56.upR
  have hn60 : z_is b0 S69 (S57.2.2) 10 := by rw [e_S69]; exact hn60.upR
  have hn64 : z_is b0 S69 (S61.2.2) 10 := by rw [e_S69]; exact hn64.upR
  have hn68 : z_is b0 S69 (S65.2.2) 10 := by rw [e_S69]; exact hn68.upR
  refine z_aload_n hC dX9_init_150 rfl (lv_at hl 0 rfl) ?_
  refine z_bipush (v := 32) hC dX9_init_151 (by decide) ?_
  refine z_newI10 (N := 32) hC kw_38 dX9_init_153 (by decide) (by decide) (by decide) (by decide) (by decide) ?_
  obtain ⟨S70, e_S70, hz⟩ := zlet_some hz
  rw [← e_S70]
  obtain ⟨J71, e_J71, hz⟩ := zlet_some hz
  rw [← e_J71]
  have hb9 : b0 ≤ S69.2.2 := Nat.le_of_lt (Nat.lt_of_le_of_lt h_x0.1 h_x0.2.1)
  have h_x0 : z_is b0 S70 (x0) 9 := by rw [e_S70]; exact h_x0.new
  have hn4 : z_is b0 S70 (S.2.2) 10 := by rw [e_S70]; exact hn4.new
  have hn8 : z_is b0 S70 (S5.2.2) 11 := by rw [e_S70]; exact hn8.new
  have hn12 : z_is b0 S70 (S9.2.2) 10 := by rw [e_S70]; exact hn12.new
  have hn32 : z_is b0 S70 (S29.2.2) 10 := by rw [e_S70]; exact hn32.new
  have hn36 : z_is b0 S70 (S33.2.2) 10 := by rw [e_S70]; exact hn36.new
  have hn40 : z_is b0 S70 (S37.2.2) 10 := by rw [e_S70]; exact hn40.new
  have hn44 : z_is b0 S70 (S41.2.2) 10 := by rw [e_S70]; exact hn44.new
  have hn48 : z_is b0 S70 (S45.2.2) 10 := by rw [e_S70]; exact hn48.new
  have hn52 : z_is b0 S70 (S49.2.2) 10 := by rw [e_S70]; exact hn52.new
  have hn56 : z_is b0 S70 (S53.2.2) 10 := by rw [e_S70]; exact hn56.new
  have hn60 : z_is b0 S70 (S57.2.2) 10 := by rw [e_S70]; exact hn60.new
  have hn64 : z_is b0 S70 (S61.2.2) 10 := by rw [e_S70]; exact hn64.new
  have hn68 : z_is b0 S70 (S65.2.2) 10 := by rw [e_S70]; exact hn68.new
  have hn72 : z_is b0 S70 S69.2.2 10 := by rw [e_S70]; exact z_is.fresh hb9 10 32
  have hT : z_T b0 S70 := by rw [e_S70]; exact hT.new _ _
  have hE : z_Ext S0 S70 := by rw [e_S70]; exact hE.new _ _
  have hT9 := hT.upR (x := S69.2.2) (k := 14) h_x0 hn72
  have hE9 := hE.upR (a := x0) (k := 14) (x := some (S69.2.2))
  refine z_putR hC zc_9 14 (by decide) kw_751 dX9_init_155 h_x0 rfl rfl hnm rfl rfl rfl ?_
  obtain ⟨S73, e_S73, hz⟩ := zlet_some hz
  rw [← e_S73]
  have hT : z_T b0 S73 := by rw [e_S73]; exact hT9
  have hE : z_Ext S0 S73 := by rw [e_S73]; exact hE9
  have h_x0 : z_is b0 S73 (x0) 9 := by rw [e_S73]; exact h_x0.upR
  have hn4 : z_is b0 S73 (S.2.2) 10 := by rw [e_S73]; exact hn4.upR
  have hn8 : z_is b0 S73 (S5.2.2) 11 := by rw [e_S73]; exact hn8.upR
  have hn12 : z_is b0 S73 (S9.2.2) 10 := by rw [e_S73]; exact hn12.upR
  have hn32 : z_is b0 S73 (S29.2.2) 10 := by rw [e_S73]; exact hn32.upR
  have hn36 : z_is b0 S73 (S33.2.2) 10 := by rw [e_S73]; exact hn36.upR
  have hn40 : z_is b0 S73 (S37.2.2) 10 := by rw [e_S73]; exact hn40.upR
  have hn44 : z_is b0 S73 (S41.2.2) 10 := by rw [e_S73]; exact hn44.upR
  have hn48 : z_is b0 S73 (S45.2.2) 10 := by rw [e_S73]; exact hn48.upR
  have hn52 : z_is b0 S73 (S49.2.2) 10 := by rw [e_S73]; exact hn52.upR
  have hn56 : z_is b0 S73 (S53.2.2) 10 := by rw [e_S73]; exact hn56.upR
  have hn60 : z_is b0 S73 (S57.2.2) 10 := by rw [e_S73]; exact hn60.upR
  have hn64 : z_is b0 S73 (S61.2.2) 10 := by rw [e_S73]; exact hn64.upR
  have hn68 : z_is b0 S73 (S65.2.2) 10 := by rw [e_S73]; exact hn68.upR
  have hn72 : z_is b0 S73 (S69.2.2) 10 := by rw [e_S73]; exact hn72.upR
  refine z_aload_n hC dX9_init_158 rfl (lv_at hl 0 rfl) ?_
  refine z_bipush (v := 8) hC dX9_init_159 (by decide) ?_
  refine z_newI11 (N := 8) hC kw_39 dX9_init_161 (by decide) (by decide) (by decide) (by decide) (by decide) ?_
  obtain ⟨S74, e_S74, hz⟩ := zlet_some hz
  rw [← e_S74]
  obtain ⟨J75, e_J75, hz⟩ := zlet_some hz
  rw [← e_J75]
  have hb9 : b0 ≤ S73.2.2 := Nat.le_of_lt (Nat.lt_of_le_of_lt h_x0.1 h_x0.2.1)
  have h_x0 : z_is b0 S74 (x0) 9 := by rw [e_S74]; exact h_x0.new
  have hn4 : z_is b0 S74 (S.2.2) 10 := by rw [e_S74]; exact hn4.new
  have hn8 : z_is b0 S74 (S5.2.2) 11 := by rw [e_S74]; exact hn8.new
  have hn12 : z_is b0 S74 (S9.2.2) 10 := by rw [e_S74]; exact hn12.new
  have hn32 : z_is b0 S74 (S29.2.2) 10 := by rw [e_S74]; exact hn32.new
  have hn36 : z_is b0 S74 (S33.2.2) 10 := by rw [e_S74]; exact hn36.new
  have hn40 : z_is b0 S74 (S37.2.2) 10 := by rw [e_S74]; exact hn40.new
  have hn44 : z_is b0 S74 (S41.2.2) 10 := by rw [e_S74]; exact hn44.new
  have hn48 : z_is b0 S74 (S45.2.2) 10 := by rw [e_S74]; exact hn48.new
  have hn52 : z_is b0 S74 (S49.2.2) 10 := by rw [e_S74]; exact hn52.new
  have hn56 : z_is b0 S74 (S53.2.2) 10 := by rw [e_S74]; exact hn56.new
  have hn60 : z_is b0 S74 (S57.2.2) 10 := by rw [e_S74]; exact hn60.new
  have hn64 : z_is b0 S74 (S61.2.2) 10 := by rw [e_S74]; exact hn64.new
  have hn68 : z_is b0 S74 (S65.2.2) 10 := by rw [e_S74]; exact hn68.new
  have hn72 : z_is b0 S74 (S69.2.2) 10 := by rw [e_S74]; exact hn72.new
  have hn76 : z_is b0 S74 S73.2.2 11 := by rw [e_S74]; exact z_is.fresh hb9 11 8
  have hT : z_T b0 S74 := by rw [e_S74]; exact hT.new _ _
  have hE : z_Ext S0 S74 := by rw [e_S74]; exact hE.new _ _
  have hT9 := hT.upR (x := S73.2.2) (k := 15) h_x0 hn76
  have hE9 := hE.upR (a := x0) (k := 15) (x := some (S73.2.2))
  refine z_putR hC zc_9 15 (by decide) kw_752 dX9_init_163 h_x0 rfl rfl hnm rfl rfl rfl ?_
  obtain ⟨S77, e_S77, hz⟩ := zlet_some hz
  rw [← e_S77]
  have hT : z_T b0 S77 := by rw [e_S77]; exact hT9
  have hE : z_Ext S0 S77 := by rw [e_S77]; exact hE9
  have h_x0 : z_is b0 S77 (x0) 9 := by rw [e_S77]; exact h_x0.upR
  have hn4 : z_is b0 S77 (S.2.2) 10 := by rw [e_S77]; exact hn4.upR
  have hn8 : z_is b0 S77 (S5.2.2) 11 := by rw [e_S77]; exact hn8.upR
  have hn12 : z_is b0 S77 (S9.2.2) 10 := by rw [e_S77]; exact hn12.upR
  have hn32 : z_is b0 S77 (S29.2.2) 10 := by rw [e_S77]; exact hn32.upR
  have hn36 : z_is b0 S77 (S33.2.2) 10 := by rw [e_S77]; exact hn36.upR
  have hn40 : z_is b0 S77 (S37.2.2) 10 := by rw [e_S77]; exact hn40.upR
  have hn44 : z_is b0 S77 (S41.2.2) 10 := by rw [e_S77]; exact hn44.upR
  have hn48 : z_is b0 S77 (S45.2.2) 10 := by rw [e_S77]; exact hn48.upR
  have hn52 : z_is b0 S77 (S49.2.2) 10 := by rw [e_S77]; exact hn52.upR
  have hn56 : z_is b0 S77 (S53.2.2) 10 := by rw [e_S77]; exact hn56.upR
  have hn60 : z_is b0 S77 (S57.2.2) 10 := by rw [e_S77]; exact hn60.upR
  have hn64 : z_is b0 S77 (S61.2.2) 10 := by rw [e_S77]; exact hn64.upR
  have hn68 : z_is b0 S77 (S65.2.2) 10 := by rw [e_S77]; exact hn68.upR
  have hn72 : z_is b0 S77 (S69.2.2) 10 := by rw [e_S77]; exact hn72.upR
  have hn76 : z_is b0 S77 (S73.2.2) 11 := by rw [e_S77]; exact hn76.upR
  refine z_aload_n hC dX9_init_166 rfl (lv_at hl 0 rfl) ?_
  refine z_sipush (v := 320) hC dX9_init_167 (by decide) ?_
  refine z_newI11 (N := 320) hC kw_39 dX9_init_170 (by decide) (by decide) (by decide) (by decide) (by decide) ?_
  obtain ⟨S78, e_S78, hz⟩ := zlet_some hz
  rw [← e_S78]
  obtain ⟨J79, e_J79, hz⟩ := zlet_some hz
  rw [← e_J79]
  have hb9 : b0 ≤ S77.2.2 := Nat.le_of_lt (Nat.lt_of_le_of_lt h_x0.1 h_x0.2.1)
  have h_x0 : z_is b0 S78 (x0) 9 := by rw [e_S78]; exact h_x0.new
  have hn4 : z_is b0 S78 (S.2.2) 10 := by rw [e_S78]; exact hn4.new
  have hn8 : z_is b0 S78 (S5.2.2) 11 := by rw [e_S78]; exact hn8.new
  have hn12 : z_is b0 S78 (S9.2.2) 10 := by rw [e_S78]; exact hn12.new
  have hn32 : z_is b0 S78 (S29.2.2) 10 := by rw [e_S78]; exact hn32.new
  have hn36 : z_is b0 S78 (S33.2.2) 10 := by rw [e_S78]; exact hn36.new
  have hn40 : z_is b0 S78 (S37.2.2) 10 := by rw [e_S78]; exact hn40.new
  have hn44 : z_is b0 S78 (S41.2.2) 10 := by rw [e_S78]; exact hn44.new
  have hn48 : z_is b0 S78 (S45.2.2) 10 := by rw [e_S78]; exact hn48.new
  have hn52 : z_is b0 S78 (S49.2.2) 10 := by rw [e_S78]; exact hn52.new
  have hn56 : z_is b0 S78 (S53.2.2) 10 := by rw [e_S78]; exact hn56.new
  have hn60 : z_is b0 S78 (S57.2.2) 10 := by rw [e_S78]; exact hn60.new
  have hn64 : z_is b0 S78 (S61.2.2) 10 := by rw [e_S78]; exact hn64.new
  have hn68 : z_is b0 S78 (S65.2.2) 10 := by rw [e_S78]; exact hn68.new
  have hn72 : z_is b0 S78 (S69.2.2) 10 := by rw [e_S78]; exact hn72.new
  have hn76 : z_is b0 S78 (S73.2.2) 11 := by rw [e_S78]; exact hn76.new
  have hn80 : z_is b0 S78 S77.2.2 11 := by rw [e_S78]; exact z_is.fresh hb9 11 320
  have hT : z_T b0 S78 := by rw [e_S78]; exact hT.new _ _
  have hE : z_Ext S0 S78 := by rw [e_S78]; exact hE.new _ _
  have hT9 := hT.upR (x := S77.2.2) (k := 16) h_x0 hn80
  have hE9 := hE.upR (a := x0) (k := 16) (x := some (S77.2.2))
  refine z_putR hC zc_9 16 (by decide) kw_753 dX9_init_172 h_x0 rfl rfl hnm rfl rfl rfl ?_
  obtain ⟨S81, e_S81, hz⟩ := zlet_some hz
  rw [← e_S81]
  have hT : z_T b0 S81 := by rw [e_S81]; exact hT9
  have hE : z_Ext S0 S81 := by rw [e_S81]; exact hE9
  have h_x0 : z_is b0 S81 (x0) 9 := by rw [e_S81]; exact h_x0.upR
  have hn4 : z_is b0 S81 (S.2.2) 10 := by rw [e_S81]; exact hn4.upR
  have hn8 : z_is b0 S81 (S5.2.2) 11 := by rw [e_S81]; exact hn8.upR
  have hn12 : z_is b0 S81 (S9.2.2) 10 := by rw [e_S81]; exact hn12.upR
  have hn32 : z_is b0 S81 (S29.2.2) 10 := by rw [e_S81]; exact hn32.upR
  have hn36 : z_is b0 S81 (S33.2.2) 10 := by rw [e_S81]; exact hn36.upR
  have hn40 : z_is b0 S81 (S37.2.2) 10 := by rw [e_S81]; exact hn40.upR
  have hn44 : z_is b0 S81 (S41.2.2) 10 := by rw [e_S81]; exact hn44.upR
  have hn48 : z_is b0 S81 (S45.2.2) 10 := by rw [e_S81]; exact hn48.upR
  have hn52 : z_is b0 S81 (S49.2.2) 10 := by rw [e_S81]; exact hn52.upR
  have hn56 : z_is b0 S81 (S53.2.2) 10 := by rw [e_S81]; exact hn56.upR
  have hn60 : z_is b0 S81 (S57.2.2) 10 := by rw [e_S81]; exact hn60.upR
  have hn64 : z_is b0 S81 (S61.2.2) 10 := by rw [e_S81]; exact hn64.upR
  have hn68 : z_is b0 S81 (S65.2.2) 10 := by rw [e_S81]; exact hn68.upR
  have hn72 : z_is b0 S81 (S69.2.2) 10 := by rw [e_S81]; exact hn72.upR
  have hn76 : z_is b0 S81 (S73.2.2) 11 := by rw [e_S81]; exact hn76.upR
  have hn80 : z_is b0 S81 (S77.2.2) 11 := by rw [e_S81]; exact hn80.upR
  refine z_aload_n hC dX9_init_175 rfl (lv_at hl 0 rfl) ?_
  refine z_sipush (v := 6400) hC dX9_init_176 (by decide) ?_
  refine z_newI10 (N := 6400) hC kw_38 dX9_init_179 (by decide) (by decide) (by decide) (by decide) (by decide) ?_
  obtain ⟨S82, e_S82, hz⟩ := zlet_some hz
  rw [← e_S82]
  obtain ⟨J83, e_J83, hz⟩ := zlet_some hz
  rw [← e_J83]
  have hb9 : b0 ≤ S81.2.2 := Nat.le_of_lt (Nat.lt_of_le_of_lt h_x0.1 h_x0.2.1)
  have h_x0 : z_is b0 S82 (x0) 9 := by rw [e_S82]; exact h_x0.new
  have hn4 : z_is b0 S82 (S.2.2) 10 := by rw [e_S82]; exact hn4.new
  have hn8 : z_is b0 S82 (S5.2.2) 11 := by rw [e_S82]; exact hn8.new
  have hn12 : z_is b0 S82 (S9.2.2) 10 := by rw [e_S82]; exact hn12.new
  have hn32 : z_is b0 S82 (S29.2.2) 10 := by rw [e_S82]; exact hn32.new
  have hn36 : z_is b0 S82 (S33.2.2) 10 := by rw [e_S82]; exact hn36.new
  have hn40 : z_is b0 S82 (S37.2.2) 10 := by rw [e_S82]; exact hn40.new
  have hn44 : z_is b0 S82 (S41.2.2) 10 := by rw [e_S82]; exact hn44.new
  have hn48 : z_is b0 S82 (S45.2.2) 10 := by rw [e_S82]; exact hn48.new
  have hn52 : z_is b0 S82 (S49.2.2) 10 := by rw [e_S82]; exact hn52.new
  have hn56 : z_is b0 S82 (S53.2.2) 10 := by rw [e_S82]; exact hn56.new
  have hn60 : z_is b0 S82 (S57.2.2) 10 := by rw [e_S82]; exact hn60.new
  have hn64 : z_is b0 S82 (S61.2.2) 10 := by rw [e_S82]; exact hn64.new
  have hn68 : z_is b0 S82 (S65.2.2) 10 := by rw [e_S82]; exact hn68.new
  have hn72 : z_is b0 S82 (S69.2.2) 10 := by rw [e_S82]; exact hn72.new
  have hn76 : z_is b0 S82 (S73.2.2) 11 := by rw [e_S82]; exact hn76.new
  have hn80 : z_is b0 S82 (S77.2.2) 11 := by rw [e_S82]; exact hn80.new
  have hn84 : z_is b0 S82 S81.2.2 10 := by rw [e_S82]; exact z_is.fresh hb9 10 6400
  have hT : z_T b0 S82 := by rw [e_S82]; exact hT.new _ _
  have hE : z_Ext S0 S82 := by rw [e_S82]; exact hE.new _ _
  have hT9 := hT.upR (x := S81.2.2) (k := 17) h_x0 hn84
  have hE9 := hE.upR (a := x0) (k := 17) (x := some (S81.2.2))
  refine z_putR hC zc_9 17 (by decide) kw_754 dX9_init_181 h_x0 rfl rfl hnm rfl rfl rfl ?_
  obtain ⟨S85, e_S85, hz⟩ := zlet_some hz
  rw [← e_S85]
  have hT : z_T b0 S85 := by rw [e_S85]; exact hT9
  have hE : z_Ext S0 S85 := by rw [e_S85]; exact hE9
  have h_x0 : z_is b0 S85 (x0) 9 := by rw [e_S85]; exact h_x0.upR
  have hn4 : z_is b0 S85 (S.2.2) 10 := by rw [e_S85]; exact hn4.upR
  have hn8 : z_is b0 S85 (S5.2.2) 11 := by rw [e_S85]; exact hn8.upR
  have hn12 : z_is b0 S85 (S9.2.2) 10 := by rw [e_S85]; exact hn12.upR
  have hn32 : z_is b0 S85 (S29.2.2) 10 := by rw [e_S85]; exact hn32.upR
  have hn36 : z_is b0 S85 (S33.2.2) 10 := by rw [e_S85]; exact hn36.upR
  have hn40 : z_is b0 S85 (S37.2.2) 10 := by rw [e_S85]; exact hn40.upR
  have hn44 : z_is b0 S85 (S41.2.2) 10 := by rw [e_S85]; exact hn44.upR
  have hn48 : z_is b0 S85 (S45.2.2) 10 := by rw [e_S85]; exact hn48.upR
  have hn52 : z_is b0 S85 (S49.2.2) 10 := by rw [e_S85]; exact hn52.upR
  have hn56 : z_is b0 S85 (S53.2.2) 10 := by rw [e_S85]; exact hn56.upR
  have hn60 : z_is b0 S85 (S57.2.2) 10 := by rw [e_S85]; exact hn60.upR
  have hn64 : z_is b0 S85 (S61.2.2) 10 := by rw [e_S85]; exact hn64.upR
  have hn68 : z_is b0 S85 (S65.2.2) 10 := by rw [e_S85]; exact hn68.upR
  have hn72 : z_is b0 S85 (S69.2.2) 10 := by rw [e_S85]; exact hn72.upR
  have hn76 : z_is b0 S85 (S73.2.2) 11 := by rw [e_S85]; exact hn76.upR
  have hn80 : z_is b0 S85 (S77.2.2) 11 := by rw [e_S85]; exact hn80.upR
  have hn84 : z_is b0 S85 (S81.2.2) 10 := by rw [e_S85]; exact hn84.upR
  refine z_aload_n hC dX9_init_184 rfl (lv_at hl 0 rfl) ?_
  refine z_sipush (v := 320) hC dX9_init_185 (by decide) ?_
  refine z_newI11 (N := 320) hC kw_39 dX9_init_188 (by decide) (by decide) (by decide) (by decide) (by decide) ?_
  obtain ⟨S86, e_S86, hz⟩ := zlet_some hz
  rw [← e_S86]
  obtain ⟨J87, e_J87, hz⟩ := zlet_some hz
  rw [← e_J87]
  have hb9 : b0 ≤ S85.2.2 := Nat.le_of_lt (Nat.lt_of_le_of_lt h_x0.1 h_x0.2.1)
  have h_x0 : z_is b0 S86 (x0) 9 := by rw [e_S86]; exact h_x0.new
  have hn4 : z_is b0 S86 (S.2.2) 10 := by rw [e_S86]; exact hn4.new
  have hn8 : z_is b0 S86 (S5.2.2) 11 := by rw [e_S86]; exact hn8.new
  have hn12 : z_is b0 S86 (S9.2.2) 10 := by rw [e_S86]; exact hn12.new
  have hn32 : z_is b0 S86 (S29.2.2) 10 := by rw [e_S86]; exact hn32.new
  have hn36 : z_is b0 S86 (S33.2.2) 10 := by rw [e_S86]; exact hn36.new
  have hn40 : z_is b0 S86 (S37.2.2) 10 := by rw [e_S86]; exact hn40.new
  have hn44 : z_is b0 S86 (S41.2.2) 10 := by rw [e_S86]; exact hn44.new
  have hn48 : z_is b0 S86 (S45.2.2) 10 := by rw [e_S86]; exact hn48.new
  have hn52 : z_is b0 S86 (S49.2.2) 10 := by rw [e_S86]; exact hn52.new
  have hn56 : z_is b0 S86 (S53.2.2) 10 := by rw [e_S86]; exact hn56.new
  have hn60 : z_is b0 S86 (S57.2.2) 10 := by rw [e_S86]; exact hn60.new
  have hn64 : z_is b0 S86 (S61.2.2) 10 := by rw [e_S86]; exact hn64.new
  have hn68 : z_is b0 S86 (S65.2.2) 10 := by rw [e_S86]; exact hn68.new
  have hn72 : z_is b0 S86 (S69.2.2) 10 := by rw [e_S86]; exact hn72.new
  have hn76 : z_is b0 S86 (S73.2.2) 11 := by rw [e_S86]; exact hn76.new
  have hn80 : z_is b0 S86 (S77.2.2) 11 := by rw [e_S86]; exact hn80.new
  have hn84 : z_is b0 S86 (S81.2.2) 10 := by rw [e_S86]; exact hn84.new
  have hn88 : z_is b0 S86 S85.2.2 11 := by rw [e_S86]; exact z_is.fresh hb9 11 320
  have hT : z_T b0 S86 := by rw [e_S86]; exact hT.new _ _
  have hE : z_Ext S0 S86 := by rw [e_S86]; exact hE.new _ _
  have hT9 := hT.upR (x := S85.2.2) (k := 18) h_x0 hn88
  have hE9 := hE.upR (a := x0) (k := 18) (x := some (S85.2.2))
  refine z_putR hC zc_9 18 (by decide) kw_755 dX9_init_190 h_x0 rfl rfl hnm rfl rfl rfl ?_
  obtain ⟨S89, e_S89, hz⟩ := zlet_some hz
  rw [← e_S89]
  have hT : z_T b0 S89 := by rw [e_S89]; exact hT9
  have hE : z_Ext S0 S89 := by rw [e_S89]; exact hE9
  have h_x0 : z_is b0 S89 (x0) 9 := by rw [e_S89]; exact h_x0.upR
  have hn4 : z_is b0 S89 (S.2.2) 10 := by rw [e_S89]; exact hn4.upR
  have hn8 : z_is b0 S89 (S5.2.2) 11 := by rw [e_S89]; exact hn8.upR
  have hn12 : z_is b0 S89 (S9.2.2) 10 := by rw [e_S89]; exact hn12.upR
  have hn32 : z_is b0 S89 (S29.2.2) 10 := by rw [e_S89]; exact hn32.upR
  have hn36 : z_is b0 S89 (S33.2.2) 10 := by rw [e_S89]; exact hn36.upR
  have hn40 : z_is b0 S89 (S37.2.2) 10 := by rw [e_S89]; exact hn40.upR
  have hn44 : z_is b0 S89 (S41.2.2) 10 := by rw [e_S89]; exact hn44.upR
  have hn48 : z_is b0 S89 (S45.2.2) 10 := by rw [e_S89]; exact hn48.upR
  have hn52 : z_is b0 S89 (S49.2.2) 10 := by rw [e_S89]; exact hn52.upR
  have hn56 : z_is b0 S89 (S53.2.2) 10 := by rw [e_S89]; exact hn56.upR
  have hn60 : z_is b0 S89 (S57.2.2) 10 := by rw [e_S89]; exact hn60.upR
  have hn64 : z_is b0 S89 (S61.2.2) 10 := by rw [e_S89]; exact hn64.upR
  have hn68 : z_is b0 S89 (S65.2.2) 10 := by rw [e_S89]; exact hn68.upR
  have hn72 : z_is b0 S89 (S69.2.2) 10 := by rw [e_S89]; exact hn72.upR
  have hn76 : z_is b0 S89 (S73.2.2) 11 := by rw [e_S89]; exact hn76.upR
  have hn80 : z_is b0 S89 (S77.2.2) 11 := by rw [e_S89]; exact hn80.upR
  have hn84 : z_is b0 S89 (S81.2.2) 10 := by rw [e_S89]; exact hn84.upR
  have hn88 : z_is b0 S89 (S85.2.2) 11 := by rw [e_S89]; exact hn88.upR
  refine z_aload_n hC dX9_init_193 rfl (lv_at hl 0 rfl) ?_
  refine z_sipush (v := 6400) hC dX9_init_194 (by decide) ?_
  refine z_newI10 (N := 6400) hC kw_38 dX9_init_197 (by decide) (by decide) (by decide) (by decide) (by decide) ?_
  obtain ⟨S90, e_S90, hz⟩ := zlet_some hz
  rw [← e_S90]
  obtain ⟨J91, e_J91, hz⟩ := zlet_some hz
  rw [← e_J91]
  have hb9 : b0 ≤ S89.2.2 := Nat.le_of_lt (Nat.lt_of_le_of_lt h_x0.1 h_x0.2.1)
  have h_x0 : z_is b0 S90 (x0) 9 := by rw [e_S90]; exact h_x0.new
  have hn4 : z_is b0 S90 (S.2.2) 10 := by rw [e_S90]; exact hn4.new
  have hn8 : z_is b0 S90 (S5.2.2) 11 := by rw [e_S90]; exact hn8.new
  have hn12 : z_is b0 S90 (S9.2.2) 10 := by rw [e_S90]; exact hn12.new
  have hn32 : z_is b0 S90 (S29.2.2) 10 := by rw [e_S90]; exact hn32.new
  have hn36 : z_is b0 S90 (S33.2.2) 10 := by rw [e_S90]; exact hn36.new
  have hn40 : z_is b0 S90 (S37.2.2) 10 := by rw [e_S90]; exact hn40.new
  have hn44 : z_is b0 S90 (S41.2.2) 10 := by rw [e_S90]; exact hn44.new
  have hn48 : z_is b0 S90 (S45.2.2) 10 := by rw [e_S90]; exact hn48.new
  have hn52 : z_is b0 S90 (S49.2.2) 10 := by rw [e_S90]; exact hn52.new
  have hn56 : z_is b0 S90 (S53.2.2) 10 := by rw [e_S90]; exact hn56.new
  have hn60 : z_is b0 S90 (S57.2.2) 10 := by rw [e_S90]; exact hn60.new
  have hn64 : z_is b0 S90 (S61.2.2) 10 := by rw [e_S90]; exact hn64.new
  have hn68 : z_is b0 S90 (S65.2.2) 10 := by rw [e_S90]; exact hn68.new
  have hn72 : z_is b0 S90 (S69.2.2) 10 := by rw [e_S90]; exact hn72.new
  have hn76 : z_is b0 S90 (S73.2.2) 11 := by rw [e_S90]; exact hn76.new
  have hn80 : z_is b0 S90 (S77.2.2) 11 := by rw [e_S90]; exact hn80.new
  have hn84 : z_is b0 S90 (S81.2.2) 10 := by rw [e_S90]; exact hn84.new
  have hn88 : z_is b0 S90 (S85.2.2) 11 := by rw [e_S90]; exact hn88.new
  have hn92 : z_is b0 S90 S89.2.2 10 := by rw [e_S90]; exact z_is.fresh hb9 10 6400
  have hT : z_T b0 S90 := by rw [e_S90]; exact hT.new _ _
  have hE : z_Ext S0 S90 := by rw [e_S90]; exact hE.new _ _
  have hT9 := hT.upR (x := S89.2.2) (k := 19) h_x0 hn92
  have hE9 := hE.upR (a := x0) (k := 19) (x := some (S89.2.2))
  refine z_putR hC zc_9 19 (by decide) kw_756 dX9_init_199 h_x0 rfl rfl hnm rfl rfl rfl ?_
  obtain ⟨S93, e_S93, hz⟩ := zlet_some hz
  rw [← e_S93]
  have hT : z_T b0 S93 := by rw [e_S93]; exact hT9
  have hE : z_Ext S0 S93 := by rw [e_S93]; exact hE9
  have h_x0 : z_is b0 S93 (x0) 9 := by rw [e_S93]; exact h_x0.upR
  have hn4 : z_is b0 S93 (S.2.2) 10 := by rw [e_S93]; exact hn4.upR
  have hn8 : z_is b0 S93 (S5.2.2) 11 := by rw [e_S93]; exact hn8.upR
  have hn12 : z_is b0 S93 (S9.2.2) 10 := by rw [e_S93]; exact hn12.upR
  have hn32 : z_is b0 S93 (S29.2.2) 10 := by rw [e_S93]; exact hn32.upR
  have hn36 : z_is b0 S93 (S33.2.2) 10 := by rw [e_S93]; exact hn36.upR
  have hn40 : z_is b0 S93 (S37.2.2) 10 := by rw [e_S93]; exact hn40.upR
  have hn44 : z_is b0 S93 (S41.2.2) 10 := by rw [e_S93]; exact hn44.upR
  have hn48 : z_is b0 S93 (S45.2.2) 10 := by rw [e_S93]; exact hn48.upR
  have hn52 : z_is b0 S93 (S49.2.2) 10 := by rw [e_S93]; exact hn52.upR
  have hn56 : z_is b0 S93 (S53.2.2) 10 := by rw [e_S93]; exact hn56.upR
  have hn60 : z_is b0 S93 (S57.2.2) 10 := by rw [e_S93]; exact hn60.upR
  have hn64 : z_is b0 S93 (S61.2.2) 10 := by rw [e_S93]; exact hn64.upR
  have hn68 : z_is b0 S93 (S65.2.2) 10 := by rw [e_S93]; exact hn68.upR
  have hn72 : z_is b0 S93 (S69.2.2) 10 := by rw [e_S93]; exact hn72.upR
  have hn76 : z_is b0 S93 (S73.2.2) 11 := by rw [e_S93]; exact hn76.upR
  have hn80 : z_is b0 S93 (S77.2.2) 11 := by rw [e_S93]; exact hn80.upR
  have hn84 : z_is b0 S93 (S81.2.2) 10 := by rw [e_S93]; exact hn84.upR
  have hn88 : z_is b0 S93 (S85.2.2) 11 := by rw [e_S93]; exact hn88.upR
  have hn92 : z_is b0 S93 (S89.2.2) 10 := by rw [e_S93]; exact hn92.upR
  refine z_aload_n hC dX9_init_202 rfl (lv_at hl 0 rfl) ?_
  refine z_bipush (v := 20) hC dX9_init_203 (by decide) ?_
  refine z_newI10 (N := 20) hC kw_38 dX9_init_205 (by decide) (by decide) (by decide) (by decide) (by decide) ?_
  obtain ⟨S94, e_S94, hz⟩ := zlet_some hz
  rw [← e_S94]
  obtain ⟨J95, e_J95, hz⟩ := zlet_some hz
  rw [← e_J95]
  have hb9 : b0 ≤ S93.2.2 := Nat.le_of_lt (Nat.lt_of_le_of_lt h_x0.1 h_x0.2.1)
  have h_x0 : z_is b0 S94 (x0) 9 := by rw [e_S94]; exact h_x0.new
  have hn4 : z_is b0 S94 (S.2.2) 10 := by rw [e_S94]; exact hn4.new
  have hn8 : z_is b0 S94 (S5.2.2) 11 := by rw [e_S94]; exact hn8.new
  have hn12 : z_is b0 S94 (S9.2.2) 10 := by rw [e_S94]; exact hn12.new
  have hn32 : z_is b0 S94 (S29.2.2) 10 := by rw [e_S94]; exact hn32.new
  have hn36 : z_is b0 S94 (S33.2.2) 10 := by rw [e_S94]; exact hn36.new
  have hn40 : z_is b0 S94 (S37.2.2) 10 := by rw [e_S94]; exact hn40.new
  have hn44 : z_is b0 S94 (S41.2.2) 10 := by rw [e_S94]; exact hn44.new
  have hn48 : z_is b0 S94 (S45.2.2) 10 := by rw [e_S94]; exact hn48.new
  have hn52 : z_is b0 S94 (S49.2.2) 10 := by rw [e_S94]; exact hn52.new
  have hn56 : z_is b0 S94 (S53.2.2) 10 := by rw [e_S94]; exact hn56.new
  have hn60 : z_is b0 S94 (S57.2.2) 10 := by rw [e_S94]; exact hn60.new
  have hn64 : z_is b0 S94 (S61.2.2) 10 := by rw [e_S94]; exact hn64.new
  have hn68 : z_is b0 S94 (S65.2.2) 10 := by rw [e_S94]; exact hn68.new
  have hn72 : z_is b0 S94 (S69.2.2) 10 := by rw [e_S94]; exact hn72.new
  have hn76 : z_is b0 S94 (S73.2.2) 11 := by rw [e_S94]; exact hn76.new
  have hn80 : z_is b0 S94 (S77.2.2) 11 := by rw [e_S94]; exact hn80.new
  have hn84 : z_is b0 S94 (S81.2.2) 10 := by rw [e_S94]; exact hn84.new
  have hn88 : z_is b0 S94 (S85.2.2) 11 := by rw [e_S94]; exact hn88.new
  have hn92 : z_is b0 S94 (S89.2.2) 10 := by rw [e_S94]; exact hn92.new
  have hn96 : z_is b0 S94 S93.2.2 10 := by rw [e_S94]; exact z_is.fresh hb9 10 20
  have hT : z_T b0 S94 := by rw [e_S94]; exact hT.new _ _
  have hE : z_Ext S0 S94 := by rw [e_S94]; exact hE.new _ _
  have hT9 := hT.upR (x := S93.2.2) (k := 22) h_x0 hn96
  have hE9 := hE.upR (a := x0) (k := 22) (x := some (S93.2.2))
  refine z_putR hC zc_9 22 (by decide) kw_759 dX9_init_207 h_x0 rfl rfl hnm rfl rfl rfl ?_
  obtain ⟨S97, e_S97, hz⟩ := zlet_some hz
  rw [← e_S97]
  have hT : z_T b0 S97 := by rw [e_S97]; exact hT9
  have hE : z_Ext S0 S97 := by rw [e_S97]; exact hE9
  have h_x0 : z_is b0 S97 (x0) 9 := by rw [e_S97]; exact h_x0.upR
  have hn4 : z_is b0 S97 (S.2.2) 10 := by rw [e_S97]; exact hn4.upR
  have hn8 : z_is b0 S97 (S5.2.2) 11 := by rw [e_S97]; exact hn8.upR
  have hn12 : z_is b0 S97 (S9.2.2) 10 := by rw [e_S97]; exact hn12.upR
  have hn32 : z_is b0 S97 (S29.2.2) 10 := by rw [e_S97]; exact hn32.upR
  have hn36 : z_is b0 S97 (S33.2.2) 10 := by rw [e_S97]; exact hn36.upR
  have hn40 : z_is b0 S97 (S37.2.2) 10 := by rw [e_S97]; exact hn40.upR
  have hn44 : z_is b0 S97 (S41.2.2) 10 := by rw [e_S97]; exact hn44.upR
  have hn48 : z_is b0 S97 (S45.2.2) 10 := by rw [e_S97]; exact hn48.upR
  have hn52 : z_is b0 S97 (S49.2.2) 10 := by rw [e_S97]; exact hn52.upR
  have hn56 : z_is b0 S97 (S53.2.2) 10 := by rw [e_S97]; exact hn56.upR
  have hn60 : z_is b0 S97 (S57.2.2) 10 := by rw [e_S97]; exact hn60.upR
  have hn64 : z_is b0 S97 (S61.2.2) 10 := by rw [e_S97]; exact hn64.upR
  have hn68 : z_is b0 S97 (S65.2.2) 10 := by rw [e_S97]; exact hn68.upR
  have hn72 : z_is b0 S97 (S69.2.2) 10 := by rw [e_S97]; exact hn72.upR
  have hn76 : z_is b0 S97 (S73.2.2) 11 := by rw [e_S97]; exact hn76.upR
  have hn80 : z_is b0 S97 (S77.2.2) 11 := by rw [e_S97]; exact hn80.upR
  have hn84 : z_is b0 S97 (S81.2.2) 10 := by rw [e_S97]; exact hn84.upR
  have hn88 : z_is b0 S97 (S85.2.2) 11 := by rw [e_S97]; exact hn88.upR
  have hn92 : z_is b0 S97 (S89.2.2) 10 := by rw [e_S97]; exact hn92.upR
  have hn96 : z_is b0 S97 (S93.2.2) 10 := by rw [e_S97]; exact hn96.upR
  refine z_aload_n hC dX9_init_210 rfl (lv_at hl 0 rfl) ?_
  refine z_bipush (v := 20) hC dX9_init_211 (by decide) ?_
  refine z_newI10 (N := 20) hC kw_38 dX9_init_213 (by decide) (by decide) (by decide) (by decide) (by decide) ?_
  obtain ⟨S98, e_S98, hz⟩ := zlet_some hz
  rw [← e_S98]
  obtain ⟨J99, e_J99, hz⟩ := zlet_some hz
  rw [← e_J99]
  have hb9 : b0 ≤ S97.2.2 := Nat.le_of_lt (Nat.lt_of_le_of_lt h_x0.1 h_x0.2.1)
  have h_x0 : z_is b0 S98 (x0) 9 := by rw [e_S98]; exact h_x0.new
  have hn4 : z_is b0 S98 (S.2.2) 10 := by rw [e_S98]; exact hn4.new
  have hn8 : z_is b0 S98 (S5.2.2) 11 := by rw [e_S98]; exact hn8.new
  have hn12 : z_is b0 S98 (S9.2.2) 10 := by rw [e_S98]; exact hn12.new
  have hn32 : z_is b0 S98 (S29.2.2) 10 := by rw [e_S98]; exact hn32.new
  have hn36 : z_is b0 S98 (S33.2.2) 10 := by rw [e_S98]; exact hn36.new
  have hn40 : z_is b0 S98 (S37.2.2) 10 := by rw [e_S98]; exact hn40.new
  have hn44 : z_is b0 S98 (S41.2.2) 10 := by rw [e_S98]; exact hn44.new
  have hn48 : z_is b0 S98 (S45.2.2) 10 := by rw [e_S98]; exact hn48.new
  have hn52 : z_is b0 S98 (S49.2.2) 10 := by rw [e_S98]; exact hn52.new
  have hn56 : z_is b0 S98 (S53.2.2) 10 := by rw [e_S98]; exact hn56.new
  have hn60 : z_is b0 S98 (S57.2.2) 10 := by rw [e_S98]; exact hn60.new
  have hn64 : z_is b0 S98 (S61.2.2) 10 := by rw [e_S98]; exact hn64.new
  have hn68 : z_is b0 S98 (S65.2.2) 10 := by rw [e_S98]; exact hn68.new
  have hn72 : z_is b0 S98 (S69.2.2) 10 := by rw [e_S98]; exact hn72.new
  have hn76 : z_is b0 S98 (S73.2.2) 11 := by rw [e_S98]; exact hn76.new
  have hn80 : z_is b0 S98 (S77.2.2) 11 := by rw [e_S98]; exact hn80.new
  have hn84 : z_is b0 S98 (S81.2.2) 10 := by rw [e_S98]; exact hn84.new
  have hn88 : z_is b0 S98 (S85.2.2) 11 := by rw [e_S98]; exact hn88.new
  have hn92 : z_is b0 S98 (S89.2.2) 10 := by rw [e_S98]; exact hn92.new
  have hn96 : z_is b0 S98 (S93.2.2) 10 := by rw [e_S98]; exact hn96.new
  have hn100 : z_is b0 S98 S97.2.2 10 := by rw [e_S98]; exact z_is.fresh hb9 10 20
  have hT : z_T b0 S98 := by rw [e_S98]; exact hT.new _ _
  have hE : z_Ext S0 S98 := by rw [e_S98]; exact hE.new _ _
  have hT9 := hT.upR (x := S97.2.2) (k := 23) h_x0 hn100
  have hE9 := hE.upR (a := x0) (k := 23) (x := some (S97.2.2))
  refine z_putR hC zc_9 23 (by decide) kw_760 dX9_init_215 h_x0 rfl rfl hnm rfl rfl rfl ?_
  obtain ⟨S101, e_S101, hz⟩ := zlet_some hz
  rw [← e_S101]
  have hT : z_T b0 S101 := by rw [e_S101]; exact hT9
  have hE : z_Ext S0 S101 := by rw [e_S101]; exact hE9
  have h_x0 : z_is b0 S101 (x0) 9 := by rw [e_S101]; exact h_x0.upR
  have hn4 : z_is b0 S101 (S.2.2) 10 := by rw [e_S101]; exact hn4.upR
  have hn8 : z_is b0 S101 (S5.2.2) 11 := by rw [e_S101]; exact hn8.upR
  have hn12 : z_is b0 S101 (S9.2.2) 10 := by rw [e_S101]; exact hn12.upR
  have hn32 : z_is b0 S101 (S29.2.2) 10 := by rw [e_S101]; exact hn32.upR
  have hn36 : z_is b0 S101 (S33.2.2) 10 := by rw [e_S101]; exact hn36.upR
  have hn40 : z_is b0 S101 (S37.2.2) 10 := by rw [e_S101]; exact hn40.upR
  have hn44 : z_is b0 S101 (S41.2.2) 10 := by rw [e_S101]; exact hn44.upR
  have hn48 : z_is b0 S101 (S45.2.2) 10 := by rw [e_S101]; exact hn48.upR
  have hn52 : z_is b0 S101 (S49.2.2) 10 := by rw [e_S101]; exact hn52.upR
  have hn56 : z_is b0 S101 (S53.2.2) 10 := by rw [e_S101]; exact hn56.upR
  have hn60 : z_is b0 S101 (S57.2.2) 10 := by rw [e_S101]; exact hn60.upR
  have hn64 : z_is b0 S101 (S61.2.2) 10 := by rw [e_S101]; exact hn64.upR
  have hn68 : z_is b0 S101 (S65.2.2) 10 := by rw [e_S101]; exact hn68.upR
  have hn72 : z_is b0 S101 (S69.2.2) 10 := by rw [e_S101]; exact hn72.upR
  have hn76 : z_is b0 S101 (S73.2.2) 11 := by rw [e_S101]; exact hn76.upR
  have hn80 : z_is b0 S101 (S77.2.2) 11 := by rw [e_S101]; exact hn80.upR
  have hn84 : z_is b0 S101 (S81.2.2) 10 := by rw [e_S101]; exact hn84.upR
  have hn88 : z_is b0 S101 (S85.2.2) 11 := by rw [e_S101]; exact hn88.upR
  have hn92 : z_is b0 S101 (S89.2.2) 10 := by rw [e_S101]; exact hn92.upR
  have hn96 : z_is b0 S101 (S93.2.2) 10 := by rw [e_S101]; exact hn96.upR
  have hn100 : z_is b0 S101 (S97.2.2) 10 := by rw [e_S101]; exact hn100.upR
  refine z_aload_n hC dX9_init_218 rfl (lv_at hl 0 rfl) ?_
  refine z_bipush (v := 40) hC dX9_init_219 (by decide) ?_
  refine z_newI11 (N := 40) hC kw_39 dX9_init_221 (by decide) (by decide) (by decide) (by decide) (by decide) ?_
  obtain ⟨S102, e_S102, hz⟩ := zlet_some hz
  rw [← e_S102]
  obtain ⟨J103, e_J103, hz⟩ := zlet_some hz
  rw [← e_J103]
  have hb9 : b0 ≤ S101.2.2 := Nat.le_of_lt (Nat.lt_of_le_of_lt h_x0.1 h_x0.2.1)
  have h_x0 : z_is b0 S102 (x0) 9 := by rw [e_S102]; exact h_x0.new
  have hn4 : z_is b0 S102 (S.2.2) 10 := by rw [e_S102]; exact hn4.new
  have hn8 : z_is b0 S102 (S5.2.2) 11 := by rw [e_S102]; exact hn8.new
  have hn12 : z_is b0 S102 (S9.2.2) 10 := by rw [e_S102]; exact hn12.new
  have hn32 : z_is b0 S102 (S29.2.2) 10 := by rw [e_S102]; exact hn32.new
  have hn36 : z_is b0 S102 (S33.2.2) 10 := by rw [e_S102]; exact hn36.new
  have hn40 : z_is b0 S102 (S37.2.2) 10 := by rw [e_S102]; exact hn40.new
  have hn44 : z_is b0 S102 (S41.2.2) 10 := by rw [e_S102]; exact hn44.new
  have hn48 : z_is b0 S102 (S45.2.2) 10 := by rw [e_S102]; exact hn48.new
  have hn52 : z_is b0 S102 (S49.2.2) 10 := by rw [e_S102]; exact hn52.new
  have hn56 : z_is b0 S102 (S53.2.2) 10 := by rw [e_S102]; exact hn56.new
  have hn60 : z_is b0 S102 (S57.2.2) 10 := by rw [e_S102]; exact hn60.new
  have hn64 : z_is b0 S102 (S61.2.2) 10 := by rw [e_S102]; exact hn64.new
  have hn68 : z_is b0 S102 (S65.2.2) 10 := by rw [e_S102]; exact hn68.new
  have hn72 : z_is b0 S102 (S69.2.2) 10 := by rw [e_S102]; exact hn72.new
  have hn76 : z_is b0 S102 (S73.2.2) 11 := by rw [e_S102]; exact hn76.new
  have hn80 : z_is b0 S102 (S77.2.2) 11 := by rw [e_S102]; exact hn80.new
  have hn84 : z_is b0 S102 (S81.2.2) 10 := by rw [e_S102]; exact hn84.new
  have hn88 : z_is b0 S102 (S85.2.2) 11 := by rw [e_S102]; exact hn88.new
  have hn92 : z_is b0 S102 (S89.2.2) 10 := by rw [e_S102]; exact hn92.new
  have hn96 : z_is b0 S102 (S93.2.2) 10 := by rw [e_S102]; exact hn96.new
  have hn100 : z_is b0 S102 (S97.2.2) 10 := by rw [e_S102]; exact hn100.new
  have hn104 : z_is b0 S102 S101.2.2 11 := by rw [e_S102]; exact z_is.fresh hb9 11 40
  have hT : z_T b0 S102 := by rw [e_S102]; exact hT.new _ _
  have hE : z_Ext S0 S102 := by rw [e_S102]; exact hE.new _ _
  have hT9 := hT.upR (x := S101.2.2) (k := 25) h_x0 hn104
  have hE9 := hE.upR (a := x0) (k := 25) (x := some (S101.2.2))
  refine z_putR hC zc_9 25 (by decide) kw_762 dX9_init_223 h_x0 rfl rfl hnm rfl rfl rfl ?_
  obtain ⟨S105, e_S105, hz⟩ := zlet_some hz
  rw [← e_S105]
  have hT : z_T b0 S105 := by rw [e_S105]; exact hT9
  have hE : z_Ext S0 S105 := by rw [e_S105]; exact hE9
  have h_x0 : z_is b0 S105 (x0) 9 := by rw [e_S105]; exact h_x0.upR
  have hn4 : z_is b0 S105 (S.2.2) 10 := by rw [e_S105]; exact hn4.upR
  have hn8 : z_is b0 S105 (S5.2.2) 11 := by rw [e_S105]; exact hn8.upR
  have hn12 : z_is b0 S105 (S9.2.2) 10 := by rw [e_S105]; exact hn12.upR
  have hn32 : z_is b0 S105 (S29.2.2) 10 := by rw [e_S105]; exact hn32.upR
  have hn36 : z_is b0 S105 (S33.2.2) 10 := by rw [e_S105]; exact hn36.upR
  have hn40 : z_is b0 S105 (S37.2.2) 10 := by rw [e_S105]; exact hn40.upR
  have hn44 : z_is b0 S105 (S41.2.2) 10 := by rw [e_S105]; exact hn44.upR
  have hn48 : z_is b0 S105 (S45.2.2) 10 := by rw [e_S105]; exact hn48.upR
  have hn52 : z_is b0 S105 (S49.2.2) 10 := by rw [e_S105]; exact hn52.upR
  have hn56 : z_is b0 S105 (S53.2.2) 10 := by rw [e_S105]; exact hn56.upR
  have hn60 : z_is b0 S105 (S57.2.2) 10 := by rw [e_S105]; exact hn60.upR
  have hn64 : z_is b0 S105 (S61.2.2) 10 := by rw [e_S105]; exact hn64.upR
  have hn68 : z_is b0 S105 (S65.2.2) 10 := by rw [e_S105]; exact hn68.upR
  have hn72 : z_is b0 S105 (S69.2.2) 10 := by rw [e_S105]; exact hn72.upR
  have hn76 : z_is b0 S105 (S73.2.2) 11 := by rw [e_S105]; exact hn76.upR
  have hn80 : z_is b0 S105 (S77.2.2) 11 := by rw [e_S105]; exact hn80.upR
  have hn84 : z_is b0 S105 (S81.2.2) 10 := by rw [e_S105]; exact hn84.upR
  have hn88 : z_is b0 S105 (S85.2.2) 11 := by rw [e_S105]; exact hn88.upR
  have hn92 : z_is b0 S105 (S89.2.2) 10 := by rw [e_S105]; exact hn92.upR
  have hn96 : z_is b0 S105 (S93.2.2) 10 := by rw [e_S105]; exact hn96.upR
  have hn100 : z_is b0 S105 (S97.2.2) 10 := by rw [e_S105]; exact hn100.upR
  have hn104 : z_is b0 S105 (S101.2.2) 11 := by rw [e_S105]; exact hn104.upR
  refine z_aload_n hC dX9_init_226 rfl (lv_at hl 0 rfl) ?_
  refine z_bipush (v := 20) hC dX9_init_227 (by decide) ?_
  refine z_newI10 (N := 20) hC kw_38 dX9_init_229 (by decide) (by decide) (by decide) (by decide) (by decide) ?_
  obtain ⟨S106, e_S106, hz⟩ := zlet_some hz
  rw [← e_S106]
  obtain ⟨J107, e_J107, hz⟩ := zlet_some hz
  rw [← e_J107]
  have hb9 : b0 ≤ S105.2.2 := Nat.le_of_lt (Nat.lt_of_le_of_lt h_x0.1 h_x0.2.1)
  have h_x0 : z_is b0 S106 (x0) 9 := by rw [e_S106]; exact h_x0.new
  have hn4 : z_is b0 S106 (S.2.2) 10 := by rw [e_S106]; exact hn4.new
  have hn8 : z_is b0 S106 (S5.2.2) 11 := by rw [e_S106]; exact hn8.new
  have hn12 : z_is b0 S106 (S9.2.2) 10 := by rw [e_S106]; exact hn12.new
  have hn32 : z_is b0 S106 (S29.2.2) 10 := by rw [e_S106]; exact hn32.new
  have hn36 : z_is b0 S106 (S33.2.2) 10 := by rw [e_S106]; exact hn36.new
  have hn40 : z_is b0 S106 (S37.2.2) 10 := by rw [e_S106]; exact hn40.new
  have hn44 : z_is b0 S106 (S41.2.2) 10 := by rw [e_S106]; exact hn44.new
  have hn48 : z_is b0 S106 (S45.2.2) 10 := by rw [e_S106]; exact hn48.new
  have hn52 : z_is b0 S106 (S49.2.2) 10 := by rw [e_S106]; exact hn52.new
  have hn56 : z_is b0 S106 (S53.2.2) 10 := by rw [e_S106]; exact hn56.new
  have hn60 : z_is b0 S106 (S57.2.2) 10 := by rw [e_S106]; exact hn60.new
  have hn64 : z_is b0 S106 (S61.2.2) 10 := by rw [e_S106]; exact hn64.new
  have hn68 : z_is b0 S106 (S65.2.2) 10 := by rw [e_S106]; exact hn68.new
  have hn72 : z_is b0 S106 (S69.2.2) 10 := by rw [e_S106]; exact hn72.new
  have hn76 : z_is b0 S106 (S73.2.2) 11 := by rw [e_S106]; exact hn76.new
  have hn80 : z_is b0 S106 (S77.2.2) 11 := by rw [e_S106]; exact hn80.new
  have hn84 : z_is b0 S106 (S81.2.2) 10 := by rw [e_S106]; exact hn84.new
  have hn88 : z_is b0 S106 (S85.2.2) 11 := by rw [e_S106]; exact hn88.new
  have hn92 : z_is b0 S106 (S89.2.2) 10 := by rw [e_S106]; exact hn92.new
  have hn96 : z_is b0 S106 (S93.2.2) 10 := by rw [e_S106]; exact hn96.new
  have hn100 : z_is b0 S106 (S97.2.2) 10 := by rw [e_S106]; exact hn100.new
  have hn104 : z_is b0 S106 (S101.2.2) 11 := by rw [e_S106]; exact hn104.new
  have hn108 : z_is b0 S106 S105.2.2 10 := by rw [e_S106]; exact z_is.fresh hb9 10 20
  have hT : z_T b0 S106 := by rw [e_S106]; exact hT.new _ _
  have hE : z_Ext S0 S106 := by rw [e_S106]; exact hE.new _ _
  have hT9 := hT.upR (x := S105.2.2) (k := 26) h_x0 hn108
  have hE9 := hE.upR (a := x0) (k := 26) (x := some (S105.2.2))
  refine z_putR hC zc_9 26 (by decide) kw_763 dX9_init_231 h_x0 rfl rfl hnm rfl rfl rfl ?_
  obtain ⟨S109, e_S109, hz⟩ := zlet_some hz
  rw [← e_S109]
  have hT : z_T b0 S109 := by rw [e_S109]; exact hT9
  have hE : z_Ext S0 S109 := by rw [e_S109]; exact hE9
  have h_x0 : z_is b0 S109 (x0) 9 := by rw [e_S109]; exact h_x0.upR
  have hn4 : z_is b0 S109 (S.2.2) 10 := by rw [e_S109]; exact hn4.upR
  have hn8 : z_is b0 S109 (S5.2.2) 11 := by rw [e_S109]; exact hn8.upR
  have hn12 : z_is b0 S109 (S9.2.2) 10 := by rw [e_S109]; exact hn12.upR
  have hn32 : z_is b0 S109 (S29.2.2) 10 := by rw [e_S109]; exact hn32.upR
  have hn36 : z_is b0 S109 (S33.2.2) 10 := by rw [e_S109]; exact hn36.upR
  have hn40 : z_is b0 S109 (S37.2.2) 10 := by rw [e_S109]; exact hn40.upR
  have hn44 : z_is b0 S109 (S41.2.2) 10 := by rw [e_S109]; exact hn44.upR
  have hn48 : z_is b0 S109 (S45.2.2) 10 := by rw [e_S109]; exact hn48.upR
  have hn52 : z_is b0 S109 (S49.2.2) 10 := by rw [e_S109]; exact hn52.upR
  have hn56 : z_is b0 S109 (S53.2.2) 10 := by rw [e_S109]; exact hn56.upR
  have hn60 : z_is b0 S109 (S57.2.2) 10 := by rw [e_S109]; exact hn60.upR
  have hn64 : z_is b0 S109 (S61.2.2) 10 := by rw [e_S109]; exact hn64.upR
  have hn68 : z_is b0 S109 (S65.2.2) 10 := by rw [e_S109]; exact hn68.upR
  have hn72 : z_is b0 S109 (S69.2.2) 10 := by rw [e_S109]; exact hn72.upR
  have hn76 : z_is b0 S109 (S73.2.2) 11 := by rw [e_S109]; exact hn76.upR
  have hn80 : z_is b0 S109 (S77.2.2) 11 := by rw [e_S109]; exact hn80.upR
  have hn84 : z_is b0 S109 (S81.2.2) 10 := by rw [e_S109]; exact hn84.upR
  have hn88 : z_is b0 S109 (S85.2.2) 11 := by rw [e_S109]; exact hn88.upR
  have hn92 : z_is b0 S109 (S89.2.2) 10 := by rw [e_S109]; exact hn92.upR
  have hn96 : z_is b0 S109 (S93.2.2) 10 := by rw [e_S109]; exact hn96.upR
  have hn100 : z_is b0 S109 (S97.2.2) 10 := by rw [e_S109]; exact hn100.upR
  have hn104 : z_is b0 S109 (S101.2.2) 11 := by rw [e_S109]; exact hn104.upR
  have hn108 : z_is b0 S109 (S105.2.2) 10 := by rw [e_S109]; exact hn108.upR
  refine z_aload_n hC dX9_init_234 rfl (lv_at hl 0 rfl) ?_
  refine z_bipush (v := 8) hC dX9_init_235 (by decide) ?_
  refine z_newI10 (N := 8) hC kw_38 dX9_init_237 (by decide) (by decide) (by decide) (by decide) (by decide) ?_
  obtain ⟨S110, e_S110, hz⟩ := zlet_some hz
  rw [← e_S110]
  obtain ⟨J111, e_J111, hz⟩ := zlet_some hz
  rw [← e_J111]
  have hb9 : b0 ≤ S109.2.2 := Nat.le_of_lt (Nat.lt_of_le_of_lt h_x0.1 h_x0.2.1)
  have h_x0 : z_is b0 S110 (x0) 9 := by rw [e_S110]; exact h_x0.new
  have hn4 : z_is b0 S110 (S.2.2) 10 := by rw [e_S110]; exact hn4.new
  have hn8 : z_is b0 S110 (S5.2.2) 11 := by rw [e_S110]; exact hn8.new
  have hn12 : z_is b0 S110 (S9.2.2) 10 := by rw [e_S110]; exact hn12.new
  have hn32 : z_is b0 S110 (S29.2.2) 10 := by rw [e_S110]; exact hn32.new
  have hn36 : z_is b0 S110 (S33.2.2) 10 := by rw [e_S110]; exact hn36.new
  have hn40 : z_is b0 S110 (S37.2.2) 10 := by rw [e_S110]; exact hn40.new
  have hn44 : z_is b0 S110 (S41.2.2) 10 := by rw [e_S110]; exact hn44.new
  have hn48 : z_is b0 S110 (S45.2.2) 10 := by rw [e_S110]; exact hn48.new
  have hn52 : z_is b0 S110 (S49.2.2) 10 := by rw [e_S110]; exact hn52.new
  have hn56 : z_is b0 S110 (S53.2.2) 10 := by rw [e_S110]; exact hn56.new
  have hn60 : z_is b0 S110 (S57.2.2) 10 := by rw [e_S110]; exact hn60.new
  have hn64 : z_is b0 S110 (S61.2.2) 10 := by rw [e_S110]; exact hn64.new
  have hn68 : z_is b0 S110 (S65.2.2) 10 := by rw [e_S110]; exact hn68.new
  have hn72 : z_is b0 S110 (S69.2.2) 10 := by rw [e_S110]; exact hn72.new
  have hn76 : z_is b0 S110 (S73.2.2) 11 := by rw [e_S110]; exact hn76.new
  have hn80 : z_is b0 S110 (S77.2.2) 11 := by rw [e_S110]; exact hn80.new
  have hn84 : z_is b0 S110 (S81.2.2) 10 := by rw [e_S110]; exact hn84.new
  have hn88 : z_is b0 S110 (S85.2.2) 11 := by rw [e_S110]; exact hn88.new
  have hn92 : z_is b0 S110 (S89.2.2) 10 := by rw [e_S110]; exact hn92.new
  have hn96 : z_is b0 S110 (S93.2.2) 10 := by rw [e_S110]; exact hn96.new
  have hn100 : z_is b0 S110 (S97.2.2) 10 := by rw [e_S110]; exact hn100.new
  have hn104 : z_is b0 S110 (S101.2.2) 11 := by rw [e_S110]; exact hn104.new
  have hn108 : z_is b0 S110 (S105.2.2) 10 := by rw [e_S110]; exact hn108.new
  have hn112 : z_is b0 S110 S109.2.2 10 := by rw [e_S110]; exact z_is.fresh hb9 10 8
  have hT : z_T b0 S110 := by rw [e_S110]; exact hT.new _ _
  have hE : z_Ext S0 S110 := by rw [e_S110]; exact hE.new _ _
  have hT9 := hT.upR (x := S109.2.2) (k := 27) h_x0 hn112
  have hE9 := hE.upR (a := x0) (k := 27) (x := some (S109.2.2))
  refine z_putR hC zc_9 27 (by decide) kw_764 dX9_init_239 h_x0 rfl rfl hnm rfl rfl rfl ?_
  obtain ⟨S113, e_S113, hz⟩ := zlet_some hz
  rw [← e_S113]
  have hT : z_T b0 S113 := by rw [e_S113]; exact hT9
  have hE : z_Ext S0 S113 := by rw [e_S113]; exact hE9
  have h_x0 : z_is b0 S113 (x0) 9 := by rw [e_S113]; exact h_x0.upR
  have hn4 : z_is b0 S113 (S.2.2) 10 := by rw [e_S113]; exact hn4.upR
  have hn8 : z_is b0 S113 (S5.2.2) 11 := by rw [e_S113]; exact hn8.upR
  have hn12 : z_is b0 S113 (S9.2.2) 10 := by rw [e_S113]; exact hn12.upR
  have hn32 : z_is b0 S113 (S29.2.2) 10 := by rw [e_S113]; exact hn32.upR
  have hn36 : z_is b0 S113 (S33.2.2) 10 := by rw [e_S113]; exact hn36.upR
  have hn40 : z_is b0 S113 (S37.2.2) 10 := by rw [e_S113]; exact hn40.upR
  have hn44 : z_is b0 S113 (S41.2.2) 10 := by rw [e_S113]; exact hn44.upR
  have hn48 : z_is b0 S113 (S45.2.2) 10 := by rw [e_S113]; exact hn48.upR
  have hn52 : z_is b0 S113 (S49.2.2) 10 := by rw [e_S113]; exact hn52.upR
  have hn56 : z_is b0 S113 (S53.2.2) 10 := by rw [e_S113]; exact hn56.upR
  have hn60 : z_is b0 S113 (S57.2.2) 10 := by rw [e_S113]; exact hn60.upR
  have hn64 : z_is b0 S113 (S61.2.2) 10 := by rw [e_S113]; exact hn64.upR
  have hn68 : z_is b0 S113 (S65.2.2) 10 := by rw [e_S113]; exact hn68.upR
  have hn72 : z_is b0 S113 (S69.2.2) 10 := by rw [e_S113]; exact hn72.upR
  have hn76 : z_is b0 S113 (S73.2.2) 11 := by rw [e_S113]; exact hn76.upR
  have hn80 : z_is b0 S113 (S77.2.2) 11 := by rw [e_S113]; exact hn80.upR
  have hn84 : z_is b0 S113 (S81.2.2) 10 := by rw [e_S113]; exact hn84.upR
  have hn88 : z_is b0 S113 (S85.2.2) 11 := by rw [e_S113]; exact hn88.upR
  have hn92 : z_is b0 S113 (S89.2.2) 10 := by rw [e_S113]; exact hn92.upR
  have hn96 : z_is b0 S113 (S93.2.2) 10 := by rw [e_S113]; exact hn96.upR
  have hn100 : z_is b0 S113 (S97.2.2) 10 := by rw [e_S113]; exact hn100.upR
  have hn104 : z_is b0 S113 (S101.2.2) 11 := by rw [e_S113]; exact hn104.upR
  have hn108 : z_is b0 S113 (S105.2.2) 10 := by rw [e_S113]; exact hn108.upR
  have hn112 : z_is b0 S113 (S109.2.2) 10 := by rw [e_S113]; exact hn112.upR
  refine z_aload_n hC dX9_init_242 rfl (lv_at hl 0 rfl) ?_
  refine z_bipush (v := 8) hC dX9_init_243 (by decide) ?_
  refine z_newI10 (N := 8) hC kw_38 dX9_init_245 (by decide) (by decide) (by decide) (by decide) (by decide) ?_
  obtain ⟨S114, e_S114, hz⟩ := zlet_some hz
  rw [← e_S114]
  obtain ⟨J115, e_J115, hz⟩ := zlet_some hz
  rw [← e_J115]
  have hb9 : b0 ≤ S113.2.2 := Nat.le_of_lt (Nat.lt_of_le_of_lt h_x0.1 h_x0.2.1)
  have h_x0 : z_is b0 S114 (x0) 9 := by rw [e_S114]; exact h_x0.new
  have hn4 : z_is b0 S114 (S.2.2) 10 := by rw [e_S114]; exact hn4.new
  have hn8 : z_is b0 S114 (S5.2.2) 11 := by rw [e_S114]; exact hn8.new
  have hn12 : z_is b0 S114 (S9.2.2) 10 := by rw [e_S114]; exact hn12.new
  have hn32 : z_is b0 S114 (S29.2.2) 10 := by rw [e_S114]; exact hn32.new
  have hn36 : z_is b0 S114 (S33.2.2) 10 := by rw [e_S114]; exact hn36.new
  have hn40 : z_is b0 S114 (S37.2.2) 10 := by rw [e_S114]; exact hn40.new
  have hn44 : z_is b0 S114 (S41.2.2) 10 := by rw [e_S114]; exact hn44.new
  have hn48 : z_is b0 S114 (S45.2.2) 10 := by rw [e_S114]; exact hn48.new
  have hn52 : z_is b0 S114 (S49.2.2) 10 := by rw [e_S114]; exact hn52.new
  have hn56 : z_is b0 S114 (S53.2.2) 10 := by rw [e_S114]; exact hn56.new
  have hn60 : z_is b0 S114 (S57.2.2) 10 := by rw [e_S114]; exact hn60.new
  have hn64 : z_is b0 S114 (S61.2.2) 10 := by rw [e_S114]; exact hn64.new
  have hn68 : z_is b0 S114 (S65.2.2) 10 := by rw [e_S114]; exact hn68.new
  have hn72 : z_is b0 S114 (S69.2.2) 10 := by rw [e_S114]; exact hn72.new
  have hn76 : z_is b0 S114 (S73.2.2) 11 := by rw [e_S114]; exact hn76.new
  have hn80 : z_is b0 S114 (S77.2.2) 11 := by rw [e_S114]; exact hn80.new
  have hn84 : z_is b0 S114 (S81.2.2) 10 := by rw [e_S114]; exact hn84.new
  have hn88 : z_is b0 S114 (S85.2.2) 11 := by rw [e_S114]; exact hn88.new
  have hn92 : z_is b0 S114 (S89.2.2) 10 := by rw [e_S114]; exact hn92.new
  have hn96 : z_is b0 S114 (S93.2.2) 10 := by rw [e_S114]; exact hn96.new
  have hn100 : z_is b0 S114 (S97.2.2) 10 := by rw [e_S114]; exact hn100.new
  have hn104 : z_is b0 S114 (S101.2.2) 11 := by rw [e_S114]; exact hn104.new
  have hn108 : z_is b0 S114 (S105.2.2) 10 := by rw [e_S114]; exact hn108.new
  have hn112 : z_is b0 S114 (S109.2.2) 10 := by rw [e_S114]; exact hn112.new
  have hn116 : z_is b0 S114 S113.2.2 10 := by rw [e_S114]; exact z_is.fresh hb9 10 8
  have hT : z_T b0 S114 := by rw [e_S114]; exact hT.new _ _
  have hE : z_Ext S0 S114 := by rw [e_S114]; exact hE.new _ _
  have hT9 := hT.upR (x := S113.2.2) (k := 28) h_x0 hn116
  have hE9 := hE.upR (a := x0) (k := 28) (x := some (S113.2.2))
  refine z_putR hC zc_9 28 (by decide) kw_765 dX9_init_247 h_x0 rfl rfl hnm rfl rfl rfl ?_
  obtain ⟨S117, e_S117, hz⟩ := zlet_some hz
  rw [← e_S117]
  have hT : z_T b0 S117 := by rw [e_S117]; exact hT9
  have hE : z_Ext S0 S117 := by rw [e_S117]; exact hE9
  have h_x0 : z_is b0 S117 (x0) 9 := by rw [e_S117]; exact h_x0.upR
  have hn4 : z_is b0 S117 (S.2.2) 10 := by rw [e_S117]; exact hn4.upR
  have hn8 : z_is b0 S117 (S5.2.2) 11 := by rw [e_S117]; exact hn8.upR
  have hn12 : z_is b0 S117 (S9.2.2) 10 := by rw [e_S117]; exact hn12.upR
  have hn32 : z_is b0 S117 (S29.2.2) 10 := by rw [e_S117]; exact hn32.upR
  have hn36 : z_is b0 S117 (S33.2.2) 10 := by rw [e_S117]; exact hn36.upR
  have hn40 : z_is b0 S117 (S37.2.2) 10 := by rw [e_S117]; exact hn40.upR
  have hn44 : z_is b0 S117 (S41.2.2) 10 := by rw [e_S117]; exact hn44.upR
  have hn48 : z_is b0 S117 (S45.2.2) 10 := by rw [e_S117]; exact hn48.upR
  have hn52 : z_is b0 S117 (S49.2.2) 10 := by rw [e_S117]; exact hn52.upR
  have hn56 : z_is b0 S117 (S53.2.2) 10 := by rw [e_S117]; exact hn56.upR
  have hn60 : z_is b0 S117 (S57.2.2) 10 := by rw [e_S117]; exact hn60.upR
  have hn64 : z_is b0 S117 (S61.2.2) 10 := by rw [e_S117]; exact hn64.upR
  have hn68 : z_is b0 S117 (S65.2.2) 10 := by rw [e_S117]; exact hn68.upR
  have hn72 : z_is b0 S117 (S69.2.2) 10 := by rw [e_S117]; exact hn72.upR
  have hn76 : z_is b0 S117 (S73.2.2) 11 := by rw [e_S117]; exact hn76.upR
  have hn80 : z_is b0 S117 (S77.2.2) 11 := by rw [e_S117]; exact hn80.upR
  have hn84 : z_is b0 S117 (S81.2.2) 10 := by rw [e_S117]; exact hn84.upR
  have hn88 : z_is b0 S117 (S85.2.2) 11 := by rw [e_S117]; exact hn88.upR
  have hn92 : z_is b0 S117 (S89.2.2) 10 := by rw [e_S117]; exact hn92.upR
  have hn96 : z_is b0 S117 (S93.2.2) 10 := by rw [e_S117]; exact hn96.upR
  have hn100 : z_is b0 S117 (S97.2.2) 10 := by rw [e_S117]; exact hn100.upR
  have hn104 : z_is b0 S117 (S101.2.2) 11 := by rw [e_S117]; exact hn104.upR
  have hn108 : z_is b0 S117 (S105.2.2) 10 := by rw [e_S117]; exact hn108.upR
  have hn112 : z_is b0 S117 (S109.2.2) 10 := by rw [e_S117]; exact hn112.upR
  have hn116 : z_is b0 S117 (S113.2.2) 10 := by rw [e_S117]; exact hn116.upR
  obtain rfl := Option.some.inj hz
  exact z_vret hC hT dX9_init_250 (by decide) (by decide)
set_option maxRecDepth 100000 in
set_option maxHeartbeats 4000000 in
theorem xt_X9_init {b0 : Nat} {S : zS} {I : zI} {F : Nat} {X : zS × zI} {x0 : Nat} (hT : z_T b0 S) (h_x0 : z_is b0 S x0 9) (hz : z_X9_init F S I x0 = some X) : z_T b0 (X.1) ∧ z_Ext S (X.1) := by
  unfold z_X9_init at hz
  have hE : z_Ext S S := z_Ext.rf S
  obtain ⟨J1, e_J1, hz⟩ := zlet_some hz
  obtain ⟨S2, e_S2, hz⟩ := zlet_some hz
  obtain ⟨J3, e_J3, hz⟩ := zlet_some hz
  have hb9 : b0 ≤ S.2.2 := Nat.le_of_lt (Nat.lt_of_le_of_lt h_x0.1 h_x0.2.1)
  have h_x0 : z_is b0 S2 (x0) 9 := by rw [e_S2]; exact h_x0.new
  have hn4 : z_is b0 S2 S.2.2 10 := by rw [e_S2]; exact z_is.fresh hb9 10 16
  have hT : z_T b0 S2 := by rw [e_S2]; exact hT.new _ _
  have hE : z_Ext S S2 := by rw [e_S2]; exact hE.new _ _
  have hT9 := hT.upR (x := S.2.2) (k := 1) h_x0 hn4
  have hE9 := hE.upR (a := x0) (k := 1) (x := some (S.2.2))
  obtain ⟨S5, e_S5, hz⟩ := zlet_some hz
  have hT : z_T b0 S5 := by rw [e_S5]; exact hT9
  have hE : z_Ext S S5 := by rw [e_S5]; exact hE9
  have h_x0 : z_is b0 S5 (x0) 9 := by rw [e_S5]; exact h_x0.upR
  have hn4 : z_is b0 S5 (S.2.2) 10 := by rw [e_S5]; exact hn4.upR
  obtain ⟨S6, e_S6, hz⟩ := zlet_some hz
  obtain ⟨J7, e_J7, hz⟩ := zlet_some hz
  have hb9 : b0 ≤ S5.2.2 := Nat.le_of_lt (Nat.lt_of_le_of_lt h_x0.1 h_x0.2.1)
  have h_x0 : z_is b0 S6 (x0) 9 := by rw [e_S6]; exact h_x0.new
  have hn4 : z_is b0 S6 (S.2.2) 10 := by rw [e_S6]; exact hn4.new
  have hn8 : z_is b0 S6 S5.2.2 11 := by rw [e_S6]; exact z_is.fresh hb9 11 16
  have hT : z_T b0 S6 := by rw [e_S6]; exact hT.new _ _
  have hE : z_Ext S S6 := by rw [e_S6]; exact hE.new _ _
  have hT9 := hT.upR (x := S5.2.2) (k := 2) h_x0 hn8
  have hE9 := hE.upR (a := x0) (k := 2) (x := some (S5.2.2))
  obtain ⟨S9, e_S9, hz⟩ := zlet_some hz
  have hT : z_T b0 S9 := by rw [e_S9]; exact hT9
  have hE : z_Ext S S9 := by rw [e_S9]; exact hE9
  have h_x0 : z_is b0 S9 (x0) 9 := by rw [e_S9]; exact h_x0.upR
  have hn4 : z_is b0 S9 (S.2.2) 10 := by rw [e_S9]; exact hn4.upR
  have hn8 : z_is b0 S9 (S5.2.2) 11 := by rw [e_S9]; exact hn8.upR
  obtain ⟨S10, e_S10, hz⟩ := zlet_some hz
  obtain ⟨J11, e_J11, hz⟩ := zlet_some hz
  have hb9 : b0 ≤ S9.2.2 := Nat.le_of_lt (Nat.lt_of_le_of_lt h_x0.1 h_x0.2.1)
  have h_x0 : z_is b0 S10 (x0) 9 := by rw [e_S10]; exact h_x0.new
  have hn4 : z_is b0 S10 (S.2.2) 10 := by rw [e_S10]; exact hn4.new
  have hn8 : z_is b0 S10 (S5.2.2) 11 := by rw [e_S10]; exact hn8.new
  have hn12 : z_is b0 S10 S9.2.2 10 := by rw [e_S10]; exact z_is.fresh hb9 10 8
  have hT : z_T b0 S10 := by rw [e_S10]; exact hT.new _ _
  have hE : z_Ext S S10 := by rw [e_S10]; exact hE.new _ _
  obtain ⟨hi13, hz⟩ := ifn_some hz
  obtain ⟨J14, e_J14, hz⟩ := zlet_some hz
  obtain ⟨hi15, hz⟩ := ifn_some hz
  obtain ⟨J16, e_J16, hz⟩ := zlet_some hz
  obtain ⟨hi17, hz⟩ := ifn_some hz
  obtain ⟨J18, e_J18, hz⟩ := zlet_some hz
  obtain ⟨hi19, hz⟩ := ifn_some hz
  obtain ⟨J20, e_J20, hz⟩ := zlet_some hz
  obtain ⟨hi21, hz⟩ := ifn_some hz
  obtain ⟨J22, e_J22, hz⟩ := zlet_some hz
  obtain ⟨hi23, hz⟩ := ifn_some hz
  obtain ⟨J24, e_J24, hz⟩ := zlet_some hz
  obtain ⟨hi25, hz⟩ := ifn_some hz
  obtain ⟨J26, e_J26, hz⟩ := zlet_some hz
  obtain ⟨hi27, hz⟩ := ifn_some hz
  obtain ⟨J28, e_J28, hz⟩ := zlet_some hz
  have hT9 := hT.upR (x := S9.2.2) (k := 3) h_x0 hn12
  have hE9 := hE.upR (a := x0) (k := 3) (x := some (S9.2.2))
  obtain ⟨S29, e_S29, hz⟩ := zlet_some hz
  have hT : z_T b0 S29 := by rw [e_S29]; exact hT9
  have hE : z_Ext S S29 := by rw [e_S29]; exact hE9
  have h_x0 : z_is b0 S29 (x0) 9 := by rw [e_S29]; exact h_x0.upR
  have hn4 : z_is b0 S29 (S.2.2) 10 := by rw [e_S29]; exact hn4.upR
  have hn8 : z_is b0 S29 (S5.2.2) 11 := by rw [e_S29]; exact hn8.upR
  have hn12 : z_is b0 S29 (S9.2.2) 10 := by rw [e_S29]; exact hn12.upR
  obtain ⟨S30, e_S30, hz⟩ := zlet_some hz
  obtain ⟨J31, e_J31, hz⟩ := zlet_some hz
  have hb9 : b0 ≤ S29.2.2 := Nat.le_of_lt (Nat.lt_of_le_of_lt h_x0.1 h_x0.2.1)
  have h_x0 : z_is b0 S30 (x0) 9 := by rw [e_S30]; exact h_x0.new
  have hn4 : z_is b0 S30 (S.2.2) 10 := by rw [e_S30]; exact hn4.new
  have hn8 : z_is b0 S30 (S5.2.2) 11 := by rw [e_S30]; exact hn8.new
  have hn12 : z_is b0 S30 (S9.2.2) 10 := by rw [e_S30]; exact hn12.new
  have hn32 : z_is b0 S30 S29.2.2 10 := by rw [e_S30]; exact z_is.fresh hb9 10 8
  have hT : z_T b0 S30 := by rw [e_S30]; exact hT.new _ _
  have hE : z_Ext S S30 := by rw [e_S30]; exact hE.new _ _
  have hT9 := hT.upR (x := S29.2.2) (k := 4) h_x0 hn32
  have hE9 := hE.upR (a := x0) (k := 4) (x := some (S29.2.2))
  obtain ⟨S33, e_S33, hz⟩ := zlet_some hz
  have hT : z_T b0 S33 := by rw [e_S33]; exact hT9
  have hE : z_Ext S S33 := by rw [e_S33]; exact hE9
  have h_x0 : z_is b0 S33 (x0) 9 := by rw [e_S33]; exact h_x0.upR
  have hn4 : z_is b0 S33 (S.2.2) 10 := by rw [e_S33]; exact hn4.upR
  have hn8 : z_is b0 S33 (S5.2.2) 11 := by rw [e_S33]; exact hn8.upR
  have hn12 : z_is b0 S33 (S9.2.2) 10 := by rw [e_S33]; exact hn12.upR
  have hn32 : z_is b0 S33 (S29.2.2) 10 := by rw [e_S33]; exact hn32.upR
  obtain ⟨S34, e_S34, hz⟩ := zlet_some hz
  obtain ⟨J35, e_J35, hz⟩ := zlet_some hz
  have hb9 : b0 ≤ S33.2.2 := Nat.le_of_lt (Nat.lt_of_le_of_lt h_x0.1 h_x0.2.1)
  have h_x0 : z_is b0 S34 (x0) 9 := by rw [e_S34]; exact h_x0.new
  have hn4 : z_is b0 S34 (S.2.2) 10 := by rw [e_S34]; exact hn4.new
  have hn8 : z_is b0 S34 (S5.2.2) 11 := by rw [e_S34]; exact hn8.new
  have hn12 : z_is b0 S34 (S9.2.2) 10 := by rw [e_S34]; exact hn12.new
  have hn32 : z_is b0 S34 (S29.2.2) 10 := by rw [e_S34]; exact hn32.new
  have hn36 : z_is b0 S34 S33.2.2 10 := by rw [e_S34]; exact z_is.fresh hb9 10 64
  have hT : z_T b0 S34 := by rw [e_S34]; exact hT.new _ _
  have hE : z_Ext S S34 := by rw [e_S34]; exact hE.new _ _
  have hT9 := hT.upR (x := S33.2.2) (k := 5) h_x0 hn36
  have hE9 := hE.upR (a := x0) (k := 5) (x := some (S33.2.2))
  obtain ⟨S37, e_S37, hz⟩ := zlet_some hz
  have hT : z_T b0 S37 := by rw [e_S37]; exact hT9
  have hE : z_Ext S S37 := by rw [e_S37]; exact hE9
  have h_x0 : z_is b0 S37 (x0) 9 := by rw [e_S37]; exact h_x0.upR
  have hn4 : z_is b0 S37 (S.2.2) 10 := by rw [e_S37]; exact hn4.upR
  have hn8 : z_is b0 S37 (S5.2.2) 11 := by rw [e_S37]; exact hn8.upR
  have hn12 : z_is b0 S37 (S9.2.2) 10 := by rw [e_S37]; exact hn12.upR
  have hn32 : z_is b0 S37 (S29.2.2) 10 := by rw [e_S37]; exact hn32.upR
  have hn36 : z_is b0 S37 (S33.2.2) 10 := by rw [e_S37]; exact hn36.upR
  obtain ⟨S38, e_S38, hz⟩ := zlet_some hz
  obtain ⟨J39, e_J39, hz⟩ := zlet_some hz
  have hb9 : b0 ≤ S37.2.2 := Nat.le_of_lt (Nat.lt_of_le_of_lt h_x0.1 h_x0.2.1)
  have h_x0 : z_is b0 S38 (x0) 9 := by rw [e_S38]; exact h_x0.new
  have hn4 : z_is b0 S38 (S.2.2) 10 := by rw [e_S38]; exact hn4.new
  have hn8 : z_is b0 S38 (S5.2.2) 11 := by rw [e_S38]; exact hn8.new
  have hn12 : z_is b0 S38 (S9.2.2) 10 := by rw [e_S38]; exact hn12.new
  have hn32 : z_is b0 S38 (S29.2.2) 10 := by rw [e_S38]; exact hn32.new
  have hn36 : z_is b0 S38 (S33.2.2) 10 := by rw [e_S38]; exact hn36.new
  have hn40 : z_is b0 S38 S37.2.2 10 := by rw [e_S38]; exact z_is.fresh hb9 10 8
  have hT : z_T b0 S38 := by rw [e_S38]; exact hT.new _ _
  have hE : z_Ext S S38 := by rw [e_S38]; exact hE.new _ _
  have hT9 := hT.upR (x := S37.2.2) (k := 6) h_x0 hn40
  have hE9 := hE.upR (a := x0) (k := 6) (x := some (S37.2.2))
  obtain ⟨S41, e_S41, hz⟩ := zlet_some hz
  have hT : z_T b0 S41 := by rw [e_S41]; exact hT9
  have hE : z_Ext S S41 := by rw [e_S41]; exact hE9
  have h_x0 : z_is b0 S41 (x0) 9 := by rw [e_S41]; exact h_x0.upR
  have hn4 : z_is b0 S41 (S.2.2) 10 := by rw [e_S41]; exact hn4.upR
  have hn8 : z_is b0 S41 (S5.2.2) 11 := by rw [e_S41]; exact hn8.upR
  have hn12 : z_is b0 S41 (S9.2.2) 10 := by rw [e_S41]; exact hn12.upR
  have hn32 : z_is b0 S41 (S29.2.2) 10 := by rw [e_S41]; exact hn32.upR
  have hn36 : z_is b0 S41 (S33.2.2) 10 := by rw [e_S41]; exact hn36.upR
  have hn40 : z_is b0 S41 (S37.2.2) 10 := by rw [e_S41]; exact hn40.upR
  obtain ⟨S42, e_S42, hz⟩ := zlet_some hz
  obtain ⟨J43, e_J43, hz⟩ := zlet_some hz
  have hb9 : b0 ≤ S41.2.2 := Nat.le_of_lt (Nat.lt_of_le_of_lt h_x0.1 h_x0.2.1)
  have h_x0 : z_is b0 S42 (x0) 9 := by rw [e_S42]; exact h_x0.new
  have hn4 : z_is b0 S42 (S.2.2) 10 := by rw [e_S42]; exact hn4.new
  have hn8 : z_is b0 S42 (S5.2.2) 11 := by rw [e_S42]; exact hn8.new
  have hn12 : z_is b0 S42 (S9.2.2) 10 := by rw [e_S42]; exact hn12.new
  have hn32 : z_is b0 S42 (S29.2.2) 10 := by rw [e_S42]; exact hn32.new
  have hn36 : z_is b0 S42 (S33.2.2) 10 := by rw [e_S42]; exact hn36.new
  have hn40 : z_is b0 S42 (S37.2.2) 10 := by rw [e_S42]; exact hn40.new
  have hn44 : z_is b0 S42 S41.2.2 10 := by rw [e_S42]; exact z_is.fresh hb9 10 320
  have hT : z_T b0 S42 := by rw [e_S42]; exact hT.new _ _
  have hE : z_Ext S S42 := by rw [e_S42]; exact hE.new _ _
  have hT9 := hT.upR (x := S41.2.2) (k := 7) h_x0 hn44
  have hE9 := hE.upR (a := x0) (k := 7) (x := some (S41.2.2))
  obtain ⟨S45, e_S45, hz⟩ := zlet_some hz
  have hT : z_T b0 S45 := by rw [e_S45]; exact hT9
  have hE : z_Ext S S45 := by rw [e_S45]; exact hE9
  have h_x0 : z_is b0 S45 (x0) 9 := by rw [e_S45]; exact h_x0.upR
  have hn4 : z_is b0 S45 (S.2.2) 10 := by rw [e_S45]; exact hn4.upR
  have hn8 : z_is b0 S45 (S5.2.2) 11 := by rw [e_S45]; exact hn8.upR
  have hn12 : z_is b0 S45 (S9.2.2) 10 := by rw [e_S45]; exact hn12.upR
  have hn32 : z_is b0 S45 (S29.2.2) 10 := by rw [e_S45]; exact hn32.upR
  have hn36 : z_is b0 S45 (S33.2.2) 10 := by rw [e_S45]; exact hn36.upR
  have hn40 : z_is b0 S45 (S37.2.2) 10 := by rw [e_S45]; exact hn40.upR
  have hn44 : z_is b0 S45 (S41.2.2) 10 := by rw [e_S45]; exact hn44.upR
  obtain ⟨S46, e_S46, hz⟩ := zlet_some hz
  obtain ⟨J47, e_J47, hz⟩ := zlet_some hz
  have hb9 : b0 ≤ S45.2.2 := Nat.le_of_lt (Nat.lt_of_le_of_lt h_x0.1 h_x0.2.1)
  have h_x0 : z_is b0 S46 (x0) 9 := by rw [e_S46]; exact h_x0.new
  have hn4 : z_is b0 S46 (S.2.2) 10 := by rw [e_S46]; exact hn4.new
  have hn8 : z_is b0 S46 (S5.2.2) 11 := by rw [e_S46]; exact hn8.new
  have hn12 : z_is b0 S46 (S9.2.2) 10 := by rw [e_S46]; exact hn12.new
  have hn32 : z_is b0 S46 (S29.2.2) 10 := by rw [e_S46]; exact hn32.new
  have hn36 : z_is b0 S46 (S33.2.2) 10 := by rw [e_S46]; exact hn36.new
  have hn40 : z_is b0 S46 (S37.2.2) 10 := by rw [e_S46]; exact hn40.new
  have hn44 : z_is b0 S46 (S41.2.2) 10 := by rw [e_S46]; exact hn44.new
  have hn48 : z_is b0 S46 S45.2.2 10 := by rw [e_S46]; exact z_is.fresh hb9 10 320
  have hT : z_T b0 S46 := by rw [e_S46]; exact hT.new _ _
  have hE : z_Ext S S46 := by rw [e_S46]; exact hE.new _ _
  have hT9 := hT.upR (x := S45.2.2) (k := 8) h_x0 hn48
  have hE9 := hE.upR (a := x0) (k := 8) (x := some (S45.2.2))
  obtain ⟨S49, e_S49, hz⟩ := zlet_some hz
  have hT : z_T b0 S49 := by rw [e_S49]; exact hT9
  have hE : z_Ext S S49 := by rw [e_S49]; exact hE9
  have h_x0 : z_is b0 S49 (x0) 9 := by rw [e_S49]; exact h_x0.upR
  have hn4 : z_is b0 S49 (S.2.2) 10 := by rw [e_S49]; exact hn4.upR
  have hn8 : z_is b0 S49 (S5.2.2) 11 := by rw [e_S49]; exact hn8.upR
  have hn12 : z_is b0 S49 (S9.2.2) 10 := by rw [e_S49]; exact hn12.upR
  have hn32 : z_is b0 S49 (S29.2.2) 10 := by rw [e_S49]; exact hn32.upR
  have hn36 : z_is b0 S49 (S33.2.2) 10 := by rw [e_S49]; exact hn36.upR
  have hn40 : z_is b0 S49 (S37.2.2) 10 := by rw [e_S49]; exact hn40.upR
  have hn44 : z_is b0 S49 (S41.2.2) 10 := by rw [e_S49]; exact hn44.upR
  have hn48 : z_is b0 S49 (S45.2.2) 10 := by rw [e_S49]; exact hn48.upR
  obtain ⟨S50, e_S50, hz⟩ := zlet_some hz
  obtain ⟨J51, e_J51, hz⟩ := zlet_some hz
  have hb9 : b0 ≤ S49.2.2 := Nat.le_of_lt (Nat.lt_of_le_of_lt h_x0.1 h_x0.2.1)
  have h_x0 : z_is b0 S50 (x0) 9 := by rw [e_S50]; exact h_x0.new
  have hn4 : z_is b0 S50 (S.2.2) 10 := by rw [e_S50]; exact hn4.new
  have hn8 : z_is b0 S50 (S5.2.2) 11 := by rw [e_S50]; exact hn8.new
  have hn12 : z_is b0 S50 (S9.2.2) 10 := by rw [e_S50]; exact hn12.new
  have hn32 : z_is b0 S50 (S29.2.2) 10 := by rw [e_S50]; exact hn32.new
  have hn36 : z_is b0 S50 (S33.2.2) 10 := by rw [e_S50]; exact hn36.new
  have hn40 : z_is b0 S50 (S37.2.2) 10 := by rw [e_S50]; exact hn40.new
  have hn44 : z_is b0 S50 (S41.2.2) 10 := by rw [e_S50]; exact hn44.new
  have hn48 : z_is b0 S50 (S45.2.2) 10 := by rw [e_S50]; exact hn48.new
  have hn52 : z_is b0 S50 S49.2.2 10 := by rw [e_S50]; exact z_is.fresh hb9 10 320
  have hT : z_T b0 S50 := by rw [e_S50]; exact hT.new _ _
  have hE : z_Ext S S50 := by rw [e_S50]; exact hE.new _ _
  have hT9 := hT.upR (x := S49.2.2) (k := 9) h_x0 hn52
  have hE9 := hE.upR (a := x0) (k := 9) (x := some (S49.2.2))
  obtain ⟨S53, e_S53, hz⟩ := zlet_some hz
  have hT : z_T b0 S53 := by rw [e_S53]; exact hT9
  have hE : z_Ext S S53 := by rw [e_S53]; exact hE9
  have h_x0 : z_is b0 S53 (x0) 9 := by rw [e_S53]; exact h_x0.upR
  have hn4 : z_is b0 S53 (S.2.2) 10 := by rw [e_S53]; exact hn4.upR
  have hn8 : z_is b0 S53 (S5.2.2) 11 := by rw [e_S53]; exact hn8.upR
  have hn12 : z_is b0 S53 (S9.2.2) 10 := by rw [e_S53]; exact hn12.upR
  have hn32 : z_is b0 S53 (S29.2.2) 10 := by rw [e_S53]; exact hn32.upR
  have hn36 : z_is b0 S53 (S33.2.2) 10 := by rw [e_S53]; exact hn36.upR
  have hn40 : z_is b0 S53 (S37.2.2) 10 := by rw [e_S53]; exact hn40.upR
  have hn44 : z_is b0 S53 (S41.2.2) 10 := by rw [e_S53]; exact hn44.upR
  have hn48 : z_is b0 S53 (S45.2.2) 10 := by rw [e_S53]; exact hn48.upR
  have hn52 : z_is b0 S53 (S49.2.2) 10 := by rw [e_S53]; exact hn52.upR
  obtain ⟨S54, e_S54, hz⟩ := zlet_some hz
  obtain ⟨J55, e_J55, hz⟩ := zlet_some hz
  have hb9 : b0 ≤ S53.2.2 := Nat.le_of_lt (Nat.lt_of_le_of_lt h_x0.1 h_x0.2.1)
  have h_x0 : z_is b0 S54 (x0) 9 := by rw [e_S54]; exact h_x0.new
  have hn4 : z_is b0 S54 (S.2.2) 10 := by rw [e_S54]; exact hn4.new
  have hn8 : z_is b0 S54 (S5.2.2) 11 := by rw [e_S54]; exact hn8.new
  have hn12 : z_is b0 S54 (S9.2.2) 10 := by rw [e_S54]; exact hn12.new
  have hn32 : z_is b0 S54 (S29.2.2) 10 := by rw [e_S54]; exact hn32.new
  have hn36 : z_is b0 S54 (S33.2.2) 10 := by rw [e_S54]; exact hn36.new
  have hn40 : z_is b0 S54 (S37.2.2) 10 := by rw [e_S54]; exact hn40.new
  have hn44 : z_is b0 S54 (S41.2.2) 10 := by rw [e_S54]; exact hn44.new
  have hn48 : z_is b0 S54 (S45.2.2) 10 := by rw [e_S54]; exact hn48.new
  have hn52 : z_is b0 S54 (S49.2.2) 10 := by rw [e_S54]; exact hn52.new
  have hn56 : z_is b0 S54 S53.2.2 10 := by rw [e_S54]; exact z_is.fresh hb9 10 8
  have hT : z_T b0 S54 := by rw [e_S54]; exact hT.new _ _
  have hE : z_Ext S S54 := by rw [e_S54]; exact hE.new _ _
  have hT9 := hT.upR (x := S53.2.2) (k := 10) h_x0 hn56
  have hE9 := hE.upR (a := x0) (k := 10) (x := some (S53.2.2))
  obtain ⟨S57, e_S57, hz⟩ := zlet_some hz
  have hT : z_T b0 S57 := by rw [e_S57]; exact hT9
  have hE : z_Ext S S57 := by rw [e_S57]; exact hE9
  have h_x0 : z_is b0 S57 (x0) 9 := by rw [e_S57]; exact h_x0.upR
  have hn4 : z_is b0 S57 (S.2.2) 10 := by rw [e_S57]; exact hn4.upR
  have hn8 : z_is b0 S57 (S5.2.2) 11 := by rw [e_S57]; exact hn8.upR
  have hn12 : z_is b0 S57 (S9.2.2) 10 := by rw [e_S57]; exact hn12.upR
  have hn32 : z_is b0 S57 (S29.2.2) 10 := by rw [e_S57]; exact hn32.upR
  have hn36 : z_is b0 S57 (S33.2.2) 10 := by rw [e_S57]; exact hn36.upR
  have hn40 : z_is b0 S57 (S37.2.2) 10 := by rw [e_S57]; exact hn40.upR
  have hn44 : z_is b0 S57 (S41.2.2) 10 := by rw [e_S57]; exact hn44.upR
  have hn48 : z_is b0 S57 (S45.2.2) 10 := by rw [e_S57]; exact hn48.upR
  have hn52 : z_is b0 S57 (S49.2.2) 10 := by rw [e_S57]; exact hn52.upR
  have hn56 : z_is b0 S57 (S53.2.2) 10 := by rw [e_S57]; exact hn56.upR
  obtain ⟨S58, e_S58, hz⟩ := zlet_some hz
  obtain ⟨J59, e_J59, hz⟩ := zlet_some hz
  have hb9 : b0 ≤ S57.2.2 := Nat.le_of_lt (Nat.lt_of_le_of_lt h_x0.1 h_x0.2.1)
  have h_x0 : z_is b0 S58 (x0) 9 := by rw [e_S58]; exact h_x0.new
  have hn4 : z_is b0 S58 (S.2.2) 10 := by rw [e_S58]; exact hn4.new
  have hn8 : z_is b0 S58 (S5.2.2) 11 := by rw [e_S58]; exact hn8.new
  have hn12 : z_is b0 S58 (S9.2.2) 10 := by rw [e_S58]; exact hn12.new
  have hn32 : z_is b0 S58 (S29.2.2) 10 := by rw [e_S58]; exact hn32.new
  have hn36 : z_is b0 S58 (S33.2.2) 10 := by rw [e_S58]; exact hn36.new
  have hn40 : z_is b0 S58 (S37.2.2) 10 := by rw [e_S58]; exact hn40.new
  have hn44 : z_is b0 S58 (S41.2.2) 10 := by rw [e_S58]; exact hn44.new
  have hn48 : z_is b0 S58 (S45.2.2) 10 := by rw [e_S58]; exact hn48.new
  have hn52 : z_is b0 S58 (S49.2.2) 10 := by rw [e_S58]; exact hn52.new
  have hn56 : z_is b0 S58 (S53.2.2) 10 := by rw [e_S58]; exact hn56.new
  have hn60 : z_is b0 S58 S57.2.2 10 := by rw [e_S58]; exact z_is.fresh hb9 10 32
  have hT : z_T b0 S58 := by rw [e_S58]; exact hT.new _ _
  have hE : z_Ext S S58 := by rw [e_S58]; exact hE.new _ _
  have hT9 := hT.upR (x := S57.2.2) (k := 11) h_x0 hn60
  have hE9 := hE.upR (a := x0) (k := 11) (x := some (S57.2.2))
  obtain ⟨S61, e_S61, hz⟩ := zlet_some hz
  have hT : z_T b0 S61 := by rw [e_S61]; exact hT9
  have hE : z_Ext S S61 := by rw [e_S61]; exact hE9
  have h_x0 : z_is b0 S61 (x0) 9 := by rw [e_S61]; exact h_x0.upR
  have hn4 : z_is b0 S61 (S.2.2) 10 := by rw [e_S61]; exact hn4.upR
  have hn8 : z_is b0 S61 (S5.2.2) 11 := by rw [e_S61]; exact hn8.upR
  have hn12 : z_is b0 S61 (S9.2.2) 10 := by rw [e_S61]; exact hn12.upR
  have hn32 : z_is b0 S61 (S29.2.2) 10 := by rw [e_S61]; exact hn32.upR
  have hn36 : z_is b0 S61 (S33.2.2) 10 := by rw [e_S61]; exact hn36.upR
  have hn40 : z_is b0 S61 (S37.2.2) 10 := by rw [e_S61]; exact hn40.upR
  have hn44 : z_is b0 S61 (S41.2.2) 10 := by rw [e_S61]; exact hn44.upR
  have hn48 : z_is b0 S61 (S45.2.2) 10 := by rw [e_S61]; exact hn48.upR
  have hn52 : z_is b0 S61 (S49.2.2) 10 := by rw [e_S61]; exact hn52.upR
  have hn56 : z_is b0 S61 (S53.2.2) 10 := by rw [e_S61]; exact hn56.upR
  have hn60 : z_is b0 S61 (S57.2.2) 10 := by rw [e_S61]; exact hn60.upR
  obtain ⟨S62, e_S62, hz⟩ := zlet_some hz
  obtain ⟨J63, e_J63, hz⟩ := zlet_some hz
  have hb9 : b0 ≤ S61.2.2 := Nat.le_of_lt (Nat.lt_of_le_of_lt h_x0.1 h_x0.2.1)
  have h_x0 : z_is b0 S62 (x0) 9 := by rw [e_S62]; exact h_x0.new
  have hn4 : z_is b0 S62 (S.2.2) 10 := by rw [e_S62]; exact hn4.new
  have hn8 : z_is b0 S62 (S5.2.2) 11 := by rw [e_S62]; exact hn8.new
  have hn12 : z_is b0 S62 (S9.2.2) 10 := by rw [e_S62]; exact hn12.new
  have hn32 : z_is b0 S62 (S29.2.2) 10 := by rw [e_S62]; exact hn32.new
  have hn36 : z_is b0 S62 (S33.2.2) 10 := by rw [e_S62]; exact hn36.new
  have hn40 : z_is b0 S62 (S37.2.2) 10 := by rw [e_S62]; exact hn40.new
  have hn44 : z_is b0 S62 (S41.2.2) 10 := by rw [e_S62]; exact hn44.new
  have hn48 : z_is b0 S62 (S45.2.2) 10 := by rw [e_S62]; exact hn48.new
  have hn52 : z_is b0 S62 (S49.2.2) 10 := by rw [e_S62]; exact hn52.new
  have hn56 : z_is b0 S62 (S53.2.2) 10 := by rw [e_S62]; exact hn56.new
  have hn60 : z_is b0 S62 (S57.2.2) 10 := by rw [e_S62]; exact hn60.new
  have hn64 : z_is b0 S62 S61.2.2 10 := by rw [e_S62]; exact z_is.fresh hb9 10 32
  have hT : z_T b0 S62 := by rw [e_S62]; exact hT.new _ _
  have hE : z_Ext S S62 := by rw [e_S62]; exact hE.new _ _
  have hT9 := hT.upR (x := S61.2.2) (k := 12) h_x0 hn64
  have hE9 := hE.upR (a := x0) (k := 12) (x := some (S61.2.2))
  obtain ⟨S65, e_S65, hz⟩ := zlet_some hz
  have hT : z_T b0 S65 := by rw [e_S65]; exact hT9
  have hE : z_Ext S S65 := by rw [e_S65]; exact hE9
  have h_x0 : z_is b0 S65 (x0) 9 := by rw [e_S65]; exact h_x0.upR
  have hn4 : z_is b0 S65 (S.2.2) 10 := by rw [e_S65]; exact hn4.upR
  have hn8 : z_is b0 S65 (S5.2.2) 11 := by rw [e_S65]; exact hn8.upR
  have hn12 : z_is b0 S65 (S9.2.2) 10 := by rw [e_S65]; exact hn12.upR
  have hn32 : z_is b0 S65 (S29.2.2) 10 := by rw [e_S65]; exact hn32.upR
  have hn36 : z_is b0 S65 (S33.2.2) 10 := by rw [e_S65]; exact hn36.upR
  have hn40 : z_is b0 S65 (S37.2.2) 10 := by rw [e_S65]; exact hn40.upR
  have hn44 : z_is b0 S65 (S41.2.2) 10 := by rw [e_S65]; exact hn44.upR
  have hn48 : z_is b0 S65 (S45.2.2) 10 := by rw [e_S65]; exact hn48.upR
  have hn52 : z_is b0 S65 (S49.2.2) 10 := by rw [e_S65]; exact hn52.upR
  have hn56 : z_is b0 S65 (S53.2.2) 10 := by rw [e_S65]; exact hn56.upR
  have hn60 : z_is b0 S65 (S57.2.2) 10 := by rw [e_S65]; exact hn60.upR
  have hn64 : z_is b0 S65 (S61.2.2) 10 := by rw [e_S65]; exact hn64.upR
  obtain ⟨S66, e_S66, hz⟩ := zlet_some hz
  obtain ⟨J67, e_J67, hz⟩ := zlet_some hz
  have hb9 : b0 ≤ S65.2.2 := Nat.le_of_lt (Nat.lt_of_le_of_lt h_x0.1 h_x0.2.1)
  have h_x0 : z_is b0 S66 (x0) 9 := by rw [e_S66]; exact h_x0.new
  have hn4 : z_is b0 S66 (S.2.2) 10 := by rw [e_S66]; exact hn4.new
  have hn8 : z_is b0 S66 (S5.2.2) 11 := by rw [e_S66]; exact hn8.new
  have hn12 : z_is b0 S66 (S9.2.2) 10 := by rw [e_S66]; exact hn12.new
  have hn32 : z_is b0 S66 (S29.2.2) 10 := by rw [e_S66]; exact hn32.new
  have hn36 : z_is b0 S66 (S33.2.2) 10 := by rw [e_S66]; exact hn36.new
  have hn40 : z_is b0 S66 (S37.2.2) 10 := by rw [e_S66]; exact hn40.new
  have hn44 : z_is b0 S66 (S41.2.2) 10 := by rw [e_S66]; exact hn44.new
  have hn48 : z_is b0 S66 (S45.2.2) 10 := by rw [e_S66]; exact hn48.new
  have hn52 : z_is b0 S66 (S49.2.2) 10 := by rw [e_S66]; exact hn52.new
  have hn56 : z_is b0 S66 (S53.2.2) 10 := by rw [e_S66]; exact hn56.new
  have hn60 : z_is b0 S66 (S57.2.2) 10 := by rw [e_S66]; exact hn60.new
  have hn64 : z_is b0 S66 (S61.2.2) 10 := by rw [e_S66]; exact hn64.new
  have hn68 : z_is b0 S66 S65.2.2 10 := by rw [e_S66]; exact z_is.fresh hb9 10 32
  have hT : z_T b0 S66 := by rw [e_S66]; exact hT.new _ _
  have hE : z_Ext S S66 := by rw [e_S66]; exact hE.new _ _
  have hT9 := hT.upR (x := S65.2.2) (k := 13) h_x0 hn68
  have hE9 := hE.upR (a := x0) (k := 13) (x := some (S65.2.2))
  obtain ⟨S69, e_S69, hz⟩ := zlet_some hz
  have hT : z_T b0 S69 := by rw [e_S69]; exact hT9
  have hE : z_Ext S S69 := by rw [e_S69]; exact hE9
  have h_x0 : z_is b0 S69 (x0) 9 := by rw [e_S69]; exact h_x0.upR
  have hn4 : z_is b0 S69 (S.2.2) 10 := by rw [e_S69]; exact hn4.upR
  have hn8 : z_is b0 S69 (S5.2.2) 11 := by rw [e_S69]; exact hn8.upR
  have hn12 : z_is b0 S69 (S9.2.2) 10 := by rw [e_S69]; exact hn12.upR
  have hn32 : z_is b0 S69 (S29.2.2) 10 := by rw [e_S69]; exact hn32.upR
  have hn36 : z_is b0 S69 (S33.2.2) 10 := by rw [e_S69]; exact hn36.upR
  have hn40 : z_is b0 S69 (S37.2.2) 10 := by rw [e_S69]; exact hn40.upR
  have hn44 : z_is b0 S69 (S41.2.2) 10 := by rw [e_S69]; exact hn44.upR
  have hn48 : z_is b0 S69 (S45.2.2) 10 := by rw [e_S69]; exact hn48.upR
  have hn52 : z_is b0 S69 (S49.2.2) 10 := by rw [e_S69]; exact hn52.upR
  have hn56 : z_is b0 S69 (S53.2.2) 10 := by rw [e_S69]; exact hn56.upR
  have hn60 : z_is b0 S69 (S57.2.2) 10 := by rw [e_S69]; exact hn60.upR
  have hn64 : z_is b0 S69 (S61.2.2) 10 := by rw [e_S69]; exact hn64.upR
  have hn68 : z_is b0 S69 (S65.2.2) 10 := by rw [e_S69]; exact hn68.upR
  obtain ⟨S70, e_S70, hz⟩ := zlet_some hz
  obtain ⟨J71, e_J71, hz⟩ := zlet_some hz
  have hb9 : b0 ≤ S69.2.2 := Nat.le_of_lt (Nat.lt_of_le_of_lt h_x0.1 h_x0.2.1)
  have h_x0 : z_is b0 S70 (x0) 9 := by rw [e_S70]; exact h_x0.new
  have hn4 : z_is b0 S70 (S.2.2) 10 := by rw [e_S70]; exact hn4.new
  have hn8 : z_is b0 S70 (S5.2.2) 11 := by rw [e_S70]; exact hn8.new
  have hn12 : z_is b0 S70 (S9.2.2) 10 := by rw [e_S70]; exact hn12.new
  have hn32 : z_is b0 S70 (S29.2.2) 10 := by rw [e_S70]; exact hn32.new
  have hn36 : z_is b0 S70 (S33.2.2) 10 := by rw [e_S70]; exact hn36.new
  have hn40 : z_is b0 S70 (S37.2.2) 10 := by rw [e_S70]; exact hn40.new
  have hn44 : z_is b0 S70 (S41.2.2) 10 := by rw [e_S70]; exact hn44.new
  have hn48 : z_is b0 S70 (S45.2.2) 10 := by rw [e_S70]; exact hn48.new
  have hn52 : z_is b0 S70 (S49.2.2) 10 := by rw [e_S70]; exact hn52.new
  have hn56 : z_is b0 S70 (S53.2.2) 10 := by rw [e_S70]; exact hn56.new
  have hn60 : z_is b0 S70 (S57.2.2) 10 := by rw [e_S70]; exact hn60.new
  have hn64 : z_is b0 S70 (S61.2.2) 10 := by rw [e_S70]; exact hn64.new
  have hn68 : z_is b0 S70 (S65.2.2) 10 := by rw [e_S70]; exact hn68.new
  have hn72 : z_is b0 S70 S69.2.2 10 := by rw [e_S70]; exact z_is.fresh hb9 10 32
  have hT : z_T b0 S70 := by rw [e_S70]; exact hT.new _ _
  have hE : z_Ext S S70 := by rw [e_S70]; exact hE.new _ _
  have hT9 := hT.upR (x := S69.2.2) (k := 14) h_x0 hn72
  have hE9 := hE.upR (a := x0) (k := 14) (x := some (S69.2.2))
  obtain ⟨S73, e_S73, hz⟩ := zlet_some hz
  have hT : z_T b0 S73 := by rw [e_S73]; exact hT9
  have hE : z_Ext S S73 := by rw [e_S73]; exact hE9
  have h_x0 : z_is b0 S73 (x0) 9 := by rw [e_S73]; exact h_x0.upR
  have hn4 : z_is b0 S73 (S.2.2) 10 := by rw [e_S73]; exact hn4.upR
  have hn8 : z_is b0 S73 (S5.2.2) 11 := by rw [e_S73]; exact hn8.upR
  have hn12 : z_is b0 S73 (S9.2.2) 10 := by rw [e_S73]; exact hn12.upR
  have hn32 : z_is b0 S73 (S29.2.2) 10 := by rw [e_S73]; exact hn32.upR
  have hn36 : z_is b0 S73 (S33.2.2) 10 := by rw [e_S73]; exact hn36.upR
  have hn40 : z_is b0 S73 (S37.2.2) 10 := by rw [e_S73]; exact hn40.upR
  have hn44 : z_is b0 S73 (S41.2.2) 10 := by rw [e_S73]; exact hn44.upR
  have hn48 : z_is b0 S73 (S45.2.2) 10 := by rw [e_S73]; exact hn48.upR
  have hn52 : z_is b0 S73 (S49.2.2) 10 := by rw [e_S73]; exact hn52.upR
  have hn56 : z_is b0 S73 (S53.2.2) 10 := by rw [e_S73]; exact hn56.upR
  have hn60 : z_is b0 S73 (S57.2.2) 10 := by rw [e_S73]; exact hn60.upR
  have hn64 : z_is b0 S73 (S61.2.2) 10 := by rw [e_S73]; exact hn64.upR
  have hn68 : z_is b0 S73 (S65.2.2) 10 := by rw [e_S73]; exact hn68.upR
  have hn72 : z_is b0 S73 (S69.2.2) 10 := by rw [e_S73]; exact hn72.upR
  obtain ⟨S74, e_S74, hz⟩ := zlet_some hz
  obtain ⟨J75, e_J75, hz⟩ := zlet_some hz
  have hb9 : b0 ≤ S73.2.2 := Nat.le_of_lt (Nat.lt_of_le_of_lt h_x0.1 h_x0.2.1)
  have h_x0 : z_is b0 S74 (x0) 9 := by rw [e_S74]; exact h_x0.new
  have hn4 : z_is b0 S74 (S.2.2) 10 := by rw [e_S74]; exact hn4.new
  have hn8 : z_is b0 S74 (S5.2.2) 11 := by rw [e_S74]; exact hn8.new
  have hn12 : z_is b0 S74 (S9.2.2) 10 := by rw [e_S74]; exact hn12.new
  have hn32 : z_is b0 S74 (S29.2.2) 10 := by rw [e_S74]; exact hn32.new
  have hn36 : z_is b0 S74 (S33.2.2) 10 := by rw [e_S74]; exact hn36.new
  have hn40 : z_is b0 S74 (S37.2.2) 10 := by rw [e_S74]; exact hn40.new
  have hn44 : z_is b0 S74 (S41.2.2) 10 := by rw [e_S74]; exact hn44.new
  have hn48 : z_is b0 S74 (S45.2.2) 10 := by rw [e_S74]; exact hn48.new
  have hn52 : z_is b0 S74 (S49.2.2) 10 := by rw [e_S74]; exact hn52.new
  have hn56 : z_is b0 S74 (S53.2.2) 10 := by rw [e_S74]; exact hn56.new
  have hn60 : z_is b0 S74 (S57.2.2) 10 := by rw [e_S74]; exact hn60.new
  have hn64 : z_is b0 S74 (S61.2.2) 10 := by rw [e_S74]; exact hn64.new
  have hn68 : z_is b0 S74 (S65.2.2) 10 := by rw [e_S74]; exact hn68.new
  have hn72 : z_is b0 S74 (S69.2.2) 10 := by rw [e_S74]; exact hn72.new
  have hn76 : z_is b0 S74 S73.2.2 11 := by rw [e_S74]; exact z_is.fresh hb9 11 8
  have hT : z_T b0 S74 := by rw [e_S74]; exact hT.new _ _
  have hE : z_Ext S S74 := by rw [e_S74]; exact hE.new _ _
  have hT9 := hT.upR (x := S73.2.2) (k := 15) h_x0 hn76
  have hE9 := hE.upR (a := x0) (k := 15) (x := some (S73.2.2))
  obtain ⟨S77, e_S77, hz⟩ := zlet_some hz
  have hT : z_T b0 S77 := by rw [e_S77]; exact hT9
  have hE : z_Ext S S77 := by rw [e_S77]; exact hE9
  have h_x0 : z_is b0 S77 (x0) 9 := by rw [e_S77]; exact h_x0.upR
  have hn4 : z_is b0 S77 (S.2.2) 10 := by rw [e_S77]; exact hn4.upR
  have hn8 : z_is b0 S77 (S5.2.2) 11 := by rw [e_S77]; exact hn8.upR
  have hn12 : z_is b0 S77 (S9.2.2) 10 := by rw [e_S77]; exact hn12.upR
  have hn32 : z_is b0 S77 (S29.2.2) 10 := by rw [e_S77]; exact hn32.upR
  have hn36 : z_is b0 S77 (S33.2.2) 10 := by rw [e_S77]; exact hn36.upR
  have hn40 : z_is b0 S77 (S37.2.2) 10 := by rw [e_S77]; exact hn40.upR
  have hn44 : z_is b0 S77 (S41.2.2) 10 := by rw [e_S77]; exact hn44.upR
  have hn48 : z_is b0 S77 (S45.2.2) 10 := by rw [e_S77]; exact hn48.upR
  have hn52 : z_is b0 S77 (S49.2.2) 10 := by rw [e_S77]; exact hn52.upR
  have hn56 : z_is b0 S77 (S53.2.2) 10 := by rw [e_S77]; exact hn56.upR
  have hn60 : z_is b0 S77 (S57.2.2) 10 := by rw [e_S77]; exact hn60.upR
  have hn64 : z_is b0 S77 (S61.2.2) 10 := by rw [e_S77]; exact hn64.upR
  have hn68 : z_is b0 S77 (S65.2.2) 10 := by rw [e_S77]; exact hn68.upR
  have hn72 : z_is b0 S77 (S69.2.2) 10 := by rw [e_S77]; exact hn72.upR
  have hn76 : z_is b0 S77 (S73.2.2) 11 := by rw [e_S77]; exact hn76.upR
  obtain ⟨S78, e_S78, hz⟩ := zlet_some hz
  obtain ⟨J79, e_J79, hz⟩ := zlet_some hz
  have hb9 : b0 ≤ S77.2.2 := Nat.le_of_lt (Nat.lt_of_le_of_lt h_x0.1 h_x0.2.1)
  have h_x0 : z_is b0 S78 (x0) 9 := by rw [e_S78]; exact h_x0.new
  have hn4 : z_is b0 S78 (S.2.2) 10 := by rw [e_S78]; exact hn4.new
  have hn8 : z_is b0 S78 (S5.2.2) 11 := by rw [e_S78]; exact hn8.new
  have hn12 : z_is b0 S78 (S9.2.2) 10 := by rw [e_S78]; exact hn12.new
  have hn32 : z_is b0 S78 (S29.2.2) 10 := by rw [e_S78]; exact hn32.new
  have hn36 : z_is b0 S78 (S33.2.2) 10 := by rw [e_S78]; exact hn36.new
  have hn40 : z_is b0 S78 (S37.2.2) 10 := by rw [e_S78]; exact hn40.new
  have hn44 : z_is b0 S78 (S41.2.2) 10 := by rw [e_S78]; exact hn44.new
  have hn48 : z_is b0 S78 (S45.2.2) 10 := by rw [e_S78]; exact hn48.new
  have hn52 : z_is b0 S78 (S49.2.2) 10 := by rw [e_S78]; exact hn52.new
  have hn56 : z_is b0 S78 (S53.2.2) 10 := by rw [e_S78]; exact hn56.new
  have hn60 : z_is b0 S78 (S57.2.2) 10 := by rw [e_S78]; exact hn60.new
  have hn64 : z_is b0 S78 (S61.2.2) 10 := by rw [e_S78]; exact hn64.new
  have hn68 : z_is b0 S78 (S65.2.2) 10 := by rw [e_S78]; exact hn68.new
  have hn72 : z_is b0 S78 (S69.2.2) 10 := by rw [e_S78]; exact hn72.new
  have hn76 : z_is b0 S78 (S73.2.2) 11 := by rw [e_S78]; exact hn76.new
  have hn80 : z_is b0 S78 S77.2.2 11 := by rw [e_S78]; exact z_is.fresh hb9 11 320
  have hT : z_T b0 S78 := by rw [e_S78]; exact hT.new _ _
  have hE : z_Ext S S78 := by rw [e_S78]; exact hE.new _ _
  have hT9 := hT.upR (x := S77.2.2) (k := 16) h_x0 hn80
  have hE9 := hE.upR (a := x0) (k := 16) (x := some (S77.2.2))
  obtain ⟨S81, e_S81, hz⟩ := zlet_some hz
  have hT : z_T b0 S81 := by rw [e_S81]; exact hT9
  have hE : z_Ext S S81 := by rw [e_S81]; exact hE9
  have h_x0 : z_is b0 S81 (x0) 9 := by rw [e_S81]; exact h_x0.upR
  have hn4 : z_is b0 S81 (S.2.2) 10 := by rw [e_S81]; exact hn4.upR
  have hn8 : z_is b0 S81 (S5.2.2) 11 := by rw [e_S81]; exact hn8.upR
  have hn12 : z_is b0 S81 (S9.2.2) 10 := by rw [e_S81]; exact hn12.upR
  have hn32 : z_is b0 S81 (S29.2.2) 10 := by rw [e_S81]; exact hn32.upR
  have hn36 : z_is b0 S81 (S33.2.2) 10 := by rw [e_S81]; exact hn36.upR
  have hn40 : z_is b0 S81 (S37.2.2) 10 := by rw [e_S81]; exact hn40.upR
  have hn44 : z_is b0 S81 (S41.2.2) 10 := by rw [e_S81]; exact hn44.upR
  have hn48 : z_is b0 S81 (S45.2.2) 10 := by rw [e_S81]; exact hn48.upR
  have hn52 : z_is b0 S81 (S49.2.2) 10 := by rw [e_S81]; exact hn52.upR
  have hn56 : z_is b0 S81 (S53.2.2) 10 := by rw [e_S81]; exact hn56.upR
  have hn60 : z_is b0 S81 (S57.2.2) 10 := by rw [e_S81]; exact hn60.upR
  have hn64 : z_is b0 S81 (S61.2.2) 10 := by rw [e_S81]; exact hn64.upR
  have hn68 : z_is b0 S81 (S65.2.2) 10 := by rw [e_S81]; exact hn68.upR
  have hn72 : z_is b0 S81 (S69.2.2) 10 := by rw [e_S81]; exact hn72.upR
  have hn76 : z_is b0 S81 (S73.2.2) 11 := by rw [e_S81]; exact hn76.upR
  have hn80 : z_is b0 S81 (S77.2.2) 11 := by rw [e_S81]; exact hn80.upR
  obtain ⟨S82, e_S82, hz⟩ := zlet_some hz
  obtain ⟨J83, e_J83, hz⟩ := zlet_some hz
  have hb9 : b0 ≤ S81.2.2 := Nat.le_of_lt (Nat.lt_of_le_of_lt h_x0.1 h_x0.2.1)
  have h_x0 : z_is b0 S82 (x0) 9 := by rw [e_S82]; exact h_x0.new
  have hn4 : z_is b0 S82 (S.2.2) 10 := by rw [e_S82]; exact hn4.new
  have hn8 : z_is b0 S82 (S5.2.2) 11 := by rw [e_S82]; exact hn8.new
  have hn12 : z_is b0 S82 (S9.2.2) 10 := by rw [e_S82]; exact hn12.new
  have hn32 : z_is b0 S82 (S29.2.2) 10 := by rw [e_S82]; exact hn32.new
  have hn36 : z_is b0 S82 (S33.2.2) 10 := by rw [e_S82]; exact hn36.new
  have hn40 : z_is b0 S82 (S37.2.2) 10 := by rw [e_S82]; exact hn40.new
  have hn44 : z_is b0 S82 (S41.2.2) 10 := by rw [e_S82]; exact hn44.new
  have hn48 : z_is b0 S82 (S45.2.2) 10 := by rw [e_S82]; exact hn48.new
  have hn52 : z_is b0 S82 (S49.2.2) 10 := by rw [e_S82]; exact hn52.new
  have hn56 : z_is b0 S82 (S53.2.2) 10 := by rw [e_S82]; exact hn56.new
  have hn60 : z_is b0 S82 (S57.2.2) 10 := by rw [e_S82]; exact hn60.new
  have hn64 : z_is b0 S82 (S61.2.2) 10 := by rw [e_S82]; exact hn64.new
  have hn68 : z_is b0 S82 (S65.2.2) 10 := by rw [e_S82]; exact hn68.new
  have hn72 : z_is b0 S82 (S69.2.2) 10 := by rw [e_S82]; exact hn72.new
  have hn76 : z_is b0 S82 (S73.2.2) 11 := by rw [e_S82]; exact hn76.new
  have hn80 : z_is b0 S82 (S77.2.2) 11 := by rw [e_S82]; exact hn80.new
  have hn84 : z_is b0 S82 S81.2.2 10 := by rw [e_S82]; exact z_is.fresh hb9 10 6400
  have hT : z_T b0 S82 := by rw [e_S82]; exact hT.new _ _
  have hE : z_Ext S S82 := by rw [e_S82]; exact hE.new _ _
  have hT9 := hT.upR (x := S81.2.2) (k := 17) h_x0 hn84
  have hE9 := hE.upR (a := x0) (k := 17) (x := some (S81.2.2))
  obtain ⟨S85, e_S85, hz⟩ := zlet_some hz
  have hT : z_T b0 S85 := by rw [e_S85]; exact hT9
  have hE : z_Ext S S85 := by rw [e_S85]; exact hE9
  have h_x0 : z_is b0 S85 (x0) 9 := by rw [e_S85]; exact h_x0.upR
  have hn4 : z_is b0 S85 (S.2.2) 10 := by rw [e_S85]; exact hn4.upR
  have hn8 : z_is b0 S85 (S5.2.2) 11 := by rw [e_S85]; exact hn8.upR
  have hn12 : z_is b0 S85 (S9.2.2) 10 := by rw [e_S85]; exact hn12.upR
  have hn32 : z_is b0 S85 (S29.2.2) 10 := by rw [e_S85]; exact hn32.upR
  have hn36 : z_is b0 S85 (S33.2.2) 10 := by rw [e_S85]; exact hn36.upR
  have hn40 : z_is b0 S85 (S37.2.2) 10 := by rw [e_S85]; exact hn40.upR
  have hn44 : z_is b0 S85 (S41.2.2) 10 := by rw [e_S85]; exact hn44.upR
  have hn48 : z_is b0 S85 (S45.2.2) 10 := by rw [e_S85]; exact hn48.upR
  have hn52 : z_is b0 S85 (S49.2.2) 10 := by rw [e_S85]; exact hn52.upR
  have hn56 : z_is b0 S85 (S53.2.2) 10 := by rw [e_S85]; exact hn56.upR
  have hn60 : z_is b0 S85 (S57.2.2) 10 := by rw [e_S85]; exact hn60.upR
  have hn64 : z_is b0 S85 (S61.2.2) 10 := by rw [e_S85]; exact hn64.upR
  have hn68 : z_is b0 S85 (S65.2.2) 10 := by rw [e_S85]; exact hn68.upR
  have hn72 : z_is b0 S85 (S69.2.2) 10 := by rw [e_S85]; exact hn72.upR
  have hn76 : z_is b0 S85 (S73.2.2) 11 := by rw [e_S85]; exact hn76.upR
  have hn80 : z_is b0 S85 (S77.2.2) 11 := by rw [e_S85]; exact hn80.upR
  have hn84 : z_is b0 S85 (S81.2.2) 10 := by rw [e_S85]; exact hn84.upR
  obtain ⟨S86, e_S86, hz⟩ := zlet_some hz
  obtain ⟨J87, e_J87, hz⟩ := zlet_some hz
  have hb9 : b0 ≤ S85.2.2 := Nat.le_of_lt (Nat.lt_of_le_of_lt h_x0.1 h_x0.2.1)
  have h_x0 : z_is b0 S86 (x0) 9 := by rw [e_S86]; exact h_x0.new
  have hn4 : z_is b0 S86 (S.2.2) 10 := by rw [e_S86]; exact hn4.new
  have hn8 : z_is b0 S86 (S5.2.2) 11 := by rw [e_S86]; exact hn8.new
  have hn12 : z_is b0 S86 (S9.2.2) 10 := by rw [e_S86]; exact hn12.new
  have hn32 : z_is b0 S86 (S29.2.2) 10 := by rw [e_S86]; exact hn32.new
  have hn36 : z_is b0 S86 (S33.2.2) 10 := by rw [e_S86]; exact hn36.new
  have hn40 : z_is b0 S86 (S37.2.2) 10 := by rw [e_S86]; exact hn40.new
  have hn44 : z_is b0 S86 (S41.2.2) 10 := by rw [e_S86]; exact hn44.new
  have hn48 : z_is b0 S86 (S45.2.2) 10 := by rw [e_S86]; exact hn48.new
  have hn52 : z_is b0 S86 (S49.2.2) 10 := by rw [e_S86]; exact hn52.new
  have hn56 : z_is b0 S86 (S53.2.2) 10 := by rw [e_S86]; exact hn56.new
  have hn60 : z_is b0 S86 (S57.2.2) 10 := by rw [e_S86]; exact hn60.new
  have hn64 : z_is b0 S86 (S61.2.2) 10 := by rw [e_S86]; exact hn64.new
  have hn68 : z_is b0 S86 (S65.2.2) 10 := by rw [e_S86]; exact hn68.new
  have hn72 : z_is b0 S86 (S69.2.2) 10 := by rw [e_S86]; exact hn72.new
  have hn76 : z_is b0 S86 (S73.2.2) 11 := by rw [e_S86]; exact hn76.new
  have hn80 : z_is b0 S86 (S77.2.2) 11 := by rw [e_S86]; exact hn80.new
  have hn84 : z_is b0 S86 (S81.2.2) 10 := by rw [e_S86]; exact hn84.new
  have hn88 : z_is b0 S86 S85.2.2 11 := by rw [e_S86]; exact z_is.fresh hb9 11 320
  have hT : z_T b0 S86 := by rw [e_S86]; exact hT.new _ _
  have hE : z_Ext S S86 := by rw [e_S86]; exact hE.new _ _
  have hT9 := hT.upR (x := S85.2.2) (k := 18) h_x0 hn88
  have hE9 := hE.upR (a := x0) (k := 18) (x := some (S85.2.2))
  obtain ⟨S89, e_S89, hz⟩ := zlet_some hz
  have hT : z_T b0 S89 := by rw [e_S89]; exact hT9
  have hE : z_Ext S S89 := by rw [e_S89]; exact hE9
  have h_x0 : z_is b0 S89 (x0) 9 := by rw [e_S89]; exact h_x0.upR
  have hn4 : z_is b0 S89 (S.2.2) 10 := by rw [e_S89]; exact hn4.upR
  have hn8 : z_is b0 S89 (S5.2.2) 11 := by rw [e_S89]; exact hn8.upR
  have hn12 : z_is b0 S89 (S9.2.2) 10 := by rw [e_S89]; exact hn12.upR
  have hn32 : z_is b0 S89 (S29.2.2) 10 := by rw [e_S89]; exact hn32.upR
  have hn36 : z_is b0 S89 (S33.2.2) 10 := by rw [e_S89]; exact hn36.upR
  have hn40 : z_is b0 S89 (S37.2.2) 10 := by rw [e_S89]; exact hn40.upR
  have hn44 : z_is b0 S89 (S41.2.2) 10 := by rw [e_S89]; exact hn44.upR
  have hn48 : z_is b0 S89 (S45.2.2) 10 := by rw [e_S89]; exact hn48.upR
  have hn52 : z_is b0 S89 (S49.2.2) 10 := by rw [e_S89]; exact hn52.upR
  have hn56 : z_is b0 S89 (S53.2.2) 10 := by rw [e_S89]; exact hn56.upR
  have hn60 : z_is b0 S89 (S57.2.2) 10 := by rw [e_S89]; exact hn60.upR
  have hn64 : z_is b0 S89 (S61.2.2) 10 := by rw [e_S89]; exact hn64.upR
  have hn68 : z_is b0 S89 (S65.2.2) 10 := by rw [e_S89]; exact hn68.upR
  have hn72 : z_is b0 S89 (S69.2.2) 10 := by rw [e_S89]; exact hn72.upR
  have hn76 : z_is b0 S89 (S73.2.2) 11 := by rw [e_S89]; exact hn76.upR
  have hn80 : z_is b0 S89 (S77.2.2) 11 := by rw [e_S89]; exact hn80.upR
  have hn84 : z_is b0 S89 (S81.2.2) 10 := by rw [e_S89]; exact hn84.upR
  have hn88 : z_is b0 S89 (S85.2.2) 11 := by rw [e_S89]; exact hn88.upR
  obtain ⟨S90, e_S90, hz⟩ := zlet_some hz
  obtain ⟨J91, e_J91, hz⟩ := zlet_some hz
  have hb9 : b0 ≤ S89.2.2 := Nat.le_of_lt (Nat.lt_of_le_of_lt h_x0.1 h_x0.2.1)
  have h_x0 : z_is b0 S90 (x0) 9 := by rw [e_S90]; exact h_x0.new
  have hn4 : z_is b0 S90 (S.2.2) 10 := by rw [e_S90]; exact hn4.new
  have hn8 : z_is b0 S90 (S5.2.2) 11 := by rw [e_S90]; exact hn8.new
  have hn12 : z_is b0 S90 (S9.2.2) 10 := by rw [e_S90]; exact hn12.new
  have hn32 : z_is b0 S90 (S29.2.2) 10 := by rw [e_S90]; exact hn32.new
  have hn36 : z_is b0 S90 (S33.2.2) 10 := by rw [e_S90]; exact hn36.new
  have hn40 : z_is b0 S90 (S37.2.2) 10 := by rw [e_S90]; exact hn40.new
  have hn44 : z_is b0 S90 (S41.2.2) 10 := by rw [e_S90]; exact hn44.new
  have hn48 : z_is b0 S90 (S45.2.2) 10 := by rw [e_S90]; exact hn48.new
  have hn52 : z_is b0 S90 (S49.2.2) 10 := by rw [e_S90]; exact hn52.new
  have hn56 : z_is b0 S90 (S53.2.2) 10 := by rw [e_S90]; exact hn56.new
  have hn60 : z_is b0 S90 (S57.2.2) 10 := by rw [e_S90]; exact hn60.new
  have hn64 : z_is b0 S90 (S61.2.2) 10 := by rw [e_S90]; exact hn64.new
  have hn68 : z_is b0 S90 (S65.2.2) 10 := by rw [e_S90]; exact hn68.new
  have hn72 : z_is b0 S90 (S69.2.2) 10 := by rw [e_S90]; exact hn72.new
  have hn76 : z_is b0 S90 (S73.2.2) 11 := by rw [e_S90]; exact hn76.new
  have hn80 : z_is b0 S90 (S77.2.2) 11 := by rw [e_S90]; exact hn80.new
  have hn84 : z_is b0 S90 (S81.2.2) 10 := by rw [e_S90]; exact hn84.new
  have hn88 : z_is b0 S90 (S85.2.2) 11 := by rw [e_S90]; exact hn88.new
  have hn92 : z_is b0 S90 S89.2.2 10 := by rw [e_S90]; exact z_is.fresh hb9 10 6400
  have hT : z_T b0 S90 := by rw [e_S90]; exact hT.new _ _
  have hE : z_Ext S S90 := by rw [e_S90]; exact hE.new _ _
  have hT9 := hT.upR (x := S89.2.2) (k := 19) h_x0 hn92
  have hE9 := hE.upR (a := x0) (k := 19) (x := some (S89.2.2))
  obtain ⟨S93, e_S93, hz⟩ := zlet_some hz
  have hT : z_T b0 S93 := by rw [e_S93]; exact hT9
  have hE : z_Ext S S93 := by rw [e_S93]; exact hE9
  have h_x0 : z_is b0 S93 (x0) 9 := by rw [e_S93]; exact h_x0.upR
  have hn4 : z_is b0 S93 (S.2.2) 10 := by rw [e_S93]; exact hn4.upR
  have hn8 : z_is b0 S93 (S5.2.2) 11 := by rw [e_S93]; exact hn8.upR
  have hn12 : z_is b0 S93 (S9.2.2) 10 := by rw [e_S93]; exact hn12.upR
  have hn32 : z_is b0 S93 (S29.2.2) 10 := by rw [e_S93]; exact hn32.upR
  have hn36 : z_is b0 S93 (S33.2.2) 10 := by rw [e_S93]; exact hn36.upR
  have hn40 : z_is b0 S93 (S37.2.2) 10 := by rw [e_S93]; exact hn40.upR
  have hn44 : z_is b0 S93 (S41.2.2) 10 := by rw [e_S93]; exact hn44.upR
  have hn48 : z_is b0 S93 (S45.2.2) 10 := by rw [e_S93]; exact hn48.upR
  have hn52 : z_is b0 S93 (S49.2.2) 10 := by rw [e_S93]; exact hn52.upR
  have hn56 : z_is b0 S93 (S53.2.2) 10 := by rw [e_S93]; exact hn56.upR
  have hn60 : z_is b0 S93 (S57.2.2) 10 := by rw [e_S93]; exact hn60.upR
  have hn64 : z_is b0 S93 (S61.2.2) 10 := by rw [e_S93]; exact hn64.upR
  have hn68 : z_is b0 S93 (S65.2.2) 10 := by rw [e_S93]; exact hn68.upR
  have hn72 : z_is b0 S93 (S69.2.2) 10 := by rw [e_S93]; exact hn72.upR
  have hn76 : z_is b0 S93 (S73.2.2) 11 := by rw [e_S93]; exact hn76.upR
  have hn80 : z_is b0 S93 (S77.2.2) 11 := by rw [e_S93]; exact hn80.upR
  have hn84 : z_is b0 S93 (S81.2.2) 10 := by rw [e_S93]; exact hn84.upR
  have hn88 : z_is b0 S93 (S85.2.2) 11 := by rw [e_S93]; exact hn88.upR
  have hn92 : z_is b0 S93 (S89.2.2) 10 := by rw [e_S93]; exact hn92.upR
  obtain ⟨S94, e_S94, hz⟩ := zlet_some hz
  obtain ⟨J95, e_J95, hz⟩ := zlet_some hz
  have hb9 : b0 ≤ S93.2.2 := Nat.le_of_lt (Nat.lt_of_le_of_lt h_x0.1 h_x0.2.1)
  have h_x0 : z_is b0 S94 (x0) 9 := by rw [e_S94]; exact h_x0.new
  have hn4 : z_is b0 S94 (S.2.2) 10 := by rw [e_S94]; exact hn4.new
  have hn8 : z_is b0 S94 (S5.2.2) 11 := by rw [e_S94]; exact hn8.new
  have hn12 : z_is b0 S94 (S9.2.2) 10 := by rw [e_S94]; exact hn12.new
  have hn32 : z_is b0 S94 (S29.2.2) 10 := by rw [e_S94]; exact hn32.new
  have hn36 : z_is b0 S94 (S33.2.2) 10 := by rw [e_S94]; exact hn36.new
  have hn40 : z_is b0 S94 (S37.2.2) 10 := by rw [e_S94]; exact hn40.new
  have hn44 : z_is b0 S94 (S41.2.2) 10 := by rw [e_S94]; exact hn44.new
  have hn48 : z_is b0 S94 (S45.2.2) 10 := by rw [e_S94]; exact hn48.new
  have hn52 : z_is b0 S94 (S49.2.2) 10 := by rw [e_S94]; exact hn52.new
  have hn56 : z_is b0 S94 (S53.2.2) 10 := by rw [e_S94]; exact hn56.new
  have hn60 : z_is b0 S94 (S57.2.2) 10 := by rw [e_S94]; exact hn60.new
  have hn64 : z_is b0 S94 (S61.2.2) 10 := by rw [e_S94]; exact hn64.new
  have hn68 : z_is b0 S94 (S65.2.2) 10 := by rw [e_S94]; exact hn68.new
  have hn72 : z_is b0 S94 (S69.2.2) 10 := by rw [e_S94]; exact hn72.new
  have hn76 : z_is b0 S94 (S73.2.2) 11 := by rw [e_S94]; exact hn76.new
  have hn80 : z_is b0 S94 (S77.2.2) 11 := by rw [e_S94]; exact hn80.new
  have hn84 : z_is b0 S94 (S81.2.2) 10 := by rw [e_S94]; exact hn84.new
  have hn88 : z_is b0 S94 (S85.2.2) 11 := by rw [e_S94]; exact hn88.new
  have hn92 : z_is b0 S94 (S89.2.2) 10 := by rw [e_S94]; exact hn92.new
  have hn96 : z_is b0 S94 S93.2.2 10 := by rw [e_S94]; exact z_is.fresh hb9 10 20
  have hT : z_T b0 S94 := by rw [e_S94]; exact hT.new _ _
  have hE : z_Ext S S94 := by rw [e_S94]; exact hE.new _ _
  have hT9 := hT.upR (x := S93.2.2) (k := 22) h_x0 hn96
  have hE9 := hE.upR (a := x0) (k := 22) (x := some (S93.2.2))
  obtain ⟨S97, e_S97, hz⟩ := zlet_some hz
  have hT : z_T b0 S97 := by rw [e_S97]; exact hT9
  have hE : z_Ext S S97 := by rw [e_S97]; exact hE9
  have h_x0 : z_is b0 S97 (x0) 9 := by rw [e_S97]; exact h_x0.upR
  have hn4 : z_is b0 S97 (S.2.2) 10 := by rw [e_S97]; exact hn4.upR
  have hn8 : z_is b0 S97 (S5.2.2) 11 := by rw [e_S97]; exact hn8.upR
  have hn12 : z_is b0 S97 (S9.2.2) 10 := by rw [e_S97]; exact hn12.upR
  have hn32 : z_is b0 S97 (S29.2.2) 10 := by rw [e_S97]; exact hn32.upR
  have hn36 : z_is b0 S97 (S33.2.2) 10 := by rw [e_S97]; exact hn36.upR
  have hn40 : z_is b0 S97 (S37.2.2) 10 := by rw [e_S97]; exact hn40.upR
  have hn44 : z_is b0 S97 (S41.2.2) 10 := by rw [e_S97]; exact hn44.upR
  have hn48 : z_is b0 S97 (S45.2.2) 10 := by rw [e_S97]; exact hn48.upR
  have hn52 : z_is b0 S97 (S49.2.2) 10 := by rw [e_S97]; exact hn52.upR
  have hn56 : z_is b0 S97 (S53.2.2) 10 := by rw [e_S97]; exact hn56.upR
  have hn60 : z_is b0 S97 (S57.2.2) 10 := by rw [e_S97]; exact hn60.upR
  have hn64 : z_is b0 S97 (S61.2.2) 10 := by rw [e_S97]; exact hn64.upR
  have hn68 : z_is b0 S97 (S65.2.2) 10 := by rw [e_S97]; exact hn68.upR
  have hn72 : z_is b0 S97 (S69.2.2) 10 := by rw [e_S97]; exact hn72.upR
  have hn76 : z_is b0 S97 (S73.2.2) 11 := by rw [e_S97]; exact hn76.upR
  have hn80 : z_is b0 S97 (S77.2.2) 11 := by rw [e_S97]; exact hn80.upR
  have hn84 : z_is b0 S97 (S81.2.2) 10 := by rw [e_S97]; exact hn84.upR
  have hn88 : z_is b0 S97 (S85.2.2) 11 := by rw [e_S97]; exact hn88.upR
  have hn92 : z_is b0 S97 (S89.2.2) 10 := by rw [e_S97]; exact hn92.upR
  have hn96 : z_is b0 S97 (S93.2.2) 10 := by rw [e_S97]; exact hn96.upR
  obtain ⟨S98, e_S98, hz⟩ := zlet_some hz
  obtain ⟨J99, e_J99, hz⟩ := zlet_some hz
  have hb9 : b0 ≤ S97.2.2 := Nat.le_of_lt (Nat.lt_of_le_of_lt h_x0.1 h_x0.2.1)
  have h_x0 : z_is b0 S98 (x0) 9 := by rw [e_S98]; exact h_x0.new
  have hn4 : z_is b0 S98 (S.2.2) 10 := by rw [e_S98]; exact hn4.new
  have hn8 : z_is b0 S98 (S5.2.2) 11 := by rw [e_S98]; exact hn8.new
  have hn12 : z_is b0 S98 (S9.2.2) 10 := by rw [e_S98]; exact hn12.new
  have hn32 : z_is b0 S98 (S29.2.2) 10 := by rw [e_S98]; exact hn32.new
  have hn36 : z_is b0 S98 (S33.2.2) 10 := by rw [e_S98]; exact hn36.new
  have hn40 : z_is b0 S98 (S37.2.2) 10 := by rw [e_S98]; exact hn40.new
  have hn44 : z_is b0 S98 (S41.2.2) 10 := by rw [e_S98]; exact hn44.new
  have hn48 : z_is b0 S98 (S45.2.2) 10 := by rw [e_S98]; exact hn48.new
  have hn52 : z_is b0 S98 (S49.2.2) 10 := by rw [e_S98]; exact hn52.new
  have hn56 : z_is b0 S98 (S53.2.2) 10 := by rw [e_S98]; exact hn56.new
  have hn60 : z_is b0 S98 (S57.2.2) 10 := by rw [e_S98]; exact hn60.new
  have hn64 : z_is b0 S98 (S61.2.2) 10 := by rw [e_S98]; exact hn64.new
  have hn68 : z_is b0 S98 (S65.2.2) 10 := by rw [e_S98]; exact hn68.new
  have hn72 : z_is b0 S98 (S69.2.2) 10 := by rw [e_S98]; exact hn72.new
  have hn76 : z_is b0 S98 (S73.2.2) 11 := by rw [e_S98]; exact hn76.new
  have hn80 : z_is b0 S98 (S77.2.2) 11 := by rw [e_S98]; exact hn80.new
  have hn84 : z_is b0 S98 (S81.2.2) 10 := by rw [e_S98]; exact hn84.new
  have hn88 : z_is b0 S98 (S85.2.2) 11 := by rw [e_S98]; exact hn88.new
  have hn92 : z_is b0 S98 (S89.2.2) 10 := by rw [e_S98]; exact hn92.new
  have hn96 : z_is b0 S98 (S93.2.2) 10 := by rw [e_S98]; exact hn96.new
  have hn100 : z_is b0 S98 S97.2.2 10 := by rw [e_S98]; exact z_is.fresh hb9 10 20
  have hT : z_T b0 S98 := by rw [e_S98]; exact hT.new _ _
  have hE : z_Ext S S98 := by rw [e_S98]; exact hE.new _ _
  have hT9 := hT.upR (x := S97.2.2) (k := 23) h_x0 hn100
  have hE9 := hE.upR (a := x0) (k := 23) (x := some (S97.2.2))
  obtain ⟨S101, e_S101, hz⟩ := zlet_some hz
  have hT : z_T b0 S101 := by rw [e_S101]; exact hT9
  have hE : z_Ext S S101 := by rw [e_S101]; exact hE9
  have h_x0 : z_is b0 S101 (x0) 9 := by rw [e_S101]; exact h_x0.upR
  have hn4 : z_is b0 S101 (S.2.2) 10 := by rw [e_S101]; exact hn4.upR
  have hn8 : z_is b0 S101 (S5.2.2) 11 := by rw [e_S101]; exact hn8.upR
  have hn12 : z_is b0 S101 (S9.2.2) 10 := by rw [e_S101]; exact hn12.upR
  have hn32 : z_is b0 S101 (S29.2.2) 10 := by rw [e_S101]; exact hn32.upR
  have hn36 : z_is b0 S101 (S33.2.2) 10 := by rw [e_S101]; exact hn36.upR
  have hn40 : z_is b0 S101 (S37.2.2) 10 := by rw [e_S101]; exact hn40.upR
  have hn44 : z_is b0 S101 (S41.2.2) 10 := by rw [e_S101]; exact hn44.upR
  have hn48 : z_is b0 S101 (S45.2.2) 10 := by rw [e_S101]; exact hn48.upR
  have hn52 : z_is b0 S101 (S49.2.2) 10 := by rw [e_S101]; exact hn52.upR
  have hn56 : z_is b0 S101 (S53.2.2) 10 := by rw [e_S101]; exact hn56.upR
  have hn60 : z_is b0 S101 (S57.2.2) 10 := by rw [e_S101]; exact hn60.upR
  have hn64 : z_is b0 S101 (S61.2.2) 10 := by rw [e_S101]; exact hn64.upR
  have hn68 : z_is b0 S101 (S65.2.2) 10 := by rw [e_S101]; exact hn68.upR
  have hn72 : z_is b0 S101 (S69.2.2) 10 := by rw [e_S101]; exact hn72.upR
  have hn76 : z_is b0 S101 (S73.2.2) 11 := by rw [e_S101]; exact hn76.upR
  have hn80 : z_is b0 S101 (S77.2.2) 11 := by rw [e_S101]; exact hn80.upR
  have hn84 : z_is b0 S101 (S81.2.2) 10 := by rw [e_S101]; exact hn84.upR
  have hn88 : z_is b0 S101 (S85.2.2) 11 := by rw [e_S101]; exact hn88.upR
  have hn92 : z_is b0 S101 (S89.2.2) 10 := by rw [e_S101]; exact hn92.upR
  have hn96 : z_is b0 S101 (S93.2.2) 10 := by rw [e_S101]; exact hn96.upR
  have hn100 : z_is b0 S101 (S97.2.2) 10 := by rw [e_S101]; exact hn100.upR
  obtain ⟨S102, e_S102, hz⟩ := zlet_some hz
  obtain ⟨J103, e_J103, hz⟩ := zlet_some hz
  have hb9 : b0 ≤ S101.2.2 := Nat.le_of_lt (Nat.lt_of_le_of_lt h_x0.1 h_x0.2.1)
  have h_x0 : z_is b0 S102 (x0) 9 := by rw [e_S102]; exact h_x0.new
  have hn4 : z_is b0 S102 (S.2.2) 10 := by rw [e_S102]; exact hn4.new
  have hn8 : z_is b0 S102 (S5.2.2) 11 := by rw [e_S102]; exact hn8.new
  have hn12 : z_is b0 S102 (S9.2.2) 10 := by rw [e_S102]; exact hn12.new
  have hn32 : z_is b0 S102 (S29.2.2) 10 := by rw [e_S102]; exact hn32.new
  have hn36 : z_is b0 S102 (S33.2.2) 10 := by rw [e_S102]; exact hn36.new
  have hn40 : z_is b0 S102 (S37.2.2) 10 := by rw [e_S102]; exact hn40.new
  have hn44 : z_is b0 S102 (S41.2.2) 10 := by rw [e_S102]; exact hn44.new
  have hn48 : z_is b0 S102 (S45.2.2) 10 := by rw [e_S102]; exact hn48.new
  have hn52 : z_is b0 S102 (S49.2.2) 10 := by rw [e_S102]; exact hn52.new
  have hn56 : z_is b0 S102 (S53.2.2) 10 := by rw [e_S102]; exact hn56.new
  have hn60 : z_is b0 S102 (S57.2.2) 10 := by rw [e_S102]; exact hn60.new
  have hn64 : z_is b0 S102 (S61.2.2) 10 := by rw [e_S102]; exact hn64.new
  have hn68 : z_is b0 S102 (S65.2.2) 10 := by rw [e_S102]; exact hn68.new
  have hn72 : z_is b0 S102 (S69.2.2) 10 := by rw [e_S102]; exact hn72.new
  have hn76 : z_is b0 S102 (S73.2.2) 11 := by rw [e_S102]; exact hn76.new
  have hn80 : z_is b0 S102 (S77.2.2) 11 := by rw [e_S102]; exact hn80.new
  have hn84 : z_is b0 S102 (S81.2.2) 10 := by rw [e_S102]; exact hn84.new
  have hn88 : z_is b0 S102 (S85.2.2) 11 := by rw [e_S102]; exact hn88.new
  have hn92 : z_is b0 S102 (S89.2.2) 10 := by rw [e_S102]; exact hn92.new
  have hn96 : z_is b0 S102 (S93.2.2) 10 := by rw [e_S102]; exact hn96.new
  have hn100 : z_is b0 S102 (S97.2.2) 10 := by rw [e_S102]; exact hn100.new
  have hn104 : z_is b0 S102 S101.2.2 11 := by rw [e_S102]; exact z_is.fresh hb9 11 40
  have hT : z_T b0 S102 := by rw [e_S102]; exact hT.new _ _
  have hE : z_Ext S S102 := by rw [e_S102]; exact hE.new _ _
  have hT9 := hT.upR (x := S101.2.2) (k := 25) h_x0 hn104
  have hE9 := hE.upR (a := x0) (k := 25) (x := some (S101.2.2))
  obtain ⟨S105, e_S105, hz⟩ := zlet_some hz
  have hT : z_T b0 S105 := by rw [e_S105]; exact hT9
  have hE : z_Ext S S105 := by rw [e_S105]; exact hE9
  have h_x0 : z_is b0 S105 (x0) 9 := by rw [e_S105]; exact h_x0.upR
  have hn4 : z_is b0 S105 (S.2.2) 10 := by rw [e_S105]; exact hn4.upR
  have hn8 : z_is b0 S105 (S5.2.2) 11 := by rw [e_S105]; exact hn8.upR
  have hn12 : z_is b0 S105 (S9.2.2) 10 := by rw [e_S105]; exact hn12.upR
  have hn32 : z_is b0 S105 (S29.2.2) 10 := by rw [e_S105]; exact hn32.upR
  have hn36 : z_is b0 S105 (S33.2.2) 10 := by rw [e_S105]; exact hn36.upR
  have hn40 : z_is b0 S105 (S37.2.2) 10 := by rw [e_S105]; exact hn40.upR
  have hn44 : z_is b0 S105 (S41.2.2) 10 := by rw [e_S105]; exact hn44.upR
  have hn48 : z_is b0 S105 (S45.2.2) 10 := by rw [e_S105]; exact hn48.upR
  have hn52 : z_is b0 S105 (S49.2.2) 10 := by rw [e_S105]; exact hn52.upR
  have hn56 : z_is b0 S105 (S53.2.2) 10 := by rw [e_S105]; exact hn56.upR
  have hn60 : z_is b0 S105 (S57.2.2) 10 := by rw [e_S105]; exact hn60.upR
  have hn64 : z_is b0 S105 (S61.2.2) 10 := by rw [e_S105]; exact hn64.upR
  have hn68 : z_is b0 S105 (S65.2.2) 10 := by rw [e_S105]; exact hn68.upR
  have hn72 : z_is b0 S105 (S69.2.2) 10 := by rw [e_S105]; exact hn72.upR
  have hn76 : z_is b0 S105 (S73.2.2) 11 := by rw [e_S105]; exact hn76.upR
  have hn80 : z_is b0 S105 (S77.2.2) 11 := by rw [e_S105]; exact hn80.upR
  have hn84 : z_is b0 S105 (S81.2.2) 10 := by rw [e_S105]; exact hn84.upR
  have hn88 : z_is b0 S105 (S85.2.2) 11 := by rw [e_S105]; exact hn88.upR
  have hn92 : z_is b0 S105 (S89.2.2) 10 := by rw [e_S105]; exact hn92.upR
  have hn96 : z_is b0 S105 (S93.2.2) 10 := by rw [e_S105]; exact hn96.upR
  have hn100 : z_is b0 S105 (S97.2.2) 10 := by rw [e_S105]; exact hn100.upR
  have hn104 : z_is b0 S105 (S101.2.2) 11 := by rw [e_S105]; exact hn104.upR
  obtain ⟨S106, e_S106, hz⟩ := zlet_some hz
  obtain ⟨J107, e_J107, hz⟩ := zlet_some hz
  have hb9 : b0 ≤ S105.2.2 := Nat.le_of_lt (Nat.lt_of_le_of_lt h_x0.1 h_x0.2.1)
  have h_x0 : z_is b0 S106 (x0) 9 := by rw [e_S106]; exact h_x0.new
  have hn4 : z_is b0 S106 (S.2.2) 10 := by rw [e_S106]; exact hn4.new
  have hn8 : z_is b0 S106 (S5.2.2) 11 := by rw [e_S106]; exact hn8.new
  have hn12 : z_is b0 S106 (S9.2.2) 10 := by rw [e_S106]; exact hn12.new
  have hn32 : z_is b0 S106 (S29.2.2) 10 := by rw [e_S106]; exact hn32.new
  have hn36 : z_is b0 S106 (S33.2.2) 10 := by rw [e_S106]; exact hn36.new
  have hn40 : z_is b0 S106 (S37.2.2) 10 := by rw [e_S106]; exact hn40.new
  have hn44 : z_is b0 S106 (S41.2.2) 10 := by rw [e_S106]; exact hn44.new
  have hn48 : z_is b0 S106 (S45.2.2) 10 := by rw [e_S106]; exact hn48.new
  have hn52 : z_is b0 S106 (S49.2.2) 10 := by rw [e_S106]; exact hn52.new
  have hn56 : z_is b0 S106 (S53.2.2) 10 := by rw [e_S106]; exact hn56.new
  have hn60 : z_is b0 S106 (S57.2.2) 10 := by rw [e_S106]; exact hn60.new
  have hn64 : z_is b0 S106 (S61.2.2) 10 := by rw [e_S106]; exact hn64.new
  have hn68 : z_is b0 S106 (S65.2.2) 10 := by rw [e_S106]; exact hn68.new
  have hn72 : z_is b0 S106 (S69.2.2) 10 := by rw [e_S106]; exact hn72.new
  have hn76 : z_is b0 S106 (S73.2.2) 11 := by rw [e_S106]; exact hn76.new
  have hn80 : z_is b0 S106 (S77.2.2) 11 := by rw [e_S106]; exact hn80.new
  have hn84 : z_is b0 S106 (S81.2.2) 10 := by rw [e_S106]; exact hn84.new
  have hn88 : z_is b0 S106 (S85.2.2) 11 := by rw [e_S106]; exact hn88.new
  have hn92 : z_is b0 S106 (S89.2.2) 10 := by rw [e_S106]; exact hn92.new
  have hn96 : z_is b0 S106 (S93.2.2) 10 := by rw [e_S106]; exact hn96.new
  have hn100 : z_is b0 S106 (S97.2.2) 10 := by rw [e_S106]; exact hn100.new
  have hn104 : z_is b0 S106 (S101.2.2) 11 := by rw [e_S106]; exact hn104.new
  have hn108 : z_is b0 S106 S105.2.2 10 := by rw [e_S106]; exact z_is.fresh hb9 10 20
  have hT : z_T b0 S106 := by rw [e_S106]; exact hT.new _ _
  have hE : z_Ext S S106 := by rw [e_S106]; exact hE.new _ _
  have hT9 := hT.upR (x := S105.2.2) (k := 26) h_x0 hn108
  have hE9 := hE.upR (a := x0) (k := 26) (x := some (S105.2.2))
  obtain ⟨S109, e_S109, hz⟩ := zlet_some hz
  have hT : z_T b0 S109 := by rw [e_S109]; exact hT9
  have hE : z_Ext S S109 := by rw [e_S109]; exact hE9
  have h_x0 : z_is b0 S109 (x0) 9 := by rw [e_S109]; exact h_x0.upR
  have hn4 : z_is b0 S109 (S.2.2) 10 := by rw [e_S109]; exact hn4.upR
  have hn8 : z_is b0 S109 (S5.2.2) 11 := by rw [e_S109]; exact hn8.upR
  have hn12 : z_is b0 S109 (S9.2.2) 10 := by rw [e_S109]; exact hn12.upR
  have hn32 : z_is b0 S109 (S29.2.2) 10 := by rw [e_S109]; exact hn32.upR
  have hn36 : z_is b0 S109 (S33.2.2) 10 := by rw [e_S109]; exact hn36.upR
  have hn40 : z_is b0 S109 (S37.2.2) 10 := by rw [e_S109]; exact hn40.upR
  have hn44 : z_is b0 S109 (S41.2.2) 10 := by rw [e_S109]; exact hn44.upR
  have hn48 : z_is b0 S109 (S45.2.2) 10 := by rw [e_S109]; exact hn48.upR
  have hn52 : z_is b0 S109 (S49.2.2) 10 := by rw [e_S109]; exact hn52.upR
  have hn56 : z_is b0 S109 (S53.2.2) 10 := by rw [e_S109]; exact hn56.upR
  have hn60 : z_is b0 S109 (S57.2.2) 10 := by rw [e_S109]; exact hn60.upR
  have hn64 : z_is b0 S109 (S61.2.2) 10 := by rw [e_S109]; exact hn64.upR
  have hn68 : z_is b0 S109 (S65.2.2) 10 := by rw [e_S109]; exact hn68.upR
  have hn72 : z_is b0 S109 (S69.2.2) 10 := by rw [e_S109]; exact hn72.upR
  have hn76 : z_is b0 S109 (S73.2.2) 11 := by rw [e_S109]; exact hn76.upR
  have hn80 : z_is b0 S109 (S77.2.2) 11 := by rw [e_S109]; exact hn80.upR
  have hn84 : z_is b0 S109 (S81.2.2) 10 := by rw [e_S109]; exact hn84.upR
  have hn88 : z_is b0 S109 (S85.2.2) 11 := by rw [e_S109]; exact hn88.upR
  have hn92 : z_is b0 S109 (S89.2.2) 10 := by rw [e_S109]; exact hn92.upR
  have hn96 : z_is b0 S109 (S93.2.2) 10 := by rw [e_S109]; exact hn96.upR
  have hn100 : z_is b0 S109 (S97.2.2) 10 := by rw [e_S109]; exact hn100.upR
  have hn104 : z_is b0 S109 (S101.2.2) 11 := by rw [e_S109]; exact hn104.upR
  have hn108 : z_is b0 S109 (S105.2.2) 10 := by rw [e_S109]; exact hn108.upR
  obtain ⟨S110, e_S110, hz⟩ := zlet_some hz
  obtain ⟨J111, e_J111, hz⟩ := zlet_some hz
  have hb9 : b0 ≤ S109.2.2 := Nat.le_of_lt (Nat.lt_of_le_of_lt h_x0.1 h_x0.2.1)
  have h_x0 : z_is b0 S110 (x0) 9 := by rw [e_S110]; exact h_x0.new
  have hn4 : z_is b0 S110 (S.2.2) 10 := by rw [e_S110]; exact hn4.new
  have hn8 : z_is b0 S110 (S5.2.2) 11 := by rw [e_S110]; exact hn8.new
  have hn12 : z_is b0 S110 (S9.2.2) 10 := by rw [e_S110]; exact hn12.new
  have hn32 : z_is b0 S110 (S29.2.2) 10 := by rw [e_S110]; exact hn32.new
  have hn36 : z_is b0 S110 (S33.2.2) 10 := by rw [e_S110]; exact hn36.new
  have hn40 : z_is b0 S110 (S37.2.2) 10 := by rw [e_S110]; exact hn40.new
  have hn44 : z_is b0 S110 (S41.2.2) 10 := by rw [e_S110]; exact hn44.new
  have hn48 : z_is b0 S110 (S45.2.2) 10 := by rw [e_S110]; exact hn48.new
  have hn52 : z_is b0 S110 (S49.2.2) 10 := by rw [e_S110]; exact hn52.new
  have hn56 : z_is b0 S110 (S53.2.2) 10 := by rw [e_S110]; exact hn56.new
  have hn60 : z_is b0 S110 (S57.2.2) 10 := by rw [e_S110]; exact hn60.new
  have hn64 : z_is b0 S110 (S61.2.2) 10 := by rw [e_S110]; exact hn64.new
  have hn68 : z_is b0 S110 (S65.2.2) 10 := by rw [e_S110]; exact hn68.new
  have hn72 : z_is b0 S110 (S69.2.2) 10 := by rw [e_S110]; exact hn72.new
  have hn76 : z_is b0 S110 (S73.2.2) 11 := by rw [e_S110]; exact hn76.new
  have hn80 : z_is b0 S110 (S77.2.2) 11 := by rw [e_S110]; exact hn80.new
  have hn84 : z_is b0 S110 (S81.2.2) 10 := by rw [e_S110]; exact hn84.new
  have hn88 : z_is b0 S110 (S85.2.2) 11 := by rw [e_S110]; exact hn88.new
  have hn92 : z_is b0 S110 (S89.2.2) 10 := by rw [e_S110]; exact hn92.new
  have hn96 : z_is b0 S110 (S93.2.2) 10 := by rw [e_S110]; exact hn96.new
  have hn100 : z_is b0 S110 (S97.2.2) 10 := by rw [e_S110]; exact hn100.new
  have hn104 : z_is b0 S110 (S101.2.2) 11 := by rw [e_S110]; exact hn104.new
  have hn108 : z_is b0 S110 (S105.2.2) 10 := by rw [e_S110]; exact hn108.new
  have hn112 : z_is b0 S110 S109.2.2 10 := by rw [e_S110]; exact z_is.fresh hb9 10 8
  have hT : z_T b0 S110 := by rw [e_S110]; exact hT.new _ _
  have hE : z_Ext S S110 := by rw [e_S110]; exact hE.new _ _
  have hT9 := hT.upR (x := S109.2.2) (k := 27) h_x0 hn112
  have hE9 := hE.upR (a := x0) (k := 27) (x := some (S109.2.2))
  obtain ⟨S113, e_S113, hz⟩ := zlet_some hz
  have hT : z_T b0 S113 := by rw [e_S113]; exact hT9
  have hE : z_Ext S S113 := by rw [e_S113]; exact hE9
  have h_x0 : z_is b0 S113 (x0) 9 := by rw [e_S113]; exact h_x0.upR
  have hn4 : z_is b0 S113 (S.2.2) 10 := by rw [e_S113]; exact hn4.upR
  have hn8 : z_is b0 S113 (S5.2.2) 11 := by rw [e_S113]; exact hn8.upR
  have hn12 : z_is b0 S113 (S9.2.2) 10 := by rw [e_S113]; exact hn12.upR
  have hn32 : z_is b0 S113 (S29.2.2) 10 := by rw [e_S113]; exact hn32.upR
  have hn36 : z_is b0 S113 (S33.2.2) 10 := by rw [e_S113]; exact hn36.upR
  have hn40 : z_is b0 S113 (S37.2.2) 10 := by rw [e_S113]; exact hn40.upR
  have hn44 : z_is b0 S113 (S41.2.2) 10 := by rw [e_S113]; exact hn44.upR
  have hn48 : z_is b0 S113 (S45.2.2) 10 := by rw [e_S113]; exact hn48.upR
  have hn52 : z_is b0 S113 (S49.2.2) 10 := by rw [e_S113]; exact hn52.upR
  have hn56 : z_is b0 S113 (S53.2.2) 10 := by rw [e_S113]; exact hn56.upR
  have hn60 : z_is b0 S113 (S57.2.2) 10 := by rw [e_S113]; exact hn60.upR
  have hn64 : z_is b0 S113 (S61.2.2) 10 := by rw [e_S113]; exact hn64.upR
  have hn68 : z_is b0 S113 (S65.2.2) 10 := by rw [e_S113]; exact hn68.upR
  have hn72 : z_is b0 S113 (S69.2.2) 10 := by rw [e_S113]; exact hn72.upR
  have hn76 : z_is b0 S113 (S73.2.2) 11 := by rw [e_S113]; exact hn76.upR
  have hn80 : z_is b0 S113 (S77.2.2) 11 := by rw [e_S113]; exact hn80.upR
  have hn84 : z_is b0 S113 (S81.2.2) 10 := by rw [e_S113]; exact hn84.upR
  have hn88 : z_is b0 S113 (S85.2.2) 11 := by rw [e_S113]; exact hn88.upR
  have hn92 : z_is b0 S113 (S89.2.2) 10 := by rw [e_S113]; exact hn92.upR
  have hn96 : z_is b0 S113 (S93.2.2) 10 := by rw [e_S113]; exact hn96.upR
  have hn100 : z_is b0 S113 (S97.2.2) 10 := by rw [e_S113]; exact hn100.upR
  have hn104 : z_is b0 S113 (S101.2.2) 11 := by rw [e_S113]; exact hn104.upR
  have hn108 : z_is b0 S113 (S105.2.2) 10 := by rw [e_S113]; exact hn108.upR
  have hn112 : z_is b0 S113 (S109.2.2) 10 := by rw [e_S113]; exact hn112.upR
  obtain ⟨S114, e_S114, hz⟩ := zlet_some hz
  obtain ⟨J115, e_J115, hz⟩ := zlet_some hz
  have hb9 : b0 ≤ S113.2.2 := Nat.le_of_lt (Nat.lt_of_le_of_lt h_x0.1 h_x0.2.1)
  have h_x0 : z_is b0 S114 (x0) 9 := by rw [e_S114]; exact h_x0.new
  have hn4 : z_is b0 S114 (S.2.2) 10 := by rw [e_S114]; exact hn4.new
  have hn8 : z_is b0 S114 (S5.2.2) 11 := by rw [e_S114]; exact hn8.new
  have hn12 : z_is b0 S114 (S9.2.2) 10 := by rw [e_S114]; exact hn12.new
  have hn32 : z_is b0 S114 (S29.2.2) 10 := by rw [e_S114]; exact hn32.new
  have hn36 : z_is b0 S114 (S33.2.2) 10 := by rw [e_S114]; exact hn36.new
  have hn40 : z_is b0 S114 (S37.2.2) 10 := by rw [e_S114]; exact hn40.new
  have hn44 : z_is b0 S114 (S41.2.2) 10 := by rw [e_S114]; exact hn44.new
  have hn48 : z_is b0 S114 (S45.2.2) 10 := by rw [e_S114]; exact hn48.new
  have hn52 : z_is b0 S114 (S49.2.2) 10 := by rw [e_S114]; exact hn52.new
  have hn56 : z_is b0 S114 (S53.2.2) 10 := by rw [e_S114]; exact hn56.new
  have hn60 : z_is b0 S114 (S57.2.2) 10 := by rw [e_S114]; exact hn60.new
  have hn64 : z_is b0 S114 (S61.2.2) 10 := by rw [e_S114]; exact hn64.new
  have hn68 : z_is b0 S114 (S65.2.2) 10 := by rw [e_S114]; exact hn68.new
  have hn72 : z_is b0 S114 (S69.2.2) 10 := by rw [e_S114]; exact hn72.new
  have hn76 : z_is b0 S114 (S73.2.2) 11 := by rw [e_S114]; exact hn76.new
  have hn80 : z_is b0 S114 (S77.2.2) 11 := by rw [e_S114]; exact hn80.new
  have hn84 : z_is b0 S114 (S81.2.2) 10 := by rw [e_S114]; exact hn84.new
  have hn88 : z_is b0 S114 (S85.2.2) 11 := by rw [e_S114]; exact hn88.new
  have hn92 : z_is b0 S114 (S89.2.2) 10 := by rw [e_S114]; exact hn92.new
  have hn96 : z_is b0 S114 (S93.2.2) 10 := by rw [e_S114]; exact hn96.new
  have hn100 : z_is b0 S114 (S97.2.2) 10 := by rw [e_S114]; exact hn100.new
  have hn104 : z_is b0 S114 (S101.2.2) 11 := by rw [e_S114]; exact hn104.new
  have hn108 : z_is b0 S114 (S105.2.2) 10 := by rw [e_S114]; exact hn108.new
  have hn112 : z_is b0 S114 (S109.2.2) 10 := by rw [e_S114]; exact hn112.new
  have hn116 : z_is b0 S114 S113.2.2 10 := by rw [e_S114]; exact z_is.fresh hb9 10 8
  have hT : z_T b0 S114 := by rw [e_S114]; exact hT.new _ _
  have hE : z_Ext S S114 := by rw [e_S114]; exact hE.new _ _
  have hT9 := hT.upR (x := S113.2.2) (k := 28) h_x0 hn116
  have hE9 := hE.upR (a := x0) (k := 28) (x := some (S113.2.2))
  obtain ⟨S117, e_S117, hz⟩ := zlet_some hz
  have hT : z_T b0 S117 := by rw [e_S117]; exact hT9
  have hE : z_Ext S S117 := by rw [e_S117]; exact hE9
  have h_x0 : z_is b0 S117 (x0) 9 := by rw [e_S117]; exact h_x0.upR
  have hn4 : z_is b0 S117 (S.2.2) 10 := by rw [e_S117]; exact hn4.upR
  have hn8 : z_is b0 S117 (S5.2.2) 11 := by rw [e_S117]; exact hn8.upR
  have hn12 : z_is b0 S117 (S9.2.2) 10 := by rw [e_S117]; exact hn12.upR
  have hn32 : z_is b0 S117 (S29.2.2) 10 := by rw [e_S117]; exact hn32.upR
  have hn36 : z_is b0 S117 (S33.2.2) 10 := by rw [e_S117]; exact hn36.upR
  have hn40 : z_is b0 S117 (S37.2.2) 10 := by rw [e_S117]; exact hn40.upR
  have hn44 : z_is b0 S117 (S41.2.2) 10 := by rw [e_S117]; exact hn44.upR
  have hn48 : z_is b0 S117 (S45.2.2) 10 := by rw [e_S117]; exact hn48.upR
  have hn52 : z_is b0 S117 (S49.2.2) 10 := by rw [e_S117]; exact hn52.upR
  have hn56 : z_is b0 S117 (S53.2.2) 10 := by rw [e_S117]; exact hn56.upR
  have hn60 : z_is b0 S117 (S57.2.2) 10 := by rw [e_S117]; exact hn60.upR
  have hn64 : z_is b0 S117 (S61.2.2) 10 := by rw [e_S117]; exact hn64.upR
  have hn68 : z_is b0 S117 (S65.2.2) 10 := by rw [e_S117]; exact hn68.upR
  have hn72 : z_is b0 S117 (S69.2.2) 10 := by rw [e_S117]; exact hn72.upR
  have hn76 : z_is b0 S117 (S73.2.2) 11 := by rw [e_S117]; exact hn76.upR
  have hn80 : z_is b0 S117 (S77.2.2) 11 := by rw [e_S117]; exact hn80.upR
  have hn84 : z_is b0 S117 (S81.2.2) 10 := by rw [e_S117]; exact hn84.upR
  have hn88 : z_is b0 S117 (S85.2.2) 11 := by rw [e_S117]; exact hn88.upR
  have hn92 : z_is b0 S117 (S89.2.2) 10 := by rw [e_S117]; exact hn92.upR
  have hn96 : z_is b0 S117 (S93.2.2) 10 := by rw [e_S117]; exact hn96.upR
  have hn100 : z_is b0 S117 (S97.2.2) 10 := by rw [e_S117]; exact hn100.upR
  have hn104 : z_is b0 S117 (S101.2.2) 11 := by rw [e_S117]; exact hn104.upR
  have hn108 : z_is b0 S117 (S105.2.2) 10 := by rw [e_S117]; exact hn108.upR
  have hn112 : z_is b0 S117 (S109.2.2) 10 := by rw [e_S117]; exact hn112.upR
  have hn116 : z_is b0 S117 (S113.2.2) 10 := by rw [e_S117]; exact hn116.upR
  obtain rfl := Option.some.inj hz
  exact ⟨hT, hE⟩
