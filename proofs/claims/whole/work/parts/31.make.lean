theorem zy_X5_addAct : z_y yX5_addAct cX5_addAct 5 (some .int) 3 := ⟨kw_286, kw_3, by decide +kernel, by decide +kernel, by decide +kernel⟩
theorem zv_X5_addAct : Cond.instanceMethod yX5_addAct ∈ z_tbl ∧ Cond.selects RX5 yX5_addAct yX5_addAct ∈ z_tbl := ⟨kw_284, kw_285⟩
def z_X5_addAct_48 (F : Nat)  (x0 : Nat) (x1 : Int32) (x2 : Int32) (x3 : Int32) (x4 : Nat) (S : zS) (I : zI) : Option (Int32 × zS × zI) :=
  ob (z_X0_tell F S I x4 x1 x2 x3) (fun q1 => zlet (z_up q1 x0 3 ((q1 x0 3) + 1)) (fun J2 => zlet (z_up J2 x0 7 0) (fun J3 => some ((J3 x0 3) - 1, S, J3))))
def z_X5_addAct (F : Nat) (S : zS) (I : zI) (x0 : Nat) (x1 : Int32) (x2 : Int32) (x3 : Int32) : Option (Int32 × zS × zI) :=
  if (I x0 3) < 40 then (ob (S.1 x0 0) (fun r1 => if (I x0 3) < 0 ∨ (S.2.1 r1).2 ≤ (I x0 3).toNatClampNeg then none else (ob2 (S.1 r1 (I x0 3).toNatClampNeg) (zlet (z_new S 0 0) (fun S4 => zlet (z_newI S I) (fun J5 => ob (z_X0_init F S4 J5 (S.2.2)) (fun q7 => ob (q7.1.1 x0 0) (fun r8 => if ((q7.2) x0 3) < 0 ∨ (q7.1.2.1 r8).2 ≤ ((q7.2) x0 3).toNatClampNeg then none else (zlet (z_upR q7.1 r8 ((q7.2) x0 3).toNatClampNeg (some (S.2.2))) (fun S10 => z_X5_addAct_48 F  (x0) (x1) (x2) (x3) (S.2.2) (S10) (q7.2)))))))) (fun r3 => z_X5_addAct_48 F  (x0) (x1) (x2) (x3) (r3) (S) (I))))) else (some ((-2), S, I))
set_option maxRecDepth 100000 in
set_option maxHeartbeats 4000000 in
theorem b_X5_addAct_48 {p : Program} {l : Launch} {e : Env} {s : State} {m : MethodId} {args : Array Value} {below : List Frame} {meth : Method} {c : Code} {D : zD} {b0 : Nat} {F : Nat} {X : Int32 × zS × zI} (hC : z_C p s m args meth c cX5_addAct RX5 5 (some .int) D)   (x0 : Nat) (x1 : Int32) (x2 : Int32) (x3 : Int32) (x4 : Nat) (S : zS) (I : zI) (hT : z_T b0 S) (h_x0 : z_is b0 S x0 5) (h_x4 : z_is b0 S x4 0) (hz : z_X5_addAct_48 F  x0 x1 x2 x3 x4 S I = some X) (ls : Array Slot) (hl : lv_has ls 5 [(0, .ref (x0)), (1, .int (x1)), (2, .int (x2)), (3, .int (x3)), (4, .ref (x4))]) : z_W p l e { frames := 3, cells := 7, slots := 50, locals := 80 } s m args below meth c D b0 S I 7 50 (MQ below (z_Q D b0 (some (.int (X.1))) X.2.1 X.2.2) args s 7 50 (fun q => b0 ≤ q)) (F0 m 48 ls []) := by
  unfold z_X5_addAct_48 at hz
  obtain ⟨S0, e_S0⟩ : ∃ z : zS, z = S := ⟨S, rfl⟩
  have hE : z_Ext S0 S := by rw [e_S0]; exact z_Ext.rf S
  refine z_aload hC dX5_addAct_48 (lv_at hl 4 rfl) ?_
  refine z_iload_n hC dX5_addAct_50 rfl (lv_at hl 1 rfl) ?_
  refine z_iload_n hC dX5_addAct_51 rfl (lv_at hl 2 rfl) ?_
  refine z_iload_n hC dX5_addAct_52 rfl (lv_at hl 3 rfl) ?_
  obtain ⟨q1, hq_q1, hz⟩ := ob_some hz
  refine z_callV (As := [.int (x1), .int (x2), .int (x3)]) hC hT (c_X0_tell F x4 x1 x2 x3 h_x4 hq_q1) zy_X0_tell zc_0 zv_X0_tell kw_336 dX5_addAct_53 h_x4 rfl rfl hl.1 (Nat.le_of_ble_eq_true rfl) (by decide) (by decide) ?_
  refine z_aload_n hC dX5_addAct_56 rfl (lv_at hl 0 rfl) ?_
  refine z_dup hC dX5_addAct_57 rfl ?_
  refine z_getI hC zc_5 3 (by decide) kw_75 dX5_addAct_58 h_x0 rfl ?_
  refine z_iconst (v := 1) hC dX5_addAct_61 (by decide) ?_
  refine z_iadd hC dX5_addAct_62 ?_
  refine z_putI hC zc_5 3 (by decide) kw_75 dX5_addAct_63 h_x0 rfl rfl rfl rfl ?_
  obtain ⟨J2, e_J2, hz⟩ := zlet_some hz
  rw [← e_J2]
  refine z_aload_n hC dX5_addAct_66 rfl (lv_at hl 0 rfl) ?_
  refine z_iconst (v := 0) hC dX5_addAct_67 (by decide) ?_
  refine z_putI hC zc_5 7 (by decide) kw_85 dX5_addAct_68 h_x0 rfl rfl (z_bool (Or.inl rfl)) (z_boolf (Or.inl rfl)) ?_
  obtain ⟨J3, e_J3, hz⟩ := zlet_some hz
  rw [← e_J3]
  refine z_aload_n hC dX5_addAct_71 rfl (lv_at hl 0 rfl) ?_
  refine z_getI hC zc_5 3 (by decide) kw_75 dX5_addAct_72 h_x0 rfl ?_
  refine z_iconst (v := 1) hC dX5_addAct_75 (by decide) ?_
  refine z_isub hC dX5_addAct_76 ?_
  obtain rfl := Option.some.inj hz
  exact z_iret hC hT dX5_addAct_77 (by decide) (by decide)
set_option maxRecDepth 100000 in
set_option maxHeartbeats 4000000 in
theorem xt_X5_addAct_48 {b0 : Nat} {F : Nat} {X : Int32 × zS × zI} (x0 : Nat) (x1 : Int32) (x2 : Int32) (x3 : Int32) (x4 : Nat) (S : zS) (I : zI) (hT : z_T b0 S) (h_x0 : z_is b0 S x0 5) (h_x4 : z_is b0 S x4 0) (hz : z_X5_addAct_48 F x0 x1 x2 x3 x4 S I = some X) : z_T b0 (X.2.1) ∧ z_Ext S (X.2.1) := by
  unfold z_X5_addAct_48 at hz
  have hE : z_Ext S S := z_Ext.rf S
  obtain ⟨q1, hq_q1, hz⟩ := ob_some hz
  obtain ⟨J2, e_J2, hz⟩ := zlet_some hz
  obtain ⟨J3, e_J3, hz⟩ := zlet_some hz
  obtain rfl := Option.some.inj hz
  exact ⟨hT, hE⟩
set_option maxRecDepth 100000 in
set_option maxHeartbeats 4000000 in
theorem c_X5_addAct {l : Launch} {D : zD} {b0 : Nat} {S : zS} {I : zI} {X : Int32 × zS × zI} (F : Nat) (x0 : Nat) (x1 : Int32) (x2 : Int32) (x3 : Int32) (h_x0 : z_is b0 S x0 5) (hz : z_X5_addAct F S I x0 x1 x2 x3 = some X) : z_M l D b0 yX5_addAct cX5_addAct 5 (some .int) { frames := 3, cells := 7, slots := 50, locals := 80 } [.ref (x0), .int (x1), .int (x2), .int (x3)] S I (some (.int (X.1))) X.2.1 X.2.2 := by
  refine z_met (by decide) (Nat.le_of_ble_eq_true rfl) ?_
  intro p e s m below meth c hC hnm hT ls hl
  have hl : lv_has ls 5 [(0, .ref (x0)), (1, .int (x1)), (2, .int (x2)), (3, .int (x3))] := hl
  unfold z_X5_addAct at hz
  obtain ⟨S0, e_S0⟩ : ∃ z : zS, z = S := ⟨S, rfl⟩
  have hE : z_Ext S0 S := by rw [e_S0]; exact z_Ext.rf S
  refine z_aload_n hC dX5_addAct_0 rfl (lv_at hl 0 rfl) ?_
  refine z_getI hC zc_5 3 (by decide) kw_75 dX5_addAct_1 h_x0 rfl ?_
  refine z_bipush (v := 40) hC dX5_addAct_4 (by decide) ?_
  refine z_icmp_lt (tgt := 12) hC dX5_addAct_6 (by decide) hz (fun hz => ?_) (fun hz => ?_)
  · skip
    refine z_aload_n hC dX5_addAct_12 rfl (lv_at hl 0 rfl) ?_
    obtain ⟨r1, hr_r1, hz⟩ := ob_some hz
    have hk_r1 : z_is b0 S r1 12 := hT.at h_x0 hr_r1
    refine z_getR hC zc_5 0 (by decide) kw_69 dX5_addAct_13 h_x0 rfl hr_r1 ?_
    refine z_aload_n hC dX5_addAct_16 rfl (lv_at hl 0 rfl) ?_
    refine z_getI hC zc_5 3 (by decide) kw_75 dX5_addAct_17 h_x0 rfl ?_
    obtain ⟨hi2, hz⟩ := ifn_some hz
    refine z_aald hC dX5_addAct_20 hk_r1 (by decide) (by decide) hi2 ?_
    rcases ob2_some hz with ⟨ho_r3, hz⟩ | ⟨r3, ho_r3, hz⟩
    · try rw [ho_r3]
      try rw [ho_r3] at hl
      refine z_astoreN (lv' := [(4, .null), (0, .ref (x0)), (1, .int (x1)), (2, .int (x2)), (3, .int (x3))]) hC dX5_addAct_21 hl (by decide) rfl (fun ls hl => ?_)
      refine z_aloadN hC dX5_addAct_23 (lv_at hl 0 rfl) ?_
      refine z_ifnonnullN hC dX5_addAct_25 ?_
      refine z_newc hC zc_0 kw_47 kw_287 kw_9 dX5_addAct_28 zdv_0 (by decide) (by decide) ?_
      obtain ⟨S4, e_S4, hz⟩ := zlet_some hz
      rw [← e_S4]
      obtain ⟨J5, e_J5, hz⟩ := zlet_some hz
      rw [← e_J5]
      have hb9 : b0 ≤ S.2.2 := Nat.le_of_lt (Nat.lt_of_le_of_lt h_x0.1 h_x0.2.1)
      have h_x0 : z_is b0 S4 (x0) 5 := by rw [e_S4]; exact h_x0.new
      have hk_r1 : z_is b0 S4 (r1) 12 := by rw [e_S4]; exact hk_r1.new
      have hn6 : z_is b0 S4 S.2.2 0 := by rw [e_S4]; exact z_is.fresh hb9 0 0
      have hT : z_T b0 S4 := by rw [e_S4]; exact hT.new _ _
      have hE : z_Ext S0 S4 := by rw [e_S4]; exact hE.new _ _
      refine z_dup hC dX5_addAct_31 rfl ?_
      obtain ⟨q7, hq_q7, hz⟩ := ob_some hz
      refine z_callIN (As := []) hC hT (c_X0_init F (S.2.2) hn6 hq_q7) zy_X0_init rfl kw_289 kn_4 dX5_addAct_32 rfl rfl hl.1 (Nat.le_of_ble_eq_true rfl) (by decide) (by decide) ?_
      have hx_q7 := xt_X0_init hT hn6 hq_q7
      have hT : z_T b0 q7.1 := hx_q7.1
      have hE : z_Ext S0 q7.1 := hE.trans hx_q7.2
      have h_x0 : z_is b0 q7.1 (x0) 5 := hx_q7.2.is h_x0
      have hk_r1 : z_is b0 q7.1 (r1) 12 := hx_q7.2.is hk_r1
      have hn6 : z_is b0 q7.1 (S.2.2) 0 := hx_q7.2.is hn6
      refine z_astore (lv' := [(4, .ref (S.2.2)), (0, .ref (x0)), (1, .int (x1)), (2, .int (x2)), (3, .int (x3))]) hC dX5_addAct_35 hl (by decide) rfl (fun ls hl => ?_)
      refine z_aload_n hC dX5_addAct_37 rfl (lv_at hl 1 rfl) ?_
      obtain ⟨r8, hr_r8, hz⟩ := ob_some hz
      have hk_r8 : z_is b0 q7.1 r8 12 := hT.at h_x0 hr_r8
      refine z_getR hC zc_5 0 (by decide) kw_69 dX5_addAct_38 h_x0 rfl hr_r8 ?_
      refine z_aload_n hC dX5_addAct_41 rfl (lv_at hl 1 rfl) ?_
      refine z_getI hC zc_5 3 (by decide) kw_75 dX5_addAct_42 h_x0 rfl ?_
      refine z_aload hC dX5_addAct_45 (lv_at hl 0 rfl) ?_
      obtain ⟨hi9, hz⟩ := ifn_some hz
      have hT9 := hT.upR (x := S.2.2) (k := ((q7.2) x0 3).toNatClampNeg) hk_r8 hn6
      have hE9 := hE.upR (a := r8) (k := ((q7.2) x0 3).toNatClampNeg) (x := some (S.2.2))
      refine z_aast hC dX5_addAct_47 hk_r8 (by decide) (by decide) zc_0 rfl hn6 hi9 ?_
      obtain ⟨S10, e_S10, hz⟩ := zlet_some hz
      rw [← e_S10]
      have hT : z_T b0 S10 := by rw [e_S10]; exact hT9
      have hE : z_Ext S0 S10 := by rw [e_S10]; exact hE9
      have h_x0 : z_is b0 S10 (x0) 5 := by rw [e_S10]; exact h_x0.upR
      have hk_r1 : z_is b0 S10 (r1) 12 := by rw [e_S10]; exact hk_r1.upR
      have hn6 : z_is b0 S10 (S.2.2) 0 := by rw [e_S10]; exact hn6.upR
      have hk_r8 : z_is b0 S10 (r8) 12 := by rw [e_S10]; exact hk_r8.upR
      refine z_widen (k := 7) (n := 50) (by decide) (by decide) ?_
      exact b_X5_addAct_48 hC   (x0) (x1) (x2) (x3) (S.2.2) (S10) (q7.2) hT h_x0 hn6 hz ls (lv_sub hl [1, 2, 3, 4, 0] rfl)
    · have hk_r3 : z_is b0 S r3 0 := (fun _ h9 => hT.at hk_r1 h9) _ ho_r3
      try rw [ho_r3]
      try rw [ho_r3] at hl
      refine z_astore (lv' := [(4, .ref (r3)), (0, .ref (x0)), (1, .int (x1)), (2, .int (x2)), (3, .int (x3))]) hC dX5_addAct_21 hl (by decide) rfl (fun ls hl => ?_)
      refine z_aload hC dX5_addAct_23 (lv_at hl 0 rfl) ?_
      refine z_ifnonnull (tgt := 48) hC dX5_addAct_25 (by decide) ?_
      refine z_widen (k := 7) (n := 50) (by decide) (by decide) ?_
      exact b_X5_addAct_48 hC   (x0) (x1) (x2) (x3) (r3) (S) (I) hT h_x0 hk_r3 hz ls (lv_sub hl [1, 2, 3, 4, 0] rfl)
  · skip
    refine z_bipush (v := (-2)) hC dX5_addAct_9 (by decide) ?_
    obtain rfl := Option.some.inj hz
    exact z_iret hC hT dX5_addAct_11 (by decide) (by decide)
set_option maxRecDepth 100000 in
set_option maxHeartbeats 4000000 in
theorem xt_X5_addAct {b0 : Nat} {S : zS} {I : zI} {F : Nat} {X : Int32 × zS × zI} {x0 : Nat} {x1 : Int32} {x2 : Int32} {x3 : Int32} (hT : z_T b0 S) (h_x0 : z_is b0 S x0 5) (hz : z_X5_addAct F S I x0 x1 x2 x3 = some X) : z_T b0 (X.2.1) ∧ z_Ext S (X.2.1) := by
  unfold z_X5_addAct at hz
  have hE : z_Ext S S := z_Ext.rf S
  rcases ite_or hz with hz | hz
  · skip
    obtain ⟨r1, hr_r1, hz⟩ := ob_some hz
    have hk_r1 : z_is b0 S r1 12 := hT.at h_x0 hr_r1
    obtain ⟨hi2, hz⟩ := ifn_some hz
    rcases ob2_some hz with ⟨ho_r3, hz⟩ | ⟨r3, ho_r3, hz⟩
    · skip
      obtain ⟨S4, e_S4, hz⟩ := zlet_some hz
      obtain ⟨J5, e_J5, hz⟩ := zlet_some hz
      have hb9 : b0 ≤ S.2.2 := Nat.le_of_lt (Nat.lt_of_le_of_lt h_x0.1 h_x0.2.1)
      have h_x0 : z_is b0 S4 (x0) 5 := by rw [e_S4]; exact h_x0.new
      have hk_r1 : z_is b0 S4 (r1) 12 := by rw [e_S4]; exact hk_r1.new
      have hn6 : z_is b0 S4 S.2.2 0 := by rw [e_S4]; exact z_is.fresh hb9 0 0
      have hT : z_T b0 S4 := by rw [e_S4]; exact hT.new _ _
      have hE : z_Ext S S4 := by rw [e_S4]; exact hE.new _ _
      obtain ⟨q7, hq_q7, hz⟩ := ob_some hz
      have hx_q7 := xt_X0_init hT hn6 hq_q7
      have hT : z_T b0 q7.1 := hx_q7.1
      have hE : z_Ext S q7.1 := hE.trans hx_q7.2
      have h_x0 : z_is b0 q7.1 (x0) 5 := hx_q7.2.is h_x0
      have hk_r1 : z_is b0 q7.1 (r1) 12 := hx_q7.2.is hk_r1
      have hn6 : z_is b0 q7.1 (S.2.2) 0 := hx_q7.2.is hn6
      obtain ⟨r8, hr_r8, hz⟩ := ob_some hz
      have hk_r8 : z_is b0 q7.1 r8 12 := hT.at h_x0 hr_r8
      obtain ⟨hi9, hz⟩ := ifn_some hz
      have hT9 := hT.upR (x := S.2.2) (k := ((q7.2) x0 3).toNatClampNeg) hk_r8 hn6
      have hE9 := hE.upR (a := r8) (k := ((q7.2) x0 3).toNatClampNeg) (x := some (S.2.2))
      obtain ⟨S10, e_S10, hz⟩ := zlet_some hz
      have hT : z_T b0 S10 := by rw [e_S10]; exact hT9
      have hE : z_Ext S S10 := by rw [e_S10]; exact hE9
      have h_x0 : z_is b0 S10 (x0) 5 := by rw [e_S10]; exact h_x0.upR
      have hk_r1 : z_is b0 S10 (r1) 12 := by rw [e_S10]; exact hk_r1.upR
      have hn6 : z_is b0 S10 (S.2.2) 0 := by rw [e_S10]; exact hn6.upR
      have hk_r8 : z_is b0 S10 (r8) 12 := by rw [e_S10]; exact hk_r8.upR
      exact z_Ext.then (xt_X5_addAct_48   (x0) (x1) (x2) (x3) (S.2.2) (S10) (q7.2) hT h_x0 hn6 hz) hE
    · have hk_r3 : z_is b0 S r3 0 := (fun _ h9 => hT.at hk_r1 h9) _ ho_r3
      exact z_Ext.then (xt_X5_addAct_48   (x0) (x1) (x2) (x3) (r3) (S) (I) hT h_x0 hk_r3 hz) hE
  · skip
    obtain rfl := Option.some.inj hz
    exact ⟨hT, hE⟩
theorem zy_X5_addGuard : z_y yX5_addGuard cX5_addGuard 6 (some .int) 4 := ⟨kw_347, kw_3, by decide +kernel, by decide +kernel, by decide +kernel⟩
theorem zv_X5_addGuard : Cond.instanceMethod yX5_addGuard ∈ z_tbl ∧ Cond.selects RX5 yX5_addGuard yX5_addGuard ∈ z_tbl := ⟨kw_345, kw_346⟩
def z_X5_addGuard_47 (F : Nat)  (x0 : Nat) (x1 : Int32) (x2 : Int32) (x3 : Int32) (x4 : Int32) (x5 : Nat) (S : zS) (I : zI) : Option (Int32 × zS × zI) :=
  zlet (z_up I x5 0 x1) (fun J1 => zlet (z_up J1 x5 1 x2) (fun J2 => zlet (z_up J2 x5 2 x3) (fun J3 => zlet (z_up J3 x5 3 x4) (fun J4 => zlet (z_up J4 x0 4 ((J4 x0 4) + 1)) (fun J5 => zlet (z_up J5 x0 7 0) (fun J6 => some ((J6 x0 4) - 1, S, J6)))))))
def z_X5_addGuard (F : Nat) (S : zS) (I : zI) (x0 : Nat) (x1 : Int32) (x2 : Int32) (x3 : Int32) (x4 : Int32) : Option (Int32 × zS × zI) :=
  if (I x0 4) < 4 then (ob (S.1 x0 1) (fun r1 => if (I x0 4) < 0 ∨ (S.2.1 r1).2 ≤ (I x0 4).toNatClampNeg then none else (ob2 (S.1 r1 (I x0 4).toNatClampNeg) (zlet (z_new S 3 0) (fun S4 => zlet (z_newI S I) (fun J5 => ob (z_X3_init F S4 J5 (S.2.2)) (fun q7 => ob (S4.1 x0 1) (fun r8 => if (J5 x0 4) < 0 ∨ (S4.2.1 r8).2 ≤ (J5 x0 4).toNatClampNeg then none else (zlet (z_upR S4 r8 (J5 x0 4).toNatClampNeg (some (S.2.2))) (fun S10 => z_X5_addGuard_47 F  (x0) (x1) (x2) (x3) (x4) (S.2.2) (S10) (J5)))))))) (fun r3 => z_X5_addGuard_47 F  (x0) (x1) (x2) (x3) (x4) (r3) (S) (I))))) else (some ((-2), S, I))
set_option maxRecDepth 100000 in
set_option maxHeartbeats 4000000 in
theorem b_X5_addGuard_47 {p : Program} {l : Launch} {e : Env} {s : State} {m : MethodId} {args : Array Value} {below : List Frame} {meth : Method} {c : Code} {D : zD} {b0 : Nat} {F : Nat} {X : Int32 × zS × zI} (hC : z_C p s m args meth c cX5_addGuard RX5 6 (some .int) D)   (x0 : Nat) (x1 : Int32) (x2 : Int32) (x3 : Int32) (x4 : Int32) (x5 : Nat) (S : zS) (I : zI) (hT : z_T b0 S) (h_x0 : z_is b0 S x0 5) (h_x5 : z_is b0 S x5 3) (hz : z_X5_addGuard_47 F  x0 x1 x2 x3 x4 x5 S I = some X) (ls : Array Slot) (hl : lv_has ls 6 [(0, .ref (x0)), (1, .int (x1)), (2, .int (x2)), (3, .int (x3)), (4, .int (x4)), (5, .ref (x5))]) : z_W p l e { frames := 2, cells := 1, slots := 4, locals := 60 } s m args below meth c D b0 S I 1 4 (MQ below (z_Q D b0 (some (.int (X.1))) X.2.1 X.2.2) args s 1 4 (fun q => b0 ≤ q)) (F0 m 47 ls []) := by
  unfold z_X5_addGuard_47 at hz
  obtain ⟨S0, e_S0⟩ : ∃ z : zS, z = S := ⟨S, rfl⟩
  have hE : z_Ext S0 S := by rw [e_S0]; exact z_Ext.rf S
  refine z_aload hC dX5_addGuard_47 (lv_at hl 5 rfl) ?_
  refine z_iload_n hC dX5_addGuard_49 rfl (lv_at hl 1 rfl) ?_
  refine z_putI hC zc_3 0 (by decide) kw_354 dX5_addGuard_50 h_x5 rfl rfl rfl rfl ?_
  obtain ⟨J1, e_J1, hz⟩ := zlet_some hz
  rw [← e_J1]
  refine z_aload hC dX5_addGuard_53 (lv_at hl 5 rfl) ?_
  refine z_iload_n hC dX5_addGuard_55 rfl (lv_at hl 2 rfl) ?_
  refine z_putI hC zc_3 1 (by decide) kw_356 dX5_addGuard_56 h_x5 rfl rfl rfl rfl ?_
  obtain ⟨J2, e_J2, hz⟩ := zlet_some hz
  rw [← e_J2]
  refine z_aload hC dX5_addGuard_59 (lv_at hl 5 rfl) ?_
  refine z_iload_n hC dX5_addGuard_61 rfl (lv_at hl 3 rfl) ?_
  refine z_putI hC zc_3 2 (by decide) kw_359 dX5_addGuard_62 h_x5 rfl rfl rfl rfl ?_
  obtain ⟨J3, e_J3, hz⟩ := zlet_some hz
  rw [← e_J3]
  refine z_aload hC dX5_addGuard_65 (lv_at hl 5 rfl) ?_
  refine z_iload hC dX5_addGuard_67 (lv_at hl 4 rfl) ?_
  refine z_putI hC zc_3 3 (by decide) kw_362 dX5_addGuard_69 h_x5 rfl rfl rfl rfl ?_
  obtain ⟨J4, e_J4, hz⟩ := zlet_some hz
  rw [← e_J4]
  refine z_aload_n hC dX5_addGuard_72 rfl (lv_at hl 0 rfl) ?_
  refine z_dup hC dX5_addGuard_73 rfl ?_
  refine z_getI hC zc_5 4 (by decide) kw_78 dX5_addGuard_74 h_x0 rfl ?_
  refine z_iconst (v := 1) hC dX5_addGuard_77 (by decide) ?_
  refine z_iadd hC dX5_addGuard_78 ?_
  refine z_putI hC zc_5 4 (by decide) kw_78 dX5_addGuard_79 h_x0 rfl rfl rfl rfl ?_
  obtain ⟨J5, e_J5, hz⟩ := zlet_some hz
  rw [← e_J5]
  refine z_aload_n hC dX5_addGuard_82 rfl (lv_at hl 0 rfl) ?_
  refine z_iconst (v := 0) hC dX5_addGuard_83 (by decide) ?_
  refine z_putI hC zc_5 7 (by decide) kw_85 dX5_addGuard_84 h_x0 rfl rfl (z_bool (Or.inl rfl)) (z_boolf (Or.inl rfl)) ?_
  obtain ⟨J6, e_J6, hz⟩ := zlet_some hz
  rw [← e_J6]
  refine z_aload_n hC dX5_addGuard_87 rfl (lv_at hl 0 rfl) ?_
  refine z_getI hC zc_5 4 (by decide) kw_78 dX5_addGuard_88 h_x0 rfl ?_
  refine z_iconst (v := 1) hC dX5_addGuard_91 (by decide) ?_
  refine z_isub hC dX5_addGuard_92 ?_
  obtain rfl := Option.some.inj hz
  exact z_iret hC hT dX5_addGuard_93 (by decide) (by decide)
set_option maxRecDepth 100000 in
set_option maxHeartbeats 4000000 in
theorem xt_X5_addGuard_47 {b0 : Nat} {F : Nat} {X : Int32 × zS × zI} (x0 : Nat) (x1 : Int32) (x2 : Int32) (x3 : Int32) (x4 : Int32) (x5 : Nat) (S : zS) (I : zI) (hT : z_T b0 S) (h_x0 : z_is b0 S x0 5) (h_x5 : z_is b0 S x5 3) (hz : z_X5_addGuard_47 F x0 x1 x2 x3 x4 x5 S I = some X) : z_T b0 (X.2.1) ∧ z_Ext S (X.2.1) := by
  unfold z_X5_addGuard_47 at hz
  have hE : z_Ext S S := z_Ext.rf S
  obtain ⟨J1, e_J1, hz⟩ := zlet_some hz
  obtain ⟨J2, e_J2, hz⟩ := zlet_some hz
  obtain ⟨J3, e_J3, hz⟩ := zlet_some hz
  obtain ⟨J4, e_J4, hz⟩ := zlet_some hz
  obtain ⟨J5, e_J5, hz⟩ := zlet_some hz
  obtain ⟨J6, e_J6, hz⟩ := zlet_some hz
  obtain rfl := Option.some.inj hz
  exact ⟨hT, hE⟩
set_option maxRecDepth 100000 in
set_option maxHeartbeats 4000000 in
theorem c_X5_addGuard {l : Launch} {D : zD} {b0 : Nat} {S : zS} {I : zI} {X : Int32 × zS × zI} (F : Nat) (x0 : Nat) (x1 : Int32) (x2 : Int32) (x3 : Int32) (x4 : Int32) (h_x0 : z_is b0 S x0 5) (hz : z_X5_addGuard F S I x0 x1 x2 x3 x4 = some X) : z_M l D b0 yX5_addGuard cX5_addGuard 6 (some .int) { frames := 2, cells := 1, slots := 4, locals := 60 } [.ref (x0), .int (x1), .int (x2), .int (x3), .int (x4)] S I (some (.int (X.1))) X.2.1 X.2.2 := by
  refine z_met (by decide) (Nat.le_of_ble_eq_true rfl) ?_
  intro p e s m below meth c hC hnm hT ls hl
  have hl : lv_has ls 6 [(0, .ref (x0)), (1, .int (x1)), (2, .int (x2)), (3, .int (x3)), (4, .int (x4))] := hl
  unfold z_X5_addGuard at hz
  obtain ⟨S0, e_S0⟩ : ∃ z : zS, z = S := ⟨S, rfl⟩
  have hE : z_Ext S0 S := by rw [e_S0]; exact z_Ext.rf S
  refine z_aload_n hC dX5_addGuard_0 rfl (lv_at hl 0 rfl) ?_
  refine z_getI hC zc_5 4 (by decide) kw_78 dX5_addGuard_1 h_x0 rfl ?_
  refine z_iconst (v := 4) hC dX5_addGuard_4 (by decide) ?_
  refine z_icmp_lt (tgt := 11) hC dX5_addGuard_5 (by decide) hz (fun hz => ?_) (fun hz => ?_)
  · skip
    refine z_aload_n hC dX5_addGuard_11 rfl (lv_at hl 0 rfl) ?_
    obtain ⟨r1, hr_r1, hz⟩ := ob_some hz
    have hk_r1 : z_is b0 S r1 13 := hT.at h_x0 hr_r1
    refine z_getR hC zc_5 1 (by decide) kw_70 dX5_addGuard_12 h_x0 rfl hr_r1 ?_
    refine z_aload_n hC dX5_addGuard_15 rfl (lv_at hl 0 rfl) ?_
    refine z_getI hC zc_5 4 (by decide) kw_78 dX5_addGuard_16 h_x0 rfl ?_
    obtain ⟨hi2, hz⟩ := ifn_some hz
    refine z_aald hC dX5_addGuard_19 hk_r1 (by decide) (by decide) hi2 ?_
    rcases ob2_some hz with ⟨ho_r3, hz⟩ | ⟨r3, ho_r3, hz⟩
    · try rw [ho_r3]
      try rw [ho_r3] at hl
      refine z_astoreN (lv' := [(5, .null), (0, .ref (x0)), (1, .int (x1)), (2, .int (x2)), (3, .int (x3)), (4, .int (x4))]) hC dX5_addGuard_20 hl (by decide) rfl (fun ls hl => ?_)
      refine z_aloadN hC dX5_addGuard_22 (lv_at hl 0 rfl) ?_
      refine z_ifnonnullN hC dX5_addGuard_24 ?_
      refine z_newc hC zc_3 kw_49 kw_348 kw_10 dX5_addGuard_27 zdv_3 (by decide) (by decide) ?_
      obtain ⟨S4, e_S4, hz⟩ := zlet_some hz
      rw [← e_S4]
      obtain ⟨J5, e_J5, hz⟩ := zlet_some hz
      rw [← e_J5]
      have hb9 : b0 ≤ S.2.2 := Nat.le_of_lt (Nat.lt_of_le_of_lt h_x0.1 h_x0.2.1)
      have h_x0 : z_is b0 S4 (x0) 5 := by rw [e_S4]; exact h_x0.new
      have hk_r1 : z_is b0 S4 (r1) 13 := by rw [e_S4]; exact hk_r1.new
      have hn6 : z_is b0 S4 S.2.2 3 := by rw [e_S4]; exact z_is.fresh hb9 3 0
      have hT : z_T b0 S4 := by rw [e_S4]; exact hT.new _ _
      have hE : z_Ext S0 S4 := by rw [e_S4]; exact hE.new _ _
      refine z_dup hC dX5_addGuard_30 rfl ?_
      obtain ⟨q7, hq_q7, hz⟩ := ob_some hz
      refine z_callIN (As := []) hC hT (c_X3_init F (S.2.2) hn6 hq_q7) zy_X3_init rfl kw_350 kn_6 dX5_addGuard_31 rfl rfl hl.1 (Nat.le_of_ble_eq_true rfl) (by decide) (by decide) ?_
      refine z_astore (lv' := [(5, .ref (S.2.2)), (0, .ref (x0)), (1, .int (x1)), (2, .int (x2)), (3, .int (x3)), (4, .int (x4))]) hC dX5_addGuard_34 hl (by decide) rfl (fun ls hl => ?_)
      refine z_aload_n hC dX5_addGuard_36 rfl (lv_at hl 1 rfl) ?_
      obtain ⟨r8, hr_r8, hz⟩ := ob_some hz
      have hk_r8 : z_is b0 S4 r8 13 := hT.at h_x0 hr_r8
      refine z_getR hC zc_5 1 (by decide) kw_70 dX5_addGuard_37 h_x0 rfl hr_r8 ?_
      refine z_aload_n hC dX5_addGuard_40 rfl (lv_at hl 1 rfl) ?_
      refine z_getI hC zc_5 4 (by decide) kw_78 dX5_addGuard_41 h_x0 rfl ?_
      refine z_aload hC dX5_addGuard_44 (lv_at hl 0 rfl) ?_
      obtain ⟨hi9, hz⟩ := ifn_some hz
      have hT9 := hT.upR (x := S.2.2) (k := (J5 x0 4).toNatClampNeg) hk_r8 hn6
      have hE9 := hE.upR (a := r8) (k := (J5 x0 4).toNatClampNeg) (x := some (S.2.2))
      refine z_aast hC dX5_addGuard_46 hk_r8 (by decide) (by decide) zc_3 rfl hn6 hi9 ?_
      obtain ⟨S10, e_S10, hz⟩ := zlet_some hz
      rw [← e_S10]
      have hT : z_T b0 S10 := by rw [e_S10]; exact hT9
      have hE : z_Ext S0 S10 := by rw [e_S10]; exact hE9
      have h_x0 : z_is b0 S10 (x0) 5 := by rw [e_S10]; exact h_x0.upR
      have hk_r1 : z_is b0 S10 (r1) 13 := by rw [e_S10]; exact hk_r1.upR
      have hn6 : z_is b0 S10 (S.2.2) 3 := by rw [e_S10]; exact hn6.upR
      have hk_r8 : z_is b0 S10 (r8) 13 := by rw [e_S10]; exact hk_r8.upR
      refine z_widen (k := 1) (n := 4) (by decide) (by decide) ?_
      exact b_X5_addGuard_47 hC   (x0) (x1) (x2) (x3) (x4) (S.2.2) (S10) (J5) hT h_x0 hn6 hz ls (lv_sub hl [1, 2, 3, 4, 5, 0] rfl)
    · have hk_r3 : z_is b0 S r3 3 := (fun _ h9 => hT.at hk_r1 h9) _ ho_r3
      try rw [ho_r3]
      try rw [ho_r3] at hl
      refine z_astore (lv' := [(5, .ref (r3)), (0, .ref (x0)), (1, .int (x1)), (2, .int (x2)), (3, .int (x3)), (4, .int (x4))]) hC dX5_addGuard_20 hl (by decide) rfl (fun ls hl => ?_)
      refine z_aload hC dX5_addGuard_22 (lv_at hl 0 rfl) ?_
      refine z_ifnonnull (tgt := 47) hC dX5_addGuard_24 (by decide) ?_
      refine z_widen (k := 1) (n := 4) (by decide) (by decide) ?_
      exact b_X5_addGuard_47 hC   (x0) (x1) (x2) (x3) (x4) (r3) (S) (I) hT h_x0 hk_r3 hz ls (lv_sub hl [1, 2, 3, 4, 5, 0] rfl)
  · skip
    refine z_bipush (v := (-2)) hC dX5_addGuard_8 (by decide) ?_
    obtain rfl := Option.some.inj hz
    exact z_iret hC hT dX5_addGuard_10 (by decide) (by decide)
set_option maxRecDepth 100000 in
set_option maxHeartbeats 4000000 in
theorem xt_X5_addGuard {b0 : Nat} {S : zS} {I : zI} {F : Nat} {X : Int32 × zS × zI} {x0 : Nat} {x1 : Int32} {x2 : Int32} {x3 : Int32} {x4 : Int32} (hT : z_T b0 S) (h_x0 : z_is b0 S x0 5) (hz : z_X5_addGuard F S I x0 x1 x2 x3 x4 = some X) : z_T b0 (X.2.1) ∧ z_Ext S (X.2.1) := by
  unfold z_X5_addGuard at hz
  have hE : z_Ext S S := z_Ext.rf S
  rcases ite_or hz with hz | hz
  · skip
    obtain ⟨r1, hr_r1, hz⟩ := ob_some hz
    have hk_r1 : z_is b0 S r1 13 := hT.at h_x0 hr_r1
    obtain ⟨hi2, hz⟩ := ifn_some hz
    rcases ob2_some hz with ⟨ho_r3, hz⟩ | ⟨r3, ho_r3, hz⟩
    · skip
      obtain ⟨S4, e_S4, hz⟩ := zlet_some hz
      obtain ⟨J5, e_J5, hz⟩ := zlet_some hz
      have hb9 : b0 ≤ S.2.2 := Nat.le_of_lt (Nat.lt_of_le_of_lt h_x0.1 h_x0.2.1)
      have h_x0 : z_is b0 S4 (x0) 5 := by rw [e_S4]; exact h_x0.new
      have hk_r1 : z_is b0 S4 (r1) 13 := by rw [e_S4]; exact hk_r1.new
      have hn6 : z_is b0 S4 S.2.2 3 := by rw [e_S4]; exact z_is.fresh hb9 3 0
      have hT : z_T b0 S4 := by rw [e_S4]; exact hT.new _ _
      have hE : z_Ext S S4 := by rw [e_S4]; exact hE.new _ _
      obtain ⟨q7, hq_q7, hz⟩ := ob_some hz
      obtain ⟨r8, hr_r8, hz⟩ := ob_some hz
      have hk_r8 : z_is b0 S4 r8 13 := hT.at h_x0 hr_r8
      obtain ⟨hi9, hz⟩ := ifn_some hz
      have hT9 := hT.upR (x := S.2.2) (k := (J5 x0 4).toNatClampNeg) hk_r8 hn6
      have hE9 := hE.upR (a := r8) (k := (J5 x0 4).toNatClampNeg) (x := some (S.2.2))
      obtain ⟨S10, e_S10, hz⟩ := zlet_some hz
      have hT : z_T b0 S10 := by rw [e_S10]; exact hT9
      have hE : z_Ext S S10 := by rw [e_S10]; exact hE9
      have h_x0 : z_is b0 S10 (x0) 5 := by rw [e_S10]; exact h_x0.upR
      have hk_r1 : z_is b0 S10 (r1) 13 := by rw [e_S10]; exact hk_r1.upR
      have hn6 : z_is b0 S10 (S.2.2) 3 := by rw [e_S10]; exact hn6.upR
      have hk_r8 : z_is b0 S10 (r8) 13 := by rw [e_S10]; exact hk_r8.upR
      exact z_Ext.then (xt_X5_addGuard_47   (x0) (x1) (x2) (x3) (x4) (S.2.2) (S10) (J5) hT h_x0 hn6 hz) hE
    · have hk_r3 : z_is b0 S r3 3 := (fun _ h9 => hT.at hk_r1 h9) _ ho_r3
      exact z_Ext.then (xt_X5_addGuard_47   (x0) (x1) (x2) (x3) (x4) (r3) (S) (I) hT h_x0 hk_r3 hz) hE
  · skip
    obtain rfl := Option.some.inj hz
    exact ⟨hT, hE⟩
theorem zy_X8_act : z_y yX8_act cX8_act 6 (some .int) 4 := ⟨kw_272, kw_1, by decide +kernel, by decide +kernel, by decide +kernel⟩
theorem zv_X8_act : Cond.instanceMethod yX8_act ∈ z_tbl ∧ Cond.selects RX8 yX8_act yX8_act ∈ z_tbl := ⟨kw_270, kw_271⟩
def z_X8_act (F : Nat) (S : zS) (I : zI) (x0 : Nat) (x1 : Int32) (x2 : Int32) (x3 : Int32) (x4 : Int32) : Option (Int32 × zS × zI) :=
  ob (z_X8_methodAt F S I x0 x1) (fun q1 => ob2 (q1) (some ((-1), S, I)) (fun r2 => ob (z_X8_isAct F S I x0 x2 x3 x4) (fun q3 => if q3 = 0 then (some ((-1), S, I)) else (ob (z_X5_addAct F S I r2 x2 x3 x4) (fun q4 => some (q4.1, q4.2.1, q4.2.2))))))
set_option maxRecDepth 100000 in
set_option maxHeartbeats 4000000 in
theorem c_X8_act {l : Launch} {D : zD} {b0 : Nat} {S : zS} {I : zI} {X : Int32 × zS × zI} (F : Nat) (x0 : Nat) (x1 : Int32) (x2 : Int32) (x3 : Int32) (x4 : Int32) (h_x0 : z_is b0 S x0 8) (hz : z_X8_act F S I x0 x1 x2 x3 x4 = some X) : z_M l D b0 yX8_act cX8_act 6 (some .int) { frames := 4, cells := 7, slots := 50, locals := 104 } [.ref (x0), .int (x1), .int (x2), .int (x3), .int (x4)] S I (some (.int (X.1))) X.2.1 X.2.2 := by
  refine z_met (by decide) (Nat.le_of_ble_eq_true rfl) ?_
  intro p e s m below meth c hC hnm hT ls hl
  have hl : lv_has ls 6 [(0, .ref (x0)), (1, .int (x1)), (2, .int (x2)), (3, .int (x3)), (4, .int (x4))] := hl
  unfold z_X8_act at hz
  obtain ⟨S0, e_S0⟩ : ∃ z : zS, z = S := ⟨S, rfl⟩
  have hE : z_Ext S0 S := by rw [e_S0]; exact z_Ext.rf S
  refine z_aload_n hC dX8_act_0 rfl (lv_at hl 0 rfl) ?_
  refine z_iload_n hC dX8_act_1 rfl (lv_at hl 1 rfl) ?_
  obtain ⟨q1, hq_q1, hz⟩ := ob_some hz
  refine z_callV (As := [.int (x1)]) hC hT (c_X8_methodAt F x0 x1 h_x0 hq_q1) zy_X8_methodAt zc_8 zv_X8_methodAt kw_229 dX8_act_2 h_x0 rfl rfl hl.1 (Nat.le_of_ble_eq_true rfl) (by decide) (by decide) ?_
  rcases ob2_some hz with ⟨ho_r2, hz⟩ | ⟨r2, ho_r2, hz⟩
  · try rw [ho_r2]
    try rw [ho_r2] at hl
    refine z_astoreN (lv' := [(5, .null), (0, .ref (x0)), (1, .int (x1)), (2, .int (x2)), (3, .int (x3)), (4, .int (x4))]) hC dX8_act_5 hl (by decide) rfl (fun ls hl => ?_)
    refine z_aloadN hC dX8_act_7 (lv_at hl 0 rfl) ?_
    refine z_ifnullN (tgt := 23) hC dX8_act_9 (by decide) ?_
    refine z_iconst (v := (-1)) hC dX8_act_23 (by decide) ?_
    obtain rfl := Option.some.inj hz
    exact z_iret hC hT dX8_act_24 (by decide) (by decide)
  · have hk_r2 : z_is b0 S r2 5 := (tk_X8_methodAt hT h_x0 hq_q1) _ ho_r2
    try rw [ho_r2]
    try rw [ho_r2] at hl
    refine z_astore (lv' := [(5, .ref (r2)), (0, .ref (x0)), (1, .int (x1)), (2, .int (x2)), (3, .int (x3)), (4, .int (x4))]) hC dX8_act_5 hl (by decide) rfl (fun ls hl => ?_)
    refine z_aload hC dX8_act_7 (lv_at hl 0 rfl) ?_
    refine z_ifnull hC dX8_act_9 ?_
    refine z_aload_n hC dX8_act_12 rfl (lv_at hl 1 rfl) ?_
    refine z_iload_n hC dX8_act_13 rfl (lv_at hl 3 rfl) ?_
    refine z_iload_n hC dX8_act_14 rfl (lv_at hl 4 rfl) ?_
    refine z_iload hC dX8_act_15 (lv_at hl 5 rfl) ?_
    obtain ⟨q3, hq_q3, hz⟩ := ob_some hz
    refine z_callV (As := [.int (x2), .int (x3), .int (x4)]) hC hT (c_X8_isAct F x0 x2 x3 x4 h_x0 hq_q3) zy_X8_isAct zc_8 zv_X8_isAct kw_273 dX8_act_17 h_x0 rfl rfl hl.1 (Nat.le_of_ble_eq_true rfl) (by decide) (by decide) ?_
    refine z_if_ne (tgt := 25) hC dX8_act_20 (by decide) hz (fun hz => ?_) (fun hz => ?_)
    · skip
      refine z_aload hC dX8_act_25 (lv_at hl 0 rfl) ?_
      refine z_iload_n hC dX8_act_27 rfl (lv_at hl 3 rfl) ?_
      refine z_iload_n hC dX8_act_28 rfl (lv_at hl 4 rfl) ?_
      refine z_iload hC dX8_act_29 (lv_at hl 5 rfl) ?_
      obtain ⟨q4, hq_q4, hz⟩ := ob_some hz
      refine z_callV (As := [.int (x2), .int (x3), .int (x4)]) hC hT (c_X5_addAct F r2 x2 x3 x4 hk_r2 hq_q4) zy_X5_addAct zc_5 zv_X5_addAct kw_283 dX8_act_31 hk_r2 rfl rfl hl.1 (Nat.le_of_ble_eq_true rfl) (by decide) (by decide) ?_
      have hx_q4 := xt_X5_addAct hT hk_r2 hq_q4
      have hT : z_T b0 q4.2.1 := hx_q4.1
      have hE : z_Ext S0 q4.2.1 := hE.trans hx_q4.2
      have h_x0 : z_is b0 q4.2.1 (x0) 8 := hx_q4.2.is h_x0
      have hk_r2 : z_is b0 q4.2.1 (r2) 5 := hx_q4.2.is hk_r2
      obtain rfl := Option.some.inj hz
      exact z_iret hC hT dX8_act_34 (by decide) (by decide)
    · skip
      refine z_iconst (v := (-1)) hC dX8_act_23 (by decide) ?_
      obtain rfl := Option.some.inj hz
      exact z_iret hC hT dX8_act_24 (by decide) (by decide)
set_option maxRecDepth 100000 in
set_option maxHeartbeats 4000000 in
theorem xt_X8_act {b0 : Nat} {S : zS} {I : zI} {F : Nat} {X : Int32 × zS × zI} {x0 : Nat} {x1 : Int32} {x2 : Int32} {x3 : Int32} {x4 : Int32} (hT : z_T b0 S) (h_x0 : z_is b0 S x0 8) (hz : z_X8_act F S I x0 x1 x2 x3 x4 = some X) : z_T b0 (X.2.1) ∧ z_Ext S (X.2.1) := by
  unfold z_X8_act at hz
  have hE : z_Ext S S := z_Ext.rf S
  obtain ⟨q1, hq_q1, hz⟩ := ob_some hz
  rcases ob2_some hz with ⟨ho_r2, hz⟩ | ⟨r2, ho_r2, hz⟩
  · skip
    obtain rfl := Option.some.inj hz
    exact ⟨hT, hE⟩
  · have hk_r2 : z_is b0 S r2 5 := (tk_X8_methodAt hT h_x0 hq_q1) _ ho_r2
    obtain ⟨q3, hq_q3, hz⟩ := ob_some hz
    rcases (ite_or hz).symm with hz | hz
    · skip
      obtain ⟨q4, hq_q4, hz⟩ := ob_some hz
      have hx_q4 := xt_X5_addAct hT hk_r2 hq_q4
      have hT : z_T b0 q4.2.1 := hx_q4.1
      have hE : z_Ext S q4.2.1 := hE.trans hx_q4.2
      have h_x0 : z_is b0 q4.2.1 (x0) 8 := hx_q4.2.is h_x0
      have hk_r2 : z_is b0 q4.2.1 (r2) 5 := hx_q4.2.is hk_r2
      obtain rfl := Option.some.inj hz
      exact ⟨hT, hE⟩
    · skip
      obtain rfl := Option.some.inj hz
      exact ⟨hT, hE⟩
theorem zy_X8_guard : z_y yX8_guard cX8_guard 7 (some .int) 5 := ⟨kw_343, kw_1, by decide +kernel, by decide +kernel, by decide +kernel⟩
theorem zv_X8_guard : Cond.instanceMethod yX8_guard ∈ z_tbl ∧ Cond.selects RX8 yX8_guard yX8_guard ∈ z_tbl := ⟨kw_341, kw_342⟩
def z_X8_guard (F : Nat) (S : zS) (I : zI) (x0 : Nat) (x1 : Int32) (x2 : Int32) (x3 : Int32) (x4 : Int32) (x5 : Int32) : Option (Int32 × zS × zI) :=
  ob (z_X8_methodAt F S I x0 x1) (fun q1 => ob2 (q1) (some ((-1), S, I)) (fun r2 => if x2 < 0 then (some ((-1), S, I)) else (if x2 < x3 then (if 40 < x3 then (some ((-1), S, I)) else (ob (z_X8_isActNumber F S I x4) (fun q3 => if q3 = 0 then (some ((-1), S, I)) else (ob (S.1 x0 0) (fun r4 => ob (z_X1_has F S I r4 x5) (fun q5 => if q5 = 0 then (some ((-1), S, I)) else (ob (z_X5_addGuard F S I r2 x2 x3 x4 x5) (fun q6 => some (q6.1, q6.2.1, q6.2.2))))))))) else (some ((-1), S, I)))))
set_option maxRecDepth 100000 in
set_option maxHeartbeats 4000000 in
theorem c_X8_guard {l : Launch} {D : zD} {b0 : Nat} {S : zS} {I : zI} {X : Int32 × zS × zI} (F : Nat) (x0 : Nat) (x1 : Int32) (x2 : Int32) (x3 : Int32) (x4 : Int32) (x5 : Int32) (h_x0 : z_is b0 S x0 8) (hz : z_X8_guard F S I x0 x1 x2 x3 x4 x5 = some X) : z_M l D b0 yX8_guard cX8_guard 7 (some .int) { frames := 3, cells := 1, slots := 4, locals := 85 } [.ref (x0), .int (x1), .int (x2), .int (x3), .int (x4), .int (x5)] S I (some (.int (X.1))) X.2.1 X.2.2 := by
  refine z_met (by decide) (Nat.le_of_ble_eq_true rfl) ?_
  intro p e s m below meth c hC hnm hT ls hl
  have hl : lv_has ls 7 [(0, .ref (x0)), (1, .int (x1)), (2, .int (x2)), (3, .int (x3)), (4, .int (x4)), (5, .int (x5))] := hl
  unfold z_X8_guard at hz
  obtain ⟨S0, e_S0⟩ : ∃ z : zS, z = S := ⟨S, rfl⟩
  have hE : z_Ext S0 S := by rw [e_S0]; exact z_Ext.rf S
  refine z_aload_n hC dX8_guard_0 rfl (lv_at hl 0 rfl) ?_
  refine z_iload_n hC dX8_guard_1 rfl (lv_at hl 1 rfl) ?_
  obtain ⟨q1, hq_q1, hz⟩ := ob_some hz
  refine z_callV (As := [.int (x1)]) hC hT (c_X8_methodAt F x0 x1 h_x0 hq_q1) zy_X8_methodAt zc_8 zv_X8_methodAt kw_229 dX8_guard_2 h_x0 rfl rfl hl.1 (Nat.le_of_ble_eq_true rfl) (by decide) (by decide) ?_
  rcases ob2_some hz with ⟨ho_r2, hz⟩ | ⟨r2, ho_r2, hz⟩
  · try rw [ho_r2]
    try rw [ho_r2] at hl
    refine z_astoreN (lv' := [(6, .null), (0, .ref (x0)), (1, .int (x1)), (2, .int (x2)), (3, .int (x3)), (4, .int (x4)), (5, .int (x5))]) hC dX8_guard_5 hl (by decide) rfl (fun ls hl => ?_)
    refine z_aloadN hC dX8_guard_7 (lv_at hl 0 rfl) ?_
    refine z_ifnullN (tgt := 47) hC dX8_guard_9 (by decide) ?_
    refine z_iconst (v := (-1)) hC dX8_guard_47 (by decide) ?_
    obtain rfl := Option.some.inj hz
    exact z_iret hC hT dX8_guard_48 (by decide) (by decide)
  · have hk_r2 : z_is b0 S r2 5 := (tk_X8_methodAt hT h_x0 hq_q1) _ ho_r2
    try rw [ho_r2]
    try rw [ho_r2] at hl
    refine z_astore (lv' := [(6, .ref (r2)), (0, .ref (x0)), (1, .int (x1)), (2, .int (x2)), (3, .int (x3)), (4, .int (x4)), (5, .int (x5))]) hC dX8_guard_5 hl (by decide) rfl (fun ls hl => ?_)
    refine z_aload hC dX8_guard_7 (lv_at hl 0 rfl) ?_
    refine z_ifnull hC dX8_guard_9 ?_
    refine z_iload_n hC dX8_guard_12 rfl (lv_at hl 3 rfl) ?_
    refine z_if_lt (tgt := 47) hC dX8_guard_13 (by decide) hz (fun hz => ?_) (fun hz => ?_)
    · skip
      refine z_iconst (v := (-1)) hC dX8_guard_47 (by decide) ?_
      obtain rfl := Option.some.inj hz
      exact z_iret hC hT dX8_guard_48 (by decide) (by decide)
    · skip
      refine z_iload_n hC dX8_guard_16 rfl (lv_at hl 3 rfl) ?_
      refine z_iload_n hC dX8_guard_17 rfl (lv_at hl 4 rfl) ?_
      refine z_icmp_ge (tgt := 47) hC dX8_guard_18 (by decide) hz (fun hz => ?_) (fun hz => ?_)
      · skip
        refine z_iconst (v := (-1)) hC dX8_guard_47 (by decide) ?_
        obtain rfl := Option.some.inj hz
        exact z_iret hC hT dX8_guard_48 (by decide) (by decide)
      · skip
        refine z_iload_n hC dX8_guard_21 rfl (lv_at hl 4 rfl) ?_
        refine z_bipush (v := 40) hC dX8_guard_22 (by decide) ?_
        refine z_icmp_gt (tgt := 47) hC dX8_guard_24 (by decide) hz (fun hz => ?_) (fun hz => ?_)
        · skip
          refine z_iconst (v := (-1)) hC dX8_guard_47 (by decide) ?_
          obtain rfl := Option.some.inj hz
          exact z_iret hC hT dX8_guard_48 (by decide) (by decide)
        · skip
          refine z_iload hC dX8_guard_27 (lv_at hl 5 rfl) ?_
          obtain ⟨q3, hq_q3, hz⟩ := ob_some hz
          refine z_callS (As := [.int (x4)]) hC hT (c_X8_isActNumber F x4  hq_q3) zy_X8_isActNumber kw_281 kw_280 dX8_guard_29 rfl rfl hl.1 (Nat.le_of_ble_eq_true rfl) (by decide) (by decide) ?_
          refine z_if_eq (tgt := 47) hC dX8_guard_32 (by decide) hz (fun hz => ?_) (fun hz => ?_)
          · skip
            refine z_iconst (v := (-1)) hC dX8_guard_47 (by decide) ?_
            obtain rfl := Option.some.inj hz
            exact z_iret hC hT dX8_guard_48 (by decide) (by decide)
          · skip
            refine z_aload_n hC dX8_guard_35 rfl (lv_at hl 1 rfl) ?_
            obtain ⟨r4, hr_r4, hz⟩ := ob_some hz
            have hk_r4 : z_is b0 S r4 1 := hT.at h_x0 hr_r4
            refine z_getR hC zc_8 0 (by decide) kw_176 dX8_guard_36 h_x0 rfl hr_r4 ?_
            refine z_iload hC dX8_guard_39 (lv_at hl 6 rfl) ?_
            obtain ⟨q5, hq_q5, hz⟩ := ob_some hz
            refine z_callV (As := [.int (x5)]) hC hT (c_X1_has F r4 x5 hk_r4 hq_q5) zy_X1_has zc_1 zv_X1_has kw_196 dX8_guard_41 hk_r4 rfl rfl hl.1 (Nat.le_of_ble_eq_true rfl) (by decide) (by decide) ?_
            refine z_if_ne (tgt := 49) hC dX8_guard_44 (by decide) hz (fun hz => ?_) (fun hz => ?_)
            · skip
              refine z_aload hC dX8_guard_49 (lv_at hl 0 rfl) ?_
              refine z_iload_n hC dX8_guard_51 rfl (lv_at hl 3 rfl) ?_
              refine z_iload_n hC dX8_guard_52 rfl (lv_at hl 4 rfl) ?_
              refine z_iload hC dX8_guard_53 (lv_at hl 5 rfl) ?_
              refine z_iload hC dX8_guard_55 (lv_at hl 6 rfl) ?_
              obtain ⟨q6, hq_q6, hz⟩ := ob_some hz
              refine z_callV (As := [.int (x2), .int (x3), .int (x4), .int (x5)]) hC hT (c_X5_addGuard F r2 x2 x3 x4 x5 hk_r2 hq_q6) zy_X5_addGuard zc_5 zv_X5_addGuard kw_344 dX8_guard_57 hk_r2 rfl rfl hl.1 (Nat.le_of_ble_eq_true rfl) (by decide) (by decide) ?_
              have hx_q6 := xt_X5_addGuard hT hk_r2 hq_q6
              have hT : z_T b0 q6.2.1 := hx_q6.1
              have hE : z_Ext S0 q6.2.1 := hE.trans hx_q6.2
              have h_x0 : z_is b0 q6.2.1 (x0) 8 := hx_q6.2.is h_x0
              have hk_r2 : z_is b0 q6.2.1 (r2) 5 := hx_q6.2.is hk_r2
              have hk_r4 : z_is b0 q6.2.1 (r4) 1 := hx_q6.2.is hk_r4
              obtain rfl := Option.some.inj hz
              exact z_iret hC hT dX8_guard_60 (by decide) (by decide)
            · skip
              refine z_iconst (v := (-1)) hC dX8_guard_47 (by decide) ?_
              obtain rfl := Option.some.inj hz
              exact z_iret hC hT dX8_guard_48 (by decide) (by decide)
set_option maxRecDepth 100000 in
set_option maxHeartbeats 4000000 in
theorem xt_X8_guard {b0 : Nat} {S : zS} {I : zI} {F : Nat} {X : Int32 × zS × zI} {x0 : Nat} {x1 : Int32} {x2 : Int32} {x3 : Int32} {x4 : Int32} {x5 : Int32} (hT : z_T b0 S) (h_x0 : z_is b0 S x0 8) (hz : z_X8_guard F S I x0 x1 x2 x3 x4 x5 = some X) : z_T b0 (X.2.1) ∧ z_Ext S (X.2.1) := by
  unfold z_X8_guard at hz
  have hE : z_Ext S S := z_Ext.rf S
  obtain ⟨q1, hq_q1, hz⟩ := ob_some hz
  rcases ob2_some hz with ⟨ho_r2, hz⟩ | ⟨r2, ho_r2, hz⟩
  · skip
    obtain rfl := Option.some.inj hz
    exact ⟨hT, hE⟩
  · have hk_r2 : z_is b0 S r2 5 := (tk_X8_methodAt hT h_x0 hq_q1) _ ho_r2
    rcases ite_or hz with hz | hz
    · skip
      obtain rfl := Option.some.inj hz
      exact ⟨hT, hE⟩
    · skip
      rcases (ite_or hz).symm with hz | hz
      · skip
        obtain rfl := Option.some.inj hz
        exact ⟨hT, hE⟩
      · skip
        rcases ite_or hz with hz | hz
        · skip
          obtain rfl := Option.some.inj hz
          exact ⟨hT, hE⟩
        · skip
          obtain ⟨q3, hq_q3, hz⟩ := ob_some hz
          rcases ite_or hz with hz | hz
          · skip
            obtain rfl := Option.some.inj hz
            exact ⟨hT, hE⟩
          · skip
            obtain ⟨r4, hr_r4, hz⟩ := ob_some hz
            have hk_r4 : z_is b0 S r4 1 := hT.at h_x0 hr_r4
            obtain ⟨q5, hq_q5, hz⟩ := ob_some hz
            rcases (ite_or hz).symm with hz | hz
            · skip
              obtain ⟨q6, hq_q6, hz⟩ := ob_some hz
              have hx_q6 := xt_X5_addGuard hT hk_r2 hq_q6
              have hT : z_T b0 q6.2.1 := hx_q6.1
              have hE : z_Ext S q6.2.1 := hE.trans hx_q6.2
              have h_x0 : z_is b0 q6.2.1 (x0) 8 := hx_q6.2.is h_x0
              have hk_r2 : z_is b0 q6.2.1 (r2) 5 := hx_q6.2.is hk_r2
              have hk_r4 : z_is b0 q6.2.1 (r4) 1 := hx_q6.2.is hk_r4
              obtain rfl := Option.some.inj hz
              exact ⟨hT, hE⟩
            · skip
              obtain rfl := Option.some.inj hz
              exact ⟨hT, hE⟩
