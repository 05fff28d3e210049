theorem zy_X8_toldFrames : z_y yX8_toldFrames cX8_toldFrames 3 (some .int) 1 := ⟨kw_730, kw_1, by decide +kernel, by decide +kernel, by decide +kernel⟩
theorem zv_X8_toldFrames : Cond.instanceMethod yX8_toldFrames ∈ z_tbl ∧ Cond.selects RX8 yX8_toldFrames yX8_toldFrames ∈ z_tbl := ⟨kw_729, ks_29⟩
def z_X8_toldFrames (F : Nat) (S : zS) (I : zI) (x0 : Nat) (x1 : Int32) : Option (Int32) :=
  ob (z_X8_methodAt F S I x0 x1) (fun q1 => ob2 (q1) (some ((-1))) (fun r2 => if (I r2 7) = 0 then (some ((-4))) else (ob (z_X5_frameCount F S I r2) (fun q3 => some (q3)))))
set_option maxRecDepth 100000 in
set_option maxHeartbeats 4000000 in
theorem c_X8_toldFrames {l : Launch} {D : zD} {b0 : Nat} {S : zS} {I : zI} {X : Int32} (F : Nat) (x0 : Nat) (x1 : Int32) (h_x0 : z_is b0 S x0 8) (hz : z_X8_toldFrames F S I x0 x1 = some X) : z_M l D b0 yX8_toldFrames cX8_toldFrames 3 (some .int) { frames := 2, cells := 0, slots := 0, locals := 44 } [.ref (x0), .int (x1)] S I (some (.int (X))) S I := by
  refine z_met (by decide) (Nat.le_of_ble_eq_true rfl) ?_
  intro p e s m below meth c hC hnm hT ls hl
  have hl : lv_has ls 3 [(0, .ref (x0)), (1, .int (x1))] := hl
  unfold z_X8_toldFrames at hz
  refine z_aload_n hC dX8_toldFrames_0 rfl (lv_at hl 0 rfl) ?_
  refine z_iload_n hC dX8_toldFrames_1 rfl (lv_at hl 1 rfl) ?_
  obtain ⟨q1, hq_q1, hz⟩ := ob_some hz
  refine z_callV (As := [.int (x1)]) hC hT (c_X8_methodAt F x0 x1 h_x0 hq_q1) zy_X8_methodAt zc_8 zv_X8_methodAt kw_229 dX8_toldFrames_2 h_x0 rfl rfl hl.1 (Nat.le_of_ble_eq_true rfl) (by decide) (by decide) ?_
  rcases ob2_some hz with ⟨ho_r2, hz⟩ | ⟨r2, ho_r2, hz⟩
  · try rw [ho_r2]
    try rw [ho_r2] at hl
    refine z_astore_nN (lv' := [(2, .null), (0, .ref (x0)), (1, .int (x1))]) hC dX8_toldFrames_5 rfl hl (by decide) rfl (fun ls hl => ?_)
    refine z_aload_nN hC dX8_toldFrames_6 rfl (lv_at hl 0 rfl) ?_
    refine z_ifnonnullN hC dX8_toldFrames_7 ?_
    refine z_iconst (v := (-1)) hC dX8_toldFrames_10 (by decide) ?_
    obtain rfl := Option.some.inj hz
    exact z_iret hC hT dX8_toldFrames_11 (by decide) (by decide)
  · have hk_r2 : z_is b0 S r2 5 := (tk_X8_methodAt hT h_x0 hq_q1) _ ho_r2
    try rw [ho_r2]
    try rw [ho_r2] at hl
    refine z_astore_n (lv' := [(2, .ref (r2)), (0, .ref (x0)), (1, .int (x1))]) hC dX8_toldFrames_5 rfl hl (by decide) rfl (fun ls hl => ?_)
    refine z_aload_n hC dX8_toldFrames_6 rfl (lv_at hl 0 rfl) ?_
    refine z_ifnonnull (tgt := 12) hC dX8_toldFrames_7 (by decide) ?_
    refine z_aload_n hC dX8_toldFrames_12 rfl (lv_at hl 0 rfl) ?_
    refine z_getI hC zc_5 7 (by decide) kw_87 dX8_toldFrames_13 hk_r2 rfl ?_
    refine z_if_eq (tgt := 26) hC dX8_toldFrames_16 (by decide) hz (fun hz => ?_) (fun hz => ?_)
    · skip
      refine z_bipush (v := (-4)) hC dX8_toldFrames_26 (by decide) ?_
      obtain rfl := Option.some.inj hz
      exact z_iret hC hT dX8_toldFrames_28 (by decide) (by decide)
    · skip
      refine z_aload_n hC dX8_toldFrames_19 rfl (lv_at hl 0 rfl) ?_
      obtain ⟨q3, hq_q3, hz⟩ := ob_some hz
      refine z_callV (As := []) hC hT (c_X5_frameCount F r2 hk_r2 hq_q3) zy_X5_frameCount zc_5 zv_X5_frameCount kw_585 dX8_toldFrames_20 hk_r2 rfl rfl hl.1 (Nat.le_of_ble_eq_true rfl) (by decide) (by decide) ?_
      refine z_goto (tgt := 28) hC dX8_toldFrames_23 (by decide) ?_
      obtain rfl := Option.some.inj hz
      exact z_iret hC hT dX8_toldFrames_28 (by decide) (by decide)
theorem zy_X8_told : z_y yX8_told cX8_told 2 (some .int) 1 := ⟨kw_711, kw_1, by decide +kernel, by decide +kernel, by decide +kernel⟩
theorem zv_X8_told : Cond.instanceMethod yX8_told ∈ z_tbl ∧ Cond.selects RX8 yX8_told yX8_told ∈ z_tbl := ⟨kw_709, kw_710⟩
def z_X8_told (F : Nat) (S : zS) (I : zI) (x0 : Nat) (x1 : Int32) : Option (Int32) :=
  if x1 = 0 then (ob (S.1 x0 0) (fun r9 => some (I r9 2))) else (ob (z_X8_isAskedFrom F S I 1 x1) (fun q1 => if q1 = 0 then (ob (z_X8_isAskedFrom F S I 11 x1) (fun q2 => if q2 = 0 then (ob (z_X8_isAskedFrom F S I 21 x1) (fun q3 => if q3 = 0 then (ob (z_X8_isAskedFrom F S I 31 x1) (fun q4 => if q4 = 0 then (some ((-1))) else (ob (z_X8_toldFrames F S I x0 (x1 - 31)) (fun q5 => some (q5))))) else (ob (z_X8_toldPlaces F S I x0 (x1 - 21)) (fun q6 => some (q6))))) else (ob (z_X8_toldGuards F S I x0 (x1 - 11)) (fun q7 => some (q7))))) else (ob (z_X8_toldActs F S I x0 (x1 - 1)) (fun q8 => some (q8)))))
set_option maxRecDepth 100000 in
set_option maxHeartbeats 4000000 in
theorem c_X8_told {l : Launch} {D : zD} {b0 : Nat} {S : zS} {I : zI} {X : Int32} (F : Nat) (x0 : Nat) (x1 : Int32) (h_x0 : z_is b0 S x0 8) (hz : z_X8_told F S I x0 x1 = some X) : z_M l D b0 yX8_told cX8_told 2 (some .int) { frames := 3, cells := 0, slots := 0, locals := 66 } [.ref (x0), .int (x1)] S I (some (.int (X))) S I := by
  refine z_met (by decide) (Nat.le_of_ble_eq_true rfl) ?_
  intro p e s m below meth c hC hnm hT ls hl
  have hl : lv_has ls 2 [(0, .ref (x0)), (1, .int (x1))] := hl
  unfold z_X8_told at hz
  refine z_iload_n hC dX8_told_0 rfl (lv_at hl 1 rfl) ?_
  refine z_if_ne (tgt := 12) hC dX8_told_1 (by decide) hz (fun hz => ?_) (fun hz => ?_)
  · skip
    refine z_iconst (v := 1) hC dX8_told_12 (by decide) ?_
    refine z_iload_n hC dX8_told_13 rfl (lv_at hl 1 rfl) ?_
    obtain ⟨q1, hq_q1, hz⟩ := ob_some hz
    refine z_callS (As := [.int (1), .int (x1)]) hC hT (c_X8_isAskedFrom F 1 x1  hq_q1) zy_X8_isAskedFrom kw_713 kw_712 dX8_told_14 rfl rfl hl.1 (Nat.le_of_ble_eq_true rfl) (by decide) (by decide) ?_
    refine z_if_eq (tgt := 28) hC dX8_told_17 (by decide) hz (fun hz => ?_) (fun hz => ?_)
    · skip
      refine z_bipush (v := 11) hC dX8_told_28 (by decide) ?_
      refine z_iload_n hC dX8_told_30 rfl (lv_at hl 1 rfl) ?_
      obtain ⟨q2, hq_q2, hz⟩ := ob_some hz
      refine z_callS (As := [.int (11), .int (x1)]) hC hT (c_X8_isAskedFrom F 11 x1  hq_q2) zy_X8_isAskedFrom kw_713 kw_712 dX8_told_31 rfl rfl hl.1 (Nat.le_of_ble_eq_true rfl) (by decide) (by decide) ?_
      refine z_if_eq (tgt := 46) hC dX8_told_34 (by decide) hz (fun hz => ?_) (fun hz => ?_)
      · skip
        refine z_bipush (v := 21) hC dX8_told_46 (by decide) ?_
        refine z_iload_n hC dX8_told_48 rfl (lv_at hl 1 rfl) ?_
        obtain ⟨q3, hq_q3, hz⟩ := ob_some hz
        refine z_callS (As := [.int (21), .int (x1)]) hC hT (c_X8_isAskedFrom F 21 x1  hq_q3) zy_X8_isAskedFrom kw_713 kw_712 dX8_told_49 rfl rfl hl.1 (Nat.le_of_ble_eq_true rfl) (by decide) (by decide) ?_
        refine z_if_eq (tgt := 64) hC dX8_told_52 (by decide) hz (fun hz => ?_) (fun hz => ?_)
        · skip
          refine z_bipush (v := 31) hC dX8_told_64 (by decide) ?_
          refine z_iload_n hC dX8_told_66 rfl (lv_at hl 1 rfl) ?_
          obtain ⟨q4, hq_q4, hz⟩ := ob_some hz
          refine z_callS (As := [.int (31), .int (x1)]) hC hT (c_X8_isAskedFrom F 31 x1  hq_q4) zy_X8_isAskedFrom kw_713 kw_712 dX8_told_67 rfl rfl hl.1 (Nat.le_of_ble_eq_true rfl) (by decide) (by decide) ?_
          refine z_if_eq (tgt := 84) hC dX8_told_70 (by decide) hz (fun hz => ?_) (fun hz => ?_)
          · skip
            refine z_iconst (v := (-1)) hC dX8_told_84 (by decide) ?_
            obtain rfl := Option.some.inj hz
            exact z_iret hC hT dX8_told_85 (by decide) (by decide)
          · skip
            refine z_aload_n hC dX8_told_73 rfl (lv_at hl 0 rfl) ?_
            refine z_iload_n hC dX8_told_74 rfl (lv_at hl 1 rfl) ?_
            refine z_bipush (v := 31) hC dX8_told_75 (by decide) ?_
            refine z_isub hC dX8_told_77 ?_
            obtain ⟨q5, hq_q5, hz⟩ := ob_some hz
            refine z_callV (As := [.int (x1 - 31)]) hC hT (c_X8_toldFrames F x0 (x1 - 31) h_x0 hq_q5) zy_X8_toldFrames zc_8 zv_X8_toldFrames kw_727 dX8_told_78 h_x0 rfl rfl hl.1 (Nat.le_of_ble_eq_true rfl) (by decide) (by decide) ?_
            refine z_goto (tgt := 85) hC dX8_told_81 (by decide) ?_
            obtain rfl := Option.some.inj hz
            exact z_iret hC hT dX8_told_85 (by decide) (by decide)
        · skip
          refine z_aload_n hC dX8_told_55 rfl (lv_at hl 0 rfl) ?_
          refine z_iload_n hC dX8_told_56 rfl (lv_at hl 1 rfl) ?_
          refine z_bipush (v := 21) hC dX8_told_57 (by decide) ?_
          refine z_isub hC dX8_told_59 ?_
          obtain ⟨q6, hq_q6, hz⟩ := ob_some hz
          refine z_callV (As := [.int (x1 - 21)]) hC hT (c_X8_toldPlaces F x0 (x1 - 21) h_x0 hq_q6) zy_X8_toldPlaces zc_8 zv_X8_toldPlaces kw_723 dX8_told_60 h_x0 rfl rfl hl.1 (Nat.le_of_ble_eq_true rfl) (by decide) (by decide) ?_
          obtain rfl := Option.some.inj hz
          exact z_iret hC hT dX8_told_63 (by decide) (by decide)
      · skip
        refine z_aload_n hC dX8_told_37 rfl (lv_at hl 0 rfl) ?_
        refine z_iload_n hC dX8_told_38 rfl (lv_at hl 1 rfl) ?_
        refine z_bipush (v := 11) hC dX8_told_39 (by decide) ?_
        refine z_isub hC dX8_told_41 ?_
        obtain ⟨q7, hq_q7, hz⟩ := ob_some hz
        refine z_callV (As := [.int (x1 - 11)]) hC hT (c_X8_toldGuards F x0 (x1 - 11) h_x0 hq_q7) zy_X8_toldGuards zc_8 zv_X8_toldGuards kw_719 dX8_told_42 h_x0 rfl rfl hl.1 (Nat.le_of_ble_eq_true rfl) (by decide) (by decide) ?_
        obtain rfl := Option.some.inj hz
        exact z_iret hC hT dX8_told_45 (by decide) (by decide)
    · skip
      refine z_aload_n hC dX8_told_20 rfl (lv_at hl 0 rfl) ?_
      refine z_iload_n hC dX8_told_21 rfl (lv_at hl 1 rfl) ?_
      refine z_iconst (v := 1) hC dX8_told_22 (by decide) ?_
      refine z_isub hC dX8_told_23 ?_
      obtain ⟨q8, hq_q8, hz⟩ := ob_some hz
      refine z_callV (As := [.int (x1 - 1)]) hC hT (c_X8_toldActs F x0 (x1 - 1) h_x0 hq_q8) zy_X8_toldActs zc_8 zv_X8_toldActs kw_715 dX8_told_24 h_x0 rfl rfl hl.1 (Nat.le_of_ble_eq_true rfl) (by decide) (by decide) ?_
      obtain rfl := Option.some.inj hz
      exact z_iret hC hT dX8_told_27 (by decide) (by decide)
  · skip
    refine z_aload_n hC dX8_told_4 rfl (lv_at hl 0 rfl) ?_
    obtain ⟨r9, hr_r9, hz⟩ := ob_some hz
    have hk_r9 : z_is b0 S r9 1 := hT.at h_x0 hr_r9
    refine z_getR hC zc_8 0 (by decide) kw_176 dX8_told_5 h_x0 rfl hr_r9 ?_
    refine z_getI hC zc_1 2 (by decide) kw_30 dX8_told_8 hk_r9 rfl ?_
    obtain rfl := Option.some.inj hz
    exact z_iret hC hT dX8_told_11 (by decide) (by decide)
