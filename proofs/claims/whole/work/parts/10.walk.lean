theorem zy_X0_tell : z_y yX0_tell cX0_tell 4 none 3 := ⟨kw_339, kw_9, by decide +kernel, by decide +kernel, by decide +kernel⟩
theorem zv_X0_tell : Cond.instanceMethod yX0_tell ∈ z_tbl ∧ Cond.selects RX0 yX0_tell yX0_tell ∈ z_tbl := ⟨kw_337, kw_338⟩
def z_X0_tell (F : Nat) (S : zS) (I : zI) (x0 : Nat) (x1 : Int32) (x2 : Int32) (x3 : Int32) : Option (zI) :=
  some (z_up (z_up (z_up I x0 0 x1) x0 1 x2) x0 2 x3)
set_option maxRecDepth 100000 in
set_option maxHeartbeats 4000000 in
theorem c_X0_tell {l : Launch} {D : zD} {b0 : Nat} {S : zS} {I : zI} {X : zI} (F : Nat) (x0 : Nat) (x1 : Int32) (x2 : Int32) (x3 : Int32) (h_x0 : z_is b0 S x0 0) (hz : z_X0_tell F S I x0 x1 x2 x3 = some X) : z_M l D b0 yX0_tell cX0_tell 4 none { frames := 0, cells := 0, slots := 0, locals := 0 } [.ref (x0), .int (x1), .int (x2), .int (x3)] S I none S X := by
  refine z_met (by decide) (Nat.le_of_ble_eq_true rfl) ?_
  intro p e s m below meth c hC hnm hT ls hl
  have hl : lv_has ls 4 [(0, .ref (x0)), (1, .int (x1)), (2, .int (x2)), (3, .int (x3))] := hl
  unfold z_X0_tell at hz
  refine z_aload_n hC dX0_tell_0 rfl (lv_at hl 0 rfl) ?_
  refine z_iload_n hC dX0_tell_1 rfl (lv_at hl 1 rfl) ?_
  refine z_putI hC zc_0 0 (by decide) kw_295 dX0_tell_2 h_x0 rfl rfl rfl rfl ?_
  refine z_aload_n hC dX0_tell_5 rfl (lv_at hl 0 rfl) ?_
  refine z_iload_n hC dX0_tell_6 rfl (lv_at hl 2 rfl) ?_
  refine z_putI hC zc_0 1 (by decide) kw_297 dX0_tell_7 h_x0 rfl rfl rfl rfl ?_
  refine z_aload_n hC dX0_tell_10 rfl (lv_at hl 0 rfl) ?_
  refine z_iload_n hC dX0_tell_11 rfl (lv_at hl 3 rfl) ?_
  refine z_putI hC zc_0 2 (by decide) kw_300 dX0_tell_12 h_x0 rfl rfl rfl rfl ?_
  obtain rfl := Option.some.inj hz
  exact z_vret hC hT dX0_tell_15 (by decide) (by decide)
theorem zy_X0_forget : z_y yX0_forget cX0_forget 1 none 0 := ⟨kw_391, kw_9, by decide +kernel, by decide +kernel, by decide +kernel⟩
theorem zv_X0_forget : Cond.instanceMethod yX0_forget ∈ z_tbl ∧ Cond.selects RX0 yX0_forget yX0_forget ∈ z_tbl := ⟨kw_389, kw_390⟩
def z_X0_forget (F : Nat) (S : zS) (I : zI) (x0 : Nat) : Option (zI) :=
  some (z_up (z_up (z_up I x0 3 0) x0 4 0) x0 5 0)
set_option maxRecDepth 100000 in
set_option maxHeartbeats 4000000 in
theorem c_X0_forget {l : Launch} {D : zD} {b0 : Nat} {S : zS} {I : zI} {X : zI} (F : Nat) (x0 : Nat) (h_x0 : z_is b0 S x0 0) (hz : z_X0_forget F S I x0 = some X) : z_M l D b0 yX0_forget cX0_forget 1 none { frames := 0, cells := 0, slots := 0, locals := 0 } [.ref (x0)] S I none S X := by
  refine z_met (by decide) (Nat.le_of_ble_eq_true rfl) ?_
  intro p e s m below meth c hC hnm hT ls hl
  have hl : lv_has ls 1 [(0, .ref (x0))] := hl
  unfold z_X0_forget at hz
  refine z_aload_n hC dX0_forget_0 rfl (lv_at hl 0 rfl) ?_
  refine z_iconst (v := 0) hC dX0_forget_1 (by decide) ?_
  refine z_putI hC zc_0 3 (by decide) kw_301 dX0_forget_2 h_x0 rfl rfl (z_bool (Or.inl rfl)) (z_boolf (Or.inl rfl)) ?_
  refine z_aload_n hC dX0_forget_5 rfl (lv_at hl 0 rfl) ?_
  refine z_iconst (v := 0) hC dX0_forget_6 (by decide) ?_
  refine z_putI hC zc_0 4 (by decide) kw_305 dX0_forget_7 h_x0 rfl rfl (z_bool (Or.inl rfl)) (z_boolf (Or.inl rfl)) ?_
  refine z_aload_n hC dX0_forget_10 rfl (lv_at hl 0 rfl) ?_
  refine z_iconst (v := 0) hC dX0_forget_11 (by decide) ?_
  refine z_putI hC zc_0 5 (by decide) kw_308 dX0_forget_12 h_x0 rfl rfl (z_bool (Or.inl rfl)) (z_boolf (Or.inl rfl)) ?_
  obtain rfl := Option.some.inj hz
  exact z_vret hC hT dX0_forget_15 (by decide) (by decide)
theorem zy_X0_jumps : z_y yX0_jumps cX0_jumps 1 (some .boolean) 0 := ⟨kw_560, kw_9, by decide +kernel, by decide +kernel, by decide +kernel⟩
theorem zv_X0_jumps : Cond.instanceMethod yX0_jumps ∈ z_tbl ∧ Cond.selects RX0 yX0_jumps yX0_jumps ∈ z_tbl := ⟨kw_559, ks_16⟩
def z_X0_jumps (F : Nat) (S : zS) (I : zI) (x0 : Nat) : Option (Int32) :=
  if (I x0 0) = 14 then (some (1)) else (if (I x0 0) = 15 then (some (1)) else (if (I x0 0) = 16 then (some (1)) else (some (0))))
set_option maxRecDepth 100000 in
set_option maxHeartbeats 4000000 in
theorem c_X0_jumps {l : Launch} {D : zD} {b0 : Nat} {S : zS} {I : zI} {X : Int32} (F : Nat) (x0 : Nat) (h_x0 : z_is b0 S x0 0) (hz : z_X0_jumps F S I x0 = some X) : z_M l D b0 yX0_jumps cX0_jumps 1 (some .boolean) { frames := 0, cells := 0, slots := 0, locals := 0 } [.ref (x0)] S I (some (.int (X))) S I := by
  refine z_met (by decide) (Nat.le_of_ble_eq_true rfl) ?_
  intro p e s m below meth c hC hnm hT ls hl
  have hl : lv_has ls 1 [(0, .ref (x0))] := hl
  unfold z_X0_jumps at hz
  refine z_aload_n hC dX0_jumps_0 rfl (lv_at hl 0 rfl) ?_
  refine z_getI hC zc_0 0 (by decide) kw_295 dX0_jumps_1 h_x0 rfl ?_
  refine z_bipush (v := 14) hC dX0_jumps_4 (by decide) ?_
  refine z_icmp_eq (tgt := 27) hC dX0_jumps_6 (by decide) hz (fun hz => ?_) (fun hz => ?_)
  · skip
    refine z_iconst (v := 1) hC dX0_jumps_27 (by decide) ?_
    refine z_goto (tgt := 32) hC dX0_jumps_28 (by decide) ?_
    obtain rfl := Option.some.inj hz
    exact z_zret hC hT dX0_jumps_32 (Or.inr rfl) (by decide) (by decide)
  · skip
    refine z_aload_n hC dX0_jumps_9 rfl (lv_at hl 0 rfl) ?_
    refine z_getI hC zc_0 0 (by decide) kw_295 dX0_jumps_10 h_x0 rfl ?_
    refine z_bipush (v := 15) hC dX0_jumps_13 (by decide) ?_
    refine z_icmp_eq (tgt := 27) hC dX0_jumps_15 (by decide) hz (fun hz => ?_) (fun hz => ?_)
    · skip
      refine z_iconst (v := 1) hC dX0_jumps_27 (by decide) ?_
      refine z_goto (tgt := 32) hC dX0_jumps_28 (by decide) ?_
      obtain rfl := Option.some.inj hz
      exact z_zret hC hT dX0_jumps_32 (Or.inr rfl) (by decide) (by decide)
    · skip
      refine z_aload_n hC dX0_jumps_18 rfl (lv_at hl 0 rfl) ?_
      refine z_getI hC zc_0 0 (by decide) kw_295 dX0_jumps_19 h_x0 rfl ?_
      refine z_bipush (v := 16) hC dX0_jumps_22 (by decide) ?_
      refine z_icmp_ne (tgt := 31) hC dX0_jumps_24 (by decide) hz (fun hz => ?_) (fun hz => ?_)
      · skip
        refine z_iconst (v := 0) hC dX0_jumps_31 (by decide) ?_
        obtain rfl := Option.some.inj hz
        exact z_zret hC hT dX0_jumps_32 (Or.inl rfl) (by decide) (by decide)
      · skip
        refine z_iconst (v := 1) hC dX0_jumps_27 (by decide) ?_
        refine z_goto (tgt := 32) hC dX0_jumps_28 (by decide) ?_
        obtain rfl := Option.some.inj hz
        exact z_zret hC hT dX0_jumps_32 (Or.inr rfl) (by decide) (by decide)
theorem zy_X0_firstTarget : z_y yX0_firstTarget cX0_firstTarget 1 (some .int) 0 := ⟨kw_564, kw_9, by decide +kernel, by decide +kernel, by decide +kernel⟩
theorem zv_X0_firstTarget : Cond.instanceMethod yX0_firstTarget ∈ z_tbl ∧ Cond.selects RX0 yX0_firstTarget yX0_firstTarget ∈ z_tbl := ⟨kw_562, kw_563⟩
def z_X0_firstTarget (F : Nat) (S : zS) (I : zI) (x0 : Nat) : Option (Int32) :=
  ob (z_X0_jumps F S I x0) (fun q1 => if q1 = 0 then (some (0)) else (some (I x0 1)))
set_option maxRecDepth 100000 in
set_option maxHeartbeats 4000000 in
theorem c_X0_firstTarget {l : Launch} {D : zD} {b0 : Nat} {S : zS} {I : zI} {X : Int32} (F : Nat) (x0 : Nat) (h_x0 : z_is b0 S x0 0) (hz : z_X0_firstTarget F S I x0 = some X) : z_M l D b0 yX0_firstTarget cX0_firstTarget 1 (some .int) { frames := 1, cells := 0, slots := 0, locals := 20 } [.ref (x0)] S I (some (.int (X))) S I := by
  refine z_met (by decide) (Nat.le_of_ble_eq_true rfl) ?_
  intro p e s m below meth c hC hnm hT ls hl
  have hl : lv_has ls 1 [(0, .ref (x0))] := hl
  unfold z_X0_firstTarget at hz
  refine z_aload_n hC dX0_firstTarget_0 rfl (lv_at hl 0 rfl) ?_
  obtain ⟨q1, hq_q1, hz⟩ := ob_some hz
  refine z_callV (As := []) hC hT (c_X0_jumps F x0 h_x0 hq_q1) zy_X0_jumps zc_0 zv_X0_jumps kw_557 dX0_firstTarget_1 h_x0 rfl rfl hl.1 (Nat.le_of_ble_eq_true rfl) (by decide) (by decide) ?_
  refine z_if_eq (tgt := 14) hC dX0_firstTarget_4 (by decide) hz (fun hz => ?_) (fun hz => ?_)
  · skip
    refine z_iconst (v := 0) hC dX0_firstTarget_14 (by decide) ?_
    obtain rfl := Option.some.inj hz
    exact z_iret hC hT dX0_firstTarget_15 (by decide) (by decide)
  · skip
    refine z_aload_n hC dX0_firstTarget_7 rfl (lv_at hl 0 rfl) ?_
    refine z_getI hC zc_0 1 (by decide) kw_297 dX0_firstTarget_8 h_x0 rfl ?_
    refine z_goto (tgt := 15) hC dX0_firstTarget_11 (by decide) ?_
    obtain rfl := Option.some.inj hz
    exact z_iret hC hT dX0_firstTarget_15 (by decide) (by decide)
theorem zy_X0_lastTarget : z_y yX0_lastTarget cX0_lastTarget 1 (some .int) 0 := ⟨kw_556, kw_9, by decide +kernel, by decide +kernel, by decide +kernel⟩
theorem zv_X0_lastTarget : Cond.instanceMethod yX0_lastTarget ∈ z_tbl ∧ Cond.selects RX0 yX0_lastTarget yX0_lastTarget ∈ z_tbl := ⟨kw_554, kw_555⟩
def z_X0_lastTarget (F : Nat) (S : zS) (I : zI) (x0 : Nat) : Option (Int32) :=
  ob (z_X0_jumps F S I x0) (fun q1 => if q1 = 0 then (some ((-1))) else (if (I x0 0) = 16 then (some (I x0 2)) else (some (I x0 1))))
set_option maxRecDepth 100000 in
set_option maxHeartbeats 4000000 in
theorem c_X0_lastTarget {l : Launch} {D : zD} {b0 : Nat} {S : zS} {I : zI} {X : Int32} (F : Nat) (x0 : Nat) (h_x0 : z_is b0 S x0 0) (hz : z_X0_lastTarget F S I x0 = some X) : z_M l D b0 yX0_lastTarget cX0_lastTarget 1 (some .int) { frames := 1, cells := 0, slots := 0, locals := 20 } [.ref (x0)] S I (some (.int (X))) S I := by
  refine z_met (by decide) (Nat.le_of_ble_eq_true rfl) ?_
  intro p e s m below meth c hC hnm hT ls hl
  have hl : lv_has ls 1 [(0, .ref (x0))] := hl
  unfold z_X0_lastTarget at hz
  refine z_aload_n hC dX0_lastTarget_0 rfl (lv_at hl 0 rfl) ?_
  obtain ⟨q1, hq_q1, hz⟩ := ob_some hz
  refine z_callV (As := []) hC hT (c_X0_jumps F x0 h_x0 hq_q1) zy_X0_jumps zc_0 zv_X0_jumps kw_557 dX0_lastTarget_1 h_x0 rfl rfl hl.1 (Nat.le_of_ble_eq_true rfl) (by decide) (by decide) ?_
  refine z_if_ne (tgt := 9) hC dX0_lastTarget_4 (by decide) hz (fun hz => ?_) (fun hz => ?_)
  · skip
    refine z_aload_n hC dX0_lastTarget_9 rfl (lv_at hl 0 rfl) ?_
    refine z_getI hC zc_0 0 (by decide) kw_295 dX0_lastTarget_10 h_x0 rfl ?_
    refine z_bipush (v := 16) hC dX0_lastTarget_13 (by decide) ?_
    refine z_icmp_ne (tgt := 25) hC dX0_lastTarget_15 (by decide) hz (fun hz => ?_) (fun hz => ?_)
    · skip
      refine z_aload_n hC dX0_lastTarget_25 rfl (lv_at hl 0 rfl) ?_
      refine z_getI hC zc_0 1 (by decide) kw_297 dX0_lastTarget_26 h_x0 rfl ?_
      obtain rfl := Option.some.inj hz
      exact z_iret hC hT dX0_lastTarget_29 (by decide) (by decide)
    · skip
      refine z_aload_n hC dX0_lastTarget_18 rfl (lv_at hl 0 rfl) ?_
      refine z_getI hC zc_0 2 (by decide) kw_300 dX0_lastTarget_19 h_x0 rfl ?_
      refine z_goto (tgt := 29) hC dX0_lastTarget_22 (by decide) ?_
      obtain rfl := Option.some.inj hz
      exact z_iret hC hT dX0_lastTarget_29 (by decide) (by decide)
  · skip
    refine z_iconst (v := (-1)) hC dX0_lastTarget_7 (by decide) ?_
    obtain rfl := Option.some.inj hz
    exact z_iret hC hT dX0_lastTarget_8 (by decide) (by decide)
theorem zy_X0_goesOnAt : z_y yX0_goesOnAt cX0_goesOnAt 2 (some .boolean) 1 := ⟨kw_580, kw_9, by decide +kernel, by decide +kernel, by decide +kernel⟩
theorem zv_X0_goesOnAt : Cond.instanceMethod yX0_goesOnAt ∈ z_tbl ∧ Cond.selects RX0 yX0_goesOnAt yX0_goesOnAt ∈ z_tbl := ⟨kw_578, kw_579⟩
def z_X0_goesOnAt (F : Nat) (S : zS) (I : zI) (x0 : Nat) (x1 : Int32) : Option (Int32) :=
  ob (z_X0_firstTarget F S I x0) (fun q1 => if x1 < q1 then (some (0)) else (ob (z_X0_lastTarget F S I x0) (fun q2 => if q2 < x1 then (some (0)) else (some (1)))))
set_option maxRecDepth 100000 in
set_option maxHeartbeats 4000000 in
theorem c_X0_goesOnAt {l : Launch} {D : zD} {b0 : Nat} {S : zS} {I : zI} {X : Int32} (F : Nat) (x0 : Nat) (x1 : Int32) (h_x0 : z_is b0 S x0 0) (hz : z_X0_goesOnAt F S I x0 x1 = some X) : z_M l D b0 yX0_goesOnAt cX0_goesOnAt 2 (some .boolean) { frames := 2, cells := 0, slots := 0, locals := 40 } [.ref (x0), .int (x1)] S I (some (.int (X))) S I := by
  refine z_met (by decide) (Nat.le_of_ble_eq_true rfl) ?_
  intro p e s m below meth c hC hnm hT ls hl
  have hl : lv_has ls 2 [(0, .ref (x0)), (1, .int (x1))] := hl
  unfold z_X0_goesOnAt at hz
  refine z_iload_n hC dX0_goesOnAt_0 rfl (lv_at hl 1 rfl) ?_
  refine z_aload_n hC dX0_goesOnAt_1 rfl (lv_at hl 0 rfl) ?_
  obtain ⟨q1, hq_q1, hz⟩ := ob_some hz
  refine z_callV (As := []) hC hT (c_X0_firstTarget F x0 h_x0 hq_q1) zy_X0_firstTarget zc_0 zv_X0_firstTarget kw_581 dX0_goesOnAt_2 h_x0 rfl rfl hl.1 (Nat.le_of_ble_eq_true rfl) (by decide) (by decide) ?_
  refine z_icmp_lt (tgt := 20) hC dX0_goesOnAt_5 (by decide) hz (fun hz => ?_) (fun hz => ?_)
  · skip
    refine z_iconst (v := 0) hC dX0_goesOnAt_20 (by decide) ?_
    obtain rfl := Option.some.inj hz
    exact z_zret hC hT dX0_goesOnAt_21 (Or.inl rfl) (by decide) (by decide)
  · skip
    refine z_iload_n hC dX0_goesOnAt_8 rfl (lv_at hl 1 rfl) ?_
    refine z_aload_n hC dX0_goesOnAt_9 rfl (lv_at hl 0 rfl) ?_
    obtain ⟨q2, hq_q2, hz⟩ := ob_some hz
    refine z_callV (As := []) hC hT (c_X0_lastTarget F x0 h_x0 hq_q2) zy_X0_lastTarget zc_0 zv_X0_lastTarget kw_582 dX0_goesOnAt_10 h_x0 rfl rfl hl.1 (Nat.le_of_ble_eq_true rfl) (by decide) (by decide) ?_
    refine z_icmp_gt (tgt := 20) hC dX0_goesOnAt_13 (by decide) hz (fun hz => ?_) (fun hz => ?_)
    · skip
      refine z_iconst (v := 0) hC dX0_goesOnAt_20 (by decide) ?_
      obtain rfl := Option.some.inj hz
      exact z_zret hC hT dX0_goesOnAt_21 (Or.inl rfl) (by decide) (by decide)
    · skip
      refine z_iconst (v := 1) hC dX0_goesOnAt_16 (by decide) ?_
      refine z_goto (tgt := 21) hC dX0_goesOnAt_17 (by decide) ?_
      obtain rfl := Option.some.inj hz
      exact z_zret hC hT dX0_goesOnAt_21 (Or.inr rfl) (by decide) (by decide)
theorem zy_X0_goesToNext : z_y yX0_goesToNext cX0_goesToNext 1 (some .boolean) 0 := ⟨kw_552, kw_9, by decide +kernel, by decide +kernel, by decide +kernel⟩
theorem zv_X0_goesToNext : Cond.instanceMethod yX0_goesToNext ∈ z_tbl ∧ Cond.selects RX0 yX0_goesToNext yX0_goesToNext ∈ z_tbl := ⟨kw_550, kw_551⟩
def z_X0_goesToNext (F : Nat) (S : zS) (I : zI) (x0 : Nat) : Option (Int32) :=
  if (I x0 0) = 14 then (some (0)) else (if (I x0 0) = 16 then (some (0)) else (if (I x0 0) = 17 then (some (0)) else (if (I x0 0) = 18 then (some (0)) else (if (I x0 0) = 19 then (some (0)) else (some (1))))))
set_option maxRecDepth 100000 in
set_option maxHeartbeats 4000000 in
theorem c_X0_goesToNext {l : Launch} {D : zD} {b0 : Nat} {S : zS} {I : zI} {X : Int32} (F : Nat) (x0 : Nat) (h_x0 : z_is b0 S x0 0) (hz : z_X0_goesToNext F S I x0 = some X) : z_M l D b0 yX0_goesToNext cX0_goesToNext 1 (some .boolean) { frames := 0, cells := 0, slots := 0, locals := 0 } [.ref (x0)] S I (some (.int (X))) S I := by
  refine z_met (by decide) (Nat.le_of_ble_eq_true rfl) ?_
  intro p e s m below meth c hC hnm hT ls hl
  have hl : lv_has ls 1 [(0, .ref (x0))] := hl
  unfold z_X0_goesToNext at hz
  refine z_aload_n hC dX0_goesToNext_0 rfl (lv_at hl 0 rfl) ?_
  refine z_getI hC zc_0 0 (by decide) kw_295 dX0_goesToNext_1 h_x0 rfl ?_
  refine z_bipush (v := 14) hC dX0_goesToNext_4 (by decide) ?_
  refine z_icmp_eq (tgt := 49) hC dX0_goesToNext_6 (by decide) hz (fun hz => ?_) (fun hz => ?_)
  · skip
    refine z_iconst (v := 0) hC dX0_goesToNext_49 (by decide) ?_
    obtain rfl := Option.some.inj hz
    exact z_zret hC hT dX0_goesToNext_50 (Or.inl rfl) (by decide) (by decide)
  · skip
    refine z_aload_n hC dX0_goesToNext_9 rfl (lv_at hl 0 rfl) ?_
    refine z_getI hC zc_0 0 (by decide) kw_295 dX0_goesToNext_10 h_x0 rfl ?_
    refine z_bipush (v := 16) hC dX0_goesToNext_13 (by decide) ?_
    refine z_icmp_eq (tgt := 49) hC dX0_goesToNext_15 (by decide) hz (fun hz => ?_) (fun hz => ?_)
    · skip
      refine z_iconst (v := 0) hC dX0_goesToNext_49 (by decide) ?_
      obtain rfl := Option.some.inj hz
      exact z_zret hC hT dX0_goesToNext_50 (Or.inl rfl) (by decide) (by decide)
    · skip
      refine z_aload_n hC dX0_goesToNext_18 rfl (lv_at hl 0 rfl) ?_
      refine z_getI hC zc_0 0 (by decide) kw_295 dX0_goesToNext_19 h_x0 rfl ?_
      refine z_bipush (v := 17) hC dX0_goesToNext_22 (by decide) ?_
      refine z_icmp_eq (tgt := 49) hC dX0_goesToNext_24 (by decide) hz (fun hz => ?_) (fun hz => ?_)
      · skip
        refine z_iconst (v := 0) hC dX0_goesToNext_49 (by decide) ?_
        obtain rfl := Option.some.inj hz
        exact z_zret hC hT dX0_goesToNext_50 (Or.inl rfl) (by decide) (by decide)
      · skip
        refine z_aload_n hC dX0_goesToNext_27 rfl (lv_at hl 0 rfl) ?_
        refine z_getI hC zc_0 0 (by decide) kw_295 dX0_goesToNext_28 h_x0 rfl ?_
        refine z_bipush (v := 18) hC dX0_goesToNext_31 (by decide) ?_
        refine z_icmp_eq (tgt := 49) hC dX0_goesToNext_33 (by decide) hz (fun hz => ?_) (fun hz => ?_)
        · skip
          refine z_iconst (v := 0) hC dX0_goesToNext_49 (by decide) ?_
          obtain rfl := Option.some.inj hz
          exact z_zret hC hT dX0_goesToNext_50 (Or.inl rfl) (by decide) (by decide)
        · skip
          refine z_aload_n hC dX0_goesToNext_36 rfl (lv_at hl 0 rfl) ?_
          refine z_getI hC zc_0 0 (by decide) kw_295 dX0_goesToNext_37 h_x0 rfl ?_
          refine z_bipush (v := 19) hC dX0_goesToNext_40 (by decide) ?_
          refine z_icmp_eq (tgt := 49) hC dX0_goesToNext_42 (by decide) hz (fun hz => ?_) (fun hz => ?_)
          · skip
            refine z_iconst (v := 0) hC dX0_goesToNext_49 (by decide) ?_
            obtain rfl := Option.some.inj hz
            exact z_zret hC hT dX0_goesToNext_50 (Or.inl rfl) (by decide) (by decide)
          · skip
            refine z_iconst (v := 1) hC dX0_goesToNext_45 (by decide) ?_
            refine z_goto (tgt := 50) hC dX0_goesToNext_46 (by decide) ?_
            obtain rfl := Option.some.inj hz
            exact z_zret hC hT dX0_goesToNext_50 (Or.inr rfl) (by decide) (by decide)
theorem zy_X0_usesPlace : z_y yX0_usesPlace cX0_usesPlace 1 (some .boolean) 0 := ⟨kw_543, kw_9, by decide +kernel, by decide +kernel, by decide +kernel⟩
theorem zv_X0_usesPlace : Cond.instanceMethod yX0_usesPlace ∈ z_tbl ∧ Cond.selects RX0 yX0_usesPlace yX0_usesPlace ∈ z_tbl := ⟨kw_541, kw_542⟩
def z_X0_usesPlace (F : Nat) (S : zS) (I : zI) (x0 : Nat) : Option (Int32) :=
  if (I x0 0) = 3 then (some (1)) else (if (I x0 0) = 4 then (some (1)) else (if (I x0 0) = 20 then (some (1)) else (some (0))))
set_option maxRecDepth 100000 in
set_option maxHeartbeats 4000000 in
theorem c_X0_usesPlace {l : Launch} {D : zD} {b0 : Nat} {S : zS} {I : zI} {X : Int32} (F : Nat) (x0 : Nat) (h_x0 : z_is b0 S x0 0) (hz : z_X0_usesPlace F S I x0 = some X) : z_M l D b0 yX0_usesPlace cX0_usesPlace 1 (some .boolean) { frames := 0, cells := 0, slots := 0, locals := 0 } [.ref (x0)] S I (some (.int (X))) S I := by
  refine z_met (by decide) (Nat.le_of_ble_eq_true rfl) ?_
  intro p e s m below meth c hC hnm hT ls hl
  have hl : lv_has ls 1 [(0, .ref (x0))] := hl
  unfold z_X0_usesPlace at hz
  refine z_aload_n hC dX0_usesPlace_0 rfl (lv_at hl 0 rfl) ?_
  refine z_getI hC zc_0 0 (by decide) kw_295 dX0_usesPlace_1 h_x0 rfl ?_
  refine z_iconst (v := 3) hC dX0_usesPlace_4 (by decide) ?_
  refine z_icmp_eq (tgt := 25) hC dX0_usesPlace_5 (by decide) hz (fun hz => ?_) (fun hz => ?_)
  · skip
    refine z_iconst (v := 1) hC dX0_usesPlace_25 (by decide) ?_
    refine z_goto (tgt := 30) hC dX0_usesPlace_26 (by decide) ?_
    obtain rfl := Option.some.inj hz
    exact z_zret hC hT dX0_usesPlace_30 (Or.inr rfl) (by decide) (by decide)
  · skip
    refine z_aload_n hC dX0_usesPlace_8 rfl (lv_at hl 0 rfl) ?_
    refine z_getI hC zc_0 0 (by decide) kw_295 dX0_usesPlace_9 h_x0 rfl ?_
    refine z_iconst (v := 4) hC dX0_usesPlace_12 (by decide) ?_
    refine z_icmp_eq (tgt := 25) hC dX0_usesPlace_13 (by decide) hz (fun hz => ?_) (fun hz => ?_)
    · skip
      refine z_iconst (v := 1) hC dX0_usesPlace_25 (by decide) ?_
      refine z_goto (tgt := 30) hC dX0_usesPlace_26 (by decide) ?_
      obtain rfl := Option.some.inj hz
      exact z_zret hC hT dX0_usesPlace_30 (Or.inr rfl) (by decide) (by decide)
    · skip
      refine z_aload_n hC dX0_usesPlace_16 rfl (lv_at hl 0 rfl) ?_
      refine z_getI hC zc_0 0 (by decide) kw_295 dX0_usesPlace_17 h_x0 rfl ?_
      refine z_bipush (v := 20) hC dX0_usesPlace_20 (by decide) ?_
      refine z_icmp_ne (tgt := 29) hC dX0_usesPlace_22 (by decide) hz (fun hz => ?_) (fun hz => ?_)
      · skip
        refine z_iconst (v := 0) hC dX0_usesPlace_29 (by decide) ?_
        obtain rfl := Option.some.inj hz
        exact z_zret hC hT dX0_usesPlace_30 (Or.inl rfl) (by decide) (by decide)
      · skip
        refine z_iconst (v := 1) hC dX0_usesPlace_25 (by decide) ?_
        refine z_goto (tgt := 30) hC dX0_usesPlace_26 (by decide) ?_
        obtain rfl := Option.some.inj hz
        exact z_zret hC hT dX0_usesPlace_30 (Or.inr rfl) (by decide) (by decide)
theorem zy_X1_has : z_y yX1_has cX1_has 2 (some .boolean) 1 := ⟨kw_199, kw_2, by decide +kernel, by decide +kernel, by decide +kernel⟩
theorem zv_X1_has : Cond.instanceMethod yX1_has ∈ z_tbl ∧ Cond.selects RX1 yX1_has yX1_has ∈ z_tbl := ⟨kw_197, kw_198⟩
def z_X1_has (F : Nat) (S : zS) (I : zI) (x0 : Nat) (x1 : Int32) : Option (Int32) :=
  if x1 < 0 then (some (0)) else (if x1 < (I x0 2) then (some (1)) else (some (0)))
set_option maxRecDepth 100000 in
set_option maxHeartbeats 4000000 in
theorem c_X1_has {l : Launch} {D : zD} {b0 : Nat} {S : zS} {I : zI} {X : Int32} (F : Nat) (x0 : Nat) (x1 : Int32) (h_x0 : z_is b0 S x0 1) (hz : z_X1_has F S I x0 x1 = some X) : z_M l D b0 yX1_has cX1_has 2 (some .boolean) { frames := 0, cells := 0, slots := 0, locals := 0 } [.ref (x0), .int (x1)] S I (some (.int (X))) S I := by
  refine z_met (by decide) (Nat.le_of_ble_eq_true rfl) ?_
  intro p e s m below meth c hC hnm hT ls hl
  have hl : lv_has ls 2 [(0, .ref (x0)), (1, .int (x1))] := hl
  unfold z_X1_has at hz
  refine z_iload_n hC dX1_has_0 rfl (lv_at hl 1 rfl) ?_
  refine z_if_lt (tgt := 16) hC dX1_has_1 (by decide) hz (fun hz => ?_) (fun hz => ?_)
  · skip
    refine z_iconst (v := 0) hC dX1_has_16 (by decide) ?_
    obtain rfl := Option.some.inj hz
    exact z_zret hC hT dX1_has_17 (Or.inl rfl) (by decide) (by decide)
  · skip
    refine z_iload_n hC dX1_has_4 rfl (lv_at hl 1 rfl) ?_
    refine z_aload_n hC dX1_has_5 rfl (lv_at hl 0 rfl) ?_
    refine z_getI hC zc_1 2 (by decide) kw_29 dX1_has_6 h_x0 rfl ?_
    refine z_icmp_ge (tgt := 16) hC dX1_has_9 (by decide) hz (fun hz => ?_) (fun hz => ?_)
    · skip
      refine z_iconst (v := 0) hC dX1_has_16 (by decide) ?_
      obtain rfl := Option.some.inj hz
      exact z_zret hC hT dX1_has_17 (Or.inl rfl) (by decide) (by decide)
    · skip
      refine z_iconst (v := 1) hC dX1_has_12 (by decide) ?_
      refine z_goto (tgt := 17) hC dX1_has_13 (by decide) ?_
      obtain rfl := Option.some.inj hz
      exact z_zret hC hT dX1_has_17 (Or.inr rfl) (by decide) (by decide)
theorem zy_X1_isFace : z_y yX1_isFace cX1_isFace 2 (some .boolean) 1 := ⟨kw_203, kw_2, by decide +kernel, by decide +kernel, by decide +kernel⟩
theorem zv_X1_isFace : Cond.instanceMethod yX1_isFace ∈ z_tbl ∧ Cond.selects RX1 yX1_isFace yX1_isFace ∈ z_tbl := ⟨kw_201, kw_202⟩
def z_X1_isFace (F : Nat) (S : zS) (I : zI) (x0 : Nat) (x1 : Int32) : Option (Int32) :=
  ob (z_X1_has F S I x0 x1) (fun q1 => if q1 = 0 then (some (0)) else (ob (S.1 x0 1) (fun r2 => if x1 < 0 ∨ (S.2.1 r2).2 ≤ x1.toNatClampNeg then none else (if (I r2 x1.toNatClampNeg) = 0 then (some (0)) else (some (1))))))
set_option maxRecDepth 100000 in
set_option maxHeartbeats 4000000 in
theorem c_X1_isFace {l : Launch} {D : zD} {b0 : Nat} {S : zS} {I : zI} {X : Int32} (F : Nat) (x0 : Nat) (x1 : Int32) (h_x0 : z_is b0 S x0 1) (hz : z_X1_isFace F S I x0 x1 = some X) : z_M l D b0 yX1_isFace cX1_isFace 2 (some .boolean) { frames := 1, cells := 0, slots := 0, locals := 21 } [.ref (x0), .int (x1)] S I (some (.int (X))) S I := by
  refine z_met (by decide) (Nat.le_of_ble_eq_true rfl) ?_
  intro p e s m below meth c hC hnm hT ls hl
  have hl : lv_has ls 2 [(0, .ref (x0)), (1, .int (x1))] := hl
  unfold z_X1_isFace at hz
  refine z_aload_n hC dX1_isFace_0 rfl (lv_at hl 0 rfl) ?_
  refine z_iload_n hC dX1_isFace_1 rfl (lv_at hl 1 rfl) ?_
  obtain ⟨q1, hq_q1, hz⟩ := ob_some hz
  refine z_callV (As := [.int (x1)]) hC hT (c_X1_has F x0 x1 h_x0 hq_q1) zy_X1_has zc_1 zv_X1_has kw_204 dX1_isFace_2 h_x0 rfl rfl hl.1 (Nat.le_of_ble_eq_true rfl) (by decide) (by decide) ?_
  refine z_if_eq (tgt := 21) hC dX1_isFace_5 (by decide) hz (fun hz => ?_) (fun hz => ?_)
  · skip
    refine z_iconst (v := 0) hC dX1_isFace_21 (by decide) ?_
    obtain rfl := Option.some.inj hz
    exact z_zret hC hT dX1_isFace_22 (Or.inl rfl) (by decide) (by decide)
  · skip
    refine z_aload_n hC dX1_isFace_8 rfl (lv_at hl 0 rfl) ?_
    obtain ⟨r2, hr_r2, hz⟩ := ob_some hz
    have hk_r2 : z_is b0 S r2 11 := hT.at h_x0 hr_r2
    refine z_getR hC zc_1 1 (by decide) kw_28 dX1_isFace_9 h_x0 rfl hr_r2 ?_
    refine z_iload_n hC dX1_isFace_12 rfl (lv_at hl 1 rfl) ?_
    obtain ⟨hi3, hz⟩ := ifn_some hz
    refine z_zald hC dX1_isFace_13 hk_r2 hi3 ?_
    refine z_if_eq (tgt := 21) hC dX1_isFace_14 (by decide) hz (fun hz => ?_) (fun hz => ?_)
    · skip
      refine z_iconst (v := 0) hC dX1_isFace_21 (by decide) ?_
      obtain rfl := Option.some.inj hz
      exact z_zret hC hT dX1_isFace_22 (Or.inl rfl) (by decide) (by decide)
    · skip
      refine z_iconst (v := 1) hC dX1_isFace_17 (by decide) ?_
      refine z_goto (tgt := 22) hC dX1_isFace_18 (by decide) ?_
      obtain rfl := Option.some.inj hz
      exact z_zret hC hT dX1_isFace_22 (Or.inr rfl) (by decide) (by decide)
theorem zy_X1_add : z_y yX1_add cX1_add 3 (some .int) 2 := ⟨kw_208, kw_2, by decide +kernel, by decide +kernel, by decide +kernel⟩
theorem zv_X1_add : Cond.instanceMethod yX1_add ∈ z_tbl ∧ Cond.selects RX1 yX1_add yX1_add ∈ z_tbl := ⟨kw_206, kw_207⟩
def z_X1_add (F : Nat) (S : zS) (I : zI) (x0 : Nat) (x1 : Int32) (x2 : Int32) : Option (Int32 × zI) :=
  ob (z_X1_has F S I x0 x1) (fun q1 => if q1 = 0 then (some ((-1), I)) else (if (I x0 2) < 16 then (ob (S.1 x0 0) (fun r2 => if x1 < 0 ∨ (S.2.1 r2).2 ≤ x1.toNatClampNeg then none else (if (I x0 2) < 0 ∨ (S.2.1 r2).2 ≤ (I x0 2).toNatClampNeg then none else (ob (S.1 x0 1) (fun r5 => if ((z_up I r2 (I x0 2).toNatClampNeg ((I r2 x1.toNatClampNeg) ||| (1 <<< ((I x0 2) &&& 31)))) x0 2) < 0 ∨ (S.2.1 r5).2 ≤ ((z_up I r2 (I x0 2).toNatClampNeg ((I r2 x1.toNatClampNeg) ||| (1 <<< ((I x0 2) &&& 31)))) x0 2).toNatClampNeg then none else (if x2 = 0 ∨ x2 = 1 then (some (((z_up (z_up (z_up I r2 (I x0 2).toNatClampNeg ((I r2 x1.toNatClampNeg) ||| (1 <<< ((I x0 2) &&& 31)))) r5 ((z_up I r2 (I x0 2).toNatClampNeg ((I r2 x1.toNatClampNeg) ||| (1 <<< ((I x0 2) &&& 31)))) x0 2).toNatClampNeg x2) x0 2 (((z_up (z_up I r2 (I x0 2).toNatClampNeg ((I r2 x1.toNatClampNeg) ||| (1 <<< ((I x0 2) &&& 31)))) r5 ((z_up I r2 (I x0 2).toNatClampNeg ((I r2 x1.toNatClampNeg) ||| (1 <<< ((I x0 2) &&& 31)))) x0 2).toNatClampNeg x2) x0 2) + 1)) x0 2) - 1, z_up (z_up (z_up I r2 (I x0 2).toNatClampNeg ((I r2 x1.toNatClampNeg) ||| (1 <<< ((I x0 2) &&& 31)))) r5 ((z_up I r2 (I x0 2).toNatClampNeg ((I r2 x1.toNatClampNeg) ||| (1 <<< ((I x0 2) &&& 31)))) x0 2).toNatClampNeg x2) x0 2 (((z_up (z_up I r2 (I x0 2).toNatClampNeg ((I r2 x1.toNatClampNeg) ||| (1 <<< ((I x0 2) &&& 31)))) r5 ((z_up I r2 (I x0 2).toNatClampNeg ((I r2 x1.toNatClampNeg) ||| (1 <<< ((I x0 2) &&& 31)))) x0 2).toNatClampNeg x2) x0 2) + 1))) else none)))))) else (some ((-2), I))))
set_option maxRecDepth 100000 in
set_option maxHeartbeats 4000000 in
theorem c_X1_add {l : Launch} {D : zD} {b0 : Nat} {S : zS} {I : zI} {X : Int32 × zI} (F : Nat) (x0 : Nat) (x1 : Int32) (x2 : Int32) (h_x0 : z_is b0 S x0 1) (hz : z_X1_add F S I x0 x1 x2 = some X) : z_M l D b0 yX1_add cX1_add 3 (some .int) { frames := 1, cells := 0, slots := 0, locals := 21 } [.ref (x0), .int (x1), .int (x2)] S I (some (.int (X.1))) S X.2 := by
  refine z_met (by decide) (Nat.le_of_ble_eq_true rfl) ?_
  intro p e s m below meth c hC hnm hT ls hl
  have hl : lv_has ls 3 [(0, .ref (x0)), (1, .int (x1)), (2, .int (x2))] := hl
  unfold z_X1_add at hz
  refine z_aload_n hC dX1_add_0 rfl (lv_at hl 0 rfl) ?_
  refine z_iload_n hC dX1_add_1 rfl (lv_at hl 1 rfl) ?_
  obtain ⟨q1, hq_q1, hz⟩ := ob_some hz
  refine z_callV (As := [.int (x1)]) hC hT (c_X1_has F x0 x1 h_x0 hq_q1) zy_X1_has zc_1 zv_X1_has kw_204 dX1_add_2 h_x0 rfl rfl hl.1 (Nat.le_of_ble_eq_true rfl) (by decide) (by decide) ?_
  refine z_if_ne (tgt := 10) hC dX1_add_5 (by decide) hz (fun hz => ?_) (fun hz => ?_)
  · skip
    refine z_aload_n hC dX1_add_10 rfl (lv_at hl 0 rfl) ?_
    refine z_getI hC zc_1 2 (by decide) kw_29 dX1_add_11 h_x0 rfl ?_
    refine z_bipush (v := 16) hC dX1_add_14 (by decide) ?_
    refine z_icmp_lt (tgt := 22) hC dX1_add_16 (by decide) hz (fun hz => ?_) (fun hz => ?_)
    · skip
      refine z_aload_n hC dX1_add_22 rfl (lv_at hl 0 rfl) ?_
      obtain ⟨r2, hr_r2, hz⟩ := ob_some hz
      have hk_r2 : z_is b0 S r2 10 := hT.at h_x0 hr_r2
      refine z_getR hC zc_1 0 (by decide) kw_27 dX1_add_23 h_x0 rfl hr_r2 ?_
      refine z_aload_n hC dX1_add_26 rfl (lv_at hl 0 rfl) ?_
      refine z_getI hC zc_1 2 (by decide) kw_29 dX1_add_27 h_x0 rfl ?_
      refine z_aload_n hC dX1_add_30 rfl (lv_at hl 0 rfl) ?_
      refine z_getR hC zc_1 0 (by decide) kw_27 dX1_add_31 h_x0 rfl hr_r2 ?_
      refine z_iload_n hC dX1_add_34 rfl (lv_at hl 1 rfl) ?_
      obtain ⟨hi3, hz⟩ := ifn_some hz
      refine z_iald hC dX1_add_35 hk_r2 hi3 ?_
      refine z_iconst (v := 1) hC dX1_add_36 (by decide) ?_
      refine z_aload_n hC dX1_add_37 rfl (lv_at hl 0 rfl) ?_
      refine z_getI hC zc_1 2 (by decide) kw_29 dX1_add_38 h_x0 rfl ?_
      refine z_ishl hC dX1_add_41 ?_
      refine z_ior hC dX1_add_42 ?_
      obtain ⟨hi4, hz⟩ := ifn_some hz
      refine z_iast hC dX1_add_43 hk_r2 hi4 ?_
      refine z_aload_n hC dX1_add_44 rfl (lv_at hl 0 rfl) ?_
      obtain ⟨r5, hr_r5, hz⟩ := ob_some hz
      have hk_r5 : z_is b0 S r5 11 := hT.at h_x0 hr_r5
      refine z_getR hC zc_1 1 (by decide) kw_28 dX1_add_45 h_x0 rfl hr_r5 ?_
      refine z_aload_n hC dX1_add_48 rfl (lv_at hl 0 rfl) ?_
      refine z_getI hC zc_1 2 (by decide) kw_29 dX1_add_49 h_x0 rfl ?_
      refine z_iload_n hC dX1_add_52 rfl (lv_at hl 2 rfl) ?_
      obtain ⟨hi6, hz⟩ := ifn_some hz
      obtain ⟨hb7, hz⟩ := ifp_some hz
      refine z_zast hC dX1_add_53 hk_r5 hi6 (z_bool hb7) ?_
      refine z_aload_n hC dX1_add_54 rfl (lv_at hl 0 rfl) ?_
      refine z_dup hC dX1_add_55 rfl ?_
      refine z_getI hC zc_1 2 (by decide) kw_29 dX1_add_56 h_x0 rfl ?_
      refine z_iconst (v := 1) hC dX1_add_59 (by decide) ?_
      refine z_iadd hC dX1_add_60 ?_
      refine z_putI hC zc_1 2 (by decide) kw_29 dX1_add_61 h_x0 rfl rfl rfl rfl ?_
      refine z_aload_n hC dX1_add_64 rfl (lv_at hl 0 rfl) ?_
      refine z_getI hC zc_1 2 (by decide) kw_29 dX1_add_65 h_x0 rfl ?_
      refine z_iconst (v := 1) hC dX1_add_68 (by decide) ?_
      refine z_isub hC dX1_add_69 ?_
      obtain rfl := Option.some.inj hz
      exact z_iret hC hT dX1_add_70 (by decide) (by decide)
    · skip
      refine z_bipush (v := (-2)) hC dX1_add_19 (by decide) ?_
      obtain rfl := Option.some.inj hz
      exact z_iret hC hT dX1_add_21 (by decide) (by decide)
  · skip
    refine z_iconst (v := (-1)) hC dX1_add_8 (by decide) ?_
    obtain rfl := Option.some.inj hz
    exact z_iret hC hT dX1_add_9 (by decide) (by decide)
theorem zy_X1_nearest : z_y yX1_nearest cX1_nearest 5 (some .int) 2 := ⟨kw_216, kw_2, by decide +kernel, by decide +kernel, by decide +kernel⟩
theorem zv_X1_nearest : Cond.instanceMethod yX1_nearest ∈ z_tbl ∧ Cond.selects RX1 yX1_nearest yX1_nearest ∈ z_tbl := ⟨kw_214, kw_215⟩
def z_X1_nearest_73B (F : Nat) (S : zS) (I : zI) (k73 : Int32 → Int32 → Option (Int32)) (x3 : Int32) (x4 : Int32) : Option (Int32) :=
  if 0 < x4 then (if (x3 &&& (1 <<< (x4 &&& 31))) = 0 then (k73 (x3) (x4 + (-1))) else (some (x4))) else (some (0))
def z_X1_nearest_73 (F : Nat) (S : zS) (I : zI)  : Nat → Int32 → Int32 → Option (Int32)
  | 0 => fun _ _ => none
  | n + 1 => fun x3 x4 => z_X1_nearest_73B F S I  (z_X1_nearest_73 F S I  n) x3 x4
def z_X1_nearest (F : Nat) (S : zS) (I : zI) (x0 : Nat) (x1 : Int32) (x2 : Int32) : Option (Int32) :=
  if x1 = x2 then (some (x1)) else (if x1 < 0 then (some (0)) else (if x1 < (I x0 2) then (if x2 < 0 then (some (0)) else (if x2 < (I x0 2) then (ob (S.1 x0 1) (fun r1 => if x1 < 0 ∨ (S.2.1 r1).2 ≤ x1.toNatClampNeg then none else (if (I r1 x1.toNatClampNeg) = 0 then (if x2 < 0 ∨ (S.2.1 r1).2 ≤ x2.toNatClampNeg then none else (if (I r1 x2.toNatClampNeg) = 0 then (ob (S.1 x0 0) (fun r4 => if x1 < 0 ∨ (S.2.1 r4).2 ≤ x1.toNatClampNeg then none else (if x2 < 0 ∨ (S.2.1 r4).2 ≤ x2.toNatClampNeg then none else (z_X1_nearest_73 F S I  F ((I r4 x1.toNatClampNeg) &&& (I r4 x2.toNatClampNeg)) ((I x0 2) - 1))))) else (some (0)))) else (some (0))))) else (some (0)))) else (some (0))))
set_option maxRecDepth 100000 in
set_option maxHeartbeats 4000000 in
theorem bb_X1_nearest_73 {p : Program} {l : Launch} {e : Env} {s : State} {m : MethodId} {args : Array Value} {below : List Frame} {meth : Method} {c : Code} {D : zD} {b0 : Nat} {F : Nat} {S : zS} {I : zI} {X : Int32} (hC : z_C p s m args meth c cX1_nearest RX1 5 (some .int) D) (hT : z_T b0 S) (k73 : Int32 → Int32 → Option (Int32)) (hk73 : ∀ (x3 : Int32) (x4 : Int32) , k73 x3 x4 = some X → ∀ ls : Array Slot, lv_has ls 5 [(3, .int (x3)), (4, .int (x4))] → z_W p l e { frames := 0, cells := 0, slots := 0, locals := 0 } s m args below meth c D b0 S I 0 0 (MQ below (z_Q D b0 (some (.int (X))) S I) args s 0 0 (fun q => b0 ≤ q)) (F0 m 73 ls [])) (x3 : Int32) (x4 : Int32)  (hz : z_X1_nearest_73B F S I k73 x3 x4 = some X) (ls : Array Slot) (hl : lv_has ls 5 [(3, .int (x3)), (4, .int (x4))]) : z_W p l e { frames := 0, cells := 0, slots := 0, locals := 0 } s m args below meth c D b0 S I 0 0 (MQ below (z_Q D b0 (some (.int (X))) S I) args s 0 0 (fun q => b0 ≤ q)) (F0 m 73 ls []) := by
  unfold z_X1_nearest_73B at hz
  refine z_iload hC dX1_nearest_73 (lv_at hl 1 rfl) ?_
  refine z_if_le (tgt := 96) hC dX1_nearest_75 (by decide) hz (fun hz => ?_) (fun hz => ?_)
  · skip
    refine z_iconst (v := 0) hC dX1_nearest_96 (by decide) ?_
    obtain rfl := Option.some.inj hz
    exact z_iret hC hT dX1_nearest_97 (by decide) (by decide)
  · skip
    refine z_iload_n hC dX1_nearest_78 rfl (lv_at hl 0 rfl) ?_
    refine z_iconst (v := 1) hC dX1_nearest_79 (by decide) ?_
    refine z_iload hC dX1_nearest_80 (lv_at hl 1 rfl) ?_
    refine z_ishl hC dX1_nearest_82 ?_
    refine z_iand hC dX1_nearest_83 ?_
    refine z_if_eq (tgt := 90) hC dX1_nearest_84 (by decide) hz (fun hz => ?_) (fun hz => ?_)
    · skip
      refine z_iinc (k0 := 1) (v := x4 + (-1)) (lv' := [(4, .int (x4 + (-1))), (3, .int (x3))]) hC dX1_nearest_90 hl rfl rfl (by decide) rfl (fun ls hl => ?_)
      refine z_goto (tgt := 73) hC dX1_nearest_93 (by decide) ?_
      exact hk73 (x3) (x4 + (-1)) hz ls (lv_sub hl [1, 0] rfl)
    · skip
      refine z_iload hC dX1_nearest_87 (lv_at hl 1 rfl) ?_
      obtain rfl := Option.some.inj hz
      exact z_iret hC hT dX1_nearest_89 (by decide) (by decide)
set_option maxRecDepth 100000 in
set_option maxHeartbeats 4000000 in
theorem b_X1_nearest_73 {p : Program} {l : Launch} {e : Env} {s : State} {m : MethodId} {args : Array Value} {below : List Frame} {meth : Method} {c : Code} {D : zD} {b0 : Nat} {F : Nat} {S : zS} {I : zI} {X : Int32} (hC : z_C p s m args meth c cX1_nearest RX1 5 (some .int) D) (hT : z_T b0 S)   : ∀ (n : Nat) (x3 : Int32) (x4 : Int32), z_X1_nearest_73 F S I  n x3 x4 = some X → ∀ ls : Array Slot, lv_has ls 5 [(3, .int (x3)), (4, .int (x4))] → z_W p l e { frames := 0, cells := 0, slots := 0, locals := 0 } s m args below meth c D b0 S I 0 0 (MQ below (z_Q D b0 (some (.int (X))) S I) args s 0 0 (fun q => b0 ≤ q)) (F0 m 73 ls []) := by
  intro n
  induction n with
  | zero => intro x3 x4  hz; cases hz
  | succ n ih =>
    intro x3 x4  hz ls hl
    exact bb_X1_nearest_73 (F := F) hC hT  (z_X1_nearest_73 F S I  n)  ih x3 x4  hz ls hl
set_option maxRecDepth 100000 in
set_option maxHeartbeats 4000000 in
theorem c_X1_nearest {l : Launch} {D : zD} {b0 : Nat} {S : zS} {I : zI} {X : Int32} (F : Nat) (x0 : Nat) (x1 : Int32) (x2 : Int32) (h_x0 : z_is b0 S x0 1) (hz : z_X1_nearest F S I x0 x1 x2 = some X) : z_M l D b0 yX1_nearest cX1_nearest 5 (some .int) { frames := 0, cells := 0, slots := 0, locals := 0 } [.ref (x0), .int (x1), .int (x2)] S I (some (.int (X))) S I := by
  refine z_met (by decide) (Nat.le_of_ble_eq_true rfl) ?_
  intro p e s m below meth c hC hnm hT ls hl
  have hl : lv_has ls 5 [(0, .ref (x0)), (1, .int (x1)), (2, .int (x2))] := hl
  unfold z_X1_nearest at hz
  refine z_iload_n hC dX1_nearest_0 rfl (lv_at hl 1 rfl) ?_
  refine z_iload_n hC dX1_nearest_1 rfl (lv_at hl 2 rfl) ?_
  refine z_icmp_ne (tgt := 7) hC dX1_nearest_2 (by decide) hz (fun hz => ?_) (fun hz => ?_)
  · skip
    refine z_iload_n hC dX1_nearest_7 rfl (lv_at hl 1 rfl) ?_
    refine z_if_lt (tgt := 49) hC dX1_nearest_8 (by decide) hz (fun hz => ?_) (fun hz => ?_)
    · skip
      refine z_iconst (v := 0) hC dX1_nearest_49 (by decide) ?_
      obtain rfl := Option.some.inj hz
      exact z_iret hC hT dX1_nearest_50 (by decide) (by decide)
    · skip
      refine z_iload_n hC dX1_nearest_11 rfl (lv_at hl 1 rfl) ?_
      refine z_aload_n hC dX1_nearest_12 rfl (lv_at hl 0 rfl) ?_
      refine z_getI hC zc_1 2 (by decide) kw_29 dX1_nearest_13 h_x0 rfl ?_
      refine z_icmp_ge (tgt := 49) hC dX1_nearest_16 (by decide) hz (fun hz => ?_) (fun hz => ?_)
      · skip
        refine z_iconst (v := 0) hC dX1_nearest_49 (by decide) ?_
        obtain rfl := Option.some.inj hz
        exact z_iret hC hT dX1_nearest_50 (by decide) (by decide)
      · skip
        refine z_iload_n hC dX1_nearest_19 rfl (lv_at hl 2 rfl) ?_
        refine z_if_lt (tgt := 49) hC dX1_nearest_20 (by decide) hz (fun hz => ?_) (fun hz => ?_)
        · skip
          refine z_iconst (v := 0) hC dX1_nearest_49 (by decide) ?_
          obtain rfl := Option.some.inj hz
          exact z_iret hC hT dX1_nearest_50 (by decide) (by decide)
        · skip
          refine z_iload_n hC dX1_nearest_23 rfl (lv_at hl 2 rfl) ?_
          refine z_aload_n hC dX1_nearest_24 rfl (lv_at hl 0 rfl) ?_
          refine z_getI hC zc_1 2 (by decide) kw_29 dX1_nearest_25 h_x0 rfl ?_
          refine z_icmp_ge (tgt := 49) hC dX1_nearest_28 (by decide) hz (fun hz => ?_) (fun hz => ?_)
          · skip
            refine z_iconst (v := 0) hC dX1_nearest_49 (by decide) ?_
            obtain rfl := Option.some.inj hz
            exact z_iret hC hT dX1_nearest_50 (by decide) (by decide)
          · skip
            refine z_aload_n hC dX1_nearest_31 rfl (lv_at hl 0 rfl) ?_
            obtain ⟨r1, hr_r1, hz⟩ := ob_some hz
            have hk_r1 : z_is b0 S r1 11 := hT.at h_x0 hr_r1
            refine z_getR hC zc_1 1 (by decide) kw_28 dX1_nearest_32 h_x0 rfl hr_r1 ?_
            refine z_iload_n hC dX1_nearest_35 rfl (lv_at hl 1 rfl) ?_
            obtain ⟨hi2, hz⟩ := ifn_some hz
            refine z_zald hC dX1_nearest_36 hk_r1 hi2 ?_
            refine z_if_ne (tgt := 49) hC dX1_nearest_37 (by decide) hz (fun hz => ?_) (fun hz => ?_)
            · skip
              refine z_iconst (v := 0) hC dX1_nearest_49 (by decide) ?_
              obtain rfl := Option.some.inj hz
              exact z_iret hC hT dX1_nearest_50 (by decide) (by decide)
            · skip
              refine z_aload_n hC dX1_nearest_40 rfl (lv_at hl 0 rfl) ?_
              refine z_getR hC zc_1 1 (by decide) kw_28 dX1_nearest_41 h_x0 rfl hr_r1 ?_
              refine z_iload_n hC dX1_nearest_44 rfl (lv_at hl 2 rfl) ?_
              obtain ⟨hi3, hz⟩ := ifn_some hz
              refine z_zald hC dX1_nearest_45 hk_r1 hi3 ?_
              refine z_if_eq (tgt := 51) hC dX1_nearest_46 (by decide) hz (fun hz => ?_) (fun hz => ?_)
              · skip
                refine z_aload_n hC dX1_nearest_51 rfl (lv_at hl 0 rfl) ?_
                obtain ⟨r4, hr_r4, hz⟩ := ob_some hz
                have hk_r4 : z_is b0 S r4 10 := hT.at h_x0 hr_r4
                refine z_getR hC zc_1 0 (by decide) kw_27 dX1_nearest_52 h_x0 rfl hr_r4 ?_
                refine z_iload_n hC dX1_nearest_55 rfl (lv_at hl 1 rfl) ?_
                obtain ⟨hi5, hz⟩ := ifn_some hz
                refine z_iald hC dX1_nearest_56 hk_r4 hi5 ?_
                refine z_aload_n hC dX1_nearest_57 rfl (lv_at hl 0 rfl) ?_
                refine z_getR hC zc_1 0 (by decide) kw_27 dX1_nearest_58 h_x0 rfl hr_r4 ?_
                refine z_iload_n hC dX1_nearest_61 rfl (lv_at hl 2 rfl) ?_
                obtain ⟨hi6, hz⟩ := ifn_some hz
                refine z_iald hC dX1_nearest_62 hk_r4 hi6 ?_
                refine z_iand hC dX1_nearest_63 ?_
                refine z_istore_n (lv' := [(3, .int ((I r4 x1.toNatClampNeg) &&& (I r4 x2.toNatClampNeg))), (0, .ref (x0)), (1, .int (x1)), (2, .int (x2))]) hC dX1_nearest_64 rfl hl (by decide) rfl (fun ls hl => ?_)
                refine z_aload_n hC dX1_nearest_65 rfl (lv_at hl 1 rfl) ?_
                refine z_getI hC zc_1 2 (by decide) kw_29 dX1_nearest_66 h_x0 rfl ?_
                refine z_iconst (v := 1) hC dX1_nearest_69 (by decide) ?_
                refine z_isub hC dX1_nearest_70 ?_
                refine z_istore (lv' := [(4, .int ((I x0 2) - 1)), (3, .int ((I r4 x1.toNatClampNeg) &&& (I r4 x2.toNatClampNeg))), (0, .ref (x0)), (1, .int (x1)), (2, .int (x2))]) hC dX1_nearest_71 hl (by decide) rfl (fun ls hl => ?_)
                exact b_X1_nearest_73 hC hT   F ((I r4 x1.toNatClampNeg) &&& (I r4 x2.toNatClampNeg)) ((I x0 2) - 1) hz ls (lv_sub hl [1, 0] rfl)
              · skip
                refine z_iconst (v := 0) hC dX1_nearest_49 (by decide) ?_
                obtain rfl := Option.some.inj hz
                exact z_iret hC hT dX1_nearest_50 (by decide) (by decide)
  · skip
    refine z_iload_n hC dX1_nearest_5 rfl (lv_at hl 1 rfl) ?_
    obtain rfl := Option.some.inj hz
    exact z_iret hC hT dX1_nearest_6 (by decide) (by decide)
theorem zy_X1_isKindOf : z_y yX1_isKindOf cX1_isKindOf 3 (some .boolean) 2 := ⟨kw_224, kw_2, by decide +kernel, by decide +kernel, by decide +kernel⟩
theorem zv_X1_isKindOf : Cond.instanceMethod yX1_isKindOf ∈ z_tbl ∧ Cond.selects RX1 yX1_isKindOf yX1_isKindOf ∈ z_tbl := ⟨kw_222, kw_223⟩
def z_X1_isKindOf (F : Nat) (S : zS) (I : zI) (x0 : Nat) (x1 : Int32) (x2 : Int32) : Option (Int32) :=
  if x1 < 0 then (some (0)) else (if x1 < (I x0 2) then (if x2 < 0 then (some (0)) else (if x2 < (I x0 2) then (ob (S.1 x0 1) (fun r1 => if x2 < 0 ∨ (S.2.1 r1).2 ≤ x2.toNatClampNeg then none else (if (I r1 x2.toNatClampNeg) = 0 then (ob (S.1 x0 0) (fun r3 => if x1 < 0 ∨ (S.2.1 r3).2 ≤ x1.toNatClampNeg then none else (if ((I r3 x1.toNatClampNeg) &&& (1 <<< (x2 &&& 31))) = 0 then (some (0)) else (some (1))))) else (some (1))))) else (some (0)))) else (some (0)))
set_option maxRecDepth 100000 in
set_option maxHeartbeats 4000000 in
theorem c_X1_isKindOf {l : Launch} {D : zD} {b0 : Nat} {S : zS} {I : zI} {X : Int32} (F : Nat) (x0 : Nat) (x1 : Int32) (x2 : Int32) (h_x0 : z_is b0 S x0 1) (hz : z_X1_isKindOf F S I x0 x1 x2 = some X) : z_M l D b0 yX1_isKindOf cX1_isKindOf 3 (some .boolean) { frames := 0, cells := 0, slots := 0, locals := 0 } [.ref (x0), .int (x1), .int (x2)] S I (some (.int (X))) S I := by
  refine z_met (by decide) (Nat.le_of_ble_eq_true rfl) ?_
  intro p e s m below meth c hC hnm hT ls hl
  have hl : lv_has ls 3 [(0, .ref (x0)), (1, .int (x1)), (2, .int (x2))] := hl
  unfold z_X1_isKindOf at hz
  refine z_iload_n hC dX1_isKindOf_0 rfl (lv_at hl 1 rfl) ?_
  refine z_if_lt (tgt := 24) hC dX1_isKindOf_1 (by decide) hz (fun hz => ?_) (fun hz => ?_)
  · skip
    refine z_iconst (v := 0) hC dX1_isKindOf_24 (by decide) ?_
    obtain rfl := Option.some.inj hz
    exact z_zret hC hT dX1_isKindOf_25 (Or.inl rfl) (by decide) (by decide)
  · skip
    refine z_iload_n hC dX1_isKindOf_4 rfl (lv_at hl 1 rfl) ?_
    refine z_aload_n hC dX1_isKindOf_5 rfl (lv_at hl 0 rfl) ?_
    refine z_getI hC zc_1 2 (by decide) kw_29 dX1_isKindOf_6 h_x0 rfl ?_
    refine z_icmp_ge (tgt := 24) hC dX1_isKindOf_9 (by decide) hz (fun hz => ?_) (fun hz => ?_)
    · skip
      refine z_iconst (v := 0) hC dX1_isKindOf_24 (by decide) ?_
      obtain rfl := Option.some.inj hz
      exact z_zret hC hT dX1_isKindOf_25 (Or.inl rfl) (by decide) (by decide)
    · skip
      refine z_iload_n hC dX1_isKindOf_12 rfl (lv_at hl 2 rfl) ?_
      refine z_if_lt (tgt := 24) hC dX1_isKindOf_13 (by decide) hz (fun hz => ?_) (fun hz => ?_)
      · skip
        refine z_iconst (v := 0) hC dX1_isKindOf_24 (by decide) ?_
        obtain rfl := Option.some.inj hz
        exact z_zret hC hT dX1_isKindOf_25 (Or.inl rfl) (by decide) (by decide)
      · skip
        refine z_iload_n hC dX1_isKindOf_16 rfl (lv_at hl 2 rfl) ?_
        refine z_aload_n hC dX1_isKindOf_17 rfl (lv_at hl 0 rfl) ?_
        refine z_getI hC zc_1 2 (by decide) kw_29 dX1_isKindOf_18 h_x0 rfl ?_
        refine z_icmp_lt (tgt := 26) hC dX1_isKindOf_21 (by decide) hz (fun hz => ?_) (fun hz => ?_)
        · skip
          refine z_aload_n hC dX1_isKindOf_26 rfl (lv_at hl 0 rfl) ?_
          obtain ⟨r1, hr_r1, hz⟩ := ob_some hz
          have hk_r1 : z_is b0 S r1 11 := hT.at h_x0 hr_r1
          refine z_getR hC zc_1 1 (by decide) kw_28 dX1_isKindOf_27 h_x0 rfl hr_r1 ?_
          refine z_iload_n hC dX1_isKindOf_30 rfl (lv_at hl 2 rfl) ?_
          obtain ⟨hi2, hz⟩ := ifn_some hz
          refine z_zald hC dX1_isKindOf_31 hk_r1 hi2 ?_
          refine z_if_ne (tgt := 48) hC dX1_isKindOf_32 (by decide) hz (fun hz => ?_) (fun hz => ?_)
          · skip
            refine z_iconst (v := 1) hC dX1_isKindOf_48 (by decide) ?_
            refine z_goto (tgt := 53) hC dX1_isKindOf_49 (by decide) ?_
            obtain rfl := Option.some.inj hz
            exact z_zret hC hT dX1_isKindOf_53 (Or.inr rfl) (by decide) (by decide)
          · skip
            refine z_aload_n hC dX1_isKindOf_35 rfl (lv_at hl 0 rfl) ?_
            obtain ⟨r3, hr_r3, hz⟩ := ob_some hz
            have hk_r3 : z_is b0 S r3 10 := hT.at h_x0 hr_r3
            refine z_getR hC zc_1 0 (by decide) kw_27 dX1_isKindOf_36 h_x0 rfl hr_r3 ?_
            refine z_iload_n hC dX1_isKindOf_39 rfl (lv_at hl 1 rfl) ?_
            obtain ⟨hi4, hz⟩ := ifn_some hz
            refine z_iald hC dX1_isKindOf_40 hk_r3 hi4 ?_
            refine z_iconst (v := 1) hC dX1_isKindOf_41 (by decide) ?_
            refine z_iload_n hC dX1_isKindOf_42 rfl (lv_at hl 2 rfl) ?_
            refine z_ishl hC dX1_isKindOf_43 ?_
            refine z_iand hC dX1_isKindOf_44 ?_
            refine z_if_eq (tgt := 52) hC dX1_isKindOf_45 (by decide) hz (fun hz => ?_) (fun hz => ?_)
            · skip
              refine z_iconst (v := 0) hC dX1_isKindOf_52 (by decide) ?_
              obtain rfl := Option.some.inj hz
              exact z_zret hC hT dX1_isKindOf_53 (Or.inl rfl) (by decide) (by decide)
            · skip
              refine z_iconst (v := 1) hC dX1_isKindOf_48 (by decide) ?_
              refine z_goto (tgt := 53) hC dX1_isKindOf_49 (by decide) ?_
              obtain rfl := Option.some.inj hz
              exact z_zret hC hT dX1_isKindOf_53 (Or.inr rfl) (by decide) (by decide)
        · skip
          refine z_iconst (v := 0) hC dX1_isKindOf_24 (by decide) ?_
          obtain rfl := Option.some.inj hz
          exact z_zret hC hT dX1_isKindOf_25 (Or.inl rfl) (by decide) (by decide)
theorem zy_X1_isKnownObject : z_y yX1_isKnownObject cX1_isKnownObject 2 (some .boolean) 1 := ⟨kw_248, kw_2, by decide +kernel, by decide +kernel, by decide +kernel⟩
theorem zv_X1_isKnownObject : Cond.instanceMethod yX1_isKnownObject ∈ z_tbl ∧ Cond.selects RX1 yX1_isKnownObject yX1_isKnownObject ∈ z_tbl := ⟨kw_246, kw_247⟩
def z_X1_isKnownObject (F : Nat) (S : zS) (I : zI) (x0 : Nat) (x1 : Int32) : Option (Int32) :=
  if x1 < 10 then (some (0)) else (if x1 < (10 + (I x0 2)) then (some (1)) else (some (0)))
set_option maxRecDepth 100000 in
set_option maxHeartbeats 4000000 in
theorem c_X1_isKnownObject {l : Launch} {D : zD} {b0 : Nat} {S : zS} {I : zI} {X : Int32} (F : Nat) (x0 : Nat) (x1 : Int32) (h_x0 : z_is b0 S x0 1) (hz : z_X1_isKnownObject F S I x0 x1 = some X) : z_M l D b0 yX1_isKnownObject cX1_isKnownObject 2 (some .boolean) { frames := 0, cells := 0, slots := 0, locals := 0 } [.ref (x0), .int (x1)] S I (some (.int (X))) S I := by
  refine z_met (by decide) (Nat.le_of_ble_eq_true rfl) ?_
  intro p e s m below meth c hC hnm hT ls hl
  have hl : lv_has ls 2 [(0, .ref (x0)), (1, .int (x1))] := hl
  unfold z_X1_isKnownObject at hz
  refine z_iload_n hC dX1_isKnownObject_0 rfl (lv_at hl 1 rfl) ?_
  refine z_bipush (v := 10) hC dX1_isKnownObject_1 (by decide) ?_
  refine z_icmp_lt (tgt := 21) hC dX1_isKnownObject_3 (by decide) hz (fun hz => ?_) (fun hz => ?_)
  · skip
    refine z_iconst (v := 0) hC dX1_isKnownObject_21 (by decide) ?_
    obtain rfl := Option.some.inj hz
    exact z_zret hC hT dX1_isKnownObject_22 (Or.inl rfl) (by decide) (by decide)
  · skip
    refine z_iload_n hC dX1_isKnownObject_6 rfl (lv_at hl 1 rfl) ?_
    refine z_bipush (v := 10) hC dX1_isKnownObject_7 (by decide) ?_
    refine z_aload_n hC dX1_isKnownObject_9 rfl (lv_at hl 0 rfl) ?_
    refine z_getI hC zc_1 2 (by decide) kw_29 dX1_isKnownObject_10 h_x0 rfl ?_
    refine z_iadd hC dX1_isKnownObject_13 ?_
    refine z_icmp_ge (tgt := 21) hC dX1_isKnownObject_14 (by decide) hz (fun hz => ?_) (fun hz => ?_)
    · skip
      refine z_iconst (v := 0) hC dX1_isKnownObject_21 (by decide) ?_
      obtain rfl := Option.some.inj hz
      exact z_zret hC hT dX1_isKnownObject_22 (Or.inl rfl) (by decide) (by decide)
    · skip
      refine z_iconst (v := 1) hC dX1_isKnownObject_17 (by decide) ?_
      refine z_goto (tgt := 22) hC dX1_isKnownObject_18 (by decide) ?_
      obtain rfl := Option.some.inj hz
      exact z_zret hC hT dX1_isKnownObject_22 (Or.inr rfl) (by decide) (by decide)
theorem zy_X1_joinTypes : z_y yX1_joinTypes cX1_joinTypes 5 (some .int) 2 := ⟨kw_420, kw_2, by decide +kernel, by decide +kernel, by decide +kernel⟩
theorem zv_X1_joinTypes : Cond.instanceMethod yX1_joinTypes ∈ z_tbl ∧ Cond.selects RX1 yX1_joinTypes yX1_joinTypes ∈ z_tbl := ⟨kw_418, kw_419⟩
def z_X1_joinTypes_57 (F : Nat) (S : zS) (I : zI)  (x1 : Int32) (x2 : Int32) (x3 : Int32) : Option (Int32) :=
  if x2 = 4 then (if x3 = 0 then (some (0)) else (some (x1))) else (some (0))
def z_X1_joinTypes_45 (F : Nat) (S : zS) (I : zI)  (x1 : Int32) (x2 : Int32) (x3 : Int32) (x4 : Int32) : Option (Int32) :=
  if x1 = 4 then (if x4 = 0 then (z_X1_joinTypes_57 F S I  (x1) (x2) (x3)) else (some (x2))) else (z_X1_joinTypes_57 F S I  (x1) (x2) (x3))
def z_X1_joinTypes (F : Nat) (S : zS) (I : zI) (x0 : Nat) (x1 : Int32) (x2 : Int32) : Option (Int32) :=
  if x1 = x2 then (some (x1)) else (ob (z_X1_isKnownObject F S I x0 x1) (fun q1 => ob (z_X1_isKnownObject F S I x0 x2) (fun q2 => if q1 = 0 then (z_X1_joinTypes_45 F S I  (x1) (x2) (q1) (q2)) else (if q2 = 0 then (z_X1_joinTypes_45 F S I  (x1) (x2) (q1) (q2)) else (ob (z_X1_nearest F S I x0 (x1 - 10) (x2 - 10)) (fun q3 => some (10 + q3)))))))
set_option maxRecDepth 100000 in
set_option maxHeartbeats 4000000 in
theorem b_X1_joinTypes_57 {p : Program} {l : Launch} {e : Env} {s : State} {m : MethodId} {args : Array Value} {below : List Frame} {meth : Method} {c : Code} {D : zD} {b0 : Nat} {F : Nat} {S : zS} {I : zI} {X : Int32} (hC : z_C p s m args meth c cX1_joinTypes RX1 5 (some .int) D) (hT : z_T b0 S)   (x1 : Int32) (x2 : Int32) (x3 : Int32)  (hz : z_X1_joinTypes_57 F S I  x1 x2 x3 = some X) (ls : Array Slot) (hl : lv_has ls 5 [(1, .int (x1)), (2, .int (x2)), (3, .int (x3))]) : z_W p l e { frames := 1, cells := 0, slots := 0, locals := 24 } s m args below meth c D b0 S I 0 0 (MQ below (z_Q D b0 (some (.int (X))) S I) args s 0 0 (fun q => b0 ≤ q)) (F0 m 57 ls []) := by
  unfold z_X1_joinTypes_57 at hz
  refine z_iload_n hC dX1_joinTypes_57 rfl (lv_at hl 1 rfl) ?_
  refine z_iconst (v := 4) hC dX1_joinTypes_58 (by decide) ?_
  refine z_icmp_ne (tgt := 70) hC dX1_joinTypes_59 (by decide) hz (fun hz => ?_) (fun hz => ?_)
  · skip
    refine z_iconst (v := 0) hC dX1_joinTypes_70 (by decide) ?_
    obtain rfl := Option.some.inj hz
    exact z_iret hC hT dX1_joinTypes_71 (by decide) (by decide)
  · skip
    refine z_iload_n hC dX1_joinTypes_62 rfl (lv_at hl 2 rfl) ?_
    refine z_if_eq (tgt := 70) hC dX1_joinTypes_63 (by decide) hz (fun hz => ?_) (fun hz => ?_)
    · skip
      refine z_iconst (v := 0) hC dX1_joinTypes_70 (by decide) ?_
      obtain rfl := Option.some.inj hz
      exact z_iret hC hT dX1_joinTypes_71 (by decide) (by decide)
    · skip
      refine z_iload_n hC dX1_joinTypes_66 rfl (lv_at hl 0 rfl) ?_
      refine z_goto (tgt := 71) hC dX1_joinTypes_67 (by decide) ?_
      obtain rfl := Option.some.inj hz
      exact z_iret hC hT dX1_joinTypes_71 (by decide) (by decide)
set_option maxRecDepth 100000 in
set_option maxHeartbeats 4000000 in
theorem b_X1_joinTypes_45 {p : Program} {l : Launch} {e : Env} {s : State} {m : MethodId} {args : Array Value} {below : List Frame} {meth : Method} {c : Code} {D : zD} {b0 : Nat} {F : Nat} {S : zS} {I : zI} {X : Int32} (hC : z_C p s m args meth c cX1_joinTypes RX1 5 (some .int) D) (hT : z_T b0 S)   (x1 : Int32) (x2 : Int32) (x3 : Int32) (x4 : Int32)  (hz : z_X1_joinTypes_45 F S I  x1 x2 x3 x4 = some X) (ls : Array Slot) (hl : lv_has ls 5 [(1, .int (x1)), (2, .int (x2)), (3, .int (x3)), (4, .int (x4))]) : z_W p l e { frames := 1, cells := 0, slots := 0, locals := 24 } s m args below meth c D b0 S I 0 0 (MQ below (z_Q D b0 (some (.int (X))) S I) args s 0 0 (fun q => b0 ≤ q)) (F0 m 45 ls []) := by
  unfold z_X1_joinTypes_45 at hz
  refine z_iload_n hC dX1_joinTypes_45 rfl (lv_at hl 0 rfl) ?_
  refine z_iconst (v := 4) hC dX1_joinTypes_46 (by decide) ?_
  refine z_icmp_ne (tgt := 57) hC dX1_joinTypes_47 (by decide) hz (fun hz => ?_) (fun hz => ?_)
  · skip
    exact b_X1_joinTypes_57 hC hT   (x1) (x2) (x3) hz ls (lv_sub hl [0, 1, 2] rfl)
  · skip
    refine z_iload hC dX1_joinTypes_50 (lv_at hl 3 rfl) ?_
    refine z_if_eq (tgt := 57) hC dX1_joinTypes_52 (by decide) hz (fun hz => ?_) (fun hz => ?_)
    · skip
      exact b_X1_joinTypes_57 hC hT   (x1) (x2) (x3) hz ls (lv_sub hl [0, 1, 2] rfl)
    · skip
      refine z_iload_n hC dX1_joinTypes_55 rfl (lv_at hl 1 rfl) ?_
      obtain rfl := Option.some.inj hz
      exact z_iret hC hT dX1_joinTypes_56 (by decide) (by decide)
set_option maxRecDepth 100000 in
set_option maxHeartbeats 4000000 in
theorem c_X1_joinTypes {l : Launch} {D : zD} {b0 : Nat} {S : zS} {I : zI} {X : Int32} (F : Nat) (x0 : Nat) (x1 : Int32) (x2 : Int32) (h_x0 : z_is b0 S x0 1) (hz : z_X1_joinTypes F S I x0 x1 x2 = some X) : z_M l D b0 yX1_joinTypes cX1_joinTypes 5 (some .int) { frames := 1, cells := 0, slots := 0, locals := 24 } [.ref (x0), .int (x1), .int (x2)] S I (some (.int (X))) S I := by
  refine z_met (by decide) (Nat.le_of_ble_eq_true rfl) ?_
  intro p e s m below meth c hC hnm hT ls hl
  have hl : lv_has ls 5 [(0, .ref (x0)), (1, .int (x1)), (2, .int (x2))] := hl
  unfold z_X1_joinTypes at hz
  refine z_iload_n hC dX1_joinTypes_0 rfl (lv_at hl 1 rfl) ?_
  refine z_iload_n hC dX1_joinTypes_1 rfl (lv_at hl 2 rfl) ?_
  refine z_icmp_ne (tgt := 7) hC dX1_joinTypes_2 (by decide) hz (fun hz => ?_) (fun hz => ?_)
  · skip
    refine z_aload_n hC dX1_joinTypes_7 rfl (lv_at hl 0 rfl) ?_
    refine z_iload_n hC dX1_joinTypes_8 rfl (lv_at hl 1 rfl) ?_
    obtain ⟨q1, hq_q1, hz⟩ := ob_some hz
    refine z_callV (As := [.int (x1)]) hC hT (c_X1_isKnownObject F x0 x1 h_x0 hq_q1) zy_X1_isKnownObject zc_1 zv_X1_isKnownObject kw_421 dX1_joinTypes_9 h_x0 rfl rfl hl.1 (Nat.le_of_ble_eq_true rfl) (by decide) (by decide) ?_
    refine z_istore_n (lv' := [(3, .int (q1)), (0, .ref (x0)), (1, .int (x1)), (2, .int (x2))]) hC dX1_joinTypes_12 rfl hl (by decide) rfl (fun ls hl => ?_)
    refine z_aload_n hC dX1_joinTypes_13 rfl (lv_at hl 1 rfl) ?_
    refine z_iload_n hC dX1_joinTypes_14 rfl (lv_at hl 3 rfl) ?_
    obtain ⟨q2, hq_q2, hz⟩ := ob_some hz
    refine z_callV (As := [.int (x2)]) hC hT (c_X1_isKnownObject F x0 x2 h_x0 hq_q2) zy_X1_isKnownObject zc_1 zv_X1_isKnownObject kw_421 dX1_joinTypes_15 h_x0 rfl rfl hl.1 (Nat.le_of_ble_eq_true rfl) (by decide) (by decide) ?_
    refine z_istore (lv' := [(4, .int (q2)), (3, .int (q1)), (0, .ref (x0)), (1, .int (x1)), (2, .int (x2))]) hC dX1_joinTypes_18 hl (by decide) rfl (fun ls hl => ?_)
    refine z_iload_n hC dX1_joinTypes_20 rfl (lv_at hl 1 rfl) ?_
    refine z_if_eq (tgt := 45) hC dX1_joinTypes_21 (by decide) hz (fun hz => ?_) (fun hz => ?_)
    · skip
      exact b_X1_joinTypes_45 hC hT   (x1) (x2) (q1) (q2) hz ls (lv_sub hl [3, 4, 1, 0] rfl)
    · skip
      refine z_iload hC dX1_joinTypes_24 (lv_at hl 0 rfl) ?_
      refine z_if_eq (tgt := 45) hC dX1_joinTypes_26 (by decide) hz (fun hz => ?_) (fun hz => ?_)
      · skip
        exact b_X1_joinTypes_45 hC hT   (x1) (x2) (q1) (q2) hz ls (lv_sub hl [3, 4, 1, 0] rfl)
      · skip
        refine z_bipush (v := 10) hC dX1_joinTypes_29 (by decide) ?_
        refine z_aload_n hC dX1_joinTypes_31 rfl (lv_at hl 2 rfl) ?_
        refine z_iload_n hC dX1_joinTypes_32 rfl (lv_at hl 3 rfl) ?_
        refine z_bipush (v := 10) hC dX1_joinTypes_33 (by decide) ?_
        refine z_isub hC dX1_joinTypes_35 ?_
        refine z_iload_n hC dX1_joinTypes_36 rfl (lv_at hl 4 rfl) ?_
        refine z_bipush (v := 10) hC dX1_joinTypes_37 (by decide) ?_
        refine z_isub hC dX1_joinTypes_39 ?_
        obtain ⟨q3, hq_q3, hz⟩ := ob_some hz
        refine z_callV (As := [.int (x1 - 10), .int (x2 - 10)]) hC hT (c_X1_nearest F x0 (x1 - 10) (x2 - 10) h_x0 hq_q3) zy_X1_nearest zc_1 zv_X1_nearest kw_422 dX1_joinTypes_40 h_x0 rfl rfl hl.1 (Nat.le_of_ble_eq_true rfl) (by decide) (by decide) ?_
        refine z_iadd hC dX1_joinTypes_43 ?_
        obtain rfl := Option.some.inj hz
        exact z_iret hC hT dX1_joinTypes_44 (by decide) (by decide)
  · skip
    refine z_iload_n hC dX1_joinTypes_5 rfl (lv_at hl 1 rfl) ?_
    obtain rfl := Option.some.inj hz
    exact z_iret hC hT dX1_joinTypes_6 (by decide) (by decide)
theorem zy_X1_isObjectFor : z_y yX1_isObjectFor cX1_isObjectFor 3 (some .boolean) 2 := ⟨kw_530, kw_2, by decide +kernel, by decide +kernel, by decide +kernel⟩
theorem zv_X1_isObjectFor : Cond.instanceMethod yX1_isObjectFor ∈ z_tbl ∧ Cond.selects RX1 yX1_isObjectFor yX1_isObjectFor ∈ z_tbl := ⟨kw_528, kw_529⟩
def z_X1_isObjectFor (F : Nat) (S : zS) (I : zI) (x0 : Nat) (x1 : Int32) (x2 : Int32) : Option (Int32) :=
  if x1 = 4 then (some (1)) else (ob (z_X1_isKindOf F S I x0 (x1 - 10) x2) (fun q1 => if q1 = 0 then (some (0)) else (some (1))))
set_option maxRecDepth 100000 in
set_option maxHeartbeats 4000000 in
theorem c_X1_isObjectFor {l : Launch} {D : zD} {b0 : Nat} {S : zS} {I : zI} {X : Int32} (F : Nat) (x0 : Nat) (x1 : Int32) (x2 : Int32) (h_x0 : z_is b0 S x0 1) (hz : z_X1_isObjectFor F S I x0 x1 x2 = some X) : z_M l D b0 yX1_isObjectFor cX1_isObjectFor 3 (some .boolean) { frames := 1, cells := 0, slots := 0, locals := 22 } [.ref (x0), .int (x1), .int (x2)] S I (some (.int (X))) S I := by
  refine z_met (by decide) (Nat.le_of_ble_eq_true rfl) ?_
  intro p e s m below meth c hC hnm hT ls hl
  have hl : lv_has ls 3 [(0, .ref (x0)), (1, .int (x1)), (2, .int (x2))] := hl
  unfold z_X1_isObjectFor at hz
  refine z_iload_n hC dX1_isObjectFor_0 rfl (lv_at hl 1 rfl) ?_
  refine z_iconst (v := 4) hC dX1_isObjectFor_1 (by decide) ?_
  refine z_icmp_eq (tgt := 17) hC dX1_isObjectFor_2 (by decide) hz (fun hz => ?_) (fun hz => ?_)
  · skip
    refine z_iconst (v := 1) hC dX1_isObjectFor_17 (by decide) ?_
    refine z_goto (tgt := 22) hC dX1_isObjectFor_18 (by decide) ?_
    obtain rfl := Option.some.inj hz
    exact z_zret hC hT dX1_isObjectFor_22 (Or.inr rfl) (by decide) (by decide)
  · skip
    refine z_aload_n hC dX1_isObjectFor_5 rfl (lv_at hl 0 rfl) ?_
    refine z_iload_n hC dX1_isObjectFor_6 rfl (lv_at hl 1 rfl) ?_
    refine z_bipush (v := 10) hC dX1_isObjectFor_7 (by decide) ?_
    refine z_isub hC dX1_isObjectFor_9 ?_
    refine z_iload_n hC dX1_isObjectFor_10 rfl (lv_at hl 2 rfl) ?_
    obtain ⟨q1, hq_q1, hz⟩ := ob_some hz
    refine z_callV (As := [.int (x1 - 10), .int (x2)]) hC hT (c_X1_isKindOf F x0 (x1 - 10) x2 h_x0 hq_q1) zy_X1_isKindOf zc_1 zv_X1_isKindOf kw_531 dX1_isObjectFor_11 h_x0 rfl rfl hl.1 (Nat.le_of_ble_eq_true rfl) (by decide) (by decide) ?_
    refine z_if_eq (tgt := 21) hC dX1_isObjectFor_14 (by decide) hz (fun hz => ?_) (fun hz => ?_)
    · skip
      refine z_iconst (v := 0) hC dX1_isObjectFor_21 (by decide) ?_
      obtain rfl := Option.some.inj hz
      exact z_zret hC hT dX1_isObjectFor_22 (Or.inl rfl) (by decide) (by decide)
    · skip
      refine z_iconst (v := 1) hC dX1_isObjectFor_17 (by decide) ?_
      refine z_goto (tgt := 22) hC dX1_isObjectFor_18 (by decide) ?_
      obtain rfl := Option.some.inj hz
      exact z_zret hC hT dX1_isObjectFor_22 (Or.inr rfl) (by decide) (by decide)
theorem zy_X1_fitsType : z_y yX1_fitsType cX1_fitsType 3 (some .boolean) 2 := ⟨kw_687, kw_2, by decide +kernel, by decide +kernel, by decide +kernel⟩
theorem zv_X1_fitsType : Cond.instanceMethod yX1_fitsType ∈ z_tbl ∧ Cond.selects RX1 yX1_fitsType yX1_fitsType ∈ z_tbl := ⟨kw_685, kw_686⟩
def z_X1_fitsType (F : Nat) (S : zS) (I : zI) (x0 : Nat) (x1 : Int32) (x2 : Int32) : Option (Int32) :=
  if x1 = x2 then (some (1)) else (if x2 = 0 then (some (1)) else (if x1 = 4 then (ob (z_X1_isKnownObject F S I x0 x2) (fun q3 => if q3 = 0 ∨ q3 = 1 then (some (q3)) else none)) else (ob (z_X1_isKindOf F S I x0 (x1 - 10) (x2 - 10)) (fun q1 => if q1 = 0 ∨ q1 = 1 then (some (q1)) else none))))
set_option maxRecDepth 100000 in
set_option maxHeartbeats 4000000 in
theorem c_X1_fitsType {l : Launch} {D : zD} {b0 : Nat} {S : zS} {I : zI} {X : Int32} (F : Nat) (x0 : Nat) (x1 : Int32) (x2 : Int32) (h_x0 : z_is b0 S x0 1) (hz : z_X1_fitsType F S I x0 x1 x2 = some X) : z_M l D b0 yX1_fitsType cX1_fitsType 3 (some .boolean) { frames := 1, cells := 0, slots := 0, locals := 22 } [.ref (x0), .int (x1), .int (x2)] S I (some (.int (X))) S I := by
  refine z_met (by decide) (Nat.le_of_ble_eq_true rfl) ?_
  intro p e s m below meth c hC hnm hT ls hl
  have hl : lv_has ls 3 [(0, .ref (x0)), (1, .int (x1)), (2, .int (x2))] := hl
  unfold z_X1_fitsType at hz
  refine z_iload_n hC dX1_fitsType_0 rfl (lv_at hl 1 rfl) ?_
  refine z_iload_n hC dX1_fitsType_1 rfl (lv_at hl 2 rfl) ?_
  refine z_icmp_eq (tgt := 9) hC dX1_fitsType_2 (by decide) hz (fun hz => ?_) (fun hz => ?_)
  · skip
    refine z_iconst (v := 1) hC dX1_fitsType_9 (by decide) ?_
    obtain rfl := Option.some.inj hz
    exact z_zret hC hT dX1_fitsType_10 (Or.inr rfl) (by decide) (by decide)
  · skip
    refine z_iload_n hC dX1_fitsType_5 rfl (lv_at hl 2 rfl) ?_
    refine z_if_ne (tgt := 11) hC dX1_fitsType_6 (by decide) hz (fun hz => ?_) (fun hz => ?_)
    · skip
      refine z_iload_n hC dX1_fitsType_11 rfl (lv_at hl 1 rfl) ?_
      refine z_iconst (v := 4) hC dX1_fitsType_12 (by decide) ?_
      refine z_icmp_ne (tgt := 24) hC dX1_fitsType_13 (by decide) hz (fun hz => ?_) (fun hz => ?_)
      · skip
        refine z_aload_n hC dX1_fitsType_24 rfl (lv_at hl 0 rfl) ?_
        refine z_iload_n hC dX1_fitsType_25 rfl (lv_at hl 1 rfl) ?_
        refine z_bipush (v := 10) hC dX1_fitsType_26 (by decide) ?_
        refine z_isub hC dX1_fitsType_28 ?_
        refine z_iload_n hC dX1_fitsType_29 rfl (lv_at hl 2 rfl) ?_
        refine z_bipush (v := 10) hC dX1_fitsType_30 (by decide) ?_
        refine z_isub hC dX1_fitsType_32 ?_
        obtain ⟨q1, hq_q1, hz⟩ := ob_some hz
        refine z_callV (As := [.int (x1 - 10), .int (x2 - 10)]) hC hT (c_X1_isKindOf F x0 (x1 - 10) (x2 - 10) h_x0 hq_q1) zy_X1_isKindOf zc_1 zv_X1_isKindOf kw_531 dX1_fitsType_33 h_x0 rfl rfl hl.1 (Nat.le_of_ble_eq_true rfl) (by decide) (by decide) ?_
        obtain ⟨hb2, hz⟩ := ifp_some hz
        obtain rfl := Option.some.inj hz
        exact z_zret hC hT dX1_fitsType_36 hb2 (by decide) (by decide)
      · skip
        refine z_aload_n hC dX1_fitsType_16 rfl (lv_at hl 0 rfl) ?_
        refine z_iload_n hC dX1_fitsType_17 rfl (lv_at hl 2 rfl) ?_
        obtain ⟨q3, hq_q3, hz⟩ := ob_some hz
        refine z_callV (As := [.int (x2)]) hC hT (c_X1_isKnownObject F x0 x2 h_x0 hq_q3) zy_X1_isKnownObject zc_1 zv_X1_isKnownObject kw_421 dX1_fitsType_18 h_x0 rfl rfl hl.1 (Nat.le_of_ble_eq_true rfl) (by decide) (by decide) ?_
        refine z_goto (tgt := 36) hC dX1_fitsType_21 (by decide) ?_
        obtain ⟨hb4, hz⟩ := ifp_some hz
        obtain rfl := Option.some.inj hz
        exact z_zret hC hT dX1_fitsType_36 hb4 (by decide) (by decide)
    · skip
      refine z_iconst (v := 1) hC dX1_fitsType_9 (by decide) ?_
      obtain rfl := Option.some.inj hz
      exact z_zret hC hT dX1_fitsType_10 (Or.inr rfl) (by decide) (by decide)
theorem zy_X6_inPlace : z_y yX6_inPlace cX6_inPlace 2 (some .int) 1 := ⟨kw_264, kw_4, by decide +kernel, by decide +kernel, by decide +kernel⟩
theorem zv_X6_inPlace : Cond.instanceMethod yX6_inPlace ∈ z_tbl ∧ Cond.selects RX6 yX6_inPlace yX6_inPlace ∈ z_tbl := ⟨kw_262, kw_263⟩
def z_X6_inPlace (F : Nat) (S : zS) (I : zI) (x0 : Nat) (x1 : Int32) : Option (Int32) :=
  if x1 < 0 then (some (0)) else (if x1 < 8 then (ob (S.1 x0 0) (fun r1 => if x1 < 0 ∨ (S.2.1 r1).2 ≤ x1.toNatClampNeg then none else (some (I r1 x1.toNatClampNeg)))) else (some (0)))
set_option maxRecDepth 100000 in
set_option maxHeartbeats 4000000 in
theorem c_X6_inPlace {l : Launch} {D : zD} {b0 : Nat} {S : zS} {I : zI} {X : Int32} (F : Nat) (x0 : Nat) (x1 : Int32) (h_x0 : z_is b0 S x0 6) (hz : z_X6_inPlace F S I x0 x1 = some X) : z_M l D b0 yX6_inPlace cX6_inPlace 2 (some .int) { frames := 0, cells := 0, slots := 0, locals := 0 } [.ref (x0), .int (x1)] S I (some (.int (X))) S I := by
  refine z_met (by decide) (Nat.le_of_ble_eq_true rfl) ?_
  intro p e s m below meth c hC hnm hT ls hl
  have hl : lv_has ls 2 [(0, .ref (x0)), (1, .int (x1))] := hl
  unfold z_X6_inPlace at hz
  refine z_iload_n hC dX6_inPlace_0 rfl (lv_at hl 1 rfl) ?_
  refine z_if_lt (tgt := 19) hC dX6_inPlace_1 (by decide) hz (fun hz => ?_) (fun hz => ?_)
  · skip
    refine z_iconst (v := 0) hC dX6_inPlace_19 (by decide) ?_
    obtain rfl := Option.some.inj hz
    exact z_iret hC hT dX6_inPlace_20 (by decide) (by decide)
  · skip
    refine z_iload_n hC dX6_inPlace_4 rfl (lv_at hl 1 rfl) ?_
    refine z_bipush (v := 8) hC dX6_inPlace_5 (by decide) ?_
    refine z_icmp_ge (tgt := 19) hC dX6_inPlace_7 (by decide) hz (fun hz => ?_) (fun hz => ?_)
    · skip
      refine z_iconst (v := 0) hC dX6_inPlace_19 (by decide) ?_
      obtain rfl := Option.some.inj hz
      exact z_iret hC hT dX6_inPlace_20 (by decide) (by decide)
    · skip
      refine z_aload_n hC dX6_inPlace_10 rfl (lv_at hl 0 rfl) ?_
      obtain ⟨r1, hr_r1, hz⟩ := ob_some hz
      have hk_r1 : z_is b0 S r1 10 := hT.at h_x0 hr_r1
      refine z_getR hC zc_6 0 (by decide) kw_57 dX6_inPlace_11 h_x0 rfl hr_r1 ?_
      refine z_iload_n hC dX6_inPlace_14 rfl (lv_at hl 1 rfl) ?_
      obtain ⟨hi2, hz⟩ := ifn_some hz
      refine z_iald hC dX6_inPlace_15 hk_r1 hi2 ?_
      refine z_goto (tgt := 20) hC dX6_inPlace_16 (by decide) ?_
      obtain rfl := Option.some.inj hz
      exact z_iret hC hT dX6_inPlace_20 (by decide) (by decide)
theorem zy_X6_onStack : z_y yX6_onStack cX6_onStack 2 (some .int) 1 := ⟨kw_404, kw_4, by decide +kernel, by decide +kernel, by decide +kernel⟩
theorem zv_X6_onStack : Cond.instanceMethod yX6_onStack ∈ z_tbl ∧ Cond.selects RX6 yX6_onStack yX6_onStack ∈ z_tbl := ⟨kw_402, kw_403⟩
def z_X6_onStack (F : Nat) (S : zS) (I : zI) (x0 : Nat) (x1 : Int32) : Option (Int32) :=
  if x1 < 0 then (some ((-1))) else (if x1 < (I x0 2) then (if x1 < 10 then (ob (S.1 x0 1) (fun r1 => if x1 < 0 ∨ (S.2.1 r1).2 ≤ x1.toNatClampNeg then none else (some (I r1 x1.toNatClampNeg)))) else (some ((-1)))) else (some ((-1))))
set_option maxRecDepth 100000 in
set_option maxHeartbeats 4000000 in
theorem c_X6_onStack {l : Launch} {D : zD} {b0 : Nat} {S : zS} {I : zI} {X : Int32} (F : Nat) (x0 : Nat) (x1 : Int32) (h_x0 : z_is b0 S x0 6) (hz : z_X6_onStack F S I x0 x1 = some X) : z_M l D b0 yX6_onStack cX6_onStack 2 (some .int) { frames := 0, cells := 0, slots := 0, locals := 0 } [.ref (x0), .int (x1)] S I (some (.int (X))) S I := by
  refine z_met (by decide) (Nat.le_of_ble_eq_true rfl) ?_
  intro p e s m below meth c hC hnm hT ls hl
  have hl : lv_has ls 2 [(0, .ref (x0)), (1, .int (x1))] := hl
  unfold z_X6_onStack at hz
  refine z_iload_n hC dX6_onStack_0 rfl (lv_at hl 1 rfl) ?_
  refine z_if_lt (tgt := 27) hC dX6_onStack_1 (by decide) hz (fun hz => ?_) (fun hz => ?_)
  · skip
    refine z_iconst (v := (-1)) hC dX6_onStack_27 (by decide) ?_
    obtain rfl := Option.some.inj hz
    exact z_iret hC hT dX6_onStack_28 (by decide) (by decide)
  · skip
    refine z_iload_n hC dX6_onStack_4 rfl (lv_at hl 1 rfl) ?_
    refine z_aload_n hC dX6_onStack_5 rfl (lv_at hl 0 rfl) ?_
    refine z_getI hC zc_6 2 (by decide) kw_59 dX6_onStack_6 h_x0 rfl ?_
    refine z_icmp_ge (tgt := 27) hC dX6_onStack_9 (by decide) hz (fun hz => ?_) (fun hz => ?_)
    · skip
      refine z_iconst (v := (-1)) hC dX6_onStack_27 (by decide) ?_
      obtain rfl := Option.some.inj hz
      exact z_iret hC hT dX6_onStack_28 (by decide) (by decide)
    · skip
      refine z_iload_n hC dX6_onStack_12 rfl (lv_at hl 1 rfl) ?_
      refine z_bipush (v := 10) hC dX6_onStack_13 (by decide) ?_
      refine z_icmp_ge (tgt := 27) hC dX6_onStack_15 (by decide) hz (fun hz => ?_) (fun hz => ?_)
      · skip
        refine z_iconst (v := (-1)) hC dX6_onStack_27 (by decide) ?_
        obtain rfl := Option.some.inj hz
        exact z_iret hC hT dX6_onStack_28 (by decide) (by decide)
      · skip
        refine z_aload_n hC dX6_onStack_18 rfl (lv_at hl 0 rfl) ?_
        obtain ⟨r1, hr_r1, hz⟩ := ob_some hz
        have hk_r1 : z_is b0 S r1 10 := hT.at h_x0 hr_r1
        refine z_getR hC zc_6 1 (by decide) kw_58 dX6_onStack_19 h_x0 rfl hr_r1 ?_
        refine z_iload_n hC dX6_onStack_22 rfl (lv_at hl 1 rfl) ?_
        obtain ⟨hi2, hz⟩ := ifn_some hz
        refine z_iald hC dX6_onStack_23 hk_r1 hi2 ?_
        refine z_goto (tgt := 28) hC dX6_onStack_24 (by decide) ?_
        obtain rfl := Option.some.inj hz
        exact z_iret hC hT dX6_onStack_28 (by decide) (by decide)
theorem zy_X1_fitsAll : z_y yX1_fitsAll cX1_fitsAll 4 (some .boolean) 2 := ⟨kw_682, kw_2, by decide +kernel, by decide +kernel, by decide +kernel⟩
theorem zv_X1_fitsAll : Cond.instanceMethod yX1_fitsAll ∈ z_tbl ∧ Cond.selects RX1 yX1_fitsAll yX1_fitsAll ∈ z_tbl := ⟨kw_680, kw_681⟩
def z_X1_fitsAll_48B (F : Nat) (S : zS) (I : zI) (k48 : Nat → Nat → Nat → Int32 → Option (Int32)) (x0 : Nat) (x1 : Nat) (x2 : Nat) (x3 : Int32) : Option (Int32) :=
  if x3 < (I x1 2) then (ob (z_X6_onStack F S I x1 x3) (fun q1 => ob (z_X6_onStack F S I x2 x3) (fun q2 => ob (z_X1_fitsType F S I x0 q1 q2) (fun q3 => if q3 = 0 then (some (0)) else (k48 (x0) (x1) (x2) (x3 + 1)))))) else (some (1))
def z_X1_fitsAll_48 (F : Nat) (S : zS) (I : zI)  : Nat → Nat → Nat → Nat → Int32 → Option (Int32)
  | 0 => fun _ _ _ _ => none
  | n + 1 => fun x0 x1 x2 x3 => z_X1_fitsAll_48B F S I  (z_X1_fitsAll_48 F S I  n) x0 x1 x2 x3
def z_X1_fitsAll_15B (F : Nat) (S : zS) (I : zI) (k15 : Nat → Nat → Nat → Int32 → Option (Int32)) (x0 : Nat) (x1 : Nat) (x2 : Nat) (x3 : Int32) : Option (Int32) :=
  if x3 < 8 then (ob (z_X6_inPlace F S I x1 x3) (fun q1 => ob (z_X6_inPlace F S I x2 x3) (fun q2 => ob (z_X1_fitsType F S I x0 q1 q2) (fun q3 => if q3 = 0 then (some (0)) else (k15 (x0) (x1) (x2) (x3 + 1)))))) else (z_X1_fitsAll_48 F S I  F (x0) (x1) (x2) (0))
def z_X1_fitsAll_15 (F : Nat) (S : zS) (I : zI)  : Nat → Nat → Nat → Nat → Int32 → Option (Int32)
  | 0 => fun _ _ _ _ => none
  | n + 1 => fun x0 x1 x2 x3 => z_X1_fitsAll_15B F S I  (z_X1_fitsAll_15 F S I  n) x0 x1 x2 x3
def z_X1_fitsAll (F : Nat) (S : zS) (I : zI) (x0 : Nat) (x1 : Nat) (x2 : Nat) : Option (Int32) :=
  if (I x1 2) = (I x2 2) then (z_X1_fitsAll_15 F S I  F (x0) (x1) (x2) (0)) else (some (0))
set_option maxRecDepth 100000 in
set_option maxHeartbeats 4000000 in
theorem bb_X1_fitsAll_48 {p : Program} {l : Launch} {e : Env} {s : State} {m : MethodId} {args : Array Value} {below : List Frame} {meth : Method} {c : Code} {D : zD} {b0 : Nat} {F : Nat} {S : zS} {I : zI} {X : Int32} (hC : z_C p s m args meth c cX1_fitsAll RX1 4 (some .boolean) D) (hT : z_T b0 S) (k48 : Nat → Nat → Nat → Int32 → Option (Int32)) (hk48 : ∀ (x0 : Nat) (x1 : Nat) (x2 : Nat) (x3 : Int32) , z_is b0 S x0 1 → z_is b0 S x1 6 → z_is b0 S x2 6 → k48 x0 x1 x2 x3 = some X → ∀ ls : Array Slot, lv_has ls 4 [(0, .ref (x0)), (1, .ref (x1)), (2, .ref (x2)), (3, .int (x3))] → z_W p l e { frames := 2, cells := 0, slots := 0, locals := 44 } s m args below meth c D b0 S I 0 0 (MQ below (z_Q D b0 (some (.int (X))) S I) args s 0 0 (fun q => b0 ≤ q)) (F0 m 48 ls [])) (x0 : Nat) (x1 : Nat) (x2 : Nat) (x3 : Int32) (h_x0 : z_is b0 S x0 1) (h_x1 : z_is b0 S x1 6) (h_x2 : z_is b0 S x2 6) (hz : z_X1_fitsAll_48B F S I k48 x0 x1 x2 x3 = some X) (ls : Array Slot) (hl : lv_has ls 4 [(0, .ref (x0)), (1, .ref (x1)), (2, .ref (x2)), (3, .int (x3))]) : z_W p l e { frames := 2, cells := 0, slots := 0, locals := 44 } s m args below meth c D b0 S I 0 0 (MQ below (z_Q D b0 (some (.int (X))) S I) args s 0 0 (fun q => b0 ≤ q)) (F0 m 48 ls []) := by
  unfold z_X1_fitsAll_48B at hz
  refine z_iload_n hC dX1_fitsAll_48 rfl (lv_at hl 3 rfl) ?_
  refine z_aload_n hC dX1_fitsAll_49 rfl (lv_at hl 1 rfl) ?_
  refine z_getI hC zc_6 2 (by decide) kw_61 dX1_fitsAll_50 h_x1 rfl ?_
  refine z_icmp_ge (tgt := 81) hC dX1_fitsAll_53 (by decide) hz (fun hz => ?_) (fun hz => ?_)
  · skip
    refine z_iconst (v := 1) hC dX1_fitsAll_81 (by decide) ?_
    obtain rfl := Option.some.inj hz
    exact z_zret hC hT dX1_fitsAll_82 (Or.inr rfl) (by decide) (by decide)
  · skip
    refine z_aload_n hC dX1_fitsAll_56 rfl (lv_at hl 0 rfl) ?_
    refine z_aload_n hC dX1_fitsAll_57 rfl (lv_at hl 1 rfl) ?_
    refine z_iload_n hC dX1_fitsAll_58 rfl (lv_at hl 3 rfl) ?_
    obtain ⟨q1, hq_q1, hz⟩ := ob_some hz
    refine z_callV (As := [.int (x3)]) hC hT (c_X6_onStack F x1 x3 h_x1 hq_q1) zy_X6_onStack zc_6 zv_X6_onStack kw_688 dX1_fitsAll_59 h_x1 rfl rfl hl.1 (Nat.le_of_ble_eq_true rfl) (by decide) (by decide) ?_
    refine z_aload_n hC dX1_fitsAll_62 rfl (lv_at hl 2 rfl) ?_
    refine z_iload_n hC dX1_fitsAll_63 rfl (lv_at hl 3 rfl) ?_
    obtain ⟨q2, hq_q2, hz⟩ := ob_some hz
    refine z_callV (As := [.int (x3)]) hC hT (c_X6_onStack F x2 x3 h_x2 hq_q2) zy_X6_onStack zc_6 zv_X6_onStack kw_688 dX1_fitsAll_64 h_x2 rfl rfl hl.1 (Nat.le_of_ble_eq_true rfl) (by decide) (by decide) ?_
    obtain ⟨q3, hq_q3, hz⟩ := ob_some hz
    refine z_callV (As := [.int (q1), .int (q2)]) hC hT (c_X1_fitsType F x0 q1 q2 h_x0 hq_q3) zy_X1_fitsType zc_1 zv_X1_fitsType kw_684 dX1_fitsAll_67 h_x0 rfl rfl hl.1 (Nat.le_of_ble_eq_true rfl) (by decide) (by decide) ?_
    refine z_if_ne (tgt := 75) hC dX1_fitsAll_70 (by decide) hz (fun hz => ?_) (fun hz => ?_)
    · skip
      refine z_iinc (k0 := 3) (v := x3 + 1) (lv' := [(3, .int (x3 + 1)), (0, .ref (x0)), (1, .ref (x1)), (2, .ref (x2))]) hC dX1_fitsAll_75 hl rfl rfl (by decide) rfl (fun ls hl => ?_)
      refine z_goto (tgt := 48) hC dX1_fitsAll_78 (by decide) ?_
      exact hk48 (x0) (x1) (x2) (x3 + 1) h_x0 h_x1 h_x2 hz ls (lv_sub hl [1, 2, 3, 0] rfl)
    · skip
      refine z_iconst (v := 0) hC dX1_fitsAll_73 (by decide) ?_
      obtain rfl := Option.some.inj hz
      exact z_zret hC hT dX1_fitsAll_74 (Or.inl rfl) (by decide) (by decide)
set_option maxRecDepth 100000 in
set_option maxHeartbeats 4000000 in
theorem b_X1_fitsAll_48 {p : Program} {l : Launch} {e : Env} {s : State} {m : MethodId} {args : Array Value} {below : List Frame} {meth : Method} {c : Code} {D : zD} {b0 : Nat} {F : Nat} {S : zS} {I : zI} {X : Int32} (hC : z_C p s m args meth c cX1_fitsAll RX1 4 (some .boolean) D) (hT : z_T b0 S)   : ∀ (n : Nat) (x0 : Nat) (x1 : Nat) (x2 : Nat) (x3 : Int32), z_is b0 S x0 1 → z_is b0 S x1 6 → z_is b0 S x2 6 → z_X1_fitsAll_48 F S I  n x0 x1 x2 x3 = some X → ∀ ls : Array Slot, lv_has ls 4 [(0, .ref (x0)), (1, .ref (x1)), (2, .ref (x2)), (3, .int (x3))] → z_W p l e { frames := 2, cells := 0, slots := 0, locals := 44 } s m args below meth c D b0 S I 0 0 (MQ below (z_Q D b0 (some (.int (X))) S I) args s 0 0 (fun q => b0 ≤ q)) (F0 m 48 ls []) := by
  intro n
  induction n with
  | zero => intro x0 x1 x2 x3 h_x0 h_x1 h_x2 hz; cases hz
  | succ n ih =>
    intro x0 x1 x2 x3 h_x0 h_x1 h_x2 hz ls hl
    exact bb_X1_fitsAll_48 (F := F) hC hT  (z_X1_fitsAll_48 F S I  n)  ih x0 x1 x2 x3 h_x0 h_x1 h_x2 hz ls hl
set_option maxRecDepth 100000 in
set_option maxHeartbeats 4000000 in
theorem bb_X1_fitsAll_15 {p : Program} {l : Launch} {e : Env} {s : State} {m : MethodId} {args : Array Value} {below : List Frame} {meth : Method} {c : Code} {D : zD} {b0 : Nat} {F : Nat} {S : zS} {I : zI} {X : Int32} (hC : z_C p s m args meth c cX1_fitsAll RX1 4 (some .boolean) D) (hT : z_T b0 S) (k15 : Nat → Nat → Nat → Int32 → Option (Int32)) (hk15 : ∀ (x0 : Nat) (x1 : Nat) (x2 : Nat) (x3 : Int32) , z_is b0 S x0 1 → z_is b0 S x1 6 → z_is b0 S x2 6 → k15 x0 x1 x2 x3 = some X → ∀ ls : Array Slot, lv_has ls 4 [(0, .ref (x0)), (1, .ref (x1)), (2, .ref (x2)), (3, .int (x3))] → z_W p l e { frames := 2, cells := 0, slots := 0, locals := 44 } s m args below meth c D b0 S I 0 0 (MQ below (z_Q D b0 (some (.int (X))) S I) args s 0 0 (fun q => b0 ≤ q)) (F0 m 15 ls [])) (x0 : Nat) (x1 : Nat) (x2 : Nat) (x3 : Int32) (h_x0 : z_is b0 S x0 1) (h_x1 : z_is b0 S x1 6) (h_x2 : z_is b0 S x2 6) (hz : z_X1_fitsAll_15B F S I k15 x0 x1 x2 x3 = some X) (ls : Array Slot) (hl : lv_has ls 4 [(0, .ref (x0)), (1, .ref (x1)), (2, .ref (x2)), (3, .int (x3))]) : z_W p l e { frames := 2, cells := 0, slots := 0, locals := 44 } s m args below meth c D b0 S I 0 0 (MQ below (z_Q D b0 (some (.int (X))) S I) args s 0 0 (fun q => b0 ≤ q)) (F0 m 15 ls []) := by
  unfold z_X1_fitsAll_15B at hz
  refine z_iload_n hC dX1_fitsAll_15 rfl (lv_at hl 3 rfl) ?_
  refine z_bipush (v := 8) hC dX1_fitsAll_16 (by decide) ?_
  refine z_icmp_ge (tgt := 46) hC dX1_fitsAll_18 (by decide) hz (fun hz => ?_) (fun hz => ?_)
  · skip
    refine z_iconst (v := 0) hC dX1_fitsAll_46 (by decide) ?_
    refine z_istore_n (lv' := [(3, .int (0)), (0, .ref (x0)), (1, .ref (x1)), (2, .ref (x2))]) hC dX1_fitsAll_47 rfl hl (by decide) rfl (fun ls hl => ?_)
    exact b_X1_fitsAll_48 hC hT   F (x0) (x1) (x2) (0) h_x0 h_x1 h_x2 hz ls (lv_sub hl [1, 2, 3, 0] rfl)
  · skip
    refine z_aload_n hC dX1_fitsAll_21 rfl (lv_at hl 0 rfl) ?_
    refine z_aload_n hC dX1_fitsAll_22 rfl (lv_at hl 1 rfl) ?_
    refine z_iload_n hC dX1_fitsAll_23 rfl (lv_at hl 3 rfl) ?_
    obtain ⟨q1, hq_q1, hz⟩ := ob_some hz
    refine z_callV (As := [.int (x3)]) hC hT (c_X6_inPlace F x1 x3 h_x1 hq_q1) zy_X6_inPlace zc_6 zv_X6_inPlace kw_683 dX1_fitsAll_24 h_x1 rfl rfl hl.1 (Nat.le_of_ble_eq_true rfl) (by decide) (by decide) ?_
    refine z_aload_n hC dX1_fitsAll_27 rfl (lv_at hl 2 rfl) ?_
    refine z_iload_n hC dX1_fitsAll_28 rfl (lv_at hl 3 rfl) ?_
    obtain ⟨q2, hq_q2, hz⟩ := ob_some hz
    refine z_callV (As := [.int (x3)]) hC hT (c_X6_inPlace F x2 x3 h_x2 hq_q2) zy_X6_inPlace zc_6 zv_X6_inPlace kw_683 dX1_fitsAll_29 h_x2 rfl rfl hl.1 (Nat.le_of_ble_eq_true rfl) (by decide) (by decide) ?_
    obtain ⟨q3, hq_q3, hz⟩ := ob_some hz
    refine z_callV (As := [.int (q1), .int (q2)]) hC hT (c_X1_fitsType F x0 q1 q2 h_x0 hq_q3) zy_X1_fitsType zc_1 zv_X1_fitsType kw_684 dX1_fitsAll_32 h_x0 rfl rfl hl.1 (Nat.le_of_ble_eq_true rfl) (by decide) (by decide) ?_
    refine z_if_ne (tgt := 40) hC dX1_fitsAll_35 (by decide) hz (fun hz => ?_) (fun hz => ?_)
    · skip
      refine z_iinc (k0 := 3) (v := x3 + 1) (lv' := [(3, .int (x3 + 1)), (0, .ref (x0)), (1, .ref (x1)), (2, .ref (x2))]) hC dX1_fitsAll_40 hl rfl rfl (by decide) rfl (fun ls hl => ?_)
      refine z_goto (tgt := 15) hC dX1_fitsAll_43 (by decide) ?_
      exact hk15 (x0) (x1) (x2) (x3 + 1) h_x0 h_x1 h_x2 hz ls (lv_sub hl [1, 2, 3, 0] rfl)
    · skip
      refine z_iconst (v := 0) hC dX1_fitsAll_38 (by decide) ?_
      obtain rfl := Option.some.inj hz
      exact z_zret hC hT dX1_fitsAll_39 (Or.inl rfl) (by decide) (by decide)
set_option maxRecDepth 100000 in
set_option maxHeartbeats 4000000 in
theorem b_X1_fitsAll_15 {p : Program} {l : Launch} {e : Env} {s : State} {m : MethodId} {args : Array Value} {below : List Frame} {meth : Method} {c : Code} {D : zD} {b0 : Nat} {F : Nat} {S : zS} {I : zI} {X : Int32} (hC : z_C p s m args meth c cX1_fitsAll RX1 4 (some .boolean) D) (hT : z_T b0 S)   : ∀ (n : Nat) (x0 : Nat) (x1 : Nat) (x2 : Nat) (x3 : Int32), z_is b0 S x0 1 → z_is b0 S x1 6 → z_is b0 S x2 6 → z_X1_fitsAll_15 F S I  n x0 x1 x2 x3 = some X → ∀ ls : Array Slot, lv_has ls 4 [(0, .ref (x0)), (1, .ref (x1)), (2, .ref (x2)), (3, .int (x3))] → z_W p l e { frames := 2, cells := 0, slots := 0, locals := 44 } s m args below meth c D b0 S I 0 0 (MQ below (z_Q D b0 (some (.int (X))) S I) args s 0 0 (fun q => b0 ≤ q)) (F0 m 15 ls []) := by
  intro n
  induction n with
  | zero => intro x0 x1 x2 x3 h_x0 h_x1 h_x2 hz; cases hz
  | succ n ih =>
    intro x0 x1 x2 x3 h_x0 h_x1 h_x2 hz ls hl
    exact bb_X1_fitsAll_15 (F := F) hC hT  (z_X1_fitsAll_15 F S I  n)  ih x0 x1 x2 x3 h_x0 h_x1 h_x2 hz ls hl
set_option maxRecDepth 100000 in
set_option maxHeartbeats 4000000 in
theorem c_X1_fitsAll {l : Launch} {D : zD} {b0 : Nat} {S : zS} {I : zI} {X : Int32} (F : Nat) (x0 : Nat) (x1 : Nat) (x2 : Nat) (h_x0 : z_is b0 S x0 1) (h_x1 : z_is b0 S x1 6) (h_x2 : z_is b0 S x2 6) (hz : z_X1_fitsAll F S I x0 x1 x2 = some X) : z_M l D b0 yX1_fitsAll cX1_fitsAll 4 (some .boolean) { frames := 2, cells := 0, slots := 0, locals := 44 } [.ref (x0), .ref (x1), .ref (x2)] S I (some (.int (X))) S I := by
  refine z_met (by decide) (Nat.le_of_ble_eq_true rfl) ?_
  intro p e s m below meth c hC hnm hT ls hl
  have hl : lv_has ls 4 [(0, .ref (x0)), (1, .ref (x1)), (2, .ref (x2))] := hl
  unfold z_X1_fitsAll at hz
  refine z_aload_n hC dX1_fitsAll_0 rfl (lv_at hl 1 rfl) ?_
  refine z_getI hC zc_6 2 (by decide) kw_61 dX1_fitsAll_1 h_x1 rfl ?_
  refine z_aload_n hC dX1_fitsAll_4 rfl (lv_at hl 2 rfl) ?_
  refine z_getI hC zc_6 2 (by decide) kw_61 dX1_fitsAll_5 h_x2 rfl ?_
  refine z_icmp_eq (tgt := 13) hC dX1_fitsAll_8 (by decide) hz (fun hz => ?_) (fun hz => ?_)
  · skip
    refine z_iconst (v := 0) hC dX1_fitsAll_13 (by decide) ?_
    refine z_istore_n (lv' := [(3, .int (0)), (0, .ref (x0)), (1, .ref (x1)), (2, .ref (x2))]) hC dX1_fitsAll_14 rfl hl (by decide) rfl (fun ls hl => ?_)
    exact b_X1_fitsAll_15 hC hT   F (x0) (x1) (x2) (0) h_x0 h_x1 h_x2 hz ls (lv_sub hl [1, 2, 3, 0] rfl)
  · skip
    refine z_iconst (v := 0) hC dX1_fitsAll_11 (by decide) ?_
    obtain rfl := Option.some.inj hz
    exact z_zret hC hT dX1_fitsAll_12 (Or.inl rfl) (by decide) (by decide)
theorem zy_X5_actAt : z_y yX5_actAt cX5_actAt 2 (some (.object "ClosureFrames$Act")) 1 := ⟨kw_387, kw_3, by decide +kernel, by decide +kernel, by decide +kernel⟩
theorem zv_X5_actAt : Cond.instanceMethod yX5_actAt ∈ z_tbl ∧ Cond.selects RX5 yX5_actAt yX5_actAt ∈ z_tbl := ⟨kw_385, kw_386⟩
def z_X5_actAt (F : Nat) (S : zS) (I : zI) (x0 : Nat) (x1 : Int32) : Option (Option Nat) :=
  if x1 < 0 then (some (none)) else (if x1 < (I x0 3) then (ob (S.1 x0 0) (fun r1 => if x1 < 0 ∨ (S.2.1 r1).2 ≤ x1.toNatClampNeg then none else (some (S.1 r1 x1.toNatClampNeg)))) else (some (none)))
set_option maxRecDepth 100000 in
set_option maxHeartbeats 4000000 in
theorem c_X5_actAt {l : Launch} {D : zD} {b0 : Nat} {S : zS} {I : zI} {X : Option Nat} (F : Nat) (x0 : Nat) (x1 : Int32) (h_x0 : z_is b0 S x0 5) (hz : z_X5_actAt F S I x0 x1 = some X) : z_M l D b0 yX5_actAt cX5_actAt 2 (some (.object "ClosureFrames$Act")) { frames := 0, cells := 0, slots := 0, locals := 0 } [.ref (x0), .int (x1)] S I (some (va_rf (X))) S I := by
  refine z_met (by decide) (Nat.le_of_ble_eq_true rfl) ?_
  intro p e s m below meth c hC hnm hT ls hl
  have hl : lv_has ls 2 [(0, .ref (x0)), (1, .int (x1))] := hl
  unfold z_X5_actAt at hz
  refine z_iload_n hC dX5_actAt_0 rfl (lv_at hl 1 rfl) ?_
  refine z_if_lt (tgt := 21) hC dX5_actAt_1 (by decide) hz (fun hz => ?_) (fun hz => ?_)
  · skip
    refine z_null hC dX5_actAt_21 ?_
    obtain rfl := Option.some.inj hz
    exact z_aret (o := none) hC hT dX5_actAt_22 (by decide) (by decide)
  · skip
    refine z_iload_n hC dX5_actAt_4 rfl (lv_at hl 1 rfl) ?_
    refine z_aload_n hC dX5_actAt_5 rfl (lv_at hl 0 rfl) ?_
    refine z_getI hC zc_5 3 (by decide) kw_75 dX5_actAt_6 h_x0 rfl ?_
    refine z_icmp_ge (tgt := 21) hC dX5_actAt_9 (by decide) hz (fun hz => ?_) (fun hz => ?_)
    · skip
      refine z_null hC dX5_actAt_21 ?_
      obtain rfl := Option.some.inj hz
      exact z_aret (o := none) hC hT dX5_actAt_22 (by decide) (by decide)
    · skip
      refine z_aload_n hC dX5_actAt_12 rfl (lv_at hl 0 rfl) ?_
      obtain ⟨r1, hr_r1, hz⟩ := ob_some hz
      have hk_r1 : z_is b0 S r1 12 := hT.at h_x0 hr_r1
      refine z_getR hC zc_5 0 (by decide) kw_69 dX5_actAt_13 h_x0 rfl hr_r1 ?_
      refine z_iload_n hC dX5_actAt_16 rfl (lv_at hl 1 rfl) ?_
      obtain ⟨hi2, hz⟩ := ifn_some hz
      refine z_aald hC dX5_actAt_17 hk_r1 (by decide) (by decide) hi2 ?_
      refine z_goto (tgt := 22) hC dX5_actAt_18 (by decide) ?_
      obtain rfl := Option.some.inj hz
      exact z_aret (o := S.1 r1 x1.toNatClampNeg) hC hT dX5_actAt_22 (by decide) (by decide)
theorem tk_X5_actAt {b0 : Nat} {S : zS} {I : zI} {F x0 : Nat} {x1 : Int32} {X : Option Nat} (hT : z_T b0 S) (h_x0 : z_is b0 S x0 5) (hz : z_X5_actAt F S I x0 x1 = some X) : ∀ r, X = some r → z_is b0 S r 0 := by
  intro r hr
  subst hr
  unfold z_X5_actAt at hz
  split at hz
  · cases hz
  · split at hz
    · obtain ⟨r1, h1, hz⟩ := ob_some hz
      obtain ⟨_, hz⟩ := ifn_some hz
      exact hT.at (hT.at h_x0 h1) (Option.some.inj hz)
    · cases hz
theorem zy_X5_forgetComputed : z_y yX5_forgetComputed cX5_forgetComputed 3 none 0 := ⟨kw_383, kw_3, by decide +kernel, by decide +kernel, by decide +kernel⟩
theorem zv_X5_forgetComputed : Cond.instanceMethod yX5_forgetComputed ∈ z_tbl ∧ Cond.selects RX5 yX5_forgetComputed yX5_forgetComputed ∈ z_tbl := ⟨kw_381, kw_382⟩
def z_X5_forgetComputed_20B (F : Nat) (S : zS) (k20 : Nat → Int32 → zI → Option (zI)) (x0 : Nat) (x1 : Int32) (I : zI) : Option (zI) :=
  if x1 < (I x0 3) then (ob (z_X5_actAt F S I x0 x1) (fun q1 => ob2 (q1) (k20 (x0) (x1 + 1) (I)) (fun r2 => ob (z_X0_forget F S I r2) (fun q3 => k20 (x0) (x1 + 1) (q3))))) else (some (I))
def z_X5_forgetComputed_20 (F : Nat) (S : zS)  : Nat → Nat → Int32 → zI → Option (zI)
  | 0 => fun _ _ _ => none
  | n + 1 => fun x0 x1 I => z_X5_forgetComputed_20B F S  (z_X5_forgetComputed_20 F S  n) x0 x1 I
def z_X5_forgetComputed (F : Nat) (S : zS) (I : zI) (x0 : Nat) : Option (zI) :=
  z_X5_forgetComputed_20 F S  F (x0) (0) (z_up (z_up (z_up I x0 7 0) x0 8 0) x0 9 ((z_up (z_up I x0 7 0) x0 8 0) x0 6))
set_option maxRecDepth 100000 in
set_option maxHeartbeats 4000000 in
theorem bb_X5_forgetComputed_20 {p : Program} {l : Launch} {e : Env} {s : State} {m : MethodId} {args : Array Value} {below : List Frame} {meth : Method} {c : Code} {D : zD} {b0 : Nat} {F : Nat} {S : zS} {X : zI} (hC : z_C p s m args meth c cX5_forgetComputed RX5 3 none D) (hT : z_T b0 S) (k20 : Nat → Int32 → zI → Option (zI)) (hk20 : ∀ (x0 : Nat) (x1 : Int32) (I : zI) , z_is b0 S x0 5 → k20 x0 x1 I = some X → ∀ ls : Array Slot, lv_has ls 3 [(0, .ref (x0)), (1, .int (x1))] → z_W p l e { frames := 1, cells := 0, slots := 0, locals := 21 } s m args below meth c D b0 S I 0 0 (MQ below (z_Q D b0 none S X) args s 0 0 (fun q => b0 ≤ q)) (F0 m 20 ls [])) (x0 : Nat) (x1 : Int32) (I : zI) (h_x0 : z_is b0 S x0 5) (hz : z_X5_forgetComputed_20B F S k20 x0 x1 I = some X) (ls : Array Slot) (hl : lv_has ls 3 [(0, .ref (x0)), (1, .int (x1))]) : z_W p l e { frames := 1, cells := 0, slots := 0, locals := 21 } s m args below meth c D b0 S I 0 0 (MQ below (z_Q D b0 none S X) args s 0 0 (fun q => b0 ≤ q)) (F0 m 20 ls []) := by
  unfold z_X5_forgetComputed_20B at hz
  refine z_iload_n hC dX5_forgetComputed_20 rfl (lv_at hl 1 rfl) ?_
  refine z_aload_n hC dX5_forgetComputed_21 rfl (lv_at hl 0 rfl) ?_
  refine z_getI hC zc_5 3 (by decide) kw_75 dX5_forgetComputed_22 h_x0 rfl ?_
  refine z_icmp_ge (tgt := 48) hC dX5_forgetComputed_25 (by decide) hz (fun hz => ?_) (fun hz => ?_)
  · skip
    obtain rfl := Option.some.inj hz
    exact z_vret hC hT dX5_forgetComputed_48 (by decide) (by decide)
  · skip
    refine z_aload_n hC dX5_forgetComputed_28 rfl (lv_at hl 0 rfl) ?_
    refine z_iload_n hC dX5_forgetComputed_29 rfl (lv_at hl 1 rfl) ?_
    obtain ⟨q1, hq_q1, hz⟩ := ob_some hz
    refine z_callV (As := [.int (x1)]) hC hT (c_X5_actAt F x0 x1 h_x0 hq_q1) zy_X5_actAt zc_5 zv_X5_actAt kw_384 dX5_forgetComputed_30 h_x0 rfl rfl hl.1 (Nat.le_of_ble_eq_true rfl) (by decide) (by decide) ?_
    rcases ob2_some hz with ⟨ho_r2, hz⟩ | ⟨r2, ho_r2, hz⟩
    · try rw [ho_r2]
      try rw [ho_r2] at hl
      refine z_astore_nN (lv' := [(2, .null), (0, .ref (x0)), (1, .int (x1))]) hC dX5_forgetComputed_33 rfl hl (by decide) rfl (fun ls hl => ?_)
      refine z_aload_nN hC dX5_forgetComputed_34 rfl (lv_at hl 0 rfl) ?_
      refine z_ifnullN (tgt := 42) hC dX5_forgetComputed_35 (by decide) ?_
      refine z_iinc (k0 := 2) (v := x1 + 1) (lv' := [(1, .int (x1 + 1)), (2, .null), (0, .ref (x0))]) hC dX5_forgetComputed_42 hl rfl rfl (by decide) rfl (fun ls hl => ?_)
      refine z_goto (tgt := 20) hC dX5_forgetComputed_45 (by decide) ?_
      exact hk20 (x0) (x1 + 1) (I) h_x0 hz ls (lv_sub hl [2, 0] rfl)
    · have hk_r2 : z_is b0 S r2 0 := (tk_X5_actAt hT h_x0 hq_q1) _ ho_r2
      try rw [ho_r2]
      try rw [ho_r2] at hl
      refine z_astore_n (lv' := [(2, .ref (r2)), (0, .ref (x0)), (1, .int (x1))]) hC dX5_forgetComputed_33 rfl hl (by decide) rfl (fun ls hl => ?_)
      refine z_aload_n hC dX5_forgetComputed_34 rfl (lv_at hl 0 rfl) ?_
      refine z_ifnull hC dX5_forgetComputed_35 ?_
      refine z_aload_n hC dX5_forgetComputed_38 rfl (lv_at hl 0 rfl) ?_
      obtain ⟨q3, hq_q3, hz⟩ := ob_some hz
      refine z_callV (As := []) hC hT (c_X0_forget F r2 hk_r2 hq_q3) zy_X0_forget zc_0 zv_X0_forget kw_388 dX5_forgetComputed_39 hk_r2 rfl rfl hl.1 (Nat.le_of_ble_eq_true rfl) (by decide) (by decide) ?_
      refine z_iinc (k0 := 2) (v := x1 + 1) (lv' := [(1, .int (x1 + 1)), (2, .ref (r2)), (0, .ref (x0))]) hC dX5_forgetComputed_42 hl rfl rfl (by decide) rfl (fun ls hl => ?_)
      refine z_goto (tgt := 20) hC dX5_forgetComputed_45 (by decide) ?_
      exact hk20 (x0) (x1 + 1) (q3) h_x0 hz ls (lv_sub hl [2, 0] rfl)
set_option maxRecDepth 100000 in
set_option maxHeartbeats 4000000 in
theorem b_X5_forgetComputed_20 {p : Program} {l : Launch} {e : Env} {s : State} {m : MethodId} {args : Array Value} {below : List Frame} {meth : Method} {c : Code} {D : zD} {b0 : Nat} {F : Nat} {S : zS} {X : zI} (hC : z_C p s m args meth c cX5_forgetComputed RX5 3 none D) (hT : z_T b0 S)   : ∀ (n : Nat) (x0 : Nat) (x1 : Int32) (I : zI), z_is b0 S x0 5 → z_X5_forgetComputed_20 F S  n x0 x1 I = some X → ∀ ls : Array Slot, lv_has ls 3 [(0, .ref (x0)), (1, .int (x1))] → z_W p l e { frames := 1, cells := 0, slots := 0, locals := 21 } s m args below meth c D b0 S I 0 0 (MQ below (z_Q D b0 none S X) args s 0 0 (fun q => b0 ≤ q)) (F0 m 20 ls []) := by
  intro n
  induction n with
  | zero => intro x0 x1 I h_x0 hz; cases hz
  | succ n ih =>
    intro x0 x1 I h_x0 hz ls hl
    exact bb_X5_forgetComputed_20 (F := F) hC hT  (z_X5_forgetComputed_20 F S  n)  ih x0 x1 I h_x0 hz ls hl
set_option maxRecDepth 100000 in
set_option maxHeartbeats 4000000 in
theorem c_X5_forgetComputed {l : Launch} {D : zD} {b0 : Nat} {S : zS} {I : zI} {X : zI} (F : Nat) (x0 : Nat) (h_x0 : z_is b0 S x0 5) (hz : z_X5_forgetComputed F S I x0 = some X) : z_M l D b0 yX5_forgetComputed cX5_forgetComputed 3 none { frames := 1, cells := 0, slots := 0, locals := 21 } [.ref (x0)] S I none S X := by
  refine z_met (by decide) (Nat.le_of_ble_eq_true rfl) ?_
  intro p e s m below meth c hC hnm hT ls hl
  have hl : lv_has ls 3 [(0, .ref (x0))] := hl
  unfold z_X5_forgetComputed at hz
  refine z_aload_n hC dX5_forgetComputed_0 rfl (lv_at hl 0 rfl) ?_
  refine z_iconst (v := 0) hC dX5_forgetComputed_1 (by decide) ?_
  refine z_putI hC zc_5 7 (by decide) kw_85 dX5_forgetComputed_2 h_x0 rfl rfl (z_bool (Or.inl rfl)) (z_boolf (Or.inl rfl)) ?_
  refine z_aload_n hC dX5_forgetComputed_5 rfl (lv_at hl 0 rfl) ?_
  refine z_iconst (v := 0) hC dX5_forgetComputed_6 (by decide) ?_
  refine z_putI hC zc_5 8 (by decide) kw_88 dX5_forgetComputed_7 h_x0 rfl rfl rfl rfl ?_
  refine z_aload_n hC dX5_forgetComputed_10 rfl (lv_at hl 0 rfl) ?_
  refine z_aload_n hC dX5_forgetComputed_11 rfl (lv_at hl 0 rfl) ?_
  refine z_getI hC zc_5 6 (by decide) kw_84 dX5_forgetComputed_12 h_x0 rfl ?_
  refine z_putI hC zc_5 9 (by decide) kw_90 dX5_forgetComputed_15 h_x0 rfl rfl rfl rfl ?_
  refine z_iconst (v := 0) hC dX5_forgetComputed_18 (by decide) ?_
  refine z_istore_n (lv' := [(1, .int (0)), (0, .ref (x0))]) hC dX5_forgetComputed_19 rfl hl (by decide) rfl (fun ls hl => ?_)
  exact b_X5_forgetComputed_20 hC hT   F (x0) (0) (z_up (z_up (z_up I x0 7 0) x0 8 0) x0 9 ((z_up (z_up I x0 7 0) x0 8 0) x0 6)) h_x0 hz ls (lv_sub hl [1, 0] rfl)
theorem zy_X6_hasUnmade : z_y yX6_hasUnmade cX6_hasUnmade 2 (some .boolean) 0 := ⟨kw_400, kw_4, by decide +kernel, by decide +kernel, by decide +kernel⟩
theorem zv_X6_hasUnmade : Cond.instanceMethod yX6_hasUnmade ∈ z_tbl ∧ Cond.selects RX6 yX6_hasUnmade yX6_hasUnmade ∈ z_tbl := ⟨kw_398, kw_399⟩
def z_X6_hasUnmade_28B (F : Nat) (S : zS) (I : zI) (k28 : Nat → Int32 → Option (Int32)) (x0 : Nat) (x1 : Int32) : Option (Int32) :=
  if x1 < (I x0 2) then (ob (z_X6_onStack F S I x0 x1) (fun q1 => if q1 < 100 then (k28 (x0) (x1 + 1)) else (some (1)))) else (some (0))
def z_X6_hasUnmade_28 (F : Nat) (S : zS) (I : zI)  : Nat → Nat → Int32 → Option (Int32)
  | 0 => fun _ _ => none
  | n + 1 => fun x0 x1 => z_X6_hasUnmade_28B F S I  (z_X6_hasUnmade_28 F S I  n) x0 x1
def z_X6_hasUnmade_2B (F : Nat) (S : zS) (I : zI) (k2 : Nat → Int32 → Option (Int32)) (x0 : Nat) (x1 : Int32) : Option (Int32) :=
  if x1 < 8 then (ob (z_X6_inPlace F S I x0 x1) (fun q1 => if q1 < 100 then (k2 (x0) (x1 + 1)) else (some (1)))) else (z_X6_hasUnmade_28 F S I  F (x0) (0))
def z_X6_hasUnmade_2 (F : Nat) (S : zS) (I : zI)  : Nat → Nat → Int32 → Option (Int32)
  | 0 => fun _ _ => none
  | n + 1 => fun x0 x1 => z_X6_hasUnmade_2B F S I  (z_X6_hasUnmade_2 F S I  n) x0 x1
def z_X6_hasUnmade (F : Nat) (S : zS) (I : zI) (x0 : Nat) : Option (Int32) :=
  z_X6_hasUnmade_2 F S I  F (x0) (0)
set_option maxRecDepth 100000 in
set_option maxHeartbeats 4000000 in
theorem bb_X6_hasUnmade_28 {p : Program} {l : Launch} {e : Env} {s : State} {m : MethodId} {args : Array Value} {below : List Frame} {meth : Method} {c : Code} {D : zD} {b0 : Nat} {F : Nat} {S : zS} {I : zI} {X : Int32} (hC : z_C p s m args meth c cX6_hasUnmade RX6 2 (some .boolean) D) (hT : z_T b0 S) (k28 : Nat → Int32 → Option (Int32)) (hk28 : ∀ (x0 : Nat) (x1 : Int32) , z_is b0 S x0 6 → k28 x0 x1 = some X → ∀ ls : Array Slot, lv_has ls 2 [(0, .ref (x0)), (1, .int (x1))] → z_W p l e { frames := 1, cells := 0, slots := 0, locals := 21 } s m args below meth c D b0 S I 0 0 (MQ below (z_Q D b0 (some (.int (X))) S I) args s 0 0 (fun q => b0 ≤ q)) (F0 m 28 ls [])) (x0 : Nat) (x1 : Int32) (h_x0 : z_is b0 S x0 6) (hz : z_X6_hasUnmade_28B F S I k28 x0 x1 = some X) (ls : Array Slot) (hl : lv_has ls 2 [(0, .ref (x0)), (1, .int (x1))]) : z_W p l e { frames := 1, cells := 0, slots := 0, locals := 21 } s m args below meth c D b0 S I 0 0 (MQ below (z_Q D b0 (some (.int (X))) S I) args s 0 0 (fun q => b0 ≤ q)) (F0 m 28 ls []) := by
  unfold z_X6_hasUnmade_28B at hz
  refine z_iload_n hC dX6_hasUnmade_28 rfl (lv_at hl 1 rfl) ?_
  refine z_aload_n hC dX6_hasUnmade_29 rfl (lv_at hl 0 rfl) ?_
  refine z_getI hC zc_6 2 (by decide) kw_59 dX6_hasUnmade_30 h_x0 rfl ?_
  refine z_icmp_ge (tgt := 54) hC dX6_hasUnmade_33 (by decide) hz (fun hz => ?_) (fun hz => ?_)
  · skip
    refine z_iconst (v := 0) hC dX6_hasUnmade_54 (by decide) ?_
    obtain rfl := Option.some.inj hz
    exact z_zret hC hT dX6_hasUnmade_55 (Or.inl rfl) (by decide) (by decide)
  · skip
    refine z_aload_n hC dX6_hasUnmade_36 rfl (lv_at hl 0 rfl) ?_
    refine z_iload_n hC dX6_hasUnmade_37 rfl (lv_at hl 1 rfl) ?_
    obtain ⟨q1, hq_q1, hz⟩ := ob_some hz
    refine z_callV (As := [.int (x1)]) hC hT (c_X6_onStack F x0 x1 h_x0 hq_q1) zy_X6_onStack zc_6 zv_X6_onStack kw_401 dX6_hasUnmade_38 h_x0 rfl rfl hl.1 (Nat.le_of_ble_eq_true rfl) (by decide) (by decide) ?_
    refine z_bipush (v := 100) hC dX6_hasUnmade_41 (by decide) ?_
    refine z_icmp_lt (tgt := 48) hC dX6_hasUnmade_43 (by decide) hz (fun hz => ?_) (fun hz => ?_)
    · skip
      refine z_iinc (k0 := 1) (v := x1 + 1) (lv' := [(1, .int (x1 + 1)), (0, .ref (x0))]) hC dX6_hasUnmade_48 hl rfl rfl (by decide) rfl (fun ls hl => ?_)
      refine z_goto (tgt := 28) hC dX6_hasUnmade_51 (by decide) ?_
      exact hk28 (x0) (x1 + 1) h_x0 hz ls (lv_sub hl [1, 0] rfl)
    · skip
      refine z_iconst (v := 1) hC dX6_hasUnmade_46 (by decide) ?_
      obtain rfl := Option.some.inj hz
      exact z_zret hC hT dX6_hasUnmade_47 (Or.inr rfl) (by decide) (by decide)
set_option maxRecDepth 100000 in
set_option maxHeartbeats 4000000 in
theorem b_X6_hasUnmade_28 {p : Program} {l : Launch} {e : Env} {s : State} {m : MethodId} {args : Array Value} {below : List Frame} {meth : Method} {c : Code} {D : zD} {b0 : Nat} {F : Nat} {S : zS} {I : zI} {X : Int32} (hC : z_C p s m args meth c cX6_hasUnmade RX6 2 (some .boolean) D) (hT : z_T b0 S)   : ∀ (n : Nat) (x0 : Nat) (x1 : Int32), z_is b0 S x0 6 → z_X6_hasUnmade_28 F S I  n x0 x1 = some X → ∀ ls : Array Slot, lv_has ls 2 [(0, .ref (x0)), (1, .int (x1))] → z_W p l e { frames := 1, cells := 0, slots := 0, locals := 21 } s m args below meth c D b0 S I 0 0 (MQ below (z_Q D b0 (some (.int (X))) S I) args s 0 0 (fun q => b0 ≤ q)) (F0 m 28 ls []) := by
  intro n
  induction n with
  | zero => intro x0 x1 h_x0 hz; cases hz
  | succ n ih =>
    intro x0 x1 h_x0 hz ls hl
    exact bb_X6_hasUnmade_28 (F := F) hC hT  (z_X6_hasUnmade_28 F S I  n)  ih x0 x1 h_x0 hz ls hl
set_option maxRecDepth 100000 in
set_option maxHeartbeats 4000000 in
theorem bb_X6_hasUnmade_2 {p : Program} {l : Launch} {e : Env} {s : State} {m : MethodId} {args : Array Value} {below : List Frame} {meth : Method} {c : Code} {D : zD} {b0 : Nat} {F : Nat} {S : zS} {I : zI} {X : Int32} (hC : z_C p s m args meth c cX6_hasUnmade RX6 2 (some .boolean) D) (hT : z_T b0 S) (k2 : Nat → Int32 → Option (Int32)) (hk2 : ∀ (x0 : Nat) (x1 : Int32) , z_is b0 S x0 6 → k2 x0 x1 = some X → ∀ ls : Array Slot, lv_has ls 2 [(0, .ref (x0)), (1, .int (x1))] → z_W p l e { frames := 1, cells := 0, slots := 0, locals := 21 } s m args below meth c D b0 S I 0 0 (MQ below (z_Q D b0 (some (.int (X))) S I) args s 0 0 (fun q => b0 ≤ q)) (F0 m 2 ls [])) (x0 : Nat) (x1 : Int32) (h_x0 : z_is b0 S x0 6) (hz : z_X6_hasUnmade_2B F S I k2 x0 x1 = some X) (ls : Array Slot) (hl : lv_has ls 2 [(0, .ref (x0)), (1, .int (x1))]) : z_W p l e { frames := 1, cells := 0, slots := 0, locals := 21 } s m args below meth c D b0 S I 0 0 (MQ below (z_Q D b0 (some (.int (X))) S I) args s 0 0 (fun q => b0 ≤ q)) (F0 m 2 ls []) := by
  unfold z_X6_hasUnmade_2B at hz
  refine z_iload_n hC dX6_hasUnmade_2 rfl (lv_at hl 1 rfl) ?_
  refine z_bipush (v := 8) hC dX6_hasUnmade_3 (by decide) ?_
  refine z_icmp_ge (tgt := 26) hC dX6_hasUnmade_5 (by decide) hz (fun hz => ?_) (fun hz => ?_)
  · skip
    refine z_iconst (v := 0) hC dX6_hasUnmade_26 (by decide) ?_
    refine z_istore_n (lv' := [(1, .int (0)), (0, .ref (x0))]) hC dX6_hasUnmade_27 rfl hl (by decide) rfl (fun ls hl => ?_)
    exact b_X6_hasUnmade_28 hC hT   F (x0) (0) h_x0 hz ls (lv_sub hl [1, 0] rfl)
  · skip
    refine z_aload_n hC dX6_hasUnmade_8 rfl (lv_at hl 0 rfl) ?_
    refine z_iload_n hC dX6_hasUnmade_9 rfl (lv_at hl 1 rfl) ?_
    obtain ⟨q1, hq_q1, hz⟩ := ob_some hz
    refine z_callV (As := [.int (x1)]) hC hT (c_X6_inPlace F x0 x1 h_x0 hq_q1) zy_X6_inPlace zc_6 zv_X6_inPlace kw_261 dX6_hasUnmade_10 h_x0 rfl rfl hl.1 (Nat.le_of_ble_eq_true rfl) (by decide) (by decide) ?_
    refine z_bipush (v := 100) hC dX6_hasUnmade_13 (by decide) ?_
    refine z_icmp_lt (tgt := 20) hC dX6_hasUnmade_15 (by decide) hz (fun hz => ?_) (fun hz => ?_)
    · skip
      refine z_iinc (k0 := 1) (v := x1 + 1) (lv' := [(1, .int (x1 + 1)), (0, .ref (x0))]) hC dX6_hasUnmade_20 hl rfl rfl (by decide) rfl (fun ls hl => ?_)
      refine z_goto (tgt := 2) hC dX6_hasUnmade_23 (by decide) ?_
      exact hk2 (x0) (x1 + 1) h_x0 hz ls (lv_sub hl [1, 0] rfl)
    · skip
      refine z_iconst (v := 1) hC dX6_hasUnmade_18 (by decide) ?_
      obtain rfl := Option.some.inj hz
      exact z_zret hC hT dX6_hasUnmade_19 (Or.inr rfl) (by decide) (by decide)
set_option maxRecDepth 100000 in
set_option maxHeartbeats 4000000 in
theorem b_X6_hasUnmade_2 {p : Program} {l : Launch} {e : Env} {s : State} {m : MethodId} {args : Array Value} {below : List Frame} {meth : Method} {c : Code} {D : zD} {b0 : Nat} {F : Nat} {S : zS} {I : zI} {X : Int32} (hC : z_C p s m args meth c cX6_hasUnmade RX6 2 (some .boolean) D) (hT : z_T b0 S)   : ∀ (n : Nat) (x0 : Nat) (x1 : Int32), z_is b0 S x0 6 → z_X6_hasUnmade_2 F S I  n x0 x1 = some X → ∀ ls : Array Slot, lv_has ls 2 [(0, .ref (x0)), (1, .int (x1))] → z_W p l e { frames := 1, cells := 0, slots := 0, locals := 21 } s m args below meth c D b0 S I 0 0 (MQ below (z_Q D b0 (some (.int (X))) S I) args s 0 0 (fun q => b0 ≤ q)) (F0 m 2 ls []) := by
  intro n
  induction n with
  | zero => intro x0 x1 h_x0 hz; cases hz
  | succ n ih =>
    intro x0 x1 h_x0 hz ls hl
    exact bb_X6_hasUnmade_2 (F := F) hC hT  (z_X6_hasUnmade_2 F S I  n)  ih x0 x1 h_x0 hz ls hl
set_option maxRecDepth 100000 in
set_option maxHeartbeats 4000000 in
theorem c_X6_hasUnmade {l : Launch} {D : zD} {b0 : Nat} {S : zS} {I : zI} {X : Int32} (F : Nat) (x0 : Nat) (h_x0 : z_is b0 S x0 6) (hz : z_X6_hasUnmade F S I x0 = some X) : z_M l D b0 yX6_hasUnmade cX6_hasUnmade 2 (some .boolean) { frames := 1, cells := 0, slots := 0, locals := 21 } [.ref (x0)] S I (some (.int (X))) S I := by
  refine z_met (by decide) (Nat.le_of_ble_eq_true rfl) ?_
  intro p e s m below meth c hC hnm hT ls hl
  have hl : lv_has ls 2 [(0, .ref (x0))] := hl
  unfold z_X6_hasUnmade at hz
  refine z_iconst (v := 0) hC dX6_hasUnmade_0 (by decide) ?_
  refine z_istore_n (lv' := [(1, .int (0)), (0, .ref (x0))]) hC dX6_hasUnmade_1 rfl hl (by decide) rfl (fun ls hl => ?_)
  exact b_X6_hasUnmade_2 hC hT   F (x0) (0) h_x0 hz ls (lv_sub hl [1, 0] rfl)
theorem zy_X6_become : z_y yX6_become cX6_become 2 none 1 := ⟨kw_408, kw_4, by decide +kernel, by decide +kernel, by decide +kernel⟩
theorem zv_X6_become : Cond.instanceMethod yX6_become ∈ z_tbl ∧ Cond.selects RX6 yX6_become yX6_become ∈ z_tbl := ⟨kw_406, kw_407⟩
def z_X6_become (F : Nat) (S : zS) (I : zI) (x0 : Nat) (x1 : Nat) : Option (zI) :=
  ob (S.1 x1 0) (fun r1 => ob (S.1 x0 0) (fun r2 => if (0 : Int32) < 0 ∨ (0 : Int32) < 0 ∨ (8 : Int32) < 0 ∨ (S.2.1 r1).2 < (0 : Int32).toNatClampNeg + (8 : Int32).toNatClampNeg ∨ (S.2.1 r2).2 < (0 : Int32).toNatClampNeg + (8 : Int32).toNatClampNeg then none else (ob (S.1 x1 1) (fun r4 => ob (S.1 x0 1) (fun r5 => if (0 : Int32) < 0 ∨ (0 : Int32) < 0 ∨ (10 : Int32) < 0 ∨ (S.2.1 r4).2 < (0 : Int32).toNatClampNeg + (10 : Int32).toNatClampNeg ∨ (S.2.1 r5).2 < (0 : Int32).toNatClampNeg + (10 : Int32).toNatClampNeg then none else (some (z_up (z_cpy (z_cpy I r1 (0 : Int32).toNatClampNeg r2 (0 : Int32).toNatClampNeg (8 : Int32).toNatClampNeg) r4 (0 : Int32).toNatClampNeg r5 (0 : Int32).toNatClampNeg (10 : Int32).toNatClampNeg) x0 2 ((z_cpy (z_cpy I r1 (0 : Int32).toNatClampNeg r2 (0 : Int32).toNatClampNeg (8 : Int32).toNatClampNeg) r4 (0 : Int32).toNatClampNeg r5 (0 : Int32).toNatClampNeg (10 : Int32).toNatClampNeg) x1 2))))))))
set_option maxRecDepth 100000 in
set_option maxHeartbeats 4000000 in
theorem c_X6_become {l : Launch} {D : zD} {b0 : Nat} {S : zS} {I : zI} {X : zI} (F : Nat) (x0 : Nat) (x1 : Nat) (h_x0 : z_is b0 S x0 6) (h_x1 : z_is b0 S x1 6) (hz : z_X6_become F S I x0 x1 = some X) : z_M l D b0 yX6_become cX6_become 2 none { frames := 1, cells := 0, slots := 0, locals := 40 } [.ref (x0), .ref (x1)] S I none S X := by
  refine z_met (by decide) (Nat.le_of_ble_eq_true rfl) ?_
  intro p e s m below meth c hC hnm hT ls hl
  have hl : lv_has ls 2 [(0, .ref (x0)), (1, .ref (x1))] := hl
  unfold z_X6_become at hz
  refine z_aload_n hC dX6_become_0 rfl (lv_at hl 1 rfl) ?_
  obtain ⟨r1, hr_r1, hz⟩ := ob_some hz
  have hk_r1 : z_is b0 S r1 10 := hT.at h_x1 hr_r1
  refine z_getR hC zc_6 0 (by decide) kw_57 dX6_become_1 h_x1 rfl hr_r1 ?_
  refine z_iconst (v := 0) hC dX6_become_4 (by decide) ?_
  refine z_aload_n hC dX6_become_5 rfl (lv_at hl 0 rfl) ?_
  obtain ⟨r2, hr_r2, hz⟩ := ob_some hz
  have hk_r2 : z_is b0 S r2 10 := hT.at h_x0 hr_r2
  refine z_getR hC zc_6 0 (by decide) kw_57 dX6_become_6 h_x0 rfl hr_r2 ?_
  refine z_iconst (v := 0) hC dX6_become_9 (by decide) ?_
  refine z_bipush (v := 8) hC dX6_become_10 (by decide) ?_
  obtain ⟨hi3, hz⟩ := ifn_some hz
  refine z_copy hC kw_409 kw_411 kw_410 kw_11 dX6_become_12 hl.1 hk_r1 hk_r2 hi3 (by decide) (by decide) ?_
  refine z_aload_n hC dX6_become_15 rfl (lv_at hl 1 rfl) ?_
  obtain ⟨r4, hr_r4, hz⟩ := ob_some hz
  have hk_r4 : z_is b0 S r4 10 := hT.at h_x1 hr_r4
  refine z_getR hC zc_6 1 (by decide) kw_58 dX6_become_16 h_x1 rfl hr_r4 ?_
  refine z_iconst (v := 0) hC dX6_become_19 (by decide) ?_
  refine z_aload_n hC dX6_become_20 rfl (lv_at hl 0 rfl) ?_
  obtain ⟨r5, hr_r5, hz⟩ := ob_some hz
  have hk_r5 : z_is b0 S r5 10 := hT.at h_x0 hr_r5
  refine z_getR hC zc_6 1 (by decide) kw_58 dX6_become_21 h_x0 rfl hr_r5 ?_
  refine z_iconst (v := 0) hC dX6_become_24 (by decide) ?_
  refine z_bipush (v := 10) hC dX6_become_25 (by decide) ?_
  obtain ⟨hi6, hz⟩ := ifn_some hz
  refine z_copy hC kw_409 kw_411 kw_410 kw_11 dX6_become_27 hl.1 hk_r4 hk_r5 hi6 (by decide) (by decide) ?_
  refine z_aload_n hC dX6_become_30 rfl (lv_at hl 0 rfl) ?_
  refine z_aload_n hC dX6_become_31 rfl (lv_at hl 1 rfl) ?_
  refine z_getI hC zc_6 2 (by decide) kw_59 dX6_become_32 h_x1 rfl ?_
  refine z_putI hC zc_6 2 (by decide) kw_59 dX6_become_35 h_x0 rfl rfl rfl rfl ?_
  obtain rfl := Option.some.inj hz
  exact z_vret hC hT dX6_become_38 (by decide) (by decide)
theorem zy_X6_setStack : z_y yX6_setStack cX6_setStack 3 none 2 := ⟨kw_426, kw_4, by decide +kernel, by decide +kernel, by decide +kernel⟩
theorem zv_X6_setStack : Cond.instanceMethod yX6_setStack ∈ z_tbl ∧ Cond.selects RX6 yX6_setStack yX6_setStack ∈ z_tbl := ⟨kw_424, kw_425⟩
def z_X6_setStack (F : Nat) (S : zS) (I : zI) (x0 : Nat) (x1 : Int32) (x2 : Int32) : Option (zI) :=
  if x1 < 0 then (some (I)) else (if x1 < (I x0 2) then (if x1 < 10 then (ob (S.1 x0 1) (fun r1 => if x1 < 0 ∨ (S.2.1 r1).2 ≤ x1.toNatClampNeg then none else (some (z_up I r1 x1.toNatClampNeg x2)))) else (some (I))) else (some (I)))
set_option maxRecDepth 100000 in
set_option maxHeartbeats 4000000 in
theorem c_X6_setStack {l : Launch} {D : zD} {b0 : Nat} {S : zS} {I : zI} {X : zI} (F : Nat) (x0 : Nat) (x1 : Int32) (x2 : Int32) (h_x0 : z_is b0 S x0 6) (hz : z_X6_setStack F S I x0 x1 x2 = some X) : z_M l D b0 yX6_setStack cX6_setStack 3 none { frames := 0, cells := 0, slots := 0, locals := 0 } [.ref (x0), .int (x1), .int (x2)] S I none S X := by
  refine z_met (by decide) (Nat.le_of_ble_eq_true rfl) ?_
  intro p e s m below meth c hC hnm hT ls hl
  have hl : lv_has ls 3 [(0, .ref (x0)), (1, .int (x1)), (2, .int (x2))] := hl
  unfold z_X6_setStack at hz
  refine z_iload_n hC dX6_setStack_0 rfl (lv_at hl 1 rfl) ?_
  refine z_if_lt (tgt := 25) hC dX6_setStack_1 (by decide) hz (fun hz => ?_) (fun hz => ?_)
  · skip
    obtain rfl := Option.some.inj hz
    exact z_vret hC hT dX6_setStack_25 (by decide) (by decide)
  · skip
    refine z_iload_n hC dX6_setStack_4 rfl (lv_at hl 1 rfl) ?_
    refine z_aload_n hC dX6_setStack_5 rfl (lv_at hl 0 rfl) ?_
    refine z_getI hC zc_6 2 (by decide) kw_59 dX6_setStack_6 h_x0 rfl ?_
    refine z_icmp_ge (tgt := 25) hC dX6_setStack_9 (by decide) hz (fun hz => ?_) (fun hz => ?_)
    · skip
      obtain rfl := Option.some.inj hz
      exact z_vret hC hT dX6_setStack_25 (by decide) (by decide)
    · skip
      refine z_iload_n hC dX6_setStack_12 rfl (lv_at hl 1 rfl) ?_
      refine z_bipush (v := 10) hC dX6_setStack_13 (by decide) ?_
      refine z_icmp_ge (tgt := 25) hC dX6_setStack_15 (by decide) hz (fun hz => ?_) (fun hz => ?_)
      · skip
        obtain rfl := Option.some.inj hz
        exact z_vret hC hT dX6_setStack_25 (by decide) (by decide)
      · skip
        refine z_aload_n hC dX6_setStack_18 rfl (lv_at hl 0 rfl) ?_
        obtain ⟨r1, hr_r1, hz⟩ := ob_some hz
        have hk_r1 : z_is b0 S r1 10 := hT.at h_x0 hr_r1
        refine z_getR hC zc_6 1 (by decide) kw_58 dX6_setStack_19 h_x0 rfl hr_r1 ?_
        refine z_iload_n hC dX6_setStack_22 rfl (lv_at hl 1 rfl) ?_
        refine z_iload_n hC dX6_setStack_23 rfl (lv_at hl 2 rfl) ?_
        obtain ⟨hi2, hz⟩ := ifn_some hz
        refine z_iast hC dX6_setStack_24 hk_r1 hi2 ?_
        obtain rfl := Option.some.inj hz
        exact z_vret hC hT dX6_setStack_25 (by decide) (by decide)
theorem zy_X6_setPlace : z_y yX6_setPlace cX6_setPlace 3 none 2 := ⟨kw_268, kw_4, by decide +kernel, by decide +kernel, by decide +kernel⟩
theorem zv_X6_setPlace : Cond.instanceMethod yX6_setPlace ∈ z_tbl ∧ Cond.selects RX6 yX6_setPlace yX6_setPlace ∈ z_tbl := ⟨kw_266, kw_267⟩
def z_X6_setPlace (F : Nat) (S : zS) (I : zI) (x0 : Nat) (x1 : Int32) (x2 : Int32) : Option (zI) :=
  if x1 < 0 then (some (I)) else (if x1 < 8 then (ob (S.1 x0 0) (fun r1 => if x1 < 0 ∨ (S.2.1 r1).2 ≤ x1.toNatClampNeg then none else (some (z_up I r1 x1.toNatClampNeg x2)))) else (some (I)))
set_option maxRecDepth 100000 in
set_option maxHeartbeats 4000000 in
theorem c_X6_setPlace {l : Launch} {D : zD} {b0 : Nat} {S : zS} {I : zI} {X : zI} (F : Nat) (x0 : Nat) (x1 : Int32) (x2 : Int32) (h_x0 : z_is b0 S x0 6) (hz : z_X6_setPlace F S I x0 x1 x2 = some X) : z_M l D b0 yX6_setPlace cX6_setPlace 3 none { frames := 0, cells := 0, slots := 0, locals := 0 } [.ref (x0), .int (x1), .int (x2)] S I none S X := by
  refine z_met (by decide) (Nat.le_of_ble_eq_true rfl) ?_
  intro p e s m below meth c hC hnm hT ls hl
  have hl : lv_has ls 3 [(0, .ref (x0)), (1, .int (x1)), (2, .int (x2))] := hl
  unfold z_X6_setPlace at hz
  refine z_iload_n hC dX6_setPlace_0 rfl (lv_at hl 1 rfl) ?_
  refine z_if_lt (tgt := 17) hC dX6_setPlace_1 (by decide) hz (fun hz => ?_) (fun hz => ?_)
  · skip
    obtain rfl := Option.some.inj hz
    exact z_vret hC hT dX6_setPlace_17 (by decide) (by decide)
  · skip
    refine z_iload_n hC dX6_setPlace_4 rfl (lv_at hl 1 rfl) ?_
    refine z_bipush (v := 8) hC dX6_setPlace_5 (by decide) ?_
    refine z_icmp_ge (tgt := 17) hC dX6_setPlace_7 (by decide) hz (fun hz => ?_) (fun hz => ?_)
    · skip
      obtain rfl := Option.some.inj hz
      exact z_vret hC hT dX6_setPlace_17 (by decide) (by decide)
    · skip
      refine z_aload_n hC dX6_setPlace_10 rfl (lv_at hl 0 rfl) ?_
      obtain ⟨r1, hr_r1, hz⟩ := ob_some hz
      have hk_r1 : z_is b0 S r1 10 := hT.at h_x0 hr_r1
      refine z_getR hC zc_6 0 (by decide) kw_57 dX6_setPlace_11 h_x0 rfl hr_r1 ?_
      refine z_iload_n hC dX6_setPlace_14 rfl (lv_at hl 1 rfl) ?_
      refine z_iload_n hC dX6_setPlace_15 rfl (lv_at hl 2 rfl) ?_
      obtain ⟨hi2, hz⟩ := ifn_some hz
      refine z_iast hC dX6_setPlace_16 hk_r1 hi2 ?_
      obtain rfl := Option.some.inj hz
      exact z_vret hC hT dX6_setPlace_17 (by decide) (by decide)
