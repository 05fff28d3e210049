theorem zy_X8_joined : z_y yX8_joined cX8_joined 3 (some .int) 2 := ⟨kw_212, kw_1, by decide +kernel, by decide +kernel, by decide +kernel⟩
theorem zv_X8_joined : Cond.instanceMethod yX8_joined ∈ z_tbl ∧ Cond.selects RX8 yX8_joined yX8_joined ∈ z_tbl := ⟨kw_210, kw_211⟩
def z_X8_joined (F : Nat) (S : zS) (I : zI) (x0 : Nat) (x1 : Int32) (x2 : Int32) : Option (Int32) :=
  ob (S.1 x0 0) (fun r1 => ob (z_X1_has F S I r1 x1) (fun q2 => if q2 = 0 then (some ((-1))) else (ob (z_X1_has F S I r1 x2) (fun q3 => if q3 = 0 then (some ((-1))) else (ob (z_X1_nearest F S I r1 x1 x2) (fun q4 => some (q4)))))))
set_option maxRecDepth 100000 in
set_option maxHeartbeats 4000000 in
theorem c_X8_joined {l : Launch} {D : zD} {b0 : Nat} {S : zS} {I : zI} {X : Int32} (F : Nat) (x0 : Nat) (x1 : Int32) (x2 : Int32) (h_x0 : z_is b0 S x0 8) (hz : z_X8_joined F S I x0 x1 x2 = some X) : z_M l D b0 yX8_joined cX8_joined 3 (some .int) { frames := 1, cells := 0, slots := 0, locals := 24 } [.ref (x0), .int (x1), .int (x2)] S I (some (.int (X))) S I := by
  refine z_met (by decide) (Nat.le_of_ble_eq_true rfl) ?_
  intro p e s m below meth c hC hnm hT ls hl
  have hl : lv_has ls 3 [(0, .ref (x0)), (1, .int (x1)), (2, .int (x2))] := hl
  unfold z_X8_joined at hz
  refine z_aload_n hC dX8_joined_0 rfl (lv_at hl 0 rfl) ?_
  obtain ⟨r1, hr_r1, hz⟩ := ob_some hz
  have hk_r1 : z_is b0 S r1 1 := hT.at h_x0 hr_r1
  refine z_getR hC zc_8 0 (by decide) kw_176 dX8_joined_1 h_x0 rfl hr_r1 ?_
  refine z_iload_n hC dX8_joined_4 rfl (lv_at hl 1 rfl) ?_
  obtain ⟨q2, hq_q2, hz⟩ := ob_some hz
  refine z_callV (As := [.int (x1)]) hC hT (c_X1_has F r1 x1 hk_r1 hq_q2) zy_X1_has zc_1 zv_X1_has kw_196 dX8_joined_5 hk_r1 rfl rfl hl.1 (Nat.le_of_ble_eq_true rfl) (by decide) (by decide) ?_
  refine z_if_eq (tgt := 34) hC dX8_joined_8 (by decide) hz (fun hz => ?_) (fun hz => ?_)
  · skip
    refine z_iconst (v := (-1)) hC dX8_joined_34 (by decide) ?_
    obtain rfl := Option.some.inj hz
    exact z_iret hC hT dX8_joined_35 (by decide) (by decide)
  · skip
    refine z_aload_n hC dX8_joined_11 rfl (lv_at hl 0 rfl) ?_
    refine z_getR hC zc_8 0 (by decide) kw_176 dX8_joined_12 h_x0 rfl hr_r1 ?_
    refine z_iload_n hC dX8_joined_15 rfl (lv_at hl 2 rfl) ?_
    obtain ⟨q3, hq_q3, hz⟩ := ob_some hz
    refine z_callV (As := [.int (x2)]) hC hT (c_X1_has F r1 x2 hk_r1 hq_q3) zy_X1_has zc_1 zv_X1_has kw_196 dX8_joined_16 hk_r1 rfl rfl hl.1 (Nat.le_of_ble_eq_true rfl) (by decide) (by decide) ?_
    refine z_if_eq (tgt := 34) hC dX8_joined_19 (by decide) hz (fun hz => ?_) (fun hz => ?_)
    · skip
      refine z_iconst (v := (-1)) hC dX8_joined_34 (by decide) ?_
      obtain rfl := Option.some.inj hz
      exact z_iret hC hT dX8_joined_35 (by decide) (by decide)
    · skip
      refine z_aload_n hC dX8_joined_22 rfl (lv_at hl 0 rfl) ?_
      refine z_getR hC zc_8 0 (by decide) kw_176 dX8_joined_23 h_x0 rfl hr_r1 ?_
      refine z_iload_n hC dX8_joined_26 rfl (lv_at hl 1 rfl) ?_
      refine z_iload_n hC dX8_joined_27 rfl (lv_at hl 2 rfl) ?_
      obtain ⟨q4, hq_q4, hz⟩ := ob_some hz
      refine z_callV (As := [.int (x1), .int (x2)]) hC hT (c_X1_nearest F r1 x1 x2 hk_r1 hq_q4) zy_X1_nearest zc_1 zv_X1_nearest kw_213 dX8_joined_28 hk_r1 rfl rfl hl.1 (Nat.le_of_ble_eq_true rfl) (by decide) (by decide) ?_
      refine z_goto (tgt := 35) hC dX8_joined_31 (by decide) ?_
      obtain rfl := Option.some.inj hz
      exact z_iret hC hT dX8_joined_35 (by decide) (by decide)
theorem zy_X8_is : z_y yX8_is cX8_is 3 (some .int) 2 := ⟨kw_220, kw_1, by decide +kernel, by decide +kernel, by decide +kernel⟩
theorem zv_X8_is : Cond.instanceMethod yX8_is ∈ z_tbl ∧ Cond.selects RX8 yX8_is yX8_is ∈ z_tbl := ⟨kw_218, kw_219⟩
def z_X8_is (F : Nat) (S : zS) (I : zI) (x0 : Nat) (x1 : Int32) (x2 : Int32) : Option (Int32) :=
  ob (S.1 x0 0) (fun r1 => ob (z_X1_has F S I r1 x1) (fun q2 => if q2 = 0 then (some ((-1))) else (ob (z_X1_has F S I r1 x2) (fun q3 => if q3 = 0 then (some ((-1))) else (ob (z_X1_isKindOf F S I r1 x1 x2) (fun q4 => if q4 = 0 then (some (0)) else (some (1))))))))
set_option maxRecDepth 100000 in
set_option maxHeartbeats 4000000 in
theorem c_X8_is {l : Launch} {D : zD} {b0 : Nat} {S : zS} {I : zI} {X : Int32} (F : Nat) (x0 : Nat) (x1 : Int32) (x2 : Int32) (h_x0 : z_is b0 S x0 8) (hz : z_X8_is F S I x0 x1 x2 = some X) : z_M l D b0 yX8_is cX8_is 3 (some .int) { frames := 1, cells := 0, slots := 0, locals := 22 } [.ref (x0), .int (x1), .int (x2)] S I (some (.int (X))) S I := by
  refine z_met (by decide) (Nat.le_of_ble_eq_true rfl) ?_
  intro p e s m below meth c hC hnm hT ls hl
  have hl : lv_has ls 3 [(0, .ref (x0)), (1, .int (x1)), (2, .int (x2))] := hl
  unfold z_X8_is at hz
  refine z_aload_n hC dX8_is_0 rfl (lv_at hl 0 rfl) ?_
  obtain ⟨r1, hr_r1, hz⟩ := ob_some hz
  have hk_r1 : z_is b0 S r1 1 := hT.at h_x0 hr_r1
  refine z_getR hC zc_8 0 (by decide) kw_176 dX8_is_1 h_x0 rfl hr_r1 ?_
  refine z_iload_n hC dX8_is_4 rfl (lv_at hl 1 rfl) ?_
  obtain ⟨q2, hq_q2, hz⟩ := ob_some hz
  refine z_callV (As := [.int (x1)]) hC hT (c_X1_has F r1 x1 hk_r1 hq_q2) zy_X1_has zc_1 zv_X1_has kw_196 dX8_is_5 hk_r1 rfl rfl hl.1 (Nat.le_of_ble_eq_true rfl) (by decide) (by decide) ?_
  refine z_if_eq (tgt := 22) hC dX8_is_8 (by decide) hz (fun hz => ?_) (fun hz => ?_)
  · skip
    refine z_iconst (v := (-1)) hC dX8_is_22 (by decide) ?_
    obtain rfl := Option.some.inj hz
    exact z_iret hC hT dX8_is_23 (by decide) (by decide)
  · skip
    refine z_aload_n hC dX8_is_11 rfl (lv_at hl 0 rfl) ?_
    refine z_getR hC zc_8 0 (by decide) kw_176 dX8_is_12 h_x0 rfl hr_r1 ?_
    refine z_iload_n hC dX8_is_15 rfl (lv_at hl 2 rfl) ?_
    obtain ⟨q3, hq_q3, hz⟩ := ob_some hz
    refine z_callV (As := [.int (x2)]) hC hT (c_X1_has F r1 x2 hk_r1 hq_q3) zy_X1_has zc_1 zv_X1_has kw_196 dX8_is_16 hk_r1 rfl rfl hl.1 (Nat.le_of_ble_eq_true rfl) (by decide) (by decide) ?_
    refine z_if_ne (tgt := 24) hC dX8_is_19 (by decide) hz (fun hz => ?_) (fun hz => ?_)
    · skip
      refine z_aload_n hC dX8_is_24 rfl (lv_at hl 0 rfl) ?_
      refine z_getR hC zc_8 0 (by decide) kw_176 dX8_is_25 h_x0 rfl hr_r1 ?_
      refine z_iload_n hC dX8_is_28 rfl (lv_at hl 1 rfl) ?_
      refine z_iload_n hC dX8_is_29 rfl (lv_at hl 2 rfl) ?_
      obtain ⟨q4, hq_q4, hz⟩ := ob_some hz
      refine z_callV (As := [.int (x1), .int (x2)]) hC hT (c_X1_isKindOf F r1 x1 x2 hk_r1 hq_q4) zy_X1_isKindOf zc_1 zv_X1_isKindOf kw_221 dX8_is_30 hk_r1 rfl rfl hl.1 (Nat.le_of_ble_eq_true rfl) (by decide) (by decide) ?_
      refine z_if_eq (tgt := 40) hC dX8_is_33 (by decide) hz (fun hz => ?_) (fun hz => ?_)
      · skip
        refine z_iconst (v := 0) hC dX8_is_40 (by decide) ?_
        obtain rfl := Option.some.inj hz
        exact z_iret hC hT dX8_is_41 (by decide) (by decide)
      · skip
        refine z_iconst (v := 1) hC dX8_is_36 (by decide) ?_
        refine z_goto (tgt := 41) hC dX8_is_37 (by decide) ?_
        obtain rfl := Option.some.inj hz
        exact z_iret hC hT dX8_is_41 (by decide) (by decide)
    · skip
      refine z_iconst (v := (-1)) hC dX8_is_22 (by decide) ?_
      obtain rfl := Option.some.inj hz
      exact z_iret hC hT dX8_is_23 (by decide) (by decide)
theorem zy_X8_methodAt : z_y yX8_methodAt cX8_methodAt 2 (some (.object "ClosureFrames$Method")) 1 := ⟨kw_232, kw_1, by decide +kernel, by decide +kernel, by decide +kernel⟩
theorem zv_X8_methodAt : Cond.instanceMethod yX8_methodAt ∈ z_tbl ∧ Cond.selects RX8 yX8_methodAt yX8_methodAt ∈ z_tbl := ⟨kw_231, ks_0⟩
def z_X8_methodAt (F : Nat) (S : zS) (I : zI) (x0 : Nat) (x1 : Int32) : Option (Option Nat) :=
  if x1 < 0 then (some (none)) else (if x1 < 8 then (ob (S.1 x0 1) (fun r1 => if x1 < 0 ∨ (S.2.1 r1).2 ≤ x1.toNatClampNeg then none else (some (S.1 r1 x1.toNatClampNeg)))) else (some (none)))
set_option maxRecDepth 100000 in
set_option maxHeartbeats 4000000 in
theorem c_X8_methodAt {l : Launch} {D : zD} {b0 : Nat} {S : zS} {I : zI} {X : Option Nat} (F : Nat) (x0 : Nat) (x1 : Int32) (h_x0 : z_is b0 S x0 8) (hz : z_X8_methodAt F S I x0 x1 = some X) : z_M l D b0 yX8_methodAt cX8_methodAt 2 (some (.object "ClosureFrames$Method")) { frames := 0, cells := 0, slots := 0, locals := 0 } [.ref (x0), .int (x1)] S I (some (va_rf (X))) S I := by
  refine z_met (by decide) (Nat.le_of_ble_eq_true rfl) ?_
  intro p e s m below meth c hC hnm hT ls hl
  have hl : lv_has ls 2 [(0, .ref (x0)), (1, .int (x1))] := hl
  unfold z_X8_methodAt at hz
  refine z_iload_n hC dX8_methodAt_0 rfl (lv_at hl 1 rfl) ?_
  refine z_if_lt (tgt := 19) hC dX8_methodAt_1 (by decide) hz (fun hz => ?_) (fun hz => ?_)
  · skip
    refine z_null hC dX8_methodAt_19 ?_
    obtain rfl := Option.some.inj hz
    exact z_aret (o := none) hC hT dX8_methodAt_20 (by decide) (by decide)
  · skip
    refine z_iload_n hC dX8_methodAt_4 rfl (lv_at hl 1 rfl) ?_
    refine z_bipush (v := 8) hC dX8_methodAt_5 (by decide) ?_
    refine z_icmp_ge (tgt := 19) hC dX8_methodAt_7 (by decide) hz (fun hz => ?_) (fun hz => ?_)
    · skip
      refine z_null hC dX8_methodAt_19 ?_
      obtain rfl := Option.some.inj hz
      exact z_aret (o := none) hC hT dX8_methodAt_20 (by decide) (by decide)
    · skip
      refine z_aload_n hC dX8_methodAt_10 rfl (lv_at hl 0 rfl) ?_
      obtain ⟨r1, hr_r1, hz⟩ := ob_some hz
      have hk_r1 : z_is b0 S r1 14 := hT.at h_x0 hr_r1
      refine z_getR hC zc_8 1 (by decide) kw_177 dX8_methodAt_11 h_x0 rfl hr_r1 ?_
      refine z_iload_n hC dX8_methodAt_14 rfl (lv_at hl 1 rfl) ?_
      obtain ⟨hi2, hz⟩ := ifn_some hz
      refine z_aald hC dX8_methodAt_15 hk_r1 (by decide) (by decide) hi2 ?_
      refine z_goto (tgt := 20) hC dX8_methodAt_16 (by decide) ?_
      obtain rfl := Option.some.inj hz
      exact z_aret (o := S.1 r1 x1.toNatClampNeg) hC hT dX8_methodAt_20 (by decide) (by decide)
theorem tk_X8_methodAt {b0 : Nat} {S : zS} {I : zI} {F x0 : Nat} {x1 : Int32} {X : Option Nat} (hT : z_T b0 S) (h_x0 : z_is b0 S x0 8) (hz : z_X8_methodAt F S I x0 x1 = some X) : ∀ r, X = some r → z_is b0 S r 5 := by
  intro r hr
  subst hr
  unfold z_X8_methodAt at hz
  split at hz
  · cases hz
  · split at hz
    · obtain ⟨r1, h1, hz⟩ := ob_some hz
      obtain ⟨_, hz⟩ := ifn_some hz
      exact hT.at (hT.at h_x0 h1) (Option.some.inj hz)
    · cases hz
theorem zy_X8_clear : z_y yX8_clear cX8_clear 5 (some .int) 2 := ⟨kw_228, kw_1, by decide +kernel, by decide +kernel, by decide +kernel⟩
theorem zv_X8_clear : Cond.instanceMethod yX8_clear ∈ z_tbl ∧ Cond.selects RX8 yX8_clear yX8_clear ∈ z_tbl := ⟨kw_226, kw_227⟩
def z_X8_clear (F : Nat) (S : zS) (I : zI) (x0 : Nat) (x1 : Int32) (x2 : Int32) : Option (Int32 × zI) :=
  ob (z_X8_methodAt F S I x0 x1) (fun q1 => ob2 (q1) (some ((-1), I)) (fun r2 => if x2 < 1 then (some ((-1), I)) else (if 8 < x2 then (some ((-1), I)) else (ob (z_X5_empty F S I r2 x2) (fun q3 => some (I r2 3, q3))))))
set_option maxRecDepth 100000 in
set_option maxHeartbeats 4000000 in
theorem c_X8_clear {l : Launch} {D : zD} {b0 : Nat} {S : zS} {I : zI} {X : Int32 × zI} (F : Nat) (x0 : Nat) (x1 : Int32) (x2 : Int32) (h_x0 : z_is b0 S x0 8) (hz : z_X8_clear F S I x0 x1 x2 = some X) : z_M l D b0 yX8_clear cX8_clear 5 (some .int) { frames := 2, cells := 0, slots := 0, locals := 42 } [.ref (x0), .int (x1), .int (x2)] S I (some (.int (X.1))) S X.2 := by
  refine z_met (by decide) (Nat.le_of_ble_eq_true rfl) ?_
  intro p e s m below meth c hC hnm hT ls hl
  have hl : lv_has ls 5 [(0, .ref (x0)), (1, .int (x1)), (2, .int (x2))] := hl
  unfold z_X8_clear at hz
  refine z_aload_n hC dX8_clear_0 rfl (lv_at hl 0 rfl) ?_
  refine z_iload_n hC dX8_clear_1 rfl (lv_at hl 1 rfl) ?_
  obtain ⟨q1, hq_q1, hz⟩ := ob_some hz
  refine z_callV (As := [.int (x1)]) hC hT (c_X8_methodAt F x0 x1 h_x0 hq_q1) zy_X8_methodAt zc_8 zv_X8_methodAt kw_229 dX8_clear_2 h_x0 rfl rfl hl.1 (Nat.le_of_ble_eq_true rfl) (by decide) (by decide) ?_
  rcases ob2_some hz with ⟨ho_r2, hz⟩ | ⟨r2, ho_r2, hz⟩
  · try rw [ho_r2]
    try rw [ho_r2] at hl
    refine z_astore_nN (lv' := [(3, .null), (0, .ref (x0)), (1, .int (x1)), (2, .int (x2))]) hC dX8_clear_5 rfl hl (by decide) rfl (fun ls hl => ?_)
    refine z_aload_nN hC dX8_clear_6 rfl (lv_at hl 0 rfl) ?_
    refine z_ifnullN (tgt := 21) hC dX8_clear_7 (by decide) ?_
    refine z_iconst (v := (-1)) hC dX8_clear_21 (by decide) ?_
    obtain rfl := Option.some.inj hz
    exact z_iret hC hT dX8_clear_22 (by decide) (by decide)
  · have hk_r2 : z_is b0 S r2 5 := (tk_X8_methodAt hT h_x0 hq_q1) _ ho_r2
    try rw [ho_r2]
    try rw [ho_r2] at hl
    refine z_astore_n (lv' := [(3, .ref (r2)), (0, .ref (x0)), (1, .int (x1)), (2, .int (x2))]) hC dX8_clear_5 rfl hl (by decide) rfl (fun ls hl => ?_)
    refine z_aload_n hC dX8_clear_6 rfl (lv_at hl 0 rfl) ?_
    refine z_ifnull hC dX8_clear_7 ?_
    refine z_iload_n hC dX8_clear_10 rfl (lv_at hl 3 rfl) ?_
    refine z_iconst (v := 1) hC dX8_clear_11 (by decide) ?_
    refine z_icmp_lt (tgt := 21) hC dX8_clear_12 (by decide) hz (fun hz => ?_) (fun hz => ?_)
    · skip
      refine z_iconst (v := (-1)) hC dX8_clear_21 (by decide) ?_
      obtain rfl := Option.some.inj hz
      exact z_iret hC hT dX8_clear_22 (by decide) (by decide)
    · skip
      refine z_iload_n hC dX8_clear_15 rfl (lv_at hl 3 rfl) ?_
      refine z_bipush (v := 8) hC dX8_clear_16 (by decide) ?_
      refine z_icmp_le (tgt := 23) hC dX8_clear_18 (by decide) hz (fun hz => ?_) (fun hz => ?_)
      · skip
        refine z_aload_n hC dX8_clear_23 rfl (lv_at hl 0 rfl) ?_
        refine z_getI hC zc_5 3 (by decide) kw_77 dX8_clear_24 hk_r2 rfl ?_
        refine z_istore (lv' := [(4, .int (I r2 3)), (3, .ref (r2)), (0, .ref (x0)), (1, .int (x1)), (2, .int (x2))]) hC dX8_clear_27 hl (by decide) rfl (fun ls hl => ?_)
        refine z_aload_n hC dX8_clear_29 rfl (lv_at hl 1 rfl) ?_
        refine z_iload_n hC dX8_clear_30 rfl (lv_at hl 4 rfl) ?_
        obtain ⟨q3, hq_q3, hz⟩ := ob_some hz
        refine z_callV (As := [.int (x2)]) hC hT (c_X5_empty F r2 x2 hk_r2 hq_q3) zy_X5_empty zc_5 zv_X5_empty kw_233 dX8_clear_31 hk_r2 rfl rfl hl.1 (Nat.le_of_ble_eq_true rfl) (by decide) (by decide) ?_
        refine z_iload hC dX8_clear_34 (lv_at hl 0 rfl) ?_
        obtain rfl := Option.some.inj hz
        exact z_iret hC hT dX8_clear_36 (by decide) (by decide)
      · skip
        refine z_iconst (v := (-1)) hC dX8_clear_21 (by decide) ?_
        obtain rfl := Option.some.inj hz
        exact z_iret hC hT dX8_clear_22 (by decide) (by decide)
theorem zy_X8_argument : z_y yX8_argument cX8_argument 4 (some .int) 2 := ⟨kw_244, kw_1, by decide +kernel, by decide +kernel, by decide +kernel⟩
theorem zv_X8_argument : Cond.instanceMethod yX8_argument ∈ z_tbl ∧ Cond.selects RX8 yX8_argument yX8_argument ∈ z_tbl := ⟨kw_242, kw_243⟩
def z_X8_argument_33 (F : Nat) (S : zS)  (x2 : Int32) (x3 : Nat) (I : zI) : Option (Int32 × zI) :=
  ob (z_X5_addArgument F S I x3 x2) (fun q1 => some (q1.1, q1.2))
def z_X8_argument (F : Nat) (S : zS) (I : zI) (x0 : Nat) (x1 : Int32) (x2 : Int32) : Option (Int32 × zI) :=
  ob (z_X8_methodAt F S I x0 x1) (fun q1 => ob2 (q1) (some ((-1), I)) (fun r2 => if x2 = 1 then (z_X8_argument_33 F S  (x2) (r2) (I)) else (if x2 = 2 then (z_X8_argument_33 F S  (x2) (r2) (I)) else (ob (S.1 x0 0) (fun r3 => ob (z_X1_isKnownObject F S I r3 x2) (fun q4 => if q4 = 0 then (some ((-1), I)) else (z_X8_argument_33 F S  (x2) (r2) (I))))))))
set_option maxRecDepth 100000 in
set_option maxHeartbeats 4000000 in
theorem b_X8_argument_33 {p : Program} {l : Launch} {e : Env} {s : State} {m : MethodId} {args : Array Value} {below : List Frame} {meth : Method} {c : Code} {D : zD} {b0 : Nat} {F : Nat} {S : zS} {X : Int32 × zI} (hC : z_C p s m args meth c cX8_argument RX8 4 (some .int) D) (hT : z_T b0 S)   (x2 : Int32) (x3 : Nat) (I : zI) (h_x3 : z_is b0 S x3 5) (hz : z_X8_argument_33 F S  x2 x3 I = some X) (ls : Array Slot) (hl : lv_has ls 4 [(2, .int (x2)), (3, .ref (x3))]) : z_W p l e { frames := 4, cells := 0, slots := 0, locals := 88 } s m args below meth c D b0 S I 0 0 (MQ below (z_Q D b0 (some (.int (X.1))) S X.2) args s 0 0 (fun q => b0 ≤ q)) (F0 m 33 ls []) := by
  unfold z_X8_argument_33 at hz
  refine z_aload_n hC dX8_argument_33 rfl (lv_at hl 1 rfl) ?_
  refine z_iload_n hC dX8_argument_34 rfl (lv_at hl 0 rfl) ?_
  obtain ⟨q1, hq_q1, hz⟩ := ob_some hz
  refine z_callV (As := [.int (x2)]) hC hT (c_X5_addArgument F x3 x2 h_x3 hq_q1) zy_X5_addArgument zc_5 zv_X5_addArgument kw_249 dX8_argument_35 h_x3 rfl rfl hl.1 (Nat.le_of_ble_eq_true rfl) (by decide) (by decide) ?_
  obtain rfl := Option.some.inj hz
  exact z_iret hC hT dX8_argument_38 (by decide) (by decide)
set_option maxRecDepth 100000 in
set_option maxHeartbeats 4000000 in
theorem c_X8_argument {l : Launch} {D : zD} {b0 : Nat} {S : zS} {I : zI} {X : Int32 × zI} (F : Nat) (x0 : Nat) (x1 : Int32) (x2 : Int32) (h_x0 : z_is b0 S x0 8) (hz : z_X8_argument F S I x0 x1 x2 = some X) : z_M l D b0 yX8_argument cX8_argument 4 (some .int) { frames := 4, cells := 0, slots := 0, locals := 88 } [.ref (x0), .int (x1), .int (x2)] S I (some (.int (X.1))) S X.2 := by
  refine z_met (by decide) (Nat.le_of_ble_eq_true rfl) ?_
  intro p e s m below meth c hC hnm hT ls hl
  have hl : lv_has ls 4 [(0, .ref (x0)), (1, .int (x1)), (2, .int (x2))] := hl
  unfold z_X8_argument at hz
  refine z_aload_n hC dX8_argument_0 rfl (lv_at hl 0 rfl) ?_
  refine z_iload_n hC dX8_argument_1 rfl (lv_at hl 1 rfl) ?_
  obtain ⟨q1, hq_q1, hz⟩ := ob_some hz
  refine z_callV (As := [.int (x1)]) hC hT (c_X8_methodAt F x0 x1 h_x0 hq_q1) zy_X8_methodAt zc_8 zv_X8_methodAt kw_229 dX8_argument_2 h_x0 rfl rfl hl.1 (Nat.le_of_ble_eq_true rfl) (by decide) (by decide) ?_
  rcases ob2_some hz with ⟨ho_r2, hz⟩ | ⟨r2, ho_r2, hz⟩
  · try rw [ho_r2]
    try rw [ho_r2] at hl
    refine z_astore_nN (lv' := [(3, .null), (0, .ref (x0)), (1, .int (x1)), (2, .int (x2))]) hC dX8_argument_5 rfl hl (by decide) rfl (fun ls hl => ?_)
    refine z_aload_nN hC dX8_argument_6 rfl (lv_at hl 0 rfl) ?_
    refine z_ifnullN (tgt := 31) hC dX8_argument_7 (by decide) ?_
    refine z_iconst (v := (-1)) hC dX8_argument_31 (by decide) ?_
    obtain rfl := Option.some.inj hz
    exact z_iret hC hT dX8_argument_32 (by decide) (by decide)
  · have hk_r2 : z_is b0 S r2 5 := (tk_X8_methodAt hT h_x0 hq_q1) _ ho_r2
    try rw [ho_r2]
    try rw [ho_r2] at hl
    refine z_astore_n (lv' := [(3, .ref (r2)), (0, .ref (x0)), (1, .int (x1)), (2, .int (x2))]) hC dX8_argument_5 rfl hl (by decide) rfl (fun ls hl => ?_)
    refine z_aload_n hC dX8_argument_6 rfl (lv_at hl 0 rfl) ?_
    refine z_ifnull hC dX8_argument_7 ?_
    refine z_iload_n hC dX8_argument_10 rfl (lv_at hl 3 rfl) ?_
    refine z_iconst (v := 1) hC dX8_argument_11 (by decide) ?_
    refine z_icmp_eq (tgt := 33) hC dX8_argument_12 (by decide) hz (fun hz => ?_) (fun hz => ?_)
    · skip
      exact b_X8_argument_33 hC hT   (x2) (r2) (I) hk_r2 hz ls (lv_sub hl [3, 0] rfl)
    · skip
      refine z_iload_n hC dX8_argument_15 rfl (lv_at hl 3 rfl) ?_
      refine z_iconst (v := 2) hC dX8_argument_16 (by decide) ?_
      refine z_icmp_eq (tgt := 33) hC dX8_argument_17 (by decide) hz (fun hz => ?_) (fun hz => ?_)
      · skip
        exact b_X8_argument_33 hC hT   (x2) (r2) (I) hk_r2 hz ls (lv_sub hl [3, 0] rfl)
      · skip
        refine z_aload_n hC dX8_argument_20 rfl (lv_at hl 1 rfl) ?_
        obtain ⟨r3, hr_r3, hz⟩ := ob_some hz
        have hk_r3 : z_is b0 S r3 1 := hT.at h_x0 hr_r3
        refine z_getR hC zc_8 0 (by decide) kw_176 dX8_argument_21 h_x0 rfl hr_r3 ?_
        refine z_iload_n hC dX8_argument_24 rfl (lv_at hl 3 rfl) ?_
        obtain ⟨q4, hq_q4, hz⟩ := ob_some hz
        refine z_callV (As := [.int (x2)]) hC hT (c_X1_isKnownObject F r3 x2 hk_r3 hq_q4) zy_X1_isKnownObject zc_1 zv_X1_isKnownObject kw_245 dX8_argument_25 hk_r3 rfl rfl hl.1 (Nat.le_of_ble_eq_true rfl) (by decide) (by decide) ?_
        refine z_if_ne (tgt := 33) hC dX8_argument_28 (by decide) hz (fun hz => ?_) (fun hz => ?_)
        · skip
          exact b_X8_argument_33 hC hT   (x2) (r2) (I) hk_r2 hz ls (lv_sub hl [3, 0] rfl)
        · skip
          refine z_iconst (v := (-1)) hC dX8_argument_31 (by decide) ?_
          obtain rfl := Option.some.inj hz
          exact z_iret hC hT dX8_argument_32 (by decide) (by decide)
theorem zy_X8_isActNumber : z_y yX8_isActNumber cX8_isActNumber 1 (some .boolean) 1 := ⟨kw_282, kw_1, by decide +kernel, by decide +kernel, by decide +kernel⟩
def z_X8_isActNumber (F : Nat) (S : zS) (I : zI) (x0 : Int32) : Option (Int32) :=
  if x0 < 0 then (some (0)) else (if x0 < 40 then (some (1)) else (some (0)))
set_option maxRecDepth 100000 in
set_option maxHeartbeats 4000000 in
theorem c_X8_isActNumber {l : Launch} {D : zD} {b0 : Nat} {S : zS} {I : zI} {X : Int32} (F : Nat) (x0 : Int32)  (hz : z_X8_isActNumber F S I x0 = some X) : z_M l D b0 yX8_isActNumber cX8_isActNumber 1 (some .boolean) { frames := 0, cells := 0, slots := 0, locals := 0 } [.int (x0)] S I (some (.int (X))) S I := by
  refine z_met (by decide) (Nat.le_of_ble_eq_true rfl) ?_
  intro p e s m below meth c hC hnm hT ls hl
  have hl : lv_has ls 1 [(0, .int (x0))] := hl
  unfold z_X8_isActNumber at hz
  refine z_iload_n hC dX8_isActNumber_0 rfl (lv_at hl 0 rfl) ?_
  refine z_if_lt (tgt := 14) hC dX8_isActNumber_1 (by decide) hz (fun hz => ?_) (fun hz => ?_)
  · skip
    refine z_iconst (v := 0) hC dX8_isActNumber_14 (by decide) ?_
    obtain rfl := Option.some.inj hz
    exact z_zret hC hT dX8_isActNumber_15 (Or.inl rfl) (by decide) (by decide)
  · skip
    refine z_iload_n hC dX8_isActNumber_4 rfl (lv_at hl 0 rfl) ?_
    refine z_bipush (v := 40) hC dX8_isActNumber_5 (by decide) ?_
    refine z_icmp_ge (tgt := 14) hC dX8_isActNumber_7 (by decide) hz (fun hz => ?_) (fun hz => ?_)
    · skip
      refine z_iconst (v := 0) hC dX8_isActNumber_14 (by decide) ?_
      obtain rfl := Option.some.inj hz
      exact z_zret hC hT dX8_isActNumber_15 (Or.inl rfl) (by decide) (by decide)
    · skip
      refine z_iconst (v := 1) hC dX8_isActNumber_10 (by decide) ?_
      refine z_goto (tgt := 15) hC dX8_isActNumber_11 (by decide) ?_
      obtain rfl := Option.some.inj hz
      exact z_zret hC hT dX8_isActNumber_15 (Or.inr rfl) (by decide) (by decide)
theorem zy_X8_isAct : z_y yX8_isAct cX8_isAct 4 (some .boolean) 3 := ⟨kw_276, kw_1, by decide +kernel, by decide +kernel, by decide +kernel⟩
theorem zv_X8_isAct : Cond.instanceMethod yX8_isAct ∈ z_tbl ∧ Cond.selects RX8 yX8_isAct yX8_isAct ∈ z_tbl := ⟨kw_275, ks_2⟩
def z_X8_isAct_102 (F : Nat) (S : zS) (I : zI)  (x2 : Int32) : Option (Int32) :=
  ob (z_X8_isPlace F S I x2) (fun q1 => if q1 = 0 ∨ q1 = 1 then (some (q1)) else none)
def z_X8_isAct_107 (F : Nat) (S : zS) (I : zI)  (x0 : Nat) (x2 : Int32) : Option (Int32) :=
  ob (S.1 x0 0) (fun r1 => ob (z_X1_has F S I r1 x2) (fun q2 => if q2 = 0 ∨ q2 = 1 then (some (q2)) else none))
def z_X8_isAct_116 (F : Nat) (S : zS) (I : zI)  (x2 : Int32) : Option (Int32) :=
  ob (z_X8_isActNumber F S I x2) (fun q1 => if q1 = 0 ∨ q1 = 1 then (some (q1)) else none)
def z_X8_isAct (F : Nat) (S : zS) (I : zI) (x0 : Nat) (x1 : Int32) (x2 : Int32) (x3 : Int32) : Option (Int32) :=
  if x1 = 0 ∨ x1 = 1 ∨ x1 = 2 ∨ x1 = 5 ∨ x1 = 6 ∨ x1 = 7 ∨ x1 = 8 ∨ x1 = 17 then (some (1)) else (if x1 = 3 ∨ x1 = 4 ∨ x1 = 20 then (z_X8_isAct_102 F S I  (x2)) else (if x1 = 9 ∨ x1 = 10 ∨ x1 = 11 ∨ x1 = 12 ∨ x1 = 13 ∨ x1 = 18 ∨ x1 = 19 then (z_X8_isAct_107 F S I  (x0) (x2)) else (if x1 = 14 ∨ x1 = 15 then (z_X8_isAct_116 F S I  (x2)) else (if x1 = 16 then (ob (z_X8_isActNumber F S I x2) (fun q5 => if q5 = 0 then (some (0)) else (ob (z_X8_isActNumber F S I x3) (fun q6 => if q6 = 0 then (some (0)) else (if x3 < x2 then (some (0)) else (some (1))))))) else (some (0))))))
set_option maxRecDepth 100000 in
set_option maxHeartbeats 4000000 in
theorem b_X8_isAct_102 {p : Program} {l : Launch} {e : Env} {s : State} {m : MethodId} {args : Array Value} {below : List Frame} {meth : Method} {c : Code} {D : zD} {b0 : Nat} {F : Nat} {S : zS} {I : zI} {X : Int32} (hC : z_C p s m args meth c cX8_isAct RX8 4 (some .boolean) D) (hT : z_T b0 S)   (x2 : Int32)  (hz : z_X8_isAct_102 F S I  x2 = some X) (ls : Array Slot) (hl : lv_has ls 4 [(2, .int (x2))]) : z_W p l e { frames := 1, cells := 0, slots := 0, locals := 21 } s m args below meth c D b0 S I 0 0 (MQ below (z_Q D b0 (some (.int (X))) S I) args s 0 0 (fun q => b0 ≤ q)) (F0 m 102 ls []) := by
  unfold z_X8_isAct_102 at hz
  refine z_iload_n hC dX8_isAct_102 rfl (lv_at hl 0 rfl) ?_
  obtain ⟨q1, hq_q1, hz⟩ := ob_some hz
  refine z_callS (As := [.int (x2)]) hC hT (c_X8_isPlace F x2  hq_q1) zy_X8_isPlace kw_278 kw_277 dX8_isAct_103 rfl rfl hl.1 (Nat.le_of_ble_eq_true rfl) (by decide) (by decide) ?_
  obtain ⟨hb2, hz⟩ := ifp_some hz
  obtain rfl := Option.some.inj hz
  exact z_zret hC hT dX8_isAct_106 hb2 (by decide) (by decide)
set_option maxRecDepth 100000 in
set_option maxHeartbeats 4000000 in
theorem b_X8_isAct_107 {p : Program} {l : Launch} {e : Env} {s : State} {m : MethodId} {args : Array Value} {below : List Frame} {meth : Method} {c : Code} {D : zD} {b0 : Nat} {F : Nat} {S : zS} {I : zI} {X : Int32} (hC : z_C p s m args meth c cX8_isAct RX8 4 (some .boolean) D) (hT : z_T b0 S)   (x0 : Nat) (x2 : Int32) (h_x0 : z_is b0 S x0 8) (hz : z_X8_isAct_107 F S I  x0 x2 = some X) (ls : Array Slot) (hl : lv_has ls 4 [(0, .ref (x0)), (2, .int (x2))]) : z_W p l e { frames := 1, cells := 0, slots := 0, locals := 21 } s m args below meth c D b0 S I 0 0 (MQ below (z_Q D b0 (some (.int (X))) S I) args s 0 0 (fun q => b0 ≤ q)) (F0 m 107 ls []) := by
  unfold z_X8_isAct_107 at hz
  refine z_aload_n hC dX8_isAct_107 rfl (lv_at hl 0 rfl) ?_
  obtain ⟨r1, hr_r1, hz⟩ := ob_some hz
  have hk_r1 : z_is b0 S r1 1 := hT.at h_x0 hr_r1
  refine z_getR hC zc_8 0 (by decide) kw_176 dX8_isAct_108 h_x0 rfl hr_r1 ?_
  refine z_iload_n hC dX8_isAct_111 rfl (lv_at hl 1 rfl) ?_
  obtain ⟨q2, hq_q2, hz⟩ := ob_some hz
  refine z_callV (As := [.int (x2)]) hC hT (c_X1_has F r1 x2 hk_r1 hq_q2) zy_X1_has zc_1 zv_X1_has kw_196 dX8_isAct_112 hk_r1 rfl rfl hl.1 (Nat.le_of_ble_eq_true rfl) (by decide) (by decide) ?_
  obtain ⟨hb3, hz⟩ := ifp_some hz
  obtain rfl := Option.some.inj hz
  exact z_zret hC hT dX8_isAct_115 hb3 (by decide) (by decide)
set_option maxRecDepth 100000 in
set_option maxHeartbeats 4000000 in
theorem b_X8_isAct_116 {p : Program} {l : Launch} {e : Env} {s : State} {m : MethodId} {args : Array Value} {below : List Frame} {meth : Method} {c : Code} {D : zD} {b0 : Nat} {F : Nat} {S : zS} {I : zI} {X : Int32} (hC : z_C p s m args meth c cX8_isAct RX8 4 (some .boolean) D) (hT : z_T b0 S)   (x2 : Int32)  (hz : z_X8_isAct_116 F S I  x2 = some X) (ls : Array Slot) (hl : lv_has ls 4 [(2, .int (x2))]) : z_W p l e { frames := 1, cells := 0, slots := 0, locals := 21 } s m args below meth c D b0 S I 0 0 (MQ below (z_Q D b0 (some (.int (X))) S I) args s 0 0 (fun q => b0 ≤ q)) (F0 m 116 ls []) := by
  unfold z_X8_isAct_116 at hz
  refine z_iload_n hC dX8_isAct_116 rfl (lv_at hl 0 rfl) ?_
  obtain ⟨q1, hq_q1, hz⟩ := ob_some hz
  refine z_callS (As := [.int (x2)]) hC hT (c_X8_isActNumber F x2  hq_q1) zy_X8_isActNumber kw_281 kw_280 dX8_isAct_117 rfl rfl hl.1 (Nat.le_of_ble_eq_true rfl) (by decide) (by decide) ?_
  obtain ⟨hb2, hz⟩ := ifp_some hz
  obtain rfl := Option.some.inj hz
  exact z_zret hC hT dX8_isAct_120 hb2 (by decide) (by decide)
set_option maxRecDepth 100000 in
set_option maxHeartbeats 4000000 in
theorem c_X8_isAct {l : Launch} {D : zD} {b0 : Nat} {S : zS} {I : zI} {X : Int32} (F : Nat) (x0 : Nat) (x1 : Int32) (x2 : Int32) (x3 : Int32) (h_x0 : z_is b0 S x0 8) (hz : z_X8_isAct F S I x0 x1 x2 x3 = some X) : z_M l D b0 yX8_isAct cX8_isAct 4 (some .boolean) { frames := 1, cells := 0, slots := 0, locals := 21 } [.ref (x0), .int (x1), .int (x2), .int (x3)] S I (some (.int (X))) S I := by
  refine z_met (by decide) (Nat.le_of_ble_eq_true rfl) ?_
  intro p e s m below meth c hC hnm hT ls hl
  have hl : lv_has ls 4 [(0, .ref (x0)), (1, .int (x1)), (2, .int (x2)), (3, .int (x3))] := hl
  unfold z_X8_isAct at hz
  refine z_iload_n hC dX8_isAct_0 rfl (lv_at hl 1 rfl) ?_
  by_cases hs1 : x1 = 0 ∨ x1 = 1 ∨ x1 = 2 ∨ x1 = 5 ∨ x1 = 6 ∨ x1 = 7 ∨ x1 = 8 ∨ x1 = 17
  · rw [if_pos hs1] at hz
    rcases hs1 with hs1 | hs1 | hs1 | hs1 | hs1 | hs1 | hs1 | hs1
    · refine z_tabIn (off := 99) (tgt := 100) hC dX8_isAct_1 (by rw [hs1]; decide) (by rw [hs1]; decide) (by rw [hs1]; rfl) (by decide) ?_
      refine z_iconst (v := 1) hC dX8_isAct_100 (by decide) ?_
      obtain rfl := Option.some.inj hz
      exact z_zret hC hT dX8_isAct_101 (Or.inr rfl) (by decide) (by decide)
    · refine z_tabIn (off := 99) (tgt := 100) hC dX8_isAct_1 (by rw [hs1]; decide) (by rw [hs1]; decide) (by rw [hs1]; rfl) (by decide) ?_
      refine z_iconst (v := 1) hC dX8_isAct_100 (by decide) ?_
      obtain rfl := Option.some.inj hz
      exact z_zret hC hT dX8_isAct_101 (Or.inr rfl) (by decide) (by decide)
    · refine z_tabIn (off := 99) (tgt := 100) hC dX8_isAct_1 (by rw [hs1]; decide) (by rw [hs1]; decide) (by rw [hs1]; rfl) (by decide) ?_
      refine z_iconst (v := 1) hC dX8_isAct_100 (by decide) ?_
      obtain rfl := Option.some.inj hz
      exact z_zret hC hT dX8_isAct_101 (Or.inr rfl) (by decide) (by decide)
    · refine z_tabIn (off := 99) (tgt := 100) hC dX8_isAct_1 (by rw [hs1]; decide) (by rw [hs1]; decide) (by rw [hs1]; rfl) (by decide) ?_
      refine z_iconst (v := 1) hC dX8_isAct_100 (by decide) ?_
      obtain rfl := Option.some.inj hz
      exact z_zret hC hT dX8_isAct_101 (Or.inr rfl) (by decide) (by decide)
    · refine z_tabIn (off := 99) (tgt := 100) hC dX8_isAct_1 (by rw [hs1]; decide) (by rw [hs1]; decide) (by rw [hs1]; rfl) (by decide) ?_
      refine z_iconst (v := 1) hC dX8_isAct_100 (by decide) ?_
      obtain rfl := Option.some.inj hz
      exact z_zret hC hT dX8_isAct_101 (Or.inr rfl) (by decide) (by decide)
    · refine z_tabIn (off := 99) (tgt := 100) hC dX8_isAct_1 (by rw [hs1]; decide) (by rw [hs1]; decide) (by rw [hs1]; rfl) (by decide) ?_
      refine z_iconst (v := 1) hC dX8_isAct_100 (by decide) ?_
      obtain rfl := Option.some.inj hz
      exact z_zret hC hT dX8_isAct_101 (Or.inr rfl) (by decide) (by decide)
    · refine z_tabIn (off := 99) (tgt := 100) hC dX8_isAct_1 (by rw [hs1]; decide) (by rw [hs1]; decide) (by rw [hs1]; rfl) (by decide) ?_
      refine z_iconst (v := 1) hC dX8_isAct_100 (by decide) ?_
      obtain rfl := Option.some.inj hz
      exact z_zret hC hT dX8_isAct_101 (Or.inr rfl) (by decide) (by decide)
    · refine z_tabIn (off := 99) (tgt := 100) hC dX8_isAct_1 (by rw [hs1]; decide) (by rw [hs1]; decide) (by rw [hs1]; rfl) (by decide) ?_
      refine z_iconst (v := 1) hC dX8_isAct_100 (by decide) ?_
      obtain rfl := Option.some.inj hz
      exact z_zret hC hT dX8_isAct_101 (Or.inr rfl) (by decide) (by decide)
  rw [if_neg hs1] at hz
  by_cases hs2 : x1 = 3 ∨ x1 = 4 ∨ x1 = 20
  · rw [if_pos hs2] at hz
    rcases hs2 with hs2 | hs2 | hs2
    · refine z_tabIn (off := 101) (tgt := 102) hC dX8_isAct_1 (by rw [hs2]; decide) (by rw [hs2]; decide) (by rw [hs2]; rfl) (by decide) ?_
      exact b_X8_isAct_102 hC hT   (x2) hz ls (lv_sub hl [2] rfl)
    · refine z_tabIn (off := 101) (tgt := 102) hC dX8_isAct_1 (by rw [hs2]; decide) (by rw [hs2]; decide) (by rw [hs2]; rfl) (by decide) ?_
      exact b_X8_isAct_102 hC hT   (x2) hz ls (lv_sub hl [2] rfl)
    · refine z_tabIn (off := 101) (tgt := 102) hC dX8_isAct_1 (by rw [hs2]; decide) (by rw [hs2]; decide) (by rw [hs2]; rfl) (by decide) ?_
      exact b_X8_isAct_102 hC hT   (x2) hz ls (lv_sub hl [2] rfl)
  rw [if_neg hs2] at hz
  by_cases hs3 : x1 = 9 ∨ x1 = 10 ∨ x1 = 11 ∨ x1 = 12 ∨ x1 = 13 ∨ x1 = 18 ∨ x1 = 19
  · rw [if_pos hs3] at hz
    rcases hs3 with hs3 | hs3 | hs3 | hs3 | hs3 | hs3 | hs3
    · refine z_tabIn (off := 106) (tgt := 107) hC dX8_isAct_1 (by rw [hs3]; decide) (by rw [hs3]; decide) (by rw [hs3]; rfl) (by decide) ?_
      exact b_X8_isAct_107 hC hT   (x0) (x2) h_x0 hz ls (lv_sub hl [0, 2] rfl)
    · refine z_tabIn (off := 106) (tgt := 107) hC dX8_isAct_1 (by rw [hs3]; decide) (by rw [hs3]; decide) (by rw [hs3]; rfl) (by decide) ?_
      exact b_X8_isAct_107 hC hT   (x0) (x2) h_x0 hz ls (lv_sub hl [0, 2] rfl)
    · refine z_tabIn (off := 106) (tgt := 107) hC dX8_isAct_1 (by rw [hs3]; decide) (by rw [hs3]; decide) (by rw [hs3]; rfl) (by decide) ?_
      exact b_X8_isAct_107 hC hT   (x0) (x2) h_x0 hz ls (lv_sub hl [0, 2] rfl)
    · refine z_tabIn (off := 106) (tgt := 107) hC dX8_isAct_1 (by rw [hs3]; decide) (by rw [hs3]; decide) (by rw [hs3]; rfl) (by decide) ?_
      exact b_X8_isAct_107 hC hT   (x0) (x2) h_x0 hz ls (lv_sub hl [0, 2] rfl)
    · refine z_tabIn (off := 106) (tgt := 107) hC dX8_isAct_1 (by rw [hs3]; decide) (by rw [hs3]; decide) (by rw [hs3]; rfl) (by decide) ?_
      exact b_X8_isAct_107 hC hT   (x0) (x2) h_x0 hz ls (lv_sub hl [0, 2] rfl)
    · refine z_tabIn (off := 106) (tgt := 107) hC dX8_isAct_1 (by rw [hs3]; decide) (by rw [hs3]; decide) (by rw [hs3]; rfl) (by decide) ?_
      exact b_X8_isAct_107 hC hT   (x0) (x2) h_x0 hz ls (lv_sub hl [0, 2] rfl)
    · refine z_tabIn (off := 106) (tgt := 107) hC dX8_isAct_1 (by rw [hs3]; decide) (by rw [hs3]; decide) (by rw [hs3]; rfl) (by decide) ?_
      exact b_X8_isAct_107 hC hT   (x0) (x2) h_x0 hz ls (lv_sub hl [0, 2] rfl)
  rw [if_neg hs3] at hz
  by_cases hs4 : x1 = 14 ∨ x1 = 15
  · rw [if_pos hs4] at hz
    rcases hs4 with hs4 | hs4
    · refine z_tabIn (off := 115) (tgt := 116) hC dX8_isAct_1 (by rw [hs4]; decide) (by rw [hs4]; decide) (by rw [hs4]; rfl) (by decide) ?_
      exact b_X8_isAct_116 hC hT   (x2) hz ls (lv_sub hl [2] rfl)
    · refine z_tabIn (off := 115) (tgt := 116) hC dX8_isAct_1 (by rw [hs4]; decide) (by rw [hs4]; decide) (by rw [hs4]; rfl) (by decide) ?_
      exact b_X8_isAct_116 hC hT   (x2) hz ls (lv_sub hl [2] rfl)
  rw [if_neg hs4] at hz
  by_cases hs7 : x1 = 16
  · rw [if_pos hs7] at hz
    · refine z_tabIn (off := 120) (tgt := 121) hC dX8_isAct_1 (by rw [hs7]; decide) (by rw [hs7]; decide) (by rw [hs7]; rfl) (by decide) ?_
      refine z_iload_n hC dX8_isAct_121 rfl (lv_at hl 2 rfl) ?_
      obtain ⟨q5, hq_q5, hz⟩ := ob_some hz
      refine z_callS (As := [.int (x2)]) hC hT (c_X8_isActNumber F x2  hq_q5) zy_X8_isActNumber kw_281 kw_280 dX8_isAct_122 rfl rfl hl.1 (Nat.le_of_ble_eq_true rfl) (by decide) (by decide) ?_
      refine z_if_eq (tgt := 144) hC dX8_isAct_125 (by decide) hz (fun hz => ?_) (fun hz => ?_)
      · skip
        refine z_iconst (v := 0) hC dX8_isAct_144 (by decide) ?_
        obtain rfl := Option.some.inj hz
        exact z_zret hC hT dX8_isAct_145 (Or.inl rfl) (by decide) (by decide)
      · skip
        refine z_iload_n hC dX8_isAct_128 rfl (lv_at hl 3 rfl) ?_
        obtain ⟨q6, hq_q6, hz⟩ := ob_some hz
        refine z_callS (As := [.int (x3)]) hC hT (c_X8_isActNumber F x3  hq_q6) zy_X8_isActNumber kw_281 kw_280 dX8_isAct_129 rfl rfl hl.1 (Nat.le_of_ble_eq_true rfl) (by decide) (by decide) ?_
        refine z_if_eq (tgt := 144) hC dX8_isAct_132 (by decide) hz (fun hz => ?_) (fun hz => ?_)
        · skip
          refine z_iconst (v := 0) hC dX8_isAct_144 (by decide) ?_
          obtain rfl := Option.some.inj hz
          exact z_zret hC hT dX8_isAct_145 (Or.inl rfl) (by decide) (by decide)
        · skip
          refine z_iload_n hC dX8_isAct_135 rfl (lv_at hl 2 rfl) ?_
          refine z_iload_n hC dX8_isAct_136 rfl (lv_at hl 3 rfl) ?_
          refine z_icmp_gt (tgt := 144) hC dX8_isAct_137 (by decide) hz (fun hz => ?_) (fun hz => ?_)
          · skip
            refine z_iconst (v := 0) hC dX8_isAct_144 (by decide) ?_
            obtain rfl := Option.some.inj hz
            exact z_zret hC hT dX8_isAct_145 (Or.inl rfl) (by decide) (by decide)
          · skip
            refine z_iconst (v := 1) hC dX8_isAct_140 (by decide) ?_
            refine z_goto (tgt := 145) hC dX8_isAct_141 (by decide) ?_
            obtain rfl := Option.some.inj hz
            exact z_zret hC hT dX8_isAct_145 (Or.inr rfl) (by decide) (by decide)
  rw [if_neg hs7] at hz
  refine z_tabOut (tgt := 146) hC dX8_isAct_1 (z_out (fun k9 h5 h6 h7 => by
      rcases (show k9 = 0 ∨ k9 = 1 ∨ k9 = 2 ∨ k9 = 3 ∨ k9 = 4 ∨ k9 = 5 ∨ k9 = 6 ∨ k9 = 7 ∨ k9 = 8 ∨ k9 = 9 ∨ k9 = 10 ∨ k9 = 11 ∨ k9 = 12 ∨ k9 = 13 ∨ k9 = 14 ∨ k9 = 15 ∨ k9 = 16 ∨ k9 = 17 ∨ k9 = 18 ∨ k9 = 19 ∨ k9 = 20 by omega) with h9 | h9 | h9 | h9 | h9 | h9 | h9 | h9 | h9 | h9 | h9 | h9 | h9 | h9 | h9 | h9 | h9 | h9 | h9 | h9 | h9
      · rw [h9] at h7; exact hs1 (by have h8 := z_ofT (v := 0) h7 (by decide); exact Or.inl h8)
      · rw [h9] at h7; exact hs1 (by have h8 := z_ofT (v := 1) h7 (by decide); exact Or.inr (Or.inl h8))
      · rw [h9] at h7; exact hs1 (by have h8 := z_ofT (v := 2) h7 (by decide); exact Or.inr (Or.inr (Or.inl h8)))
      · rw [h9] at h7; exact hs2 (by have h8 := z_ofT (v := 3) h7 (by decide); exact Or.inl h8)
      · rw [h9] at h7; exact hs2 (by have h8 := z_ofT (v := 4) h7 (by decide); exact Or.inr (Or.inl h8))
      · rw [h9] at h7; exact hs1 (by have h8 := z_ofT (v := 5) h7 (by decide); exact Or.inr (Or.inr (Or.inr (Or.inl h8))))
      · rw [h9] at h7; exact hs1 (by have h8 := z_ofT (v := 6) h7 (by decide); exact Or.inr (Or.inr (Or.inr (Or.inr (Or.inl h8)))))
      · rw [h9] at h7; exact hs1 (by have h8 := z_ofT (v := 7) h7 (by decide); exact Or.inr (Or.inr (Or.inr (Or.inr (Or.inr (Or.inl h8))))))
      · rw [h9] at h7; exact hs1 (by have h8 := z_ofT (v := 8) h7 (by decide); exact Or.inr (Or.inr (Or.inr (Or.inr (Or.inr (Or.inr (Or.inl h8)))))))
      · rw [h9] at h7; exact hs3 (by have h8 := z_ofT (v := 9) h7 (by decide); exact Or.inl h8)
      · rw [h9] at h7; exact hs3 (by have h8 := z_ofT (v := 10) h7 (by decide); exact Or.inr (Or.inl h8))
      · rw [h9] at h7; exact hs3 (by have h8 := z_ofT (v := 11) h7 (by decide); exact Or.inr (Or.inr (Or.inl h8)))
      · rw [h9] at h7; exact hs3 (by have h8 := z_ofT (v := 12) h7 (by decide); exact Or.inr (Or.inr (Or.inr (Or.inl h8))))
      · rw [h9] at h7; exact hs3 (by have h8 := z_ofT (v := 13) h7 (by decide); exact Or.inr (Or.inr (Or.inr (Or.inr (Or.inl h8)))))
      · rw [h9] at h7; exact hs4 (by have h8 := z_ofT (v := 14) h7 (by decide); exact Or.inl h8)
      · rw [h9] at h7; exact hs4 (by have h8 := z_ofT (v := 15) h7 (by decide); exact Or.inr (h8))
      · rw [h9] at h7; exact hs7 (by have h8 := z_ofT (v := 16) h7 (by decide); exact h8)
      · rw [h9] at h7; exact hs1 (by have h8 := z_ofT (v := 17) h7 (by decide); exact Or.inr (Or.inr (Or.inr (Or.inr (Or.inr (Or.inr (Or.inr (h8))))))))
      · rw [h9] at h7; exact hs3 (by have h8 := z_ofT (v := 18) h7 (by decide); exact Or.inr (Or.inr (Or.inr (Or.inr (Or.inr (Or.inl h8))))))
      · rw [h9] at h7; exact hs3 (by have h8 := z_ofT (v := 19) h7 (by decide); exact Or.inr (Or.inr (Or.inr (Or.inr (Or.inr (Or.inr (h8)))))))
      · rw [h9] at h7; exact hs2 (by have h8 := z_ofT (v := 20) h7 (by decide); exact Or.inr (Or.inr (h8)))
      )) (by decide) ?_
  refine z_iconst (v := 0) hC dX8_isAct_146 (by decide) ?_
  obtain rfl := Option.some.inj hz
  exact z_zret hC hT dX8_isAct_147 (Or.inl rfl) (by decide) (by decide)
theorem zy_X8_compute : z_y yX8_compute cX8_compute 4 (some .int) 1 := ⟨kw_375, kw_1, by decide +kernel, by decide +kernel, by decide +kernel⟩
theorem zv_X8_compute : Cond.instanceMethod yX8_compute ∈ z_tbl ∧ Cond.selects RX8 yX8_compute yX8_compute ∈ z_tbl := ⟨kw_373, kw_374⟩
def z_X8_compute (F : Nat) (S : zS) (I : zI) (x0 : Nat) (x1 : Int32) : Option (Int32 × zI) :=
  ob (z_X8_methodAt F S I x0 x1) (fun q1 => ob2 (q1) (some ((-1), I)) (fun r2 => if (I r2 3) = 0 then (some ((-1), I)) else (ob (S.1 x0 2) (fun r3 => ob (z_X2_run F S I r3 r2) (fun q4 => if (q4.1) = (-1) then (ob (z_X5_frameCount F S (z_up (q4.2) x0 4 ((q4.2) r3 4)) r2) (fun q5 => some (q5, z_up (q4.2) x0 4 ((q4.2) r3 4)))) else (some ((-10) - (q4.1), z_up (q4.2) x0 4 ((q4.2) r3 4))))))))
set_option maxRecDepth 100000 in
set_option maxHeartbeats 4000000 in
theorem c_X8_compute {l : Launch} {D : zD} {b0 : Nat} {S : zS} {I : zI} {X : Int32 × zI} (F : Nat) (x0 : Nat) (x1 : Int32) (h_x0 : z_is b0 S x0 8) (hz : z_X8_compute F S I x0 x1 = some X) : z_M l D b0 yX8_compute cX8_compute 4 (some .int) { frames := 7, cells := 0, slots := 0, locals := 172 } [.ref (x0), .int (x1)] S I (some (.int (X.1))) S X.2 := by
  refine z_met (by decide) (Nat.le_of_ble_eq_true rfl) ?_
  intro p e s m below meth c hC hnm hT ls hl
  have hl : lv_has ls 4 [(0, .ref (x0)), (1, .int (x1))] := hl
  unfold z_X8_compute at hz
  refine z_aload_n hC dX8_compute_0 rfl (lv_at hl 0 rfl) ?_
  refine z_iload_n hC dX8_compute_1 rfl (lv_at hl 1 rfl) ?_
  obtain ⟨q1, hq_q1, hz⟩ := ob_some hz
  refine z_callV (As := [.int (x1)]) hC hT (c_X8_methodAt F x0 x1 h_x0 hq_q1) zy_X8_methodAt zc_8 zv_X8_methodAt kw_229 dX8_compute_2 h_x0 rfl rfl hl.1 (Nat.le_of_ble_eq_true rfl) (by decide) (by decide) ?_
  rcases ob2_some hz with ⟨ho_r2, hz⟩ | ⟨r2, ho_r2, hz⟩
  · try rw [ho_r2]
    try rw [ho_r2] at hl
    refine z_astore_nN (lv' := [(2, .null), (0, .ref (x0)), (1, .int (x1))]) hC dX8_compute_5 rfl hl (by decide) rfl (fun ls hl => ?_)
    refine z_aload_nN hC dX8_compute_6 rfl (lv_at hl 0 rfl) ?_
    refine z_ifnullN (tgt := 17) hC dX8_compute_7 (by decide) ?_
    refine z_iconst (v := (-1)) hC dX8_compute_17 (by decide) ?_
    obtain rfl := Option.some.inj hz
    exact z_iret hC hT dX8_compute_18 (by decide) (by decide)
  · have hk_r2 : z_is b0 S r2 5 := (tk_X8_methodAt hT h_x0 hq_q1) _ ho_r2
    try rw [ho_r2]
    try rw [ho_r2] at hl
    refine z_astore_n (lv' := [(2, .ref (r2)), (0, .ref (x0)), (1, .int (x1))]) hC dX8_compute_5 rfl hl (by decide) rfl (fun ls hl => ?_)
    refine z_aload_n hC dX8_compute_6 rfl (lv_at hl 0 rfl) ?_
    refine z_ifnull hC dX8_compute_7 ?_
    refine z_aload_n hC dX8_compute_10 rfl (lv_at hl 0 rfl) ?_
    refine z_getI hC zc_5 3 (by decide) kw_77 dX8_compute_11 hk_r2 rfl ?_
    refine z_if_ne (tgt := 19) hC dX8_compute_14 (by decide) hz (fun hz => ?_) (fun hz => ?_)
    · skip
      refine z_aload_n hC dX8_compute_19 rfl (lv_at hl 1 rfl) ?_
      obtain ⟨r3, hr_r3, hz⟩ := ob_some hz
      have hk_r3 : z_is b0 S r3 2 := hT.at h_x0 hr_r3
      refine z_getR hC zc_8 2 (by decide) kw_178 dX8_compute_20 h_x0 rfl hr_r3 ?_
      refine z_aload_n hC dX8_compute_23 rfl (lv_at hl 0 rfl) ?_
      obtain ⟨q4, hq_q4, hz⟩ := ob_some hz
      refine z_callV (As := [.ref (r2)]) hC hT (c_X2_run F r3 r2 hk_r3 hk_r2 hq_q4) zy_X2_run zc_2 zv_X2_run kw_376 dX8_compute_24 hk_r3 rfl rfl hl.1 (Nat.le_of_ble_eq_true rfl) (by decide) (by decide) ?_
      refine z_istore_n (lv' := [(3, .int (q4.1)), (2, .ref (r2)), (0, .ref (x0)), (1, .int (x1))]) hC dX8_compute_27 rfl hl (by decide) rfl (fun ls hl => ?_)
      refine z_aload_n hC dX8_compute_28 rfl (lv_at hl 2 rfl) ?_
      refine z_aload_n hC dX8_compute_29 rfl (lv_at hl 2 rfl) ?_
      refine z_getR hC zc_8 2 (by decide) kw_178 dX8_compute_30 h_x0 rfl hr_r3 ?_
      refine z_getI hC zc_2 4 (by decide) kw_136 dX8_compute_33 hk_r3 rfl ?_
      refine z_putI hC zc_8 4 (by decide) kw_180 dX8_compute_36 h_x0 rfl rfl rfl rfl ?_
      refine z_iload_n hC dX8_compute_39 rfl (lv_at hl 0 rfl) ?_
      refine z_iconst (v := (-1)) hC dX8_compute_40 (by decide) ?_
      refine z_icmp_ne (tgt := 51) hC dX8_compute_41 (by decide) hz (fun hz => ?_) (fun hz => ?_)
      · skip
        refine z_bipush (v := (-10)) hC dX8_compute_51 (by decide) ?_
        refine z_iload_n hC dX8_compute_53 rfl (lv_at hl 0 rfl) ?_
        refine z_isub hC dX8_compute_54 ?_
        obtain rfl := Option.some.inj hz
        exact z_iret hC hT dX8_compute_55 (by decide) (by decide)
      · skip
        refine z_aload_n hC dX8_compute_44 rfl (lv_at hl 1 rfl) ?_
        obtain ⟨q5, hq_q5, hz⟩ := ob_some hz
        refine z_callV (As := []) hC hT (c_X5_frameCount F r2 hk_r2 hq_q5) zy_X5_frameCount zc_5 zv_X5_frameCount kw_585 dX8_compute_45 hk_r2 rfl rfl hl.1 (Nat.le_of_ble_eq_true rfl) (by decide) (by decide) ?_
        refine z_goto (tgt := 55) hC dX8_compute_48 (by decide) ?_
        obtain rfl := Option.some.inj hz
        exact z_iret hC hT dX8_compute_55 (by decide) (by decide)
    · skip
      refine z_iconst (v := (-1)) hC dX8_compute_17 (by decide) ?_
      obtain rfl := Option.some.inj hz
      exact z_iret hC hT dX8_compute_18 (by decide) (by decide)
theorem zy_X8_fault : z_y yX8_fault cX8_fault 1 (some .int) 0 := ⟨kw_592, kw_1, by decide +kernel, by decide +kernel, by decide +kernel⟩
theorem zv_X8_fault : Cond.instanceMethod yX8_fault ∈ z_tbl ∧ Cond.selects RX8 yX8_fault yX8_fault ∈ z_tbl := ⟨kw_590, kw_591⟩
def z_X8_fault (F : Nat) (S : zS) (I : zI) (x0 : Nat) : Option (Int32) :=
  some (I x0 4)
set_option maxRecDepth 100000 in
set_option maxHeartbeats 4000000 in
theorem c_X8_fault {l : Launch} {D : zD} {b0 : Nat} {S : zS} {I : zI} {X : Int32} (F : Nat) (x0 : Nat) (h_x0 : z_is b0 S x0 8) (hz : z_X8_fault F S I x0 = some X) : z_M l D b0 yX8_fault cX8_fault 1 (some .int) { frames := 0, cells := 0, slots := 0, locals := 0 } [.ref (x0)] S I (some (.int (X))) S I := by
  refine z_met (by decide) (Nat.le_of_ble_eq_true rfl) ?_
  intro p e s m below meth c hC hnm hT ls hl
  have hl : lv_has ls 1 [(0, .ref (x0))] := hl
  unfold z_X8_fault at hz
  refine z_aload_n hC dX8_fault_0 rfl (lv_at hl 0 rfl) ?_
  refine z_getI hC zc_8 4 (by decide) kw_180 dX8_fault_1 h_x0 rfl ?_
  obtain rfl := Option.some.inj hz
  exact z_iret hC hT dX8_fault_4 (by decide) (by decide)
theorem zy_X8_state : z_y yX8_state cX8_state 6 (some .int) 3 := ⟨kw_596, kw_1, by decide +kernel, by decide +kernel, by decide +kernel⟩
theorem zv_X8_state : Cond.instanceMethod yX8_state ∈ z_tbl ∧ Cond.selects RX8 yX8_state yX8_state ∈ z_tbl := ⟨kw_594, kw_595⟩
def z_X8_state_49 (F : Nat) (S : zS) (I : zI)  (x3 : Int32) (x4 : Nat) (x5 : Nat) : Option (Int32) :=
  if (I x4 7) = 0 then (some ((-3))) else (if (I x5 3) = 0 then (some ((-4))) else (ob (S.1 x5 6) (fun r1 => ob (z_X6_answer F S I r1 x3) (fun q2 => some (q2)))))
def z_X8_state (F : Nat) (S : zS) (I : zI) (x0 : Nat) (x1 : Int32) (x2 : Int32) (x3 : Int32) : Option (Int32) :=
  ob (z_X8_methodAt F S I x0 x1) (fun q1 => ob2 (q1) (some ((-1))) (fun r2 => ob (z_X5_actAt F S I r2 x2) (fun q3 => ob2 (q3) (some ((-1))) (fun r4 => ob (z_X8_isPlace F S I x3) (fun q5 => if q5 = 0 then (ob (z_X8_isOnStack F S I x3) (fun q6 => if q6 = 0 then (if x3 = 99 then (z_X8_state_49 F S I  (x3) (r2) (r4)) else (some ((-1)))) else (z_X8_state_49 F S I  (x3) (r2) (r4)))) else (z_X8_state_49 F S I  (x3) (r2) (r4)))))))
set_option maxRecDepth 100000 in
set_option maxHeartbeats 4000000 in
theorem b_X8_state_49 {p : Program} {l : Launch} {e : Env} {s : State} {m : MethodId} {args : Array Value} {below : List Frame} {meth : Method} {c : Code} {D : zD} {b0 : Nat} {F : Nat} {S : zS} {I : zI} {X : Int32} (hC : z_C p s m args meth c cX8_state RX8 6 (some .int) D) (hT : z_T b0 S)   (x3 : Int32) (x4 : Nat) (x5 : Nat) (h_x4 : z_is b0 S x4 5) (h_x5 : z_is b0 S x5 0) (hz : z_X8_state_49 F S I  x3 x4 x5 = some X) (ls : Array Slot) (hl : lv_has ls 6 [(3, .int (x3)), (4, .ref (x4)), (5, .ref (x5))]) : z_W p l e { frames := 2, cells := 0, slots := 0, locals := 43 } s m args below meth c D b0 S I 0 0 (MQ below (z_Q D b0 (some (.int (X))) S I) args s 0 0 (fun q => b0 ≤ q)) (F0 m 49 ls []) := by
  unfold z_X8_state_49 at hz
  refine z_aload hC dX8_state_49 (lv_at hl 1 rfl) ?_
  refine z_getI hC zc_5 7 (by decide) kw_87 dX8_state_51 h_x4 rfl ?_
  refine z_if_ne (tgt := 60) hC dX8_state_54 (by decide) hz (fun hz => ?_) (fun hz => ?_)
  · skip
    refine z_aload hC dX8_state_60 (lv_at hl 2 rfl) ?_
    refine z_getI hC zc_0 3 (by decide) kw_303 dX8_state_62 h_x5 rfl ?_
    refine z_if_eq (tgt := 80) hC dX8_state_65 (by decide) hz (fun hz => ?_) (fun hz => ?_)
    · skip
      refine z_bipush (v := (-4)) hC dX8_state_80 (by decide) ?_
      obtain rfl := Option.some.inj hz
      exact z_iret hC hT dX8_state_82 (by decide) (by decide)
    · skip
      refine z_aload hC dX8_state_68 (lv_at hl 2 rfl) ?_
      obtain ⟨r1, hr_r1, hz⟩ := ob_some hz
      have hk_r1 : z_is b0 S r1 6 := hT.at h_x5 hr_r1
      refine z_getR hC zc_0 6 (by decide) kw_313 dX8_state_70 h_x5 rfl hr_r1 ?_
      refine z_iload_n hC dX8_state_73 rfl (lv_at hl 0 rfl) ?_
      obtain ⟨q2, hq_q2, hz⟩ := ob_some hz
      refine z_callV (As := [.int (x3)]) hC hT (c_X6_answer F r1 x3 hk_r1 hq_q2) zy_X6_answer zc_6 zv_X6_answer kw_601 dX8_state_74 hk_r1 rfl rfl hl.1 (Nat.le_of_ble_eq_true rfl) (by decide) (by decide) ?_
      refine z_goto (tgt := 82) hC dX8_state_77 (by decide) ?_
      obtain rfl := Option.some.inj hz
      exact z_iret hC hT dX8_state_82 (by decide) (by decide)
  · skip
    refine z_bipush (v := (-3)) hC dX8_state_57 (by decide) ?_
    obtain rfl := Option.some.inj hz
    exact z_iret hC hT dX8_state_59 (by decide) (by decide)
set_option maxRecDepth 100000 in
set_option maxHeartbeats 4000000 in
theorem c_X8_state {l : Launch} {D : zD} {b0 : Nat} {S : zS} {I : zI} {X : Int32} (F : Nat) (x0 : Nat) (x1 : Int32) (x2 : Int32) (x3 : Int32) (h_x0 : z_is b0 S x0 8) (hz : z_X8_state F S I x0 x1 x2 x3 = some X) : z_M l D b0 yX8_state cX8_state 6 (some .int) { frames := 2, cells := 0, slots := 0, locals := 43 } [.ref (x0), .int (x1), .int (x2), .int (x3)] S I (some (.int (X))) S I := by
  refine z_met (by decide) (Nat.le_of_ble_eq_true rfl) ?_
  intro p e s m below meth c hC hnm hT ls hl
  have hl : lv_has ls 6 [(0, .ref (x0)), (1, .int (x1)), (2, .int (x2)), (3, .int (x3))] := hl
  unfold z_X8_state at hz
  refine z_aload_n hC dX8_state_0 rfl (lv_at hl 0 rfl) ?_
  refine z_iload_n hC dX8_state_1 rfl (lv_at hl 1 rfl) ?_
  obtain ⟨q1, hq_q1, hz⟩ := ob_some hz
  refine z_callV (As := [.int (x1)]) hC hT (c_X8_methodAt F x0 x1 h_x0 hq_q1) zy_X8_methodAt zc_8 zv_X8_methodAt kw_229 dX8_state_2 h_x0 rfl rfl hl.1 (Nat.le_of_ble_eq_true rfl) (by decide) (by decide) ?_
  rcases ob2_some hz with ⟨ho_r2, hz⟩ | ⟨r2, ho_r2, hz⟩
  · try rw [ho_r2]
    try rw [ho_r2] at hl
    refine z_astoreN (lv' := [(4, .null), (0, .ref (x0)), (1, .int (x1)), (2, .int (x2)), (3, .int (x3))]) hC dX8_state_5 hl (by decide) rfl (fun ls hl => ?_)
    refine z_aloadN hC dX8_state_7 (lv_at hl 0 rfl) ?_
    refine z_ifnonnullN hC dX8_state_9 ?_
    refine z_iconst (v := (-1)) hC dX8_state_12 (by decide) ?_
    obtain rfl := Option.some.inj hz
    exact z_iret hC hT dX8_state_13 (by decide) (by decide)
  · have hk_r2 : z_is b0 S r2 5 := (tk_X8_methodAt hT h_x0 hq_q1) _ ho_r2
    try rw [ho_r2]
    try rw [ho_r2] at hl
    refine z_astore (lv' := [(4, .ref (r2)), (0, .ref (x0)), (1, .int (x1)), (2, .int (x2)), (3, .int (x3))]) hC dX8_state_5 hl (by decide) rfl (fun ls hl => ?_)
    refine z_aload hC dX8_state_7 (lv_at hl 0 rfl) ?_
    refine z_ifnonnull (tgt := 14) hC dX8_state_9 (by decide) ?_
    refine z_aload hC dX8_state_14 (lv_at hl 0 rfl) ?_
    refine z_iload_n hC dX8_state_16 rfl (lv_at hl 3 rfl) ?_
    obtain ⟨q3, hq_q3, hz⟩ := ob_some hz
    refine z_callV (As := [.int (x2)]) hC hT (c_X5_actAt F r2 x2 hk_r2 hq_q3) zy_X5_actAt zc_5 zv_X5_actAt kw_597 dX8_state_17 hk_r2 rfl rfl hl.1 (Nat.le_of_ble_eq_true rfl) (by decide) (by decide) ?_
    rcases ob2_some hz with ⟨ho_r4, hz⟩ | ⟨r4, ho_r4, hz⟩
    · try rw [ho_r4]
      try rw [ho_r4] at hl
      refine z_astoreN (lv' := [(5, .null), (4, .ref (r2)), (0, .ref (x0)), (1, .int (x1)), (2, .int (x2)), (3, .int (x3))]) hC dX8_state_20 hl (by decide) rfl (fun ls hl => ?_)
      refine z_aloadN hC dX8_state_22 (lv_at hl 0 rfl) ?_
      refine z_ifnullN (tgt := 47) hC dX8_state_24 (by decide) ?_
      refine z_iconst (v := (-1)) hC dX8_state_47 (by decide) ?_
      obtain rfl := Option.some.inj hz
      exact z_iret hC hT dX8_state_48 (by decide) (by decide)
    · have hk_r4 : z_is b0 S r4 0 := (tk_X5_actAt hT hk_r2 hq_q3) _ ho_r4
      try rw [ho_r4]
      try rw [ho_r4] at hl
      refine z_astore (lv' := [(5, .ref (r4)), (4, .ref (r2)), (0, .ref (x0)), (1, .int (x1)), (2, .int (x2)), (3, .int (x3))]) hC dX8_state_20 hl (by decide) rfl (fun ls hl => ?_)
      refine z_aload hC dX8_state_22 (lv_at hl 0 rfl) ?_
      refine z_ifnull hC dX8_state_24 ?_
      refine z_iload_n hC dX8_state_27 rfl (lv_at hl 5 rfl) ?_
      obtain ⟨q5, hq_q5, hz⟩ := ob_some hz
      refine z_callS (As := [.int (x3)]) hC hT (c_X8_isPlace F x3  hq_q5) zy_X8_isPlace kw_278 kw_277 dX8_state_28 rfl rfl hl.1 (Nat.le_of_ble_eq_true rfl) (by decide) (by decide) ?_
      refine z_if_ne (tgt := 49) hC dX8_state_31 (by decide) hz (fun hz => ?_) (fun hz => ?_)
      · skip
        exact b_X8_state_49 hC hT   (x3) (r2) (r4) hk_r2 hk_r4 hz ls (lv_sub hl [5, 1, 0] rfl)
      · skip
        refine z_iload_n hC dX8_state_34 rfl (lv_at hl 5 rfl) ?_
        obtain ⟨q6, hq_q6, hz⟩ := ob_some hz
        refine z_callS (As := [.int (x3)]) hC hT (c_X8_isOnStack F x3  hq_q6) zy_X8_isOnStack kw_599 kw_598 dX8_state_35 rfl rfl hl.1 (Nat.le_of_ble_eq_true rfl) (by decide) (by decide) ?_
        refine z_if_ne (tgt := 49) hC dX8_state_38 (by decide) hz (fun hz => ?_) (fun hz => ?_)
        · skip
          exact b_X8_state_49 hC hT   (x3) (r2) (r4) hk_r2 hk_r4 hz ls (lv_sub hl [5, 1, 0] rfl)
        · skip
          refine z_iload_n hC dX8_state_41 rfl (lv_at hl 5 rfl) ?_
          refine z_bipush (v := 99) hC dX8_state_42 (by decide) ?_
          refine z_icmp_eq (tgt := 49) hC dX8_state_44 (by decide) hz (fun hz => ?_) (fun hz => ?_)
          · skip
            exact b_X8_state_49 hC hT   (x3) (r2) (r4) hk_r2 hk_r4 hz ls (lv_sub hl [5, 1, 0] rfl)
          · skip
            refine z_iconst (v := (-1)) hC dX8_state_47 (by decide) ?_
            obtain rfl := Option.some.inj hz
            exact z_iret hC hT dX8_state_48 (by decide) (by decide)
theorem zy_X8_frame : z_y yX8_frame cX8_frame 7 (some .int) 3 := ⟨kw_610, kw_1, by decide +kernel, by decide +kernel, by decide +kernel⟩
theorem zv_X8_frame : Cond.instanceMethod yX8_frame ∈ z_tbl ∧ Cond.selects RX8 yX8_frame yX8_frame ∈ z_tbl := ⟨kw_608, kw_609⟩
def z_X8_frame (F : Nat) (S : zS) (I : zI) (x0 : Nat) (x1 : Int32) (x2 : Int32) (x3 : Int32) : Option (Int32) :=
  ob (z_X8_methodAt F S I x0 x1) (fun q1 => ob2 (q1) (some ((-1))) (fun r2 => if (I r2 7) = 0 then (some ((-3))) else (ob (z_X5_actOfFrame F S I r2 x2) (fun q3 => ob (z_X5_actAt F S I r2 q3) (fun q4 => ob2 (q4) (some ((-1))) (fun r5 => if x3 = 98 then (some (q3)) else (ob (S.1 r5 7) (fun r6 => ob (z_X6_answer F S I r6 x3) (fun q7 => some (q7))))))))))
set_option maxRecDepth 100000 in
set_option maxHeartbeats 4000000 in
theorem c_X8_frame {l : Launch} {D : zD} {b0 : Nat} {S : zS} {I : zI} {X : Int32} (F : Nat) (x0 : Nat) (x1 : Int32) (x2 : Int32) (x3 : Int32) (h_x0 : z_is b0 S x0 8) (hz : z_X8_frame F S I x0 x1 x2 x3 = some X) : z_M l D b0 yX8_frame cX8_frame 7 (some .int) { frames := 2, cells := 0, slots := 0, locals := 45 } [.ref (x0), .int (x1), .int (x2), .int (x3)] S I (some (.int (X))) S I := by
  refine z_met (by decide) (Nat.le_of_ble_eq_true rfl) ?_
  intro p e s m below meth c hC hnm hT ls hl
  have hl : lv_has ls 7 [(0, .ref (x0)), (1, .int (x1)), (2, .int (x2)), (3, .int (x3))] := hl
  unfold z_X8_frame at hz
  refine z_aload_n hC dX8_frame_0 rfl (lv_at hl 0 rfl) ?_
  refine z_iload_n hC dX8_frame_1 rfl (lv_at hl 1 rfl) ?_
  obtain ⟨q1, hq_q1, hz⟩ := ob_some hz
  refine z_callV (As := [.int (x1)]) hC hT (c_X8_methodAt F x0 x1 h_x0 hq_q1) zy_X8_methodAt zc_8 zv_X8_methodAt kw_229 dX8_frame_2 h_x0 rfl rfl hl.1 (Nat.le_of_ble_eq_true rfl) (by decide) (by decide) ?_
  rcases ob2_some hz with ⟨ho_r2, hz⟩ | ⟨r2, ho_r2, hz⟩
  · try rw [ho_r2]
    try rw [ho_r2] at hl
    refine z_astoreN (lv' := [(4, .null), (0, .ref (x0)), (1, .int (x1)), (2, .int (x2)), (3, .int (x3))]) hC dX8_frame_5 hl (by decide) rfl (fun ls hl => ?_)
    refine z_aloadN hC dX8_frame_7 (lv_at hl 0 rfl) ?_
    refine z_ifnonnullN hC dX8_frame_9 ?_
    refine z_iconst (v := (-1)) hC dX8_frame_12 (by decide) ?_
    obtain rfl := Option.some.inj hz
    exact z_iret hC hT dX8_frame_13 (by decide) (by decide)
  · have hk_r2 : z_is b0 S r2 5 := (tk_X8_methodAt hT h_x0 hq_q1) _ ho_r2
    try rw [ho_r2]
    try rw [ho_r2] at hl
    refine z_astore (lv' := [(4, .ref (r2)), (0, .ref (x0)), (1, .int (x1)), (2, .int (x2)), (3, .int (x3))]) hC dX8_frame_5 hl (by decide) rfl (fun ls hl => ?_)
    refine z_aload hC dX8_frame_7 (lv_at hl 0 rfl) ?_
    refine z_ifnonnull (tgt := 14) hC dX8_frame_9 (by decide) ?_
    refine z_aload hC dX8_frame_14 (lv_at hl 0 rfl) ?_
    refine z_getI hC zc_5 7 (by decide) kw_87 dX8_frame_16 hk_r2 rfl ?_
    refine z_if_ne (tgt := 25) hC dX8_frame_19 (by decide) hz (fun hz => ?_) (fun hz => ?_)
    · skip
      refine z_aload hC dX8_frame_25 (lv_at hl 0 rfl) ?_
      refine z_iload_n hC dX8_frame_27 rfl (lv_at hl 3 rfl) ?_
      obtain ⟨q3, hq_q3, hz⟩ := ob_some hz
      refine z_callV (As := [.int (x2)]) hC hT (c_X5_actOfFrame F r2 x2 hk_r2 hq_q3) zy_X5_actOfFrame zc_5 zv_X5_actOfFrame kw_611 dX8_frame_28 hk_r2 rfl rfl hl.1 (Nat.le_of_ble_eq_true rfl) (by decide) (by decide) ?_
      refine z_istore (lv' := [(5, .int (q3)), (4, .ref (r2)), (0, .ref (x0)), (1, .int (x1)), (2, .int (x2)), (3, .int (x3))]) hC dX8_frame_31 hl (by decide) rfl (fun ls hl => ?_)
      refine z_aload hC dX8_frame_33 (lv_at hl 1 rfl) ?_
      refine z_iload hC dX8_frame_35 (lv_at hl 0 rfl) ?_
      obtain ⟨q4, hq_q4, hz⟩ := ob_some hz
      refine z_callV (As := [.int (q3)]) hC hT (c_X5_actAt F r2 q3 hk_r2 hq_q4) zy_X5_actAt zc_5 zv_X5_actAt kw_597 dX8_frame_37 hk_r2 rfl rfl hl.1 (Nat.le_of_ble_eq_true rfl) (by decide) (by decide) ?_
      rcases ob2_some hz with ⟨ho_r5, hz⟩ | ⟨r5, ho_r5, hz⟩
      · try rw [ho_r5]
        try rw [ho_r5] at hl
        refine z_astoreN (lv' := [(6, .null), (5, .int (q3)), (4, .ref (r2)), (0, .ref (x0)), (1, .int (x1)), (2, .int (x2)), (3, .int (x3))]) hC dX8_frame_40 hl (by decide) rfl (fun ls hl => ?_)
        refine z_aloadN hC dX8_frame_42 (lv_at hl 0 rfl) ?_
        refine z_ifnonnullN hC dX8_frame_44 ?_
        refine z_iconst (v := (-1)) hC dX8_frame_47 (by decide) ?_
        obtain rfl := Option.some.inj hz
        exact z_iret hC hT dX8_frame_48 (by decide) (by decide)
      · have hk_r5 : z_is b0 S r5 0 := (tk_X5_actAt hT hk_r2 hq_q4) _ ho_r5
        try rw [ho_r5]
        try rw [ho_r5] at hl
        refine z_astore (lv' := [(6, .ref (r5)), (5, .int (q3)), (4, .ref (r2)), (0, .ref (x0)), (1, .int (x1)), (2, .int (x2)), (3, .int (x3))]) hC dX8_frame_40 hl (by decide) rfl (fun ls hl => ?_)
        refine z_aload hC dX8_frame_42 (lv_at hl 0 rfl) ?_
        refine z_ifnonnull (tgt := 49) hC dX8_frame_44 (by decide) ?_
        refine z_iload_n hC dX8_frame_49 rfl (lv_at hl 6 rfl) ?_
        refine z_bipush (v := 98) hC dX8_frame_50 (by decide) ?_
        refine z_icmp_ne (tgt := 60) hC dX8_frame_52 (by decide) hz (fun hz => ?_) (fun hz => ?_)
        · skip
          refine z_aload hC dX8_frame_60 (lv_at hl 0 rfl) ?_
          obtain ⟨r6, hr_r6, hz⟩ := ob_some hz
          have hk_r6 : z_is b0 S r6 6 := hT.at hk_r5 hr_r6
          refine z_getR hC zc_0 7 (by decide) kw_317 dX8_frame_62 hk_r5 rfl hr_r6 ?_
          refine z_iload_n hC dX8_frame_65 rfl (lv_at hl 6 rfl) ?_
          obtain ⟨q7, hq_q7, hz⟩ := ob_some hz
          refine z_callV (As := [.int (x3)]) hC hT (c_X6_answer F r6 x3 hk_r6 hq_q7) zy_X6_answer zc_6 zv_X6_answer kw_601 dX8_frame_66 hk_r6 rfl rfl hl.1 (Nat.le_of_ble_eq_true rfl) (by decide) (by decide) ?_
          obtain rfl := Option.some.inj hz
          exact z_iret hC hT dX8_frame_69 (by decide) (by decide)
        · skip
          refine z_iload hC dX8_frame_55 (lv_at hl 1 rfl) ?_
          refine z_goto (tgt := 69) hC dX8_frame_57 (by decide) ?_
          obtain rfl := Option.some.inj hz
          exact z_iret hC hT dX8_frame_69 (by decide) (by decide)
    · skip
      refine z_bipush (v := (-3)) hC dX8_frame_22 (by decide) ?_
      obtain rfl := Option.some.inj hz
      exact z_iret hC hT dX8_frame_24 (by decide) (by decide)
theorem zy_X8_form : z_y yX8_form cX8_form 6 (some .int) 2 := ⟨kw_618, kw_1, by decide +kernel, by decide +kernel, by decide +kernel⟩
theorem zv_X8_form : Cond.instanceMethod yX8_form ∈ z_tbl ∧ Cond.selects RX8 yX8_form yX8_form ∈ z_tbl := ⟨kw_616, kw_617⟩
def z_X8_form_75 (F : Nat) (S : zS) (I : zI)  (y0 : Nat) (y1 : Nat) : Option (Int32) :=
  ob (z_X6_formAgainst F S I y0 y1) (fun q1 => some (q1))
def z_X8_form (F : Nat) (S : zS) (I : zI) (x0 : Nat) (x1 : Int32) (x2 : Int32) : Option (Int32) :=
  ob (z_X8_methodAt F S I x0 x1) (fun q1 => ob2 (q1) (some ((-1))) (fun r2 => if (I r2 7) = 0 then (some ((-3))) else (ob (z_X5_actOfFrame F S I r2 x2) (fun q3 => ob (z_X5_actAt F S I r2 q3) (fun q4 => ob2 (q4) (some ((-1))) (fun r5 => ob (z_X5_actOfFrame F S I r2 (x2 - 1)) (fun q6 => ob (z_X5_actAt F S I r2 q6) (fun q7 => ob2 (q7) (ob (S.1 r5 7) (fun r9 => ob (S.1 r2 2) (fun r10 => z_X8_form_75 F S I  (r9) (r10)))) (fun r8 => ob (S.1 r5 7) (fun r11 => ob (S.1 r8 7) (fun r12 => z_X8_form_75 F S I  (r11) (r12))))))))))))
set_option maxRecDepth 100000 in
set_option maxHeartbeats 4000000 in
theorem b_X8_form_75 {p : Program} {l : Launch} {e : Env} {s : State} {m : MethodId} {args : Array Value} {below : List Frame} {meth : Method} {c : Code} {D : zD} {b0 : Nat} {F : Nat} {S : zS} {I : zI} {X : Int32} (hC : z_C p s m args meth c cX8_form RX8 6 (some .int) D) (hT : z_T b0 S)   (y0 : Nat) (y1 : Nat) (h_y0 : z_is b0 S y0 6) (h_y1 : z_is b0 S y1 6) (hz : z_X8_form_75 F S I  y0 y1 = some X) (ls : Array Slot) (hl : lv_has ls 6 []) : z_W p l e { frames := 3, cells := 0, slots := 0, locals := 70 } s m args below meth c D b0 S I 0 0 (MQ below (z_Q D b0 (some (.int (X))) S I) args s 0 0 (fun q => b0 ≤ q)) (F0 m 75 ls [.ref (y1), .ref (y0)]) := by
  unfold z_X8_form_75 at hz
  obtain ⟨q1, hq_q1, hz⟩ := ob_some hz
  refine z_callV (As := [.ref (y1)]) hC hT (c_X6_formAgainst F y0 y1 h_y0 h_y1 hq_q1) zy_X6_formAgainst zc_6 zv_X6_formAgainst kw_619 dX8_form_75 h_y0 rfl rfl hl.1 (Nat.le_of_ble_eq_true rfl) (by decide) (by decide) ?_
  obtain rfl := Option.some.inj hz
  exact z_iret hC hT dX8_form_78 (by decide) (by decide)
set_option maxRecDepth 100000 in
set_option maxHeartbeats 4000000 in
theorem c_X8_form {l : Launch} {D : zD} {b0 : Nat} {S : zS} {I : zI} {X : Int32} (F : Nat) (x0 : Nat) (x1 : Int32) (x2 : Int32) (h_x0 : z_is b0 S x0 8) (hz : z_X8_form F S I x0 x1 x2 = some X) : z_M l D b0 yX8_form cX8_form 6 (some .int) { frames := 3, cells := 0, slots := 0, locals := 70 } [.ref (x0), .int (x1), .int (x2)] S I (some (.int (X))) S I := by
  refine z_met (by decide) (Nat.le_of_ble_eq_true rfl) ?_
  intro p e s m below meth c hC hnm hT ls hl
  have hl : lv_has ls 6 [(0, .ref (x0)), (1, .int (x1)), (2, .int (x2))] := hl
  unfold z_X8_form at hz
  refine z_aload_n hC dX8_form_0 rfl (lv_at hl 0 rfl) ?_
  refine z_iload_n hC dX8_form_1 rfl (lv_at hl 1 rfl) ?_
  obtain ⟨q1, hq_q1, hz⟩ := ob_some hz
  refine z_callV (As := [.int (x1)]) hC hT (c_X8_methodAt F x0 x1 h_x0 hq_q1) zy_X8_methodAt zc_8 zv_X8_methodAt kw_229 dX8_form_2 h_x0 rfl rfl hl.1 (Nat.le_of_ble_eq_true rfl) (by decide) (by decide) ?_
  rcases ob2_some hz with ⟨ho_r2, hz⟩ | ⟨r2, ho_r2, hz⟩
  · try rw [ho_r2]
    try rw [ho_r2] at hl
    refine z_astore_nN (lv' := [(3, .null), (0, .ref (x0)), (1, .int (x1)), (2, .int (x2))]) hC dX8_form_5 rfl hl (by decide) rfl (fun ls hl => ?_)
    refine z_aload_nN hC dX8_form_6 rfl (lv_at hl 0 rfl) ?_
    refine z_ifnonnullN hC dX8_form_7 ?_
    refine z_iconst (v := (-1)) hC dX8_form_10 (by decide) ?_
    obtain rfl := Option.some.inj hz
    exact z_iret hC hT dX8_form_11 (by decide) (by decide)
  · have hk_r2 : z_is b0 S r2 5 := (tk_X8_methodAt hT h_x0 hq_q1) _ ho_r2
    try rw [ho_r2]
    try rw [ho_r2] at hl
    refine z_astore_n (lv' := [(3, .ref (r2)), (0, .ref (x0)), (1, .int (x1)), (2, .int (x2))]) hC dX8_form_5 rfl hl (by decide) rfl (fun ls hl => ?_)
    refine z_aload_n hC dX8_form_6 rfl (lv_at hl 0 rfl) ?_
    refine z_ifnonnull (tgt := 12) hC dX8_form_7 (by decide) ?_
    refine z_aload_n hC dX8_form_12 rfl (lv_at hl 0 rfl) ?_
    refine z_getI hC zc_5 7 (by decide) kw_87 dX8_form_13 hk_r2 rfl ?_
    refine z_if_ne (tgt := 22) hC dX8_form_16 (by decide) hz (fun hz => ?_) (fun hz => ?_)
    · skip
      refine z_aload_n hC dX8_form_22 rfl (lv_at hl 0 rfl) ?_
      refine z_aload_n hC dX8_form_23 rfl (lv_at hl 0 rfl) ?_
      refine z_iload_n hC dX8_form_24 rfl (lv_at hl 3 rfl) ?_
      obtain ⟨q3, hq_q3, hz⟩ := ob_some hz
      refine z_callV (As := [.int (x2)]) hC hT (c_X5_actOfFrame F r2 x2 hk_r2 hq_q3) zy_X5_actOfFrame zc_5 zv_X5_actOfFrame kw_611 dX8_form_25 hk_r2 rfl rfl hl.1 (Nat.le_of_ble_eq_true rfl) (by decide) (by decide) ?_
      obtain ⟨q4, hq_q4, hz⟩ := ob_some hz
      refine z_callV (As := [.int (q3)]) hC hT (c_X5_actAt F r2 q3 hk_r2 hq_q4) zy_X5_actAt zc_5 zv_X5_actAt kw_597 dX8_form_28 hk_r2 rfl rfl hl.1 (Nat.le_of_ble_eq_true rfl) (by decide) (by decide) ?_
      rcases ob2_some hz with ⟨ho_r5, hz⟩ | ⟨r5, ho_r5, hz⟩
      · try rw [ho_r5]
        try rw [ho_r5] at hl
        refine z_astoreN (lv' := [(4, .null), (3, .ref (r2)), (0, .ref (x0)), (1, .int (x1)), (2, .int (x2))]) hC dX8_form_31 hl (by decide) rfl (fun ls hl => ?_)
        refine z_aloadN hC dX8_form_33 (lv_at hl 0 rfl) ?_
        refine z_ifnonnullN hC dX8_form_35 ?_
        refine z_iconst (v := (-1)) hC dX8_form_38 (by decide) ?_
        obtain rfl := Option.some.inj hz
        exact z_iret hC hT dX8_form_39 (by decide) (by decide)
      · have hk_r5 : z_is b0 S r5 0 := (tk_X5_actAt hT hk_r2 hq_q4) _ ho_r5
        try rw [ho_r5]
        try rw [ho_r5] at hl
        refine z_astore (lv' := [(4, .ref (r5)), (3, .ref (r2)), (0, .ref (x0)), (1, .int (x1)), (2, .int (x2))]) hC dX8_form_31 hl (by decide) rfl (fun ls hl => ?_)
        refine z_aload hC dX8_form_33 (lv_at hl 0 rfl) ?_
        refine z_ifnonnull (tgt := 40) hC dX8_form_35 (by decide) ?_
        refine z_aload_n hC dX8_form_40 rfl (lv_at hl 1 rfl) ?_
        refine z_aload_n hC dX8_form_41 rfl (lv_at hl 1 rfl) ?_
        refine z_iload_n hC dX8_form_42 rfl (lv_at hl 4 rfl) ?_
        refine z_iconst (v := 1) hC dX8_form_43 (by decide) ?_
        refine z_isub hC dX8_form_44 ?_
        obtain ⟨q6, hq_q6, hz⟩ := ob_some hz
        refine z_callV (As := [.int (x2 - 1)]) hC hT (c_X5_actOfFrame F r2 (x2 - 1) hk_r2 hq_q6) zy_X5_actOfFrame zc_5 zv_X5_actOfFrame kw_611 dX8_form_45 hk_r2 rfl rfl hl.1 (Nat.le_of_ble_eq_true rfl) (by decide) (by decide) ?_
        obtain ⟨q7, hq_q7, hz⟩ := ob_some hz
        refine z_callV (As := [.int (q6)]) hC hT (c_X5_actAt F r2 q6 hk_r2 hq_q7) zy_X5_actAt zc_5 zv_X5_actAt kw_597 dX8_form_48 hk_r2 rfl rfl hl.1 (Nat.le_of_ble_eq_true rfl) (by decide) (by decide) ?_
        rcases ob2_some hz with ⟨ho_r8, hz⟩ | ⟨r8, ho_r8, hz⟩
        · try rw [ho_r8]
          try rw [ho_r8] at hl
          refine z_astoreN (lv' := [(5, .null), (4, .ref (r5)), (3, .ref (r2)), (0, .ref (x0)), (1, .int (x1)), (2, .int (x2))]) hC dX8_form_51 hl (by decide) rfl (fun ls hl => ?_)
          refine z_aload hC dX8_form_53 (lv_at hl 1 rfl) ?_
          obtain ⟨r9, hr_r9, hz⟩ := ob_some hz
          have hk_r9 : z_is b0 S r9 6 := hT.at hk_r5 hr_r9
          refine z_getR hC zc_0 7 (by decide) kw_317 dX8_form_55 hk_r5 rfl hr_r9 ?_
          refine z_aloadN hC dX8_form_58 (lv_at hl 0 rfl) ?_
          refine z_ifnonnullN hC dX8_form_60 ?_
          refine z_aload_n hC dX8_form_63 rfl (lv_at hl 2 rfl) ?_
          obtain ⟨r10, hr_r10, hz⟩ := ob_some hz
          have hk_r10 : z_is b0 S r10 6 := hT.at hk_r2 hr_r10
          refine z_getR hC zc_5 2 (by decide) kw_74 dX8_form_64 hk_r2 rfl hr_r10 ?_
          refine z_goto (tgt := 75) hC dX8_form_67 (by decide) ?_
          exact b_X8_form_75 hC hT   (r9) (r10) hk_r9 hk_r10 hz ls (lv_sub hl [] rfl)
        · have hk_r8 : z_is b0 S r8 0 := (tk_X5_actAt hT hk_r2 hq_q7) _ ho_r8
          try rw [ho_r8]
          try rw [ho_r8] at hl
          refine z_astore (lv' := [(5, .ref (r8)), (4, .ref (r5)), (3, .ref (r2)), (0, .ref (x0)), (1, .int (x1)), (2, .int (x2))]) hC dX8_form_51 hl (by decide) rfl (fun ls hl => ?_)
          refine z_aload hC dX8_form_53 (lv_at hl 1 rfl) ?_
          obtain ⟨r11, hr_r11, hz⟩ := ob_some hz
          have hk_r11 : z_is b0 S r11 6 := hT.at hk_r5 hr_r11
          refine z_getR hC zc_0 7 (by decide) kw_317 dX8_form_55 hk_r5 rfl hr_r11 ?_
          refine z_aload hC dX8_form_58 (lv_at hl 0 rfl) ?_
          refine z_ifnonnull (tgt := 70) hC dX8_form_60 (by decide) ?_
          refine z_aload hC dX8_form_70 (lv_at hl 0 rfl) ?_
          obtain ⟨r12, hr_r12, hz⟩ := ob_some hz
          have hk_r12 : z_is b0 S r12 6 := hT.at hk_r8 hr_r12
          refine z_getR hC zc_0 7 (by decide) kw_317 dX8_form_72 hk_r8 rfl hr_r12 ?_
          exact b_X8_form_75 hC hT   (r11) (r12) hk_r11 hk_r12 hz ls (lv_sub hl [] rfl)
    · skip
      refine z_bipush (v := (-3)) hC dX8_form_19 (by decide) ?_
      obtain rfl := Option.some.inj hz
      exact z_iret hC hT dX8_form_21 (by decide) (by decide)
theorem zy_X8_shared : z_y yX8_shared cX8_shared 4 (some .int) 2 := ⟨kw_641, kw_1, by decide +kernel, by decide +kernel, by decide +kernel⟩
theorem zv_X8_shared : Cond.instanceMethod yX8_shared ∈ z_tbl ∧ Cond.selects RX8 yX8_shared yX8_shared ∈ z_tbl := ⟨kw_639, kw_640⟩
def z_X8_shared (F : Nat) (S : zS) (I : zI) (x0 : Nat) (x1 : Int32) (x2 : Int32) : Option (Int32) :=
  ob (z_X8_methodAt F S I x0 x1) (fun q1 => ob2 (q1) (some ((-1))) (fun r2 => ob (z_X5_actAt F S I r2 x2) (fun q3 => ob2 (q3) (some ((-1))) (fun r4 => if (I r2 7) = 0 then (some ((-3))) else (ob (z_X5_countSources F S I r2 x2) (fun q5 => some (q5)))))))
set_option maxRecDepth 100000 in
set_option maxHeartbeats 4000000 in
theorem c_X8_shared {l : Launch} {D : zD} {b0 : Nat} {S : zS} {I : zI} {X : Int32} (F : Nat) (x0 : Nat) (x1 : Int32) (x2 : Int32) (h_x0 : z_is b0 S x0 8) (hz : z_X8_shared F S I x0 x1 x2 = some X) : z_M l D b0 yX8_shared cX8_shared 4 (some .int) { frames := 5, cells := 0, slots := 0, locals := 109 } [.ref (x0), .int (x1), .int (x2)] S I (some (.int (X))) S I := by
  refine z_met (by decide) (Nat.le_of_ble_eq_true rfl) ?_
  intro p e s m below meth c hC hnm hT ls hl
  have hl : lv_has ls 4 [(0, .ref (x0)), (1, .int (x1)), (2, .int (x2))] := hl
  unfold z_X8_shared at hz
  refine z_aload_n hC dX8_shared_0 rfl (lv_at hl 0 rfl) ?_
  refine z_iload_n hC dX8_shared_1 rfl (lv_at hl 1 rfl) ?_
  obtain ⟨q1, hq_q1, hz⟩ := ob_some hz
  refine z_callV (As := [.int (x1)]) hC hT (c_X8_methodAt F x0 x1 h_x0 hq_q1) zy_X8_methodAt zc_8 zv_X8_methodAt kw_229 dX8_shared_2 h_x0 rfl rfl hl.1 (Nat.le_of_ble_eq_true rfl) (by decide) (by decide) ?_
  rcases ob2_some hz with ⟨ho_r2, hz⟩ | ⟨r2, ho_r2, hz⟩
  · try rw [ho_r2]
    try rw [ho_r2] at hl
    refine z_astore_nN (lv' := [(3, .null), (0, .ref (x0)), (1, .int (x1)), (2, .int (x2))]) hC dX8_shared_5 rfl hl (by decide) rfl (fun ls hl => ?_)
    refine z_aload_nN hC dX8_shared_6 rfl (lv_at hl 0 rfl) ?_
    refine z_ifnullN (tgt := 18) hC dX8_shared_7 (by decide) ?_
    refine z_iconst (v := (-1)) hC dX8_shared_18 (by decide) ?_
    obtain rfl := Option.some.inj hz
    exact z_iret hC hT dX8_shared_19 (by decide) (by decide)
  · have hk_r2 : z_is b0 S r2 5 := (tk_X8_methodAt hT h_x0 hq_q1) _ ho_r2
    try rw [ho_r2]
    try rw [ho_r2] at hl
    refine z_astore_n (lv' := [(3, .ref (r2)), (0, .ref (x0)), (1, .int (x1)), (2, .int (x2))]) hC dX8_shared_5 rfl hl (by decide) rfl (fun ls hl => ?_)
    refine z_aload_n hC dX8_shared_6 rfl (lv_at hl 0 rfl) ?_
    refine z_ifnull hC dX8_shared_7 ?_
    refine z_aload_n hC dX8_shared_10 rfl (lv_at hl 0 rfl) ?_
    refine z_iload_n hC dX8_shared_11 rfl (lv_at hl 3 rfl) ?_
    obtain ⟨q3, hq_q3, hz⟩ := ob_some hz
    refine z_callV (As := [.int (x2)]) hC hT (c_X5_actAt F r2 x2 hk_r2 hq_q3) zy_X5_actAt zc_5 zv_X5_actAt kw_597 dX8_shared_12 hk_r2 rfl rfl hl.1 (Nat.le_of_ble_eq_true rfl) (by decide) (by decide) ?_
    rcases ob2_some hz with ⟨ho_r4, hz⟩ | ⟨r4, ho_r4, hz⟩
    · try rw [ho_r4]
      try rw [ho_r4] at hl
      refine z_ifnonnullN hC dX8_shared_15 ?_
      refine z_iconst (v := (-1)) hC dX8_shared_18 (by decide) ?_
      obtain rfl := Option.some.inj hz
      exact z_iret hC hT dX8_shared_19 (by decide) (by decide)
    · have hk_r4 : z_is b0 S r4 0 := (tk_X5_actAt hT hk_r2 hq_q3) _ ho_r4
      try rw [ho_r4]
      try rw [ho_r4] at hl
      refine z_ifnonnull (tgt := 20) hC dX8_shared_15 (by decide) ?_
      refine z_aload_n hC dX8_shared_20 rfl (lv_at hl 0 rfl) ?_
      refine z_getI hC zc_5 7 (by decide) kw_87 dX8_shared_21 hk_r2 rfl ?_
      refine z_if_eq (tgt := 35) hC dX8_shared_24 (by decide) hz (fun hz => ?_) (fun hz => ?_)
      · skip
        refine z_bipush (v := (-3)) hC dX8_shared_35 (by decide) ?_
        obtain rfl := Option.some.inj hz
        exact z_iret hC hT dX8_shared_37 (by decide) (by decide)
      · skip
        refine z_aload_n hC dX8_shared_27 rfl (lv_at hl 0 rfl) ?_
        refine z_iload_n hC dX8_shared_28 rfl (lv_at hl 3 rfl) ?_
        obtain ⟨q5, hq_q5, hz⟩ := ob_some hz
        refine z_callV (As := [.int (x2)]) hC hT (c_X5_countSources F r2 x2 hk_r2 hq_q5) zy_X5_countSources zc_5 zv_X5_countSources kw_642 dX8_shared_29 hk_r2 rfl rfl hl.1 (Nat.le_of_ble_eq_true rfl) (by decide) (by decide) ?_
        refine z_goto (tgt := 37) hC dX8_shared_32 (by decide) ?_
        obtain rfl := Option.some.inj hz
        exact z_iret hC hT dX8_shared_37 (by decide) (by decide)
theorem zy_X8_maximum : z_y yX8_maximum cX8_maximum 4 (some .int) 2 := ⟨kw_646, kw_1, by decide +kernel, by decide +kernel, by decide +kernel⟩
theorem zv_X8_maximum : Cond.instanceMethod yX8_maximum ∈ z_tbl ∧ Cond.selects RX8 yX8_maximum yX8_maximum ∈ z_tbl := ⟨kw_644, kw_645⟩
def z_X8_maximum (F : Nat) (S : zS) (I : zI) (x0 : Nat) (x1 : Int32) (x2 : Int32) : Option (Int32) :=
  ob (z_X8_methodAt F S I x0 x1) (fun q1 => ob2 (q1) (some ((-1))) (fun r2 => if x2 < 0 then (some ((-1))) else (if 1 < x2 then (some ((-1))) else (if (I r2 7) = 0 then (some ((-3))) else (if x2 = 0 then (some (I r2 8)) else (some (I r2 9)))))))
set_option maxRecDepth 100000 in
set_option maxHeartbeats 4000000 in
theorem c_X8_maximum {l : Launch} {D : zD} {b0 : Nat} {S : zS} {I : zI} {X : Int32} (F : Nat) (x0 : Nat) (x1 : Int32) (x2 : Int32) (h_x0 : z_is b0 S x0 8) (hz : z_X8_maximum F S I x0 x1 x2 = some X) : z_M l D b0 yX8_maximum cX8_maximum 4 (some .int) { frames := 1, cells := 0, slots := 0, locals := 21 } [.ref (x0), .int (x1), .int (x2)] S I (some (.int (X))) S I := by
  refine z_met (by decide) (Nat.le_of_ble_eq_true rfl) ?_
  intro p e s m below meth c hC hnm hT ls hl
  have hl : lv_has ls 4 [(0, .ref (x0)), (1, .int (x1)), (2, .int (x2))] := hl
  unfold z_X8_maximum at hz
  refine z_aload_n hC dX8_maximum_0 rfl (lv_at hl 0 rfl) ?_
  refine z_iload_n hC dX8_maximum_1 rfl (lv_at hl 1 rfl) ?_
  obtain ⟨q1, hq_q1, hz⟩ := ob_some hz
  refine z_callV (As := [.int (x1)]) hC hT (c_X8_methodAt F x0 x1 h_x0 hq_q1) zy_X8_methodAt zc_8 zv_X8_methodAt kw_229 dX8_maximum_2 h_x0 rfl rfl hl.1 (Nat.le_of_ble_eq_true rfl) (by decide) (by decide) ?_
  rcases ob2_some hz with ⟨ho_r2, hz⟩ | ⟨r2, ho_r2, hz⟩
  · try rw [ho_r2]
    try rw [ho_r2] at hl
    refine z_astore_nN (lv' := [(3, .null), (0, .ref (x0)), (1, .int (x1)), (2, .int (x2))]) hC dX8_maximum_5 rfl hl (by decide) rfl (fun ls hl => ?_)
    refine z_aload_nN hC dX8_maximum_6 rfl (lv_at hl 0 rfl) ?_
    refine z_ifnullN (tgt := 19) hC dX8_maximum_7 (by decide) ?_
    refine z_iconst (v := (-1)) hC dX8_maximum_19 (by decide) ?_
    obtain rfl := Option.some.inj hz
    exact z_iret hC hT dX8_maximum_20 (by decide) (by decide)
  · have hk_r2 : z_is b0 S r2 5 := (tk_X8_methodAt hT h_x0 hq_q1) _ ho_r2
    try rw [ho_r2]
    try rw [ho_r2] at hl
    refine z_astore_n (lv' := [(3, .ref (r2)), (0, .ref (x0)), (1, .int (x1)), (2, .int (x2))]) hC dX8_maximum_5 rfl hl (by decide) rfl (fun ls hl => ?_)
    refine z_aload_n hC dX8_maximum_6 rfl (lv_at hl 0 rfl) ?_
    refine z_ifnull hC dX8_maximum_7 ?_
    refine z_iload_n hC dX8_maximum_10 rfl (lv_at hl 3 rfl) ?_
    refine z_if_lt (tgt := 19) hC dX8_maximum_11 (by decide) hz (fun hz => ?_) (fun hz => ?_)
    · skip
      refine z_iconst (v := (-1)) hC dX8_maximum_19 (by decide) ?_
      obtain rfl := Option.some.inj hz
      exact z_iret hC hT dX8_maximum_20 (by decide) (by decide)
    · skip
      refine z_iload_n hC dX8_maximum_14 rfl (lv_at hl 3 rfl) ?_
      refine z_iconst (v := 1) hC dX8_maximum_15 (by decide) ?_
      refine z_icmp_le (tgt := 21) hC dX8_maximum_16 (by decide) hz (fun hz => ?_) (fun hz => ?_)
      · skip
        refine z_aload_n hC dX8_maximum_21 rfl (lv_at hl 0 rfl) ?_
        refine z_getI hC zc_5 7 (by decide) kw_87 dX8_maximum_22 hk_r2 rfl ?_
        refine z_if_ne (tgt := 31) hC dX8_maximum_25 (by decide) hz (fun hz => ?_) (fun hz => ?_)
        · skip
          refine z_iload_n hC dX8_maximum_31 rfl (lv_at hl 3 rfl) ?_
          refine z_if_ne (tgt := 42) hC dX8_maximum_32 (by decide) hz (fun hz => ?_) (fun hz => ?_)
          · skip
            refine z_aload_n hC dX8_maximum_42 rfl (lv_at hl 0 rfl) ?_
            refine z_getI hC zc_5 9 (by decide) kw_91 dX8_maximum_43 hk_r2 rfl ?_
            obtain rfl := Option.some.inj hz
            exact z_iret hC hT dX8_maximum_46 (by decide) (by decide)
          · skip
            refine z_aload_n hC dX8_maximum_35 rfl (lv_at hl 0 rfl) ?_
            refine z_getI hC zc_5 8 (by decide) kw_89 dX8_maximum_36 hk_r2 rfl ?_
            refine z_goto (tgt := 46) hC dX8_maximum_39 (by decide) ?_
            obtain rfl := Option.some.inj hz
            exact z_iret hC hT dX8_maximum_46 (by decide) (by decide)
        · skip
          refine z_bipush (v := (-3)) hC dX8_maximum_28 (by decide) ?_
          obtain rfl := Option.some.inj hz
          exact z_iret hC hT dX8_maximum_30 (by decide) (by decide)
      · skip
        refine z_iconst (v := (-1)) hC dX8_maximum_19 (by decide) ?_
        obtain rfl := Option.some.inj hz
        exact z_iret hC hT dX8_maximum_20 (by decide) (by decide)
theorem zy_X8_plantPlace : z_y yX8_plantPlace cX8_plantPlace 5 (some .int) 4 := ⟨kw_653, kw_1, by decide +kernel, by decide +kernel, by decide +kernel⟩
def z_X8_plantPlace (F : Nat) (S : zS) (I : zI) (x0 : Nat) (x1 : Nat) (x2 : Int32) (x3 : Int32) : Option (Int32 × zI) :=
  ob (z_X6_inPlace F S I x1 x2) (fun q1 => if x2 < (I x0 5) then (if q1 = 2 then (some ((-1), I)) else (if q1 = 3 then (some ((-1), I)) else (ob (z_X6_setPlace F S I x1 x2 x3) (fun q2 => some (q1, q2))))) else (some ((-1), I)))
set_option maxRecDepth 100000 in
set_option maxHeartbeats 4000000 in
theorem c_X8_plantPlace {l : Launch} {D : zD} {b0 : Nat} {S : zS} {I : zI} {X : Int32 × zI} (F : Nat) (x0 : Nat) (x1 : Nat) (x2 : Int32) (x3 : Int32) (h_x0 : z_is b0 S x0 5) (h_x1 : z_is b0 S x1 6) (hz : z_X8_plantPlace F S I x0 x1 x2 x3 = some X) : z_M l D b0 yX8_plantPlace cX8_plantPlace 5 (some .int) { frames := 1, cells := 0, slots := 0, locals := 22 } [.ref (x0), .ref (x1), .int (x2), .int (x3)] S I (some (.int (X.1))) S X.2 := by
  refine z_met (by decide) (Nat.le_of_ble_eq_true rfl) ?_
  intro p e s m below meth c hC hnm hT ls hl
  have hl : lv_has ls 5 [(0, .ref (x0)), (1, .ref (x1)), (2, .int (x2)), (3, .int (x3))] := hl
  unfold z_X8_plantPlace at hz
  refine z_aload_n hC dX8_plantPlace_0 rfl (lv_at hl 1 rfl) ?_
  refine z_iload_n hC dX8_plantPlace_1 rfl (lv_at hl 2 rfl) ?_
  obtain ⟨q1, hq_q1, hz⟩ := ob_some hz
  refine z_callV (As := [.int (x2)]) hC hT (c_X6_inPlace F x1 x2 h_x1 hq_q1) zy_X6_inPlace zc_6 zv_X6_inPlace kw_654 dX8_plantPlace_2 h_x1 rfl rfl hl.1 (Nat.le_of_ble_eq_true rfl) (by decide) (by decide) ?_
  refine z_istore (lv' := [(4, .int (q1)), (0, .ref (x0)), (1, .ref (x1)), (2, .int (x2)), (3, .int (x3))]) hC dX8_plantPlace_5 hl (by decide) rfl (fun ls hl => ?_)
  refine z_iload_n hC dX8_plantPlace_7 rfl (lv_at hl 3 rfl) ?_
  refine z_aload_n hC dX8_plantPlace_8 rfl (lv_at hl 1 rfl) ?_
  refine z_getI hC zc_5 5 (by decide) kw_83 dX8_plantPlace_9 h_x0 rfl ?_
  refine z_icmp_ge (tgt := 27) hC dX8_plantPlace_12 (by decide) hz (fun hz => ?_) (fun hz => ?_)
  · skip
    refine z_iconst (v := (-1)) hC dX8_plantPlace_27 (by decide) ?_
    obtain rfl := Option.some.inj hz
    exact z_iret hC hT dX8_plantPlace_28 (by decide) (by decide)
  · skip
    refine z_iload hC dX8_plantPlace_15 (lv_at hl 0 rfl) ?_
    refine z_iconst (v := 2) hC dX8_plantPlace_17 (by decide) ?_
    refine z_icmp_eq (tgt := 27) hC dX8_plantPlace_18 (by decide) hz (fun hz => ?_) (fun hz => ?_)
    · skip
      refine z_iconst (v := (-1)) hC dX8_plantPlace_27 (by decide) ?_
      obtain rfl := Option.some.inj hz
      exact z_iret hC hT dX8_plantPlace_28 (by decide) (by decide)
    · skip
      refine z_iload hC dX8_plantPlace_21 (lv_at hl 0 rfl) ?_
      refine z_iconst (v := 3) hC dX8_plantPlace_23 (by decide) ?_
      refine z_icmp_ne (tgt := 29) hC dX8_plantPlace_24 (by decide) hz (fun hz => ?_) (fun hz => ?_)
      · skip
        refine z_aload_n hC dX8_plantPlace_29 rfl (lv_at hl 2 rfl) ?_
        refine z_iload_n hC dX8_plantPlace_30 rfl (lv_at hl 3 rfl) ?_
        refine z_iload_n hC dX8_plantPlace_31 rfl (lv_at hl 4 rfl) ?_
        obtain ⟨q2, hq_q2, hz⟩ := ob_some hz
        refine z_callV (As := [.int (x2), .int (x3)]) hC hT (c_X6_setPlace F x1 x2 x3 h_x1 hq_q2) zy_X6_setPlace zc_6 zv_X6_setPlace kw_655 dX8_plantPlace_32 h_x1 rfl rfl hl.1 (Nat.le_of_ble_eq_true rfl) (by decide) (by decide) ?_
        refine z_iload hC dX8_plantPlace_35 (lv_at hl 0 rfl) ?_
        obtain rfl := Option.some.inj hz
        exact z_iret hC hT dX8_plantPlace_37 (by decide) (by decide)
      · skip
        refine z_iconst (v := (-1)) hC dX8_plantPlace_27 (by decide) ?_
        obtain rfl := Option.some.inj hz
        exact z_iret hC hT dX8_plantPlace_28 (by decide) (by decide)
theorem zy_X8_plantStack : z_y yX8_plantStack cX8_plantStack 4 (some .int) 3 := ⟨kw_658, kw_1, by decide +kernel, by decide +kernel, by decide +kernel⟩
def z_X8_plantStack (F : Nat) (S : zS) (I : zI) (x0 : Nat) (x1 : Int32) (x2 : Int32) : Option (Int32 × zI) :=
  ob (z_X6_onStack F S I x0 x1) (fun q1 => if q1 = (-1) then (some ((-1), I)) else (if q1 = 2 then (some ((-1), I)) else (if x2 = 0 then (some ((-1), I)) else (ob (z_X6_setStack F S I x0 x1 x2) (fun q2 => some (q1, q2))))))
set_option maxRecDepth 100000 in
set_option maxHeartbeats 4000000 in
theorem c_X8_plantStack {l : Launch} {D : zD} {b0 : Nat} {S : zS} {I : zI} {X : Int32 × zI} (F : Nat) (x0 : Nat) (x1 : Int32) (x2 : Int32) (h_x0 : z_is b0 S x0 6) (hz : z_X8_plantStack F S I x0 x1 x2 = some X) : z_M l D b0 yX8_plantStack cX8_plantStack 4 (some .int) { frames := 1, cells := 0, slots := 0, locals := 22 } [.ref (x0), .int (x1), .int (x2)] S I (some (.int (X.1))) S X.2 := by
  refine z_met (by decide) (Nat.le_of_ble_eq_true rfl) ?_
  intro p e s m below meth c hC hnm hT ls hl
  have hl : lv_has ls 4 [(0, .ref (x0)), (1, .int (x1)), (2, .int (x2))] := hl
  unfold z_X8_plantStack at hz
  refine z_aload_n hC dX8_plantStack_0 rfl (lv_at hl 0 rfl) ?_
  refine z_iload_n hC dX8_plantStack_1 rfl (lv_at hl 1 rfl) ?_
  obtain ⟨q1, hq_q1, hz⟩ := ob_some hz
  refine z_callV (As := [.int (x1)]) hC hT (c_X6_onStack F x0 x1 h_x0 hq_q1) zy_X6_onStack zc_6 zv_X6_onStack kw_659 dX8_plantStack_2 h_x0 rfl rfl hl.1 (Nat.le_of_ble_eq_true rfl) (by decide) (by decide) ?_
  refine z_istore_n (lv' := [(3, .int (q1)), (0, .ref (x0)), (1, .int (x1)), (2, .int (x2))]) hC dX8_plantStack_5 rfl hl (by decide) rfl (fun ls hl => ?_)
  refine z_iload_n hC dX8_plantStack_6 rfl (lv_at hl 0 rfl) ?_
  refine z_iconst (v := (-1)) hC dX8_plantStack_7 (by decide) ?_
  refine z_icmp_eq (tgt := 20) hC dX8_plantStack_8 (by decide) hz (fun hz => ?_) (fun hz => ?_)
  · skip
    refine z_iconst (v := (-1)) hC dX8_plantStack_20 (by decide) ?_
    obtain rfl := Option.some.inj hz
    exact z_iret hC hT dX8_plantStack_21 (by decide) (by decide)
  · skip
    refine z_iload_n hC dX8_plantStack_11 rfl (lv_at hl 0 rfl) ?_
    refine z_iconst (v := 2) hC dX8_plantStack_12 (by decide) ?_
    refine z_icmp_eq (tgt := 20) hC dX8_plantStack_13 (by decide) hz (fun hz => ?_) (fun hz => ?_)
    · skip
      refine z_iconst (v := (-1)) hC dX8_plantStack_20 (by decide) ?_
      obtain rfl := Option.some.inj hz
      exact z_iret hC hT dX8_plantStack_21 (by decide) (by decide)
    · skip
      refine z_iload_n hC dX8_plantStack_16 rfl (lv_at hl 3 rfl) ?_
      refine z_if_ne (tgt := 22) hC dX8_plantStack_17 (by decide) hz (fun hz => ?_) (fun hz => ?_)
      · skip
        refine z_aload_n hC dX8_plantStack_22 rfl (lv_at hl 1 rfl) ?_
        refine z_iload_n hC dX8_plantStack_23 rfl (lv_at hl 2 rfl) ?_
        refine z_iload_n hC dX8_plantStack_24 rfl (lv_at hl 3 rfl) ?_
        obtain ⟨q2, hq_q2, hz⟩ := ob_some hz
        refine z_callV (As := [.int (x1), .int (x2)]) hC hT (c_X6_setStack F x0 x1 x2 h_x0 hq_q2) zy_X6_setStack zc_6 zv_X6_setStack kw_660 dX8_plantStack_25 h_x0 rfl rfl hl.1 (Nat.le_of_ble_eq_true rfl) (by decide) (by decide) ?_
        refine z_iload_n hC dX8_plantStack_28 rfl (lv_at hl 0 rfl) ?_
        obtain rfl := Option.some.inj hz
        exact z_iret hC hT dX8_plantStack_29 (by decide) (by decide)
      · skip
        refine z_iconst (v := (-1)) hC dX8_plantStack_20 (by decide) ?_
        obtain rfl := Option.some.inj hz
        exact z_iret hC hT dX8_plantStack_21 (by decide) (by decide)
theorem zy_X8_plant : z_y yX8_plant cX8_plant 8 (some .int) 4 := ⟨kw_650, kw_1, by decide +kernel, by decide +kernel, by decide +kernel⟩
theorem zv_X8_plant : Cond.instanceMethod yX8_plant ∈ z_tbl ∧ Cond.selects RX8 yX8_plant yX8_plant ∈ z_tbl := ⟨kw_648, kw_649⟩
def z_X8_plant_69 (F : Nat) (S : zS)  (x2 : Int32) (x3 : Int32) (x4 : Int32) (x5 : Nat) (I : zI) : Option (Int32 × zI) :=
  if (I x5 7) = 0 then (some ((-3), I)) else (ob (z_X5_actOfFrame F S I x5 x2) (fun q1 => ob (z_X5_actAt F S I x5 q1) (fun q2 => ob2 (q2) (some ((-1), I)) (fun r3 => ob (z_X8_isPlace F S I x3) (fun q4 => if q4 = 0 then (ob (S.1 r3 7) (fun r5 => ob (z_X8_plantStack F S I r5 (x3 - 100) x4) (fun q6 => some (q6.1, q6.2)))) else (ob (S.1 r3 7) (fun r7 => ob (z_X8_plantPlace F S I x5 r7 x3 x4) (fun q8 => some (q8.1, q8.2)))))))))
def z_X8_plant_41 (F : Nat) (S : zS)  (x2 : Int32) (x3 : Int32) (x4 : Int32) (x5 : Option Nat) (y0 : Int32) (I : zI) : Option (Int32 × zI) :=
  ob2 (x5) (some ((-1), I)) (fun r1 => if y0 = 0 then (some ((-1), I)) else (ob (z_X8_isPlace F S I x3) (fun q2 => if q2 = 0 then (ob (z_X8_isOnStack F S I x3) (fun q3 => if q3 = 0 then (some ((-1), I)) else (z_X8_plant_69 F S  (x2) (x3) (x4) (r1) (I)))) else (z_X8_plant_69 F S  (x2) (x3) (x4) (r1) (I)))))
def z_X8_plant (F : Nat) (S : zS) (I : zI) (x0 : Nat) (x1 : Int32) (x2 : Int32) (x3 : Int32) (x4 : Int32) : Option (Int32 × zI) :=
  ob (z_X8_methodAt F S I x0 x1) (fun q1 => ob2 (q1) (if x4 = 0 then (z_X8_plant_41 F S  (x2) (x3) (x4) none (1) (I)) else (if x4 = 1 then (z_X8_plant_41 F S  (x2) (x3) (x4) none (1) (I)) else (if x4 = 4 then (z_X8_plant_41 F S  (x2) (x3) (x4) none (1) (I)) else (ob (S.1 x0 0) (fun r3 => ob (z_X1_isKnownObject F S I r3 x4) (fun q4 => if q4 = 0 then (z_X8_plant_41 F S  (x2) (x3) (x4) none (0) (I)) else (z_X8_plant_41 F S  (x2) (x3) (x4) none (1) (I)))))))) (fun r2 => if x4 = 0 then (z_X8_plant_41 F S  (x2) (x3) (x4) (some (r2)) (1) (I)) else (if x4 = 1 then (z_X8_plant_41 F S  (x2) (x3) (x4) (some (r2)) (1) (I)) else (if x4 = 4 then (z_X8_plant_41 F S  (x2) (x3) (x4) (some (r2)) (1) (I)) else (ob (S.1 x0 0) (fun r5 => ob (z_X1_isKnownObject F S I r5 x4) (fun q6 => if q6 = 0 then (z_X8_plant_41 F S  (x2) (x3) (x4) (some (r2)) (0) (I)) else (z_X8_plant_41 F S  (x2) (x3) (x4) (some (r2)) (1) (I)))))))))
set_option maxRecDepth 100000 in
set_option maxHeartbeats 4000000 in
theorem b_X8_plant_69 {p : Program} {l : Launch} {e : Env} {s : State} {m : MethodId} {args : Array Value} {below : List Frame} {meth : Method} {c : Code} {D : zD} {b0 : Nat} {F : Nat} {S : zS} {X : Int32 × zI} (hC : z_C p s m args meth c cX8_plant RX8 8 (some .int) D) (hT : z_T b0 S)   (x2 : Int32) (x3 : Int32) (x4 : Int32) (x5 : Nat) (I : zI) (h_x5 : z_is b0 S x5 5) (hz : z_X8_plant_69 F S  x2 x3 x4 x5 I = some X) (ls : Array Slot) (hl : lv_has ls 8 [(2, .int (x2)), (3, .int (x3)), (4, .int (x4)), (5, .ref (x5))]) : z_W p l e { frames := 2, cells := 0, slots := 0, locals := 46 } s m args below meth c D b0 S I 0 0 (MQ below (z_Q D b0 (some (.int (X.1))) S X.2) args s 0 0 (fun q => b0 ≤ q)) (F0 m 69 ls []) := by
  unfold z_X8_plant_69 at hz
  refine z_aload hC dX8_plant_69 (lv_at hl 3 rfl) ?_
  refine z_getI hC zc_5 7 (by decide) kw_87 dX8_plant_71 h_x5 rfl ?_
  refine z_if_ne (tgt := 80) hC dX8_plant_74 (by decide) hz (fun hz => ?_) (fun hz => ?_)
  · skip
    refine z_aload hC dX8_plant_80 (lv_at hl 3 rfl) ?_
    refine z_aload hC dX8_plant_82 (lv_at hl 3 rfl) ?_
    refine z_iload_n hC dX8_plant_84 rfl (lv_at hl 0 rfl) ?_
    obtain ⟨q1, hq_q1, hz⟩ := ob_some hz
    refine z_callV (As := [.int (x2)]) hC hT (c_X5_actOfFrame F x5 x2 h_x5 hq_q1) zy_X5_actOfFrame zc_5 zv_X5_actOfFrame kw_611 dX8_plant_85 h_x5 rfl rfl hl.1 (Nat.le_of_ble_eq_true rfl) (by decide) (by decide) ?_
    obtain ⟨q2, hq_q2, hz⟩ := ob_some hz
    refine z_callV (As := [.int (q1)]) hC hT (c_X5_actAt F x5 q1 h_x5 hq_q2) zy_X5_actAt zc_5 zv_X5_actAt kw_597 dX8_plant_88 h_x5 rfl rfl hl.1 (Nat.le_of_ble_eq_true rfl) (by decide) (by decide) ?_
    rcases ob2_some hz with ⟨ho_r3, hz⟩ | ⟨r3, ho_r3, hz⟩
    · try rw [ho_r3]
      try rw [ho_r3] at hl
      refine z_astoreN (lv' := [(7, .null), (2, .int (x2)), (3, .int (x3)), (4, .int (x4)), (5, .ref (x5))]) hC dX8_plant_91 hl (by decide) rfl (fun ls hl => ?_)
      refine z_aloadN hC dX8_plant_93 (lv_at hl 0 rfl) ?_
      refine z_ifnonnullN hC dX8_plant_95 ?_
      refine z_iconst (v := (-1)) hC dX8_plant_98 (by decide) ?_
      obtain rfl := Option.some.inj hz
      exact z_iret hC hT dX8_plant_99 (by decide) (by decide)
    · have hk_r3 : z_is b0 S r3 0 := (tk_X5_actAt hT h_x5 hq_q2) _ ho_r3
      try rw [ho_r3]
      try rw [ho_r3] at hl
      refine z_astore (lv' := [(7, .ref (r3)), (2, .int (x2)), (3, .int (x3)), (4, .int (x4)), (5, .ref (x5))]) hC dX8_plant_91 hl (by decide) rfl (fun ls hl => ?_)
      refine z_aload hC dX8_plant_93 (lv_at hl 0 rfl) ?_
      refine z_ifnonnull (tgt := 100) hC dX8_plant_95 (by decide) ?_
      refine z_iload_n hC dX8_plant_100 rfl (lv_at hl 2 rfl) ?_
      obtain ⟨q4, hq_q4, hz⟩ := ob_some hz
      refine z_callS (As := [.int (x3)]) hC hT (c_X8_isPlace F x3  hq_q4) zy_X8_isPlace kw_278 kw_277 dX8_plant_101 rfl rfl hl.1 (Nat.le_of_ble_eq_true rfl) (by decide) (by decide) ?_
      refine z_if_eq (tgt := 123) hC dX8_plant_104 (by decide) hz (fun hz => ?_) (fun hz => ?_)
      · skip
        refine z_aload hC dX8_plant_123 (lv_at hl 0 rfl) ?_
        obtain ⟨r5, hr_r5, hz⟩ := ob_some hz
        have hk_r5 : z_is b0 S r5 6 := hT.at hk_r3 hr_r5
        refine z_getR hC zc_0 7 (by decide) kw_317 dX8_plant_125 hk_r3 rfl hr_r5 ?_
        refine z_iload_n hC dX8_plant_128 rfl (lv_at hl 2 rfl) ?_
        refine z_bipush (v := 100) hC dX8_plant_129 (by decide) ?_
        refine z_isub hC dX8_plant_131 ?_
        refine z_iload hC dX8_plant_132 (lv_at hl 3 rfl) ?_
        obtain ⟨q6, hq_q6, hz⟩ := ob_some hz
        refine z_callS (As := [.ref (r5), .int (x3 - 100), .int (x4)]) hC hT (c_X8_plantStack F r5 (x3 - 100) x4 hk_r5 hq_q6) zy_X8_plantStack kw_657 kw_656 dX8_plant_134 rfl rfl hl.1 (Nat.le_of_ble_eq_true rfl) (by decide) (by decide) ?_
        obtain rfl := Option.some.inj hz
        exact z_iret hC hT dX8_plant_137 (by decide) (by decide)
      · skip
        refine z_aload hC dX8_plant_107 (lv_at hl 4 rfl) ?_
        refine z_aload hC dX8_plant_109 (lv_at hl 0 rfl) ?_
        obtain ⟨r7, hr_r7, hz⟩ := ob_some hz
        have hk_r7 : z_is b0 S r7 6 := hT.at hk_r3 hr_r7
        refine z_getR hC zc_0 7 (by decide) kw_317 dX8_plant_111 hk_r3 rfl hr_r7 ?_
        refine z_iload_n hC dX8_plant_114 rfl (lv_at hl 2 rfl) ?_
        refine z_iload hC dX8_plant_115 (lv_at hl 3 rfl) ?_
        obtain ⟨q8, hq_q8, hz⟩ := ob_some hz
        refine z_callS (As := [.ref (x5), .ref (r7), .int (x3), .int (x4)]) hC hT (c_X8_plantPlace F x5 r7 x3 x4 h_x5 hk_r7 hq_q8) zy_X8_plantPlace kw_652 kw_651 dX8_plant_117 rfl rfl hl.1 (Nat.le_of_ble_eq_true rfl) (by decide) (by decide) ?_
        refine z_goto (tgt := 137) hC dX8_plant_120 (by decide) ?_
        obtain rfl := Option.some.inj hz
        exact z_iret hC hT dX8_plant_137 (by decide) (by decide)
  · skip
    refine z_bipush (v := (-3)) hC dX8_plant_77 (by decide) ?_
    obtain rfl := Option.some.inj hz
    exact z_iret hC hT dX8_plant_79 (by decide) (by decide)
set_option maxRecDepth 100000 in
set_option maxHeartbeats 4000000 in
theorem b_X8_plant_41 {p : Program} {l : Launch} {e : Env} {s : State} {m : MethodId} {args : Array Value} {below : List Frame} {meth : Method} {c : Code} {D : zD} {b0 : Nat} {F : Nat} {S : zS} {X : Int32 × zI} (hC : z_C p s m args meth c cX8_plant RX8 8 (some .int) D) (hT : z_T b0 S)   (x2 : Int32) (x3 : Int32) (x4 : Int32) (x5 : Option Nat) (y0 : Int32) (I : zI) (h_x5 : ∀ r, x5 = some r → z_is b0 S r 5) (hz : z_X8_plant_41 F S  x2 x3 x4 x5 y0 I = some X) (ls : Array Slot) (hl : lv_has ls 8 [(2, .int (x2)), (3, .int (x3)), (4, .int (x4)), (5, va_rf (x5))]) : z_W p l e { frames := 2, cells := 0, slots := 0, locals := 46 } s m args below meth c D b0 S I 0 0 (MQ below (z_Q D b0 (some (.int (X.1))) S X.2) args s 0 0 (fun q => b0 ≤ q)) (F0 m 41 ls [.int (y0)]) := by
  unfold z_X8_plant_41 at hz
  rcases ob2_some hz with ⟨ho_r1, hz⟩ | ⟨r1, ho_r1, hz⟩
  · try rw [ho_r1]
    try rw [ho_r1] at hl
    refine z_istore (lv' := [(6, .int (y0)), (2, .int (x2)), (3, .int (x3)), (4, .int (x4)), (5, .null)]) hC dX8_plant_41 hl (by decide) rfl (fun ls hl => ?_)
    refine z_aloadN hC dX8_plant_43 (lv_at hl 4 rfl) ?_
    refine z_ifnullN (tgt := 67) hC dX8_plant_45 (by decide) ?_
    refine z_iconst (v := (-1)) hC dX8_plant_67 (by decide) ?_
    obtain rfl := Option.some.inj hz
    exact z_iret hC hT dX8_plant_68 (by decide) (by decide)
  · have hk_r1 : z_is b0 S r1 5 := h_x5 _ ho_r1
    try rw [ho_r1]
    try rw [ho_r1] at hl
    refine z_istore (lv' := [(6, .int (y0)), (2, .int (x2)), (3, .int (x3)), (4, .int (x4)), (5, .ref (r1))]) hC dX8_plant_41 hl (by decide) rfl (fun ls hl => ?_)
    refine z_aload hC dX8_plant_43 (lv_at hl 4 rfl) ?_
    refine z_ifnull hC dX8_plant_45 ?_
    refine z_iload hC dX8_plant_48 (lv_at hl 0 rfl) ?_
    refine z_if_eq (tgt := 67) hC dX8_plant_50 (by decide) hz (fun hz => ?_) (fun hz => ?_)
    · skip
      refine z_iconst (v := (-1)) hC dX8_plant_67 (by decide) ?_
      obtain rfl := Option.some.inj hz
      exact z_iret hC hT dX8_plant_68 (by decide) (by decide)
    · skip
      refine z_iload_n hC dX8_plant_53 rfl (lv_at hl 2 rfl) ?_
      obtain ⟨q2, hq_q2, hz⟩ := ob_some hz
      refine z_callS (As := [.int (x3)]) hC hT (c_X8_isPlace F x3  hq_q2) zy_X8_isPlace kw_278 kw_277 dX8_plant_54 rfl rfl hl.1 (Nat.le_of_ble_eq_true rfl) (by decide) (by decide) ?_
      refine z_if_ne (tgt := 69) hC dX8_plant_57 (by decide) hz (fun hz => ?_) (fun hz => ?_)
      · skip
        exact b_X8_plant_69 hC hT   (x2) (x3) (x4) (r1) (I) hk_r1 hz ls (lv_sub hl [1, 2, 3, 4] rfl)
      · skip
        refine z_iload_n hC dX8_plant_60 rfl (lv_at hl 2 rfl) ?_
        obtain ⟨q3, hq_q3, hz⟩ := ob_some hz
        refine z_callS (As := [.int (x3)]) hC hT (c_X8_isOnStack F x3  hq_q3) zy_X8_isOnStack kw_599 kw_598 dX8_plant_61 rfl rfl hl.1 (Nat.le_of_ble_eq_true rfl) (by decide) (by decide) ?_
        refine z_if_ne (tgt := 69) hC dX8_plant_64 (by decide) hz (fun hz => ?_) (fun hz => ?_)
        · skip
          exact b_X8_plant_69 hC hT   (x2) (x3) (x4) (r1) (I) hk_r1 hz ls (lv_sub hl [1, 2, 3, 4] rfl)
        · skip
          refine z_iconst (v := (-1)) hC dX8_plant_67 (by decide) ?_
          obtain rfl := Option.some.inj hz
          exact z_iret hC hT dX8_plant_68 (by decide) (by decide)
set_option maxRecDepth 100000 in
set_option maxHeartbeats 4000000 in
theorem c_X8_plant {l : Launch} {D : zD} {b0 : Nat} {S : zS} {I : zI} {X : Int32 × zI} (F : Nat) (x0 : Nat) (x1 : Int32) (x2 : Int32) (x3 : Int32) (x4 : Int32) (h_x0 : z_is b0 S x0 8) (hz : z_X8_plant F S I x0 x1 x2 x3 x4 = some X) : z_M l D b0 yX8_plant cX8_plant 8 (some .int) { frames := 2, cells := 0, slots := 0, locals := 46 } [.ref (x0), .int (x1), .int (x2), .int (x3), .int (x4)] S I (some (.int (X.1))) S X.2 := by
  refine z_met (by decide) (Nat.le_of_ble_eq_true rfl) ?_
  intro p e s m below meth c hC hnm hT ls hl
  have hl : lv_has ls 8 [(0, .ref (x0)), (1, .int (x1)), (2, .int (x2)), (3, .int (x3)), (4, .int (x4))] := hl
  unfold z_X8_plant at hz
  refine z_aload_n hC dX8_plant_0 rfl (lv_at hl 0 rfl) ?_
  refine z_iload_n hC dX8_plant_1 rfl (lv_at hl 1 rfl) ?_
  obtain ⟨q1, hq_q1, hz⟩ := ob_some hz
  refine z_callV (As := [.int (x1)]) hC hT (c_X8_methodAt F x0 x1 h_x0 hq_q1) zy_X8_methodAt zc_8 zv_X8_methodAt kw_229 dX8_plant_2 h_x0 rfl rfl hl.1 (Nat.le_of_ble_eq_true rfl) (by decide) (by decide) ?_
  rcases ob2_some hz with ⟨ho_r2, hz⟩ | ⟨r2, ho_r2, hz⟩
  · try rw [ho_r2]
    try rw [ho_r2] at hl
    refine z_astoreN (lv' := [(5, .null), (0, .ref (x0)), (1, .int (x1)), (2, .int (x2)), (3, .int (x3)), (4, .int (x4))]) hC dX8_plant_5 hl (by decide) rfl (fun ls hl => ?_)
    refine z_iload hC dX8_plant_7 (lv_at hl 5 rfl) ?_
    refine z_if_eq (tgt := 36) hC dX8_plant_9 (by decide) hz (fun hz => ?_) (fun hz => ?_)
    · skip
      refine z_iconst (v := 1) hC dX8_plant_36 (by decide) ?_
      refine z_goto (tgt := 41) hC dX8_plant_37 (by decide) ?_
      exact b_X8_plant_41 hC hT   (x2) (x3) (x4) none (1) (I) (fun _ h9 => by cases h9) hz ls (lv_sub hl [3, 4, 5, 0] rfl)
    · skip
      refine z_iload hC dX8_plant_12 (lv_at hl 5 rfl) ?_
      refine z_iconst (v := 1) hC dX8_plant_14 (by decide) ?_
      refine z_icmp_eq (tgt := 36) hC dX8_plant_15 (by decide) hz (fun hz => ?_) (fun hz => ?_)
      · skip
        refine z_iconst (v := 1) hC dX8_plant_36 (by decide) ?_
        refine z_goto (tgt := 41) hC dX8_plant_37 (by decide) ?_
        exact b_X8_plant_41 hC hT   (x2) (x3) (x4) none (1) (I) (fun _ h9 => by cases h9) hz ls (lv_sub hl [3, 4, 5, 0] rfl)
      · skip
        refine z_iload hC dX8_plant_18 (lv_at hl 5 rfl) ?_
        refine z_iconst (v := 4) hC dX8_plant_20 (by decide) ?_
        refine z_icmp_eq (tgt := 36) hC dX8_plant_21 (by decide) hz (fun hz => ?_) (fun hz => ?_)
        · skip
          refine z_iconst (v := 1) hC dX8_plant_36 (by decide) ?_
          refine z_goto (tgt := 41) hC dX8_plant_37 (by decide) ?_
          exact b_X8_plant_41 hC hT   (x2) (x3) (x4) none (1) (I) (fun _ h9 => by cases h9) hz ls (lv_sub hl [3, 4, 5, 0] rfl)
        · skip
          refine z_aload_n hC dX8_plant_24 rfl (lv_at hl 1 rfl) ?_
          obtain ⟨r3, hr_r3, hz⟩ := ob_some hz
          have hk_r3 : z_is b0 S r3 1 := hT.at h_x0 hr_r3
          refine z_getR hC zc_8 0 (by decide) kw_176 dX8_plant_25 h_x0 rfl hr_r3 ?_
          refine z_iload hC dX8_plant_28 (lv_at hl 5 rfl) ?_
          obtain ⟨q4, hq_q4, hz⟩ := ob_some hz
          refine z_callV (As := [.int (x4)]) hC hT (c_X1_isKnownObject F r3 x4 hk_r3 hq_q4) zy_X1_isKnownObject zc_1 zv_X1_isKnownObject kw_245 dX8_plant_30 hk_r3 rfl rfl hl.1 (Nat.le_of_ble_eq_true rfl) (by decide) (by decide) ?_
          refine z_if_eq (tgt := 40) hC dX8_plant_33 (by decide) hz (fun hz => ?_) (fun hz => ?_)
          · skip
            refine z_iconst (v := 0) hC dX8_plant_40 (by decide) ?_
            exact b_X8_plant_41 hC hT   (x2) (x3) (x4) none (0) (I) (fun _ h9 => by cases h9) hz ls (lv_sub hl [3, 4, 5, 0] rfl)
          · skip
            refine z_iconst (v := 1) hC dX8_plant_36 (by decide) ?_
            refine z_goto (tgt := 41) hC dX8_plant_37 (by decide) ?_
            exact b_X8_plant_41 hC hT   (x2) (x3) (x4) none (1) (I) (fun _ h9 => by cases h9) hz ls (lv_sub hl [3, 4, 5, 0] rfl)
  · have hk_r2 : z_is b0 S r2 5 := (tk_X8_methodAt hT h_x0 hq_q1) _ ho_r2
    try rw [ho_r2]
    try rw [ho_r2] at hl
    refine z_astore (lv' := [(5, .ref (r2)), (0, .ref (x0)), (1, .int (x1)), (2, .int (x2)), (3, .int (x3)), (4, .int (x4))]) hC dX8_plant_5 hl (by decide) rfl (fun ls hl => ?_)
    refine z_iload hC dX8_plant_7 (lv_at hl 5 rfl) ?_
    refine z_if_eq (tgt := 36) hC dX8_plant_9 (by decide) hz (fun hz => ?_) (fun hz => ?_)
    · skip
      refine z_iconst (v := 1) hC dX8_plant_36 (by decide) ?_
      refine z_goto (tgt := 41) hC dX8_plant_37 (by decide) ?_
      exact b_X8_plant_41 hC hT   (x2) (x3) (x4) (some (r2)) (1) (I) (fun _ h9 => by cases h9; exact hk_r2) hz ls (lv_sub hl [3, 4, 5, 0] rfl)
    · skip
      refine z_iload hC dX8_plant_12 (lv_at hl 5 rfl) ?_
      refine z_iconst (v := 1) hC dX8_plant_14 (by decide) ?_
      refine z_icmp_eq (tgt := 36) hC dX8_plant_15 (by decide) hz (fun hz => ?_) (fun hz => ?_)
      · skip
        refine z_iconst (v := 1) hC dX8_plant_36 (by decide) ?_
        refine z_goto (tgt := 41) hC dX8_plant_37 (by decide) ?_
        exact b_X8_plant_41 hC hT   (x2) (x3) (x4) (some (r2)) (1) (I) (fun _ h9 => by cases h9; exact hk_r2) hz ls (lv_sub hl [3, 4, 5, 0] rfl)
      · skip
        refine z_iload hC dX8_plant_18 (lv_at hl 5 rfl) ?_
        refine z_iconst (v := 4) hC dX8_plant_20 (by decide) ?_
        refine z_icmp_eq (tgt := 36) hC dX8_plant_21 (by decide) hz (fun hz => ?_) (fun hz => ?_)
        · skip
          refine z_iconst (v := 1) hC dX8_plant_36 (by decide) ?_
          refine z_goto (tgt := 41) hC dX8_plant_37 (by decide) ?_
          exact b_X8_plant_41 hC hT   (x2) (x3) (x4) (some (r2)) (1) (I) (fun _ h9 => by cases h9; exact hk_r2) hz ls (lv_sub hl [3, 4, 5, 0] rfl)
        · skip
          refine z_aload_n hC dX8_plant_24 rfl (lv_at hl 1 rfl) ?_
          obtain ⟨r5, hr_r5, hz⟩ := ob_some hz
          have hk_r5 : z_is b0 S r5 1 := hT.at h_x0 hr_r5
          refine z_getR hC zc_8 0 (by decide) kw_176 dX8_plant_25 h_x0 rfl hr_r5 ?_
          refine z_iload hC dX8_plant_28 (lv_at hl 5 rfl) ?_
          obtain ⟨q6, hq_q6, hz⟩ := ob_some hz
          refine z_callV (As := [.int (x4)]) hC hT (c_X1_isKnownObject F r5 x4 hk_r5 hq_q6) zy_X1_isKnownObject zc_1 zv_X1_isKnownObject kw_245 dX8_plant_30 hk_r5 rfl rfl hl.1 (Nat.le_of_ble_eq_true rfl) (by decide) (by decide) ?_
          refine z_if_eq (tgt := 40) hC dX8_plant_33 (by decide) hz (fun hz => ?_) (fun hz => ?_)
          · skip
            refine z_iconst (v := 0) hC dX8_plant_40 (by decide) ?_
            exact b_X8_plant_41 hC hT   (x2) (x3) (x4) (some (r2)) (0) (I) (fun _ h9 => by cases h9; exact hk_r2) hz ls (lv_sub hl [3, 4, 5, 0] rfl)
          · skip
            refine z_iconst (v := 1) hC dX8_plant_36 (by decide) ?_
            refine z_goto (tgt := 41) hC dX8_plant_37 (by decide) ?_
            exact b_X8_plant_41 hC hT   (x2) (x3) (x4) (some (r2)) (1) (I) (fun _ h9 => by cases h9; exact hk_r2) hz ls (lv_sub hl [3, 4, 5, 0] rfl)
theorem zy_X8_verify : z_y yX8_verify cX8_verify 4 (some .int) 1 := ⟨kw_664, kw_1, by decide +kernel, by decide +kernel, by decide +kernel⟩
theorem zv_X8_verify : Cond.instanceMethod yX8_verify ∈ z_tbl ∧ Cond.selects RX8 yX8_verify yX8_verify ∈ z_tbl := ⟨kw_662, kw_663⟩
def z_X8_verify (F : Nat) (S : zS) (I : zI) (x0 : Nat) (x1 : Int32) : Option (Int32 × zI) :=
  ob (z_X8_methodAt F S I x0 x1) (fun q1 => ob2 (q1) (some ((-1), I)) (fun r2 => if (I r2 7) = 0 then (some ((-3), I)) else (ob (S.1 x0 3) (fun r3 => ob (z_X4_run F S I r3 r2) (fun q4 => if (q4.1) = (-1) then (some (0, z_up (q4.2) x0 4 ((q4.2) r3 5))) else (some ((-10) - (q4.1), z_up (q4.2) x0 4 ((q4.2) r3 5))))))))
set_option maxRecDepth 100000 in
set_option maxHeartbeats 4000000 in
theorem c_X8_verify {l : Launch} {D : zD} {b0 : Nat} {S : zS} {I : zI} {X : Int32 × zI} (F : Nat) (x0 : Nat) (x1 : Int32) (h_x0 : z_is b0 S x0 8) (hz : z_X8_verify F S I x0 x1 = some X) : z_M l D b0 yX8_verify cX8_verify 4 (some .int) { frames := 7, cells := 0, slots := 0, locals := 162 } [.ref (x0), .int (x1)] S I (some (.int (X.1))) S X.2 := by
  refine z_met (by decide) (Nat.le_of_ble_eq_true rfl) ?_
  intro p e s m below meth c hC hnm hT ls hl
  have hl : lv_has ls 4 [(0, .ref (x0)), (1, .int (x1))] := hl
  unfold z_X8_verify at hz
  refine z_aload_n hC dX8_verify_0 rfl (lv_at hl 0 rfl) ?_
  refine z_iload_n hC dX8_verify_1 rfl (lv_at hl 1 rfl) ?_
  obtain ⟨q1, hq_q1, hz⟩ := ob_some hz
  refine z_callV (As := [.int (x1)]) hC hT (c_X8_methodAt F x0 x1 h_x0 hq_q1) zy_X8_methodAt zc_8 zv_X8_methodAt kw_229 dX8_verify_2 h_x0 rfl rfl hl.1 (Nat.le_of_ble_eq_true rfl) (by decide) (by decide) ?_
  rcases ob2_some hz with ⟨ho_r2, hz⟩ | ⟨r2, ho_r2, hz⟩
  · try rw [ho_r2]
    try rw [ho_r2] at hl
    refine z_astore_nN (lv' := [(2, .null), (0, .ref (x0)), (1, .int (x1))]) hC dX8_verify_5 rfl hl (by decide) rfl (fun ls hl => ?_)
    refine z_aload_nN hC dX8_verify_6 rfl (lv_at hl 0 rfl) ?_
    refine z_ifnonnullN hC dX8_verify_7 ?_
    refine z_iconst (v := (-1)) hC dX8_verify_10 (by decide) ?_
    obtain rfl := Option.some.inj hz
    exact z_iret hC hT dX8_verify_11 (by decide) (by decide)
  · have hk_r2 : z_is b0 S r2 5 := (tk_X8_methodAt hT h_x0 hq_q1) _ ho_r2
    try rw [ho_r2]
    try rw [ho_r2] at hl
    refine z_astore_n (lv' := [(2, .ref (r2)), (0, .ref (x0)), (1, .int (x1))]) hC dX8_verify_5 rfl hl (by decide) rfl (fun ls hl => ?_)
    refine z_aload_n hC dX8_verify_6 rfl (lv_at hl 0 rfl) ?_
    refine z_ifnonnull (tgt := 12) hC dX8_verify_7 (by decide) ?_
    refine z_aload_n hC dX8_verify_12 rfl (lv_at hl 0 rfl) ?_
    refine z_getI hC zc_5 7 (by decide) kw_87 dX8_verify_13 hk_r2 rfl ?_
    refine z_if_ne (tgt := 22) hC dX8_verify_16 (by decide) hz (fun hz => ?_) (fun hz => ?_)
    · skip
      refine z_aload_n hC dX8_verify_22 rfl (lv_at hl 1 rfl) ?_
      obtain ⟨r3, hr_r3, hz⟩ := ob_some hz
      have hk_r3 : z_is b0 S r3 4 := hT.at h_x0 hr_r3
      refine z_getR hC zc_8 3 (by decide) kw_179 dX8_verify_23 h_x0 rfl hr_r3 ?_
      refine z_aload_n hC dX8_verify_26 rfl (lv_at hl 0 rfl) ?_
      obtain ⟨q4, hq_q4, hz⟩ := ob_some hz
      refine z_callV (As := [.ref (r2)]) hC hT (c_X4_run F r3 r2 hk_r3 hk_r2 hq_q4) zy_X4_run zc_4 zv_X4_run kw_665 dX8_verify_27 hk_r3 rfl rfl hl.1 (Nat.le_of_ble_eq_true rfl) (by decide) (by decide) ?_
      refine z_istore_n (lv' := [(3, .int (q4.1)), (2, .ref (r2)), (0, .ref (x0)), (1, .int (x1))]) hC dX8_verify_30 rfl hl (by decide) rfl (fun ls hl => ?_)
      refine z_aload_n hC dX8_verify_31 rfl (lv_at hl 2 rfl) ?_
      refine z_aload_n hC dX8_verify_32 rfl (lv_at hl 2 rfl) ?_
      refine z_getR hC zc_8 3 (by decide) kw_179 dX8_verify_33 h_x0 rfl hr_r3 ?_
      refine z_getI hC zc_4 5 (by decide) kw_162 dX8_verify_36 hk_r3 rfl ?_
      refine z_putI hC zc_8 4 (by decide) kw_180 dX8_verify_39 h_x0 rfl rfl rfl rfl ?_
      refine z_iload_n hC dX8_verify_42 rfl (lv_at hl 0 rfl) ?_
      refine z_iconst (v := (-1)) hC dX8_verify_43 (by decide) ?_
      refine z_icmp_ne (tgt := 51) hC dX8_verify_44 (by decide) hz (fun hz => ?_) (fun hz => ?_)
      · skip
        refine z_bipush (v := (-10)) hC dX8_verify_51 (by decide) ?_
        refine z_iload_n hC dX8_verify_53 rfl (lv_at hl 0 rfl) ?_
        refine z_isub hC dX8_verify_54 ?_
        obtain rfl := Option.some.inj hz
        exact z_iret hC hT dX8_verify_55 (by decide) (by decide)
      · skip
        refine z_iconst (v := 0) hC dX8_verify_47 (by decide) ?_
        refine z_goto (tgt := 55) hC dX8_verify_48 (by decide) ?_
        obtain rfl := Option.some.inj hz
        exact z_iret hC hT dX8_verify_55 (by decide) (by decide)
    · skip
      refine z_bipush (v := (-3)) hC dX8_verify_19 (by decide) ?_
      obtain rfl := Option.some.inj hz
      exact z_iret hC hT dX8_verify_21 (by decide) (by decide)
theorem zy_X8_isAskedFrom : z_y yX8_isAskedFrom cX8_isAskedFrom 2 (some .boolean) 2 := ⟨kw_714, kw_1, by decide +kernel, by decide +kernel, by decide +kernel⟩
def z_X8_isAskedFrom (F : Nat) (S : zS) (I : zI) (x0 : Int32) (x1 : Int32) : Option (Int32) :=
  if x1 < x0 then (some (0)) else (if x1 < (x0 + 8) then (some (1)) else (some (0)))
set_option maxRecDepth 100000 in
set_option maxHeartbeats 4000000 in
theorem c_X8_isAskedFrom {l : Launch} {D : zD} {b0 : Nat} {S : zS} {I : zI} {X : Int32} (F : Nat) (x0 : Int32) (x1 : Int32)  (hz : z_X8_isAskedFrom F S I x0 x1 = some X) : z_M l D b0 yX8_isAskedFrom cX8_isAskedFrom 2 (some .boolean) { frames := 0, cells := 0, slots := 0, locals := 0 } [.int (x0), .int (x1)] S I (some (.int (X))) S I := by
  refine z_met (by decide) (Nat.le_of_ble_eq_true rfl) ?_
  intro p e s m below meth c hC hnm hT ls hl
  have hl : lv_has ls 2 [(0, .int (x0)), (1, .int (x1))] := hl
  unfold z_X8_isAskedFrom at hz
  refine z_iload_n hC dX8_isAskedFrom_0 rfl (lv_at hl 1 rfl) ?_
  refine z_iload_n hC dX8_isAskedFrom_1 rfl (lv_at hl 0 rfl) ?_
  refine z_icmp_lt (tgt := 17) hC dX8_isAskedFrom_2 (by decide) hz (fun hz => ?_) (fun hz => ?_)
  · skip
    refine z_iconst (v := 0) hC dX8_isAskedFrom_17 (by decide) ?_
    obtain rfl := Option.some.inj hz
    exact z_zret hC hT dX8_isAskedFrom_18 (Or.inl rfl) (by decide) (by decide)
  · skip
    refine z_iload_n hC dX8_isAskedFrom_5 rfl (lv_at hl 1 rfl) ?_
    refine z_iload_n hC dX8_isAskedFrom_6 rfl (lv_at hl 0 rfl) ?_
    refine z_bipush (v := 8) hC dX8_isAskedFrom_7 (by decide) ?_
    refine z_iadd hC dX8_isAskedFrom_9 ?_
    refine z_icmp_ge (tgt := 17) hC dX8_isAskedFrom_10 (by decide) hz (fun hz => ?_) (fun hz => ?_)
    · skip
      refine z_iconst (v := 0) hC dX8_isAskedFrom_17 (by decide) ?_
      obtain rfl := Option.some.inj hz
      exact z_zret hC hT dX8_isAskedFrom_18 (Or.inl rfl) (by decide) (by decide)
    · skip
      refine z_iconst (v := 1) hC dX8_isAskedFrom_13 (by decide) ?_
      refine z_goto (tgt := 18) hC dX8_isAskedFrom_14 (by decide) ?_
      obtain rfl := Option.some.inj hz
      exact z_zret hC hT dX8_isAskedFrom_18 (Or.inr rfl) (by decide) (by decide)
theorem zy_X8_toldActs : z_y yX8_toldActs cX8_toldActs 3 (some .int) 1 := ⟨kw_718, kw_1, by decide +kernel, by decide +kernel, by decide +kernel⟩
theorem zv_X8_toldActs : Cond.instanceMethod yX8_toldActs ∈ z_tbl ∧ Cond.selects RX8 yX8_toldActs yX8_toldActs ∈ z_tbl := ⟨kw_717, ks_26⟩
def z_X8_toldActs (F : Nat) (S : zS) (I : zI) (x0 : Nat) (x1 : Int32) : Option (Int32) :=
  ob (z_X8_methodAt F S I x0 x1) (fun q1 => ob2 (q1) (some ((-1))) (fun r2 => some (I r2 3)))
set_option maxRecDepth 100000 in
set_option maxHeartbeats 4000000 in
theorem c_X8_toldActs {l : Launch} {D : zD} {b0 : Nat} {S : zS} {I : zI} {X : Int32} (F : Nat) (x0 : Nat) (x1 : Int32) (h_x0 : z_is b0 S x0 8) (hz : z_X8_toldActs F S I x0 x1 = some X) : z_M l D b0 yX8_toldActs cX8_toldActs 3 (some .int) { frames := 1, cells := 0, slots := 0, locals := 21 } [.ref (x0), .int (x1)] S I (some (.int (X))) S I := by
  refine z_met (by decide) (Nat.le_of_ble_eq_true rfl) ?_
  intro p e s m below meth c hC hnm hT ls hl
  have hl : lv_has ls 3 [(0, .ref (x0)), (1, .int (x1))] := hl
  unfold z_X8_toldActs at hz
  refine z_aload_n hC dX8_toldActs_0 rfl (lv_at hl 0 rfl) ?_
  refine z_iload_n hC dX8_toldActs_1 rfl (lv_at hl 1 rfl) ?_
  obtain ⟨q1, hq_q1, hz⟩ := ob_some hz
  refine z_callV (As := [.int (x1)]) hC hT (c_X8_methodAt F x0 x1 h_x0 hq_q1) zy_X8_methodAt zc_8 zv_X8_methodAt kw_229 dX8_toldActs_2 h_x0 rfl rfl hl.1 (Nat.le_of_ble_eq_true rfl) (by decide) (by decide) ?_
  rcases ob2_some hz with ⟨ho_r2, hz⟩ | ⟨r2, ho_r2, hz⟩
  · try rw [ho_r2]
    try rw [ho_r2] at hl
    refine z_astore_nN (lv' := [(2, .null), (0, .ref (x0)), (1, .int (x1))]) hC dX8_toldActs_5 rfl hl (by decide) rfl (fun ls hl => ?_)
    refine z_aload_nN hC dX8_toldActs_6 rfl (lv_at hl 0 rfl) ?_
    refine z_ifnonnullN hC dX8_toldActs_7 ?_
    refine z_iconst (v := (-1)) hC dX8_toldActs_10 (by decide) ?_
    refine z_goto (tgt := 18) hC dX8_toldActs_11 (by decide) ?_
    obtain rfl := Option.some.inj hz
    exact z_iret hC hT dX8_toldActs_18 (by decide) (by decide)
  · have hk_r2 : z_is b0 S r2 5 := (tk_X8_methodAt hT h_x0 hq_q1) _ ho_r2
    try rw [ho_r2]
    try rw [ho_r2] at hl
    refine z_astore_n (lv' := [(2, .ref (r2)), (0, .ref (x0)), (1, .int (x1))]) hC dX8_toldActs_5 rfl hl (by decide) rfl (fun ls hl => ?_)
    refine z_aload_n hC dX8_toldActs_6 rfl (lv_at hl 0 rfl) ?_
    refine z_ifnonnull (tgt := 14) hC dX8_toldActs_7 (by decide) ?_
    refine z_aload_n hC dX8_toldActs_14 rfl (lv_at hl 0 rfl) ?_
    refine z_getI hC zc_5 3 (by decide) kw_77 dX8_toldActs_15 hk_r2 rfl ?_
    obtain rfl := Option.some.inj hz
    exact z_iret hC hT dX8_toldActs_18 (by decide) (by decide)
theorem zy_X8_toldGuards : z_y yX8_toldGuards cX8_toldGuards 3 (some .int) 1 := ⟨kw_722, kw_1, by decide +kernel, by decide +kernel, by decide +kernel⟩
theorem zv_X8_toldGuards : Cond.instanceMethod yX8_toldGuards ∈ z_tbl ∧ Cond.selects RX8 yX8_toldGuards yX8_toldGuards ∈ z_tbl := ⟨kw_721, ks_27⟩
def z_X8_toldGuards (F : Nat) (S : zS) (I : zI) (x0 : Nat) (x1 : Int32) : Option (Int32) :=
  ob (z_X8_methodAt F S I x0 x1) (fun q1 => ob2 (q1) (some ((-1))) (fun r2 => some (I r2 4)))
set_option maxRecDepth 100000 in
set_option maxHeartbeats 4000000 in
theorem c_X8_toldGuards {l : Launch} {D : zD} {b0 : Nat} {S : zS} {I : zI} {X : Int32} (F : Nat) (x0 : Nat) (x1 : Int32) (h_x0 : z_is b0 S x0 8) (hz : z_X8_toldGuards F S I x0 x1 = some X) : z_M l D b0 yX8_toldGuards cX8_toldGuards 3 (some .int) { frames := 1, cells := 0, slots := 0, locals := 21 } [.ref (x0), .int (x1)] S I (some (.int (X))) S I := by
  refine z_met (by decide) (Nat.le_of_ble_eq_true rfl) ?_
  intro p e s m below meth c hC hnm hT ls hl
  have hl : lv_has ls 3 [(0, .ref (x0)), (1, .int (x1))] := hl
  unfold z_X8_toldGuards at hz
  refine z_aload_n hC dX8_toldGuards_0 rfl (lv_at hl 0 rfl) ?_
  refine z_iload_n hC dX8_toldGuards_1 rfl (lv_at hl 1 rfl) ?_
  obtain ⟨q1, hq_q1, hz⟩ := ob_some hz
  refine z_callV (As := [.int (x1)]) hC hT (c_X8_methodAt F x0 x1 h_x0 hq_q1) zy_X8_methodAt zc_8 zv_X8_methodAt kw_229 dX8_toldGuards_2 h_x0 rfl rfl hl.1 (Nat.le_of_ble_eq_true rfl) (by decide) (by decide) ?_
  rcases ob2_some hz with ⟨ho_r2, hz⟩ | ⟨r2, ho_r2, hz⟩
  · try rw [ho_r2]
    try rw [ho_r2] at hl
    refine z_astore_nN (lv' := [(2, .null), (0, .ref (x0)), (1, .int (x1))]) hC dX8_toldGuards_5 rfl hl (by decide) rfl (fun ls hl => ?_)
    refine z_aload_nN hC dX8_toldGuards_6 rfl (lv_at hl 0 rfl) ?_
    refine z_ifnonnullN hC dX8_toldGuards_7 ?_
    refine z_iconst (v := (-1)) hC dX8_toldGuards_10 (by decide) ?_
    refine z_goto (tgt := 18) hC dX8_toldGuards_11 (by decide) ?_
    obtain rfl := Option.some.inj hz
    exact z_iret hC hT dX8_toldGuards_18 (by decide) (by decide)
  · have hk_r2 : z_is b0 S r2 5 := (tk_X8_methodAt hT h_x0 hq_q1) _ ho_r2
    try rw [ho_r2]
    try rw [ho_r2] at hl
    refine z_astore_n (lv' := [(2, .ref (r2)), (0, .ref (x0)), (1, .int (x1))]) hC dX8_toldGuards_5 rfl hl (by decide) rfl (fun ls hl => ?_)
    refine z_aload_n hC dX8_toldGuards_6 rfl (lv_at hl 0 rfl) ?_
    refine z_ifnonnull (tgt := 14) hC dX8_toldGuards_7 (by decide) ?_
    refine z_aload_n hC dX8_toldGuards_14 rfl (lv_at hl 0 rfl) ?_
    refine z_getI hC zc_5 4 (by decide) kw_81 dX8_toldGuards_15 hk_r2 rfl ?_
    obtain rfl := Option.some.inj hz
    exact z_iret hC hT dX8_toldGuards_18 (by decide) (by decide)
theorem zy_X8_toldPlaces : z_y yX8_toldPlaces cX8_toldPlaces 3 (some .int) 1 := ⟨kw_726, kw_1, by decide +kernel, by decide +kernel, by decide +kernel⟩
theorem zv_X8_toldPlaces : Cond.instanceMethod yX8_toldPlaces ∈ z_tbl ∧ Cond.selects RX8 yX8_toldPlaces yX8_toldPlaces ∈ z_tbl := ⟨kw_725, ks_28⟩
def z_X8_toldPlaces (F : Nat) (S : zS) (I : zI) (x0 : Nat) (x1 : Int32) : Option (Int32) :=
  ob (z_X8_methodAt F S I x0 x1) (fun q1 => ob2 (q1) (some ((-1))) (fun r2 => some (I r2 5)))
set_option maxRecDepth 100000 in
set_option maxHeartbeats 4000000 in
theorem c_X8_toldPlaces {l : Launch} {D : zD} {b0 : Nat} {S : zS} {I : zI} {X : Int32} (F : Nat) (x0 : Nat) (x1 : Int32) (h_x0 : z_is b0 S x0 8) (hz : z_X8_toldPlaces F S I x0 x1 = some X) : z_M l D b0 yX8_toldPlaces cX8_toldPlaces 3 (some .int) { frames := 1, cells := 0, slots := 0, locals := 21 } [.ref (x0), .int (x1)] S I (some (.int (X))) S I := by
  refine z_met (by decide) (Nat.le_of_ble_eq_true rfl) ?_
  intro p e s m below meth c hC hnm hT ls hl
  have hl : lv_has ls 3 [(0, .ref (x0)), (1, .int (x1))] := hl
  unfold z_X8_toldPlaces at hz
  refine z_aload_n hC dX8_toldPlaces_0 rfl (lv_at hl 0 rfl) ?_
  refine z_iload_n hC dX8_toldPlaces_1 rfl (lv_at hl 1 rfl) ?_
  obtain ⟨q1, hq_q1, hz⟩ := ob_some hz
  refine z_callV (As := [.int (x1)]) hC hT (c_X8_methodAt F x0 x1 h_x0 hq_q1) zy_X8_methodAt zc_8 zv_X8_methodAt kw_229 dX8_toldPlaces_2 h_x0 rfl rfl hl.1 (Nat.le_of_ble_eq_true rfl) (by decide) (by decide) ?_
  rcases ob2_some hz with ⟨ho_r2, hz⟩ | ⟨r2, ho_r2, hz⟩
  · try rw [ho_r2]
    try rw [ho_r2] at hl
    refine z_astore_nN (lv' := [(2, .null), (0, .ref (x0)), (1, .int (x1))]) hC dX8_toldPlaces_5 rfl hl (by decide) rfl (fun ls hl => ?_)
    refine z_aload_nN hC dX8_toldPlaces_6 rfl (lv_at hl 0 rfl) ?_
    refine z_ifnonnullN hC dX8_toldPlaces_7 ?_
    refine z_iconst (v := (-1)) hC dX8_toldPlaces_10 (by decide) ?_
    refine z_goto (tgt := 18) hC dX8_toldPlaces_11 (by decide) ?_
    obtain rfl := Option.some.inj hz
    exact z_iret hC hT dX8_toldPlaces_18 (by decide) (by decide)
  · have hk_r2 : z_is b0 S r2 5 := (tk_X8_methodAt hT h_x0 hq_q1) _ ho_r2
    try rw [ho_r2]
    try rw [ho_r2] at hl
    refine z_astore_n (lv' := [(2, .ref (r2)), (0, .ref (x0)), (1, .int (x1))]) hC dX8_toldPlaces_5 rfl hl (by decide) rfl (fun ls hl => ?_)
    refine z_aload_n hC dX8_toldPlaces_6 rfl (lv_at hl 0 rfl) ?_
    refine z_ifnonnull (tgt := 14) hC dX8_toldPlaces_7 (by decide) ?_
    refine z_aload_n hC dX8_toldPlaces_14 rfl (lv_at hl 0 rfl) ?_
    refine z_getI hC zc_5 5 (by decide) kw_83 dX8_toldPlaces_15 hk_r2 rfl ?_
    obtain rfl := Option.some.inj hz
    exact z_iret hC hT dX8_toldPlaces_18 (by decide) (by decide)
