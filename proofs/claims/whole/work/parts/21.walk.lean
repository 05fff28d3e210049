theorem zy_X9_pop : z_y yX9_pop cX9_pop 2 (some .int) 0 := ⟨kw_935, kw_8, by decide +kernel, by decide +kernel, by decide +kernel⟩
theorem zv_X9_pop : Cond.instanceMethod yX9_pop ∈ z_tbl ∧ Cond.selects RX9 yX9_pop yX9_pop ∈ z_tbl := ⟨kw_934, ks_45⟩
def z_X9_pop (F : Nat) (S : zS) (I : zI) (x0 : Nat) : Option (Int32 × zI) :=
  ob (z_X9_top F S I x0) (fun q1 => if q1 < 0 then (ob (z_X9_fails F S I x0 1) (fun q5 => some (0, q5))) else (ob (S.1 x0 22) (fun r2 => if (8 : Int32) < 0 ∨ (S.2.1 r2).2 ≤ (8 : Int32).toNatClampNeg then none else (if (8 : Int32) < 0 ∨ (S.2.1 r2).2 ≤ (8 : Int32).toNatClampNeg then none else (some (q1, z_up I r2 (8 : Int32).toNatClampNeg ((I r2 (8 : Int32).toNatClampNeg) - 1)))))))
set_option maxRecDepth 100000 in
set_option maxHeartbeats 4000000 in
theorem c_X9_pop {l : Launch} {D : zD} {b0 : Nat} {S : zS} {I : zI} {X : Int32 × zI} (F : Nat) (x0 : Nat) (h_x0 : z_is b0 S x0 9) (hz : z_X9_pop F S I x0 = some X) : z_M l D b0 yX9_pop cX9_pop 2 (some .int) { frames := 1, cells := 0, slots := 0, locals := 21 } [.ref (x0)] S I (some (.int (X.1))) S X.2 := by
  refine z_met (by decide) (Nat.le_of_ble_eq_true rfl) ?_
  intro p e s m below meth c hC hnm hT ls hl
  have hl : lv_has ls 2 [(0, .ref (x0))] := hl
  unfold z_X9_pop at hz
  refine z_aload_n hC dX9_pop_0 rfl (lv_at hl 0 rfl) ?_
  obtain ⟨q1, hq_q1, hz⟩ := ob_some hz
  refine z_callV (As := []) hC hT (c_X9_top F x0 h_x0 hq_q1) zy_X9_top zc_9 zv_X9_top kw_936 dX9_pop_1 h_x0 rfl rfl hl.1 (Nat.le_of_ble_eq_true rfl) (by decide) (by decide) ?_
  refine z_istore_n (lv' := [(1, .int (q1)), (0, .ref (x0))]) hC dX9_pop_4 rfl hl (by decide) rfl (fun ls hl => ?_)
  refine z_iload_n hC dX9_pop_5 rfl (lv_at hl 0 rfl) ?_
  refine z_if_ge (tgt := 16) hC dX9_pop_6 (by decide) hz (fun hz => ?_) (fun hz => ?_)
  · skip
    refine z_aload_n hC dX9_pop_16 rfl (lv_at hl 1 rfl) ?_
    obtain ⟨r2, hr_r2, hz⟩ := ob_some hz
    have hk_r2 : z_is b0 S r2 10 := hT.at h_x0 hr_r2
    refine z_getR hC zc_9 22 (by decide) kw_759 dX9_pop_17 h_x0 rfl hr_r2 ?_
    refine z_bipush (v := 8) hC dX9_pop_20 (by decide) ?_
    refine z_dup2 hC dX9_pop_22 rfl rfl ?_
    obtain ⟨hi3, hz⟩ := ifn_some hz
    refine z_iald hC dX9_pop_23 hk_r2 hi3 ?_
    refine z_iconst (v := 1) hC dX9_pop_24 (by decide) ?_
    refine z_isub hC dX9_pop_25 ?_
    obtain ⟨hi4, hz⟩ := ifn_some hz
    refine z_iast hC dX9_pop_26 hk_r2 hi4 ?_
    refine z_iload_n hC dX9_pop_27 rfl (lv_at hl 0 rfl) ?_
    obtain rfl := Option.some.inj hz
    exact z_iret hC hT dX9_pop_28 (by decide) (by decide)
  · skip
    refine z_aload_n hC dX9_pop_9 rfl (lv_at hl 1 rfl) ?_
    refine z_iconst (v := 1) hC dX9_pop_10 (by decide) ?_
    obtain ⟨q5, hq_q5, hz⟩ := ob_some hz
    refine z_callV (As := [.int (1)]) hC hT (c_X9_fails F x0 1 h_x0 hq_q5) zy_X9_fails zc_9 zv_X9_fails kw_908 dX9_pop_11 h_x0 rfl rfl hl.1 (Nat.le_of_ble_eq_true rfl) (by decide) (by decide) ?_
    refine z_iconst (v := 0) hC dX9_pop_14 (by decide) ?_
    obtain rfl := Option.some.inj hz
    exact z_iret hC hT dX9_pop_15 (by decide) (by decide)
theorem zy_X9_push : z_y yX9_push cX9_push 2 none 1 := ⟨kw_927, kw_8, by decide +kernel, by decide +kernel, by decide +kernel⟩
theorem zv_X9_push : Cond.instanceMethod yX9_push ∈ z_tbl ∧ Cond.selects RX9 yX9_push yX9_push ∈ z_tbl := ⟨kw_926, ks_43⟩
def z_X9_push (F : Nat) (S : zS) (I : zI) (x0 : Nat) (x1 : Int32) : Option (zI) :=
  if (I x0 24) = 0 then (ob (S.1 x0 22) (fun r1 => if (8 : Int32) < 0 ∨ (S.2.1 r1).2 ≤ (8 : Int32).toNatClampNeg then none else (if (9 + (I r1 (8 : Int32).toNatClampNeg)) < 0 ∨ (S.2.1 r1).2 ≤ (9 + (I r1 (8 : Int32).toNatClampNeg)).toNatClampNeg then none else (if (8 : Int32) < 0 ∨ (S.2.1 r1).2 ≤ (8 : Int32).toNatClampNeg then none else (if (8 : Int32) < 0 ∨ (S.2.1 r1).2 ≤ (8 : Int32).toNatClampNeg then none else (some (z_up (z_up I r1 (9 + (I r1 (8 : Int32).toNatClampNeg)).toNatClampNeg x1) r1 (8 : Int32).toNatClampNeg (((z_up I r1 (9 + (I r1 (8 : Int32).toNatClampNeg)).toNatClampNeg x1) r1 (8 : Int32).toNatClampNeg) + 1)))))))) else (some (I))
set_option maxRecDepth 100000 in
set_option maxHeartbeats 4000000 in
theorem c_X9_push {l : Launch} {D : zD} {b0 : Nat} {S : zS} {I : zI} {X : zI} (F : Nat) (x0 : Nat) (x1 : Int32) (h_x0 : z_is b0 S x0 9) (hz : z_X9_push F S I x0 x1 = some X) : z_M l D b0 yX9_push cX9_push 2 none { frames := 0, cells := 0, slots := 0, locals := 0 } [.ref (x0), .int (x1)] S I none S X := by
  refine z_met (by decide) (Nat.le_of_ble_eq_true rfl) ?_
  intro p e s m below meth c hC hnm hT ls hl
  have hl : lv_has ls 2 [(0, .ref (x0)), (1, .int (x1))] := hl
  unfold z_X9_push at hz
  refine z_aload_n hC dX9_push_0 rfl (lv_at hl 0 rfl) ?_
  refine z_getI hC zc_9 24 (by decide) kw_761 dX9_push_1 h_x0 rfl ?_
  refine z_if_ne (tgt := 34) hC dX9_push_4 (by decide) hz (fun hz => ?_) (fun hz => ?_)
  · skip
    obtain rfl := Option.some.inj hz
    exact z_vret hC hT dX9_push_34 (by decide) (by decide)
  · skip
    refine z_aload_n hC dX9_push_7 rfl (lv_at hl 0 rfl) ?_
    obtain ⟨r1, hr_r1, hz⟩ := ob_some hz
    have hk_r1 : z_is b0 S r1 10 := hT.at h_x0 hr_r1
    refine z_getR hC zc_9 22 (by decide) kw_759 dX9_push_8 h_x0 rfl hr_r1 ?_
    refine z_bipush (v := 9) hC dX9_push_11 (by decide) ?_
    refine z_aload_n hC dX9_push_13 rfl (lv_at hl 0 rfl) ?_
    refine z_getR hC zc_9 22 (by decide) kw_759 dX9_push_14 h_x0 rfl hr_r1 ?_
    refine z_bipush (v := 8) hC dX9_push_17 (by decide) ?_
    obtain ⟨hi2, hz⟩ := ifn_some hz
    refine z_iald hC dX9_push_19 hk_r1 hi2 ?_
    refine z_iadd hC dX9_push_20 ?_
    refine z_iload_n hC dX9_push_21 rfl (lv_at hl 1 rfl) ?_
    obtain ⟨hi3, hz⟩ := ifn_some hz
    refine z_iast hC dX9_push_22 hk_r1 hi3 ?_
    refine z_aload_n hC dX9_push_23 rfl (lv_at hl 0 rfl) ?_
    refine z_getR hC zc_9 22 (by decide) kw_759 dX9_push_24 h_x0 rfl hr_r1 ?_
    refine z_bipush (v := 8) hC dX9_push_27 (by decide) ?_
    refine z_dup2 hC dX9_push_29 rfl rfl ?_
    obtain ⟨hi4, hz⟩ := ifn_some hz
    refine z_iald hC dX9_push_30 hk_r1 hi4 ?_
    refine z_iconst (v := 1) hC dX9_push_31 (by decide) ?_
    refine z_iadd hC dX9_push_32 ?_
    obtain ⟨hi5, hz⟩ := ifn_some hz
    refine z_iast hC dX9_push_33 hk_r1 hi5 ?_
    obtain rfl := Option.some.inj hz
    exact z_vret hC hT dX9_push_34 (by decide) (by decide)
theorem zy_X9_wants : z_y yX9_wants cX9_wants 2 none 1 := ⟨kw_947, kw_8, by decide +kernel, by decide +kernel, by decide +kernel⟩
theorem zv_X9_wants : Cond.instanceMethod yX9_wants ∈ z_tbl ∧ Cond.selects RX9 yX9_wants yX9_wants ∈ z_tbl := ⟨kw_946, ks_48⟩
def z_X9_wants (F : Nat) (S : zS) (I : zI) (x0 : Nat) (x1 : Int32) : Option (zI) :=
  if (I x0 24) = 0 then (ob (z_X9_pop F S I x0) (fun q1 => if (q1.1) = x1 then (some (q1.2)) else (ob (z_X9_fails F S (q1.2) x0 2) (fun q2 => some (q2))))) else (some (I))
set_option maxRecDepth 100000 in
set_option maxHeartbeats 4000000 in
theorem c_X9_wants {l : Launch} {D : zD} {b0 : Nat} {S : zS} {I : zI} {X : zI} (F : Nat) (x0 : Nat) (x1 : Int32) (h_x0 : z_is b0 S x0 9) (hz : z_X9_wants F S I x0 x1 = some X) : z_M l D b0 yX9_wants cX9_wants 2 none { frames := 2, cells := 0, slots := 0, locals := 42 } [.ref (x0), .int (x1)] S I none S X := by
  refine z_met (by decide) (Nat.le_of_ble_eq_true rfl) ?_
  intro p e s m below meth c hC hnm hT ls hl
  have hl : lv_has ls 2 [(0, .ref (x0)), (1, .int (x1))] := hl
  unfold z_X9_wants at hz
  refine z_aload_n hC dX9_wants_0 rfl (lv_at hl 0 rfl) ?_
  refine z_getI hC zc_9 24 (by decide) kw_761 dX9_wants_1 h_x0 rfl ?_
  refine z_if_ne (tgt := 20) hC dX9_wants_4 (by decide) hz (fun hz => ?_) (fun hz => ?_)
  · skip
    obtain rfl := Option.some.inj hz
    exact z_vret hC hT dX9_wants_20 (by decide) (by decide)
  · skip
    refine z_aload_n hC dX9_wants_7 rfl (lv_at hl 0 rfl) ?_
    obtain ⟨q1, hq_q1, hz⟩ := ob_some hz
    refine z_callV (As := []) hC hT (c_X9_pop F x0 h_x0 hq_q1) zy_X9_pop zc_9 zv_X9_pop kw_932 dX9_wants_8 h_x0 rfl rfl hl.1 (Nat.le_of_ble_eq_true rfl) (by decide) (by decide) ?_
    refine z_iload_n hC dX9_wants_11 rfl (lv_at hl 1 rfl) ?_
    refine z_icmp_eq (tgt := 20) hC dX9_wants_12 (by decide) hz (fun hz => ?_) (fun hz => ?_)
    · skip
      obtain rfl := Option.some.inj hz
      exact z_vret hC hT dX9_wants_20 (by decide) (by decide)
    · skip
      refine z_aload_n hC dX9_wants_15 rfl (lv_at hl 0 rfl) ?_
      refine z_iconst (v := 2) hC dX9_wants_16 (by decide) ?_
      obtain ⟨q2, hq_q2, hz⟩ := ob_some hz
      refine z_callV (As := [.int (2)]) hC hT (c_X9_fails F x0 2 h_x0 hq_q2) zy_X9_fails zc_9 zv_X9_fails kw_908 dX9_wants_17 h_x0 rfl rfl hl.1 (Nat.le_of_ble_eq_true rfl) (by decide) (by decide) ?_
      obtain rfl := Option.some.inj hz
      exact z_vret hC hT dX9_wants_20 (by decide) (by decide)
theorem zy_X9_wantsObject : z_y yX9_wantsObject cX9_wantsObject 3 none 1 := ⟨kw_959, kw_8, by decide +kernel, by decide +kernel, by decide +kernel⟩
theorem zv_X9_wantsObject : Cond.instanceMethod yX9_wantsObject ∈ z_tbl ∧ Cond.selects RX9 yX9_wantsObject yX9_wantsObject ∈ z_tbl := ⟨kw_958, ks_51⟩
def z_X9_wantsObject_44 (F : Nat) (S : zS)  (x0 : Nat) (I : zI) : Option (zI) :=
  ob (z_X9_fails F S I x0 2) (fun q1 => some (q1))
def z_X9_wantsObject_15 (F : Nat) (S : zS)  (x0 : Nat) (x1 : Int32) (y0 : Int32) (I : zI) : Option (zI) :=
  if y0 = 4 then (some (I)) else (ob (z_X9_isObject F S I y0) (fun q1 => if q1 = 0 then (z_X9_wantsObject_44 F S  (x0) (I)) else (if x1 < 0 then (some (I)) else (ob (z_X9_isOne F S I x0 (y0 - 10) x1) (fun q2 => if q2 = 0 then (z_X9_wantsObject_44 F S  (x0) (I)) else (some (I)))))))
def z_X9_wantsObject (F : Nat) (S : zS) (I : zI) (x0 : Nat) (x1 : Int32) : Option (zI) :=
  if (I x0 24) = 0 then (ob (z_X9_pop F S I x0) (fun q1 => z_X9_wantsObject_15 F S  (x0) (x1) (q1.1) (q1.2))) else (z_X9_wantsObject_15 F S  (x0) (x1) (4) (I))
set_option maxRecDepth 100000 in
set_option maxHeartbeats 4000000 in
theorem b_X9_wantsObject_44 {p : Program} {l : Launch} {e : Env} {s : State} {m : MethodId} {args : Array Value} {below : List Frame} {meth : Method} {c : Code} {D : zD} {b0 : Nat} {F : Nat} {S : zS} {X : zI} (hC : z_C p s m args meth c cX9_wantsObject RX9 3 none D) (hT : z_T b0 S)   (x0 : Nat) (I : zI) (h_x0 : z_is b0 S x0 9) (hz : z_X9_wantsObject_44 F S  x0 I = some X) (ls : Array Slot) (hl : lv_has ls 3 [(0, .ref (x0))]) : z_W p l e { frames := 2, cells := 0, slots := 0, locals := 45 } s m args below meth c D b0 S I 0 0 (MQ below (z_Q D b0 none S X) args s 0 0 (fun q => b0 ≤ q)) (F0 m 44 ls []) := by
  unfold z_X9_wantsObject_44 at hz
  refine z_aload_n hC dX9_wantsObject_44 rfl (lv_at hl 0 rfl) ?_
  refine z_iconst (v := 2) hC dX9_wantsObject_45 (by decide) ?_
  obtain ⟨q1, hq_q1, hz⟩ := ob_some hz
  refine z_callV (As := [.int (2)]) hC hT (c_X9_fails F x0 2 h_x0 hq_q1) zy_X9_fails zc_9 zv_X9_fails kw_908 dX9_wantsObject_46 h_x0 rfl rfl hl.1 (Nat.le_of_ble_eq_true rfl) (by decide) (by decide) ?_
  obtain rfl := Option.some.inj hz
  exact z_vret hC hT dX9_wantsObject_49 (by decide) (by decide)
set_option maxRecDepth 100000 in
set_option maxHeartbeats 4000000 in
theorem b_X9_wantsObject_15 {p : Program} {l : Launch} {e : Env} {s : State} {m : MethodId} {args : Array Value} {below : List Frame} {meth : Method} {c : Code} {D : zD} {b0 : Nat} {F : Nat} {S : zS} {X : zI} (hC : z_C p s m args meth c cX9_wantsObject RX9 3 none D) (hT : z_T b0 S)   (x0 : Nat) (x1 : Int32) (y0 : Int32) (I : zI) (h_x0 : z_is b0 S x0 9) (hz : z_X9_wantsObject_15 F S  x0 x1 y0 I = some X) (ls : Array Slot) (hl : lv_has ls 3 [(0, .ref (x0)), (1, .int (x1))]) : z_W p l e { frames := 2, cells := 0, slots := 0, locals := 45 } s m args below meth c D b0 S I 0 0 (MQ below (z_Q D b0 none S X) args s 0 0 (fun q => b0 ≤ q)) (F0 m 15 ls [.int (y0)]) := by
  unfold z_X9_wantsObject_15 at hz
  refine z_istore_n (lv' := [(2, .int (y0)), (0, .ref (x0)), (1, .int (x1))]) hC dX9_wantsObject_15 rfl hl (by decide) rfl (fun ls hl => ?_)
  refine z_iload_n hC dX9_wantsObject_16 rfl (lv_at hl 0 rfl) ?_
  refine z_iconst (v := 4) hC dX9_wantsObject_17 (by decide) ?_
  refine z_icmp_eq (tgt := 49) hC dX9_wantsObject_18 (by decide) hz (fun hz => ?_) (fun hz => ?_)
  · skip
    obtain rfl := Option.some.inj hz
    exact z_vret hC hT dX9_wantsObject_49 (by decide) (by decide)
  · skip
    refine z_iload_n hC dX9_wantsObject_21 rfl (lv_at hl 0 rfl) ?_
    obtain ⟨q1, hq_q1, hz⟩ := ob_some hz
    refine z_callS (As := [.int (y0)]) hC hT (c_X9_isObject F y0  hq_q1) zy_X9_isObject kw_868 kw_867 dX9_wantsObject_22 rfl rfl hl.1 (Nat.le_of_ble_eq_true rfl) (by decide) (by decide) ?_
    refine z_if_eq (tgt := 44) hC dX9_wantsObject_25 (by decide) hz (fun hz => ?_) (fun hz => ?_)
    · skip
      exact b_X9_wantsObject_44 hC hT   (x0) (I) h_x0 hz ls (lv_sub hl [1] rfl)
    · skip
      refine z_iload_n hC dX9_wantsObject_28 rfl (lv_at hl 2 rfl) ?_
      refine z_if_lt (tgt := 49) hC dX9_wantsObject_29 (by decide) hz (fun hz => ?_) (fun hz => ?_)
      · skip
        obtain rfl := Option.some.inj hz
        exact z_vret hC hT dX9_wantsObject_49 (by decide) (by decide)
      · skip
        refine z_aload_n hC dX9_wantsObject_32 rfl (lv_at hl 1 rfl) ?_
        refine z_iload_n hC dX9_wantsObject_33 rfl (lv_at hl 0 rfl) ?_
        refine z_bipush (v := 10) hC dX9_wantsObject_34 (by decide) ?_
        refine z_isub hC dX9_wantsObject_36 ?_
        refine z_iload_n hC dX9_wantsObject_37 rfl (lv_at hl 2 rfl) ?_
        obtain ⟨q2, hq_q2, hz⟩ := ob_some hz
        refine z_callV (As := [.int (y0 - 10), .int (x1)]) hC hT (c_X9_isOne F x0 (y0 - 10) x1 h_x0 hq_q2) zy_X9_isOne zc_9 zv_X9_isOne kw_852 dX9_wantsObject_38 h_x0 rfl rfl hl.1 (Nat.le_of_ble_eq_true rfl) (by decide) (by decide) ?_
        refine z_if_ne (tgt := 49) hC dX9_wantsObject_41 (by decide) hz (fun hz => ?_) (fun hz => ?_)
        · skip
          obtain rfl := Option.some.inj hz
          exact z_vret hC hT dX9_wantsObject_49 (by decide) (by decide)
        · skip
          exact b_X9_wantsObject_44 hC hT   (x0) (I) h_x0 hz ls (lv_sub hl [1] rfl)
set_option maxRecDepth 100000 in
set_option maxHeartbeats 4000000 in
theorem c_X9_wantsObject {l : Launch} {D : zD} {b0 : Nat} {S : zS} {I : zI} {X : zI} (F : Nat) (x0 : Nat) (x1 : Int32) (h_x0 : z_is b0 S x0 9) (hz : z_X9_wantsObject F S I x0 x1 = some X) : z_M l D b0 yX9_wantsObject cX9_wantsObject 3 none { frames := 2, cells := 0, slots := 0, locals := 45 } [.ref (x0), .int (x1)] S I none S X := by
  refine z_met (by decide) (Nat.le_of_ble_eq_true rfl) ?_
  intro p e s m below meth c hC hnm hT ls hl
  have hl : lv_has ls 3 [(0, .ref (x0)), (1, .int (x1))] := hl
  unfold z_X9_wantsObject at hz
  refine z_aload_n hC dX9_wantsObject_0 rfl (lv_at hl 0 rfl) ?_
  refine z_getI hC zc_9 24 (by decide) kw_761 dX9_wantsObject_1 h_x0 rfl ?_
  refine z_if_ne (tgt := 14) hC dX9_wantsObject_4 (by decide) hz (fun hz => ?_) (fun hz => ?_)
  · skip
    refine z_iconst (v := 4) hC dX9_wantsObject_14 (by decide) ?_
    exact b_X9_wantsObject_15 hC hT   (x0) (x1) (4) (I) h_x0 hz ls (lv_sub hl [0, 1] rfl)
  · skip
    refine z_aload_n hC dX9_wantsObject_7 rfl (lv_at hl 0 rfl) ?_
    obtain ⟨q1, hq_q1, hz⟩ := ob_some hz
    refine z_callV (As := []) hC hT (c_X9_pop F x0 h_x0 hq_q1) zy_X9_pop zc_9 zv_X9_pop kw_932 dX9_wantsObject_8 h_x0 rfl rfl hl.1 (Nat.le_of_ble_eq_true rfl) (by decide) (by decide) ?_
    refine z_goto (tgt := 15) hC dX9_wantsObject_11 (by decide) ?_
    exact b_X9_wantsObject_15 hC hT   (x0) (x1) (q1.1) (q1.2) h_x0 hz ls (lv_sub hl [0, 1] rfl)
theorem zy_X9_counted : z_y yX9_counted cX9_counted 3 (some .int) 1 := ⟨kw_962, kw_8, by decide +kernel, by decide +kernel, by decide +kernel⟩
def z_X9_counted_28 (F : Nat) (S : zS) (I : zI) (k4 : Nat → Int32 → Int32 → Option (Int32)) (x0 : Nat) (x2 : Int32) (y0 : Int32) (y1 : Int32) : Option (Int32) :=
  k4 (x0) (y0 + y1) (x2 + 1)
def z_X9_counted_4B (F : Nat) (S : zS) (I : zI) (k4 : Nat → Int32 → Int32 → Option (Int32)) (x0 : Nat) (x1 : Int32) (x2 : Int32) : Option (Int32) :=
  if (8 : Int32) < 0 ∨ (S.2.1 x0).2 ≤ (8 : Int32).toNatClampNeg then none else (if x2 < (I x0 (8 : Int32).toNatClampNeg) then (if (9 + x2) < 0 ∨ (S.2.1 x0).2 ≤ (9 + x2).toNatClampNeg then none else (if (I x0 (9 + x2).toNatClampNeg) = 2 then (z_X9_counted_28 F S I k4 (x0) (x2) (x1) (2)) else (z_X9_counted_28 F S I k4 (x0) (x2) (x1) (1)))) else (some (x1)))
def z_X9_counted_4 (F : Nat) (S : zS) (I : zI)  : Nat → Nat → Int32 → Int32 → Option (Int32)
  | 0 => fun _ _ _ => none
  | n + 1 => fun x0 x1 x2 => z_X9_counted_4B F S I  (z_X9_counted_4 F S I  n) x0 x1 x2
def z_X9_counted (F : Nat) (S : zS) (I : zI) (x0 : Nat) : Option (Int32) :=
  z_X9_counted_4 F S I  F (x0) (0) (0)
set_option maxRecDepth 100000 in
set_option maxHeartbeats 4000000 in
theorem b_X9_counted_28 {p : Program} {l : Launch} {e : Env} {s : State} {m : MethodId} {args : Array Value} {below : List Frame} {meth : Method} {c : Code} {D : zD} {b0 : Nat} {F : Nat} {S : zS} {I : zI} {X : Int32} (hC : z_C p s m args meth c cX9_counted RX9 3 (some .int) D) (hT : z_T b0 S) (k4 : Nat → Int32 → Int32 → Option (Int32)) (hk4 : ∀ (x0 : Nat) (x1 : Int32) (x2 : Int32) , z_is b0 S x0 10 → k4 x0 x1 x2 = some X → ∀ ls : Array Slot, lv_has ls 3 [(0, .ref (x0)), (1, .int (x1)), (2, .int (x2))] → z_W p l e { frames := 0, cells := 0, slots := 0, locals := 0 } s m args below meth c D b0 S I 0 0 (MQ below (z_Q D b0 (some (.int (X))) S I) args s 0 0 (fun q => b0 ≤ q)) (F0 m 4 ls [])) (x0 : Nat) (x2 : Int32) (y0 : Int32) (y1 : Int32) (h_x0 : z_is b0 S x0 10) (hz : z_X9_counted_28 F S I k4 x0 x2 y0 y1 = some X) (ls : Array Slot) (hl : lv_has ls 3 [(0, .ref (x0)), (2, .int (x2))]) : z_W p l e { frames := 0, cells := 0, slots := 0, locals := 0 } s m args below meth c D b0 S I 0 0 (MQ below (z_Q D b0 (some (.int (X))) S I) args s 0 0 (fun q => b0 ≤ q)) (F0 m 28 ls [.int (y1), .int (y0)]) := by
  unfold z_X9_counted_28 at hz
  refine z_iadd hC dX9_counted_28 ?_
  refine z_istore_n (lv' := [(1, .int (y0 + y1)), (0, .ref (x0)), (2, .int (x2))]) hC dX9_counted_29 rfl hl (by decide) rfl (fun ls hl => ?_)
  refine z_iinc (k0 := 2) (v := x2 + 1) (lv' := [(2, .int (x2 + 1)), (1, .int (y0 + y1)), (0, .ref (x0))]) hC dX9_counted_30 hl rfl rfl (by decide) rfl (fun ls hl => ?_)
  refine z_goto (tgt := 4) hC dX9_counted_33 (by decide) ?_
  exact hk4 (x0) (y0 + y1) (x2 + 1) h_x0 hz ls (lv_sub hl [2, 1, 0] rfl)
set_option maxRecDepth 100000 in
set_option maxHeartbeats 4000000 in
theorem bb_X9_counted_4 {p : Program} {l : Launch} {e : Env} {s : State} {m : MethodId} {args : Array Value} {below : List Frame} {meth : Method} {c : Code} {D : zD} {b0 : Nat} {F : Nat} {S : zS} {I : zI} {X : Int32} (hC : z_C p s m args meth c cX9_counted RX9 3 (some .int) D) (hT : z_T b0 S) (k4 : Nat → Int32 → Int32 → Option (Int32)) (hk4 : ∀ (x0 : Nat) (x1 : Int32) (x2 : Int32) , z_is b0 S x0 10 → k4 x0 x1 x2 = some X → ∀ ls : Array Slot, lv_has ls 3 [(0, .ref (x0)), (1, .int (x1)), (2, .int (x2))] → z_W p l e { frames := 0, cells := 0, slots := 0, locals := 0 } s m args below meth c D b0 S I 0 0 (MQ below (z_Q D b0 (some (.int (X))) S I) args s 0 0 (fun q => b0 ≤ q)) (F0 m 4 ls [])) (x0 : Nat) (x1 : Int32) (x2 : Int32) (h_x0 : z_is b0 S x0 10) (hz : z_X9_counted_4B F S I k4 x0 x1 x2 = some X) (ls : Array Slot) (hl : lv_has ls 3 [(0, .ref (x0)), (1, .int (x1)), (2, .int (x2))]) : z_W p l e { frames := 0, cells := 0, slots := 0, locals := 0 } s m args below meth c D b0 S I 0 0 (MQ below (z_Q D b0 (some (.int (X))) S I) args s 0 0 (fun q => b0 ≤ q)) (F0 m 4 ls []) := by
  unfold z_X9_counted_4B at hz
  refine z_iload_n hC dX9_counted_4 rfl (lv_at hl 2 rfl) ?_
  refine z_aload_n hC dX9_counted_5 rfl (lv_at hl 0 rfl) ?_
  refine z_bipush (v := 8) hC dX9_counted_6 (by decide) ?_
  obtain ⟨hi1, hz⟩ := ifn_some hz
  refine z_iald hC dX9_counted_8 h_x0 hi1 ?_
  refine z_icmp_ge (tgt := 36) hC dX9_counted_9 (by decide) hz (fun hz => ?_) (fun hz => ?_)
  · skip
    refine z_iload_n hC dX9_counted_36 rfl (lv_at hl 1 rfl) ?_
    obtain rfl := Option.some.inj hz
    exact z_iret hC hT dX9_counted_37 (by decide) (by decide)
  · skip
    refine z_iload_n hC dX9_counted_12 rfl (lv_at hl 1 rfl) ?_
    refine z_aload_n hC dX9_counted_13 rfl (lv_at hl 0 rfl) ?_
    refine z_bipush (v := 9) hC dX9_counted_14 (by decide) ?_
    refine z_iload_n hC dX9_counted_16 rfl (lv_at hl 2 rfl) ?_
    refine z_iadd hC dX9_counted_17 ?_
    obtain ⟨hi2, hz⟩ := ifn_some hz
    refine z_iald hC dX9_counted_18 h_x0 hi2 ?_
    refine z_iconst (v := 2) hC dX9_counted_19 (by decide) ?_
    refine z_icmp_ne (tgt := 27) hC dX9_counted_20 (by decide) hz (fun hz => ?_) (fun hz => ?_)
    · skip
      refine z_iconst (v := 1) hC dX9_counted_27 (by decide) ?_
      exact b_X9_counted_28 hC hT k4 hk4 (x0) (x2) (x1) (1) h_x0 hz ls (lv_sub hl [0, 2] rfl)
    · skip
      refine z_iconst (v := 2) hC dX9_counted_23 (by decide) ?_
      refine z_goto (tgt := 28) hC dX9_counted_24 (by decide) ?_
      exact b_X9_counted_28 hC hT k4 hk4 (x0) (x2) (x1) (2) h_x0 hz ls (lv_sub hl [0, 2] rfl)
set_option maxRecDepth 100000 in
set_option maxHeartbeats 4000000 in
theorem b_X9_counted_4 {p : Program} {l : Launch} {e : Env} {s : State} {m : MethodId} {args : Array Value} {below : List Frame} {meth : Method} {c : Code} {D : zD} {b0 : Nat} {F : Nat} {S : zS} {I : zI} {X : Int32} (hC : z_C p s m args meth c cX9_counted RX9 3 (some .int) D) (hT : z_T b0 S)   : ∀ (n : Nat) (x0 : Nat) (x1 : Int32) (x2 : Int32), z_is b0 S x0 10 → z_X9_counted_4 F S I  n x0 x1 x2 = some X → ∀ ls : Array Slot, lv_has ls 3 [(0, .ref (x0)), (1, .int (x1)), (2, .int (x2))] → z_W p l e { frames := 0, cells := 0, slots := 0, locals := 0 } s m args below meth c D b0 S I 0 0 (MQ below (z_Q D b0 (some (.int (X))) S I) args s 0 0 (fun q => b0 ≤ q)) (F0 m 4 ls []) := by
  intro n
  induction n with
  | zero => intro x0 x1 x2 h_x0 hz; cases hz
  | succ n ih =>
    intro x0 x1 x2 h_x0 hz ls hl
    exact bb_X9_counted_4 (F := F) hC hT  (z_X9_counted_4 F S I  n)  ih x0 x1 x2 h_x0 hz ls hl
set_option maxRecDepth 100000 in
set_option maxHeartbeats 4000000 in
theorem c_X9_counted {l : Launch} {D : zD} {b0 : Nat} {S : zS} {I : zI} {X : Int32} (F : Nat) (x0 : Nat) (h_x0 : z_is b0 S x0 10) (hz : z_X9_counted F S I x0 = some X) : z_M l D b0 yX9_counted cX9_counted 3 (some .int) { frames := 0, cells := 0, slots := 0, locals := 0 } [.ref (x0)] S I (some (.int (X))) S I := by
  refine z_met (by decide) (Nat.le_of_ble_eq_true rfl) ?_
  intro p e s m below meth c hC hnm hT ls hl
  have hl : lv_has ls 3 [(0, .ref (x0))] := hl
  unfold z_X9_counted at hz
  refine z_iconst (v := 0) hC dX9_counted_0 (by decide) ?_
  refine z_istore_n (lv' := [(1, .int (0)), (0, .ref (x0))]) hC dX9_counted_1 rfl hl (by decide) rfl (fun ls hl => ?_)
  refine z_iconst (v := 0) hC dX9_counted_2 (by decide) ?_
  refine z_istore_n (lv' := [(2, .int (0)), (1, .int (0)), (0, .ref (x0))]) hC dX9_counted_3 rfl hl (by decide) rfl (fun ls hl => ?_)
  exact b_X9_counted_4 hC hT   F (x0) (0) (0) h_x0 hz ls (lv_sub hl [2, 1, 0] rfl)
theorem zy_X9_put : z_y yX9_put cX9_put 3 none 2 := ⟨kw_943, kw_8, by decide +kernel, by decide +kernel, by decide +kernel⟩
theorem zv_X9_put : Cond.instanceMethod yX9_put ∈ z_tbl ∧ Cond.selects RX9 yX9_put yX9_put ∈ z_tbl := ⟨kw_942, ks_47⟩
def z_X9_put_19 (F : Nat) (S : zS)  (x0 : Nat) (x1 : Int32) (x2 : Int32) (I : zI) : Option (zI) :=
  ob (S.1 x0 22) (fun r1 => if x1 < 0 ∨ (S.2.1 r1).2 ≤ x1.toNatClampNeg then none else (if (I r1 x1.toNatClampNeg) = 2 then (if (x1 + 1) < 0 ∨ (S.2.1 r1).2 ≤ (x1 + 1).toNatClampNeg then none else (if x1 < 0 ∨ (S.2.1 r1).2 ≤ x1.toNatClampNeg then none else (some (z_up (z_up I r1 (x1 + 1).toNatClampNeg 0) r1 x1.toNatClampNeg x2)))) else (if x1 < 0 ∨ (S.2.1 r1).2 ≤ x1.toNatClampNeg then none else (some (z_up I r1 x1.toNatClampNeg x2)))))
def z_X9_put (F : Nat) (S : zS) (I : zI) (x0 : Nat) (x1 : Int32) (x2 : Int32) : Option (zI) :=
  ob (S.1 x0 22) (fun r1 => if x1 < 0 ∨ (S.2.1 r1).2 ≤ x1.toNatClampNeg then none else (if (I r1 x1.toNatClampNeg) = 3 then (if (x1 - 1) < 0 ∨ (S.2.1 r1).2 ≤ (x1 - 1).toNatClampNeg then none else (z_X9_put_19 F S  (x0) (x1) (x2) (z_up I r1 (x1 - 1).toNatClampNeg 0))) else (z_X9_put_19 F S  (x0) (x1) (x2) (I))))
set_option maxRecDepth 100000 in
set_option maxHeartbeats 4000000 in
theorem b_X9_put_19 {p : Program} {l : Launch} {e : Env} {s : State} {m : MethodId} {args : Array Value} {below : List Frame} {meth : Method} {c : Code} {D : zD} {b0 : Nat} {F : Nat} {S : zS} {X : zI} (hC : z_C p s m args meth c cX9_put RX9 3 none D) (hT : z_T b0 S)   (x0 : Nat) (x1 : Int32) (x2 : Int32) (I : zI) (h_x0 : z_is b0 S x0 9) (hz : z_X9_put_19 F S  x0 x1 x2 I = some X) (ls : Array Slot) (hl : lv_has ls 3 [(0, .ref (x0)), (1, .int (x1)), (2, .int (x2))]) : z_W p l e { frames := 0, cells := 0, slots := 0, locals := 0 } s m args below meth c D b0 S I 0 0 (MQ below (z_Q D b0 none S X) args s 0 0 (fun q => b0 ≤ q)) (F0 m 19 ls []) := by
  unfold z_X9_put_19 at hz
  refine z_aload_n hC dX9_put_19 rfl (lv_at hl 0 rfl) ?_
  obtain ⟨r1, hr_r1, hz⟩ := ob_some hz
  have hk_r1 : z_is b0 S r1 10 := hT.at h_x0 hr_r1
  refine z_getR hC zc_9 22 (by decide) kw_759 dX9_put_20 h_x0 rfl hr_r1 ?_
  refine z_iload_n hC dX9_put_23 rfl (lv_at hl 1 rfl) ?_
  obtain ⟨hi2, hz⟩ := ifn_some hz
  refine z_iald hC dX9_put_24 hk_r1 hi2 ?_
  refine z_iconst (v := 2) hC dX9_put_25 (by decide) ?_
  refine z_icmp_ne (tgt := 38) hC dX9_put_26 (by decide) hz (fun hz => ?_) (fun hz => ?_)
  · skip
    refine z_aload_n hC dX9_put_38 rfl (lv_at hl 0 rfl) ?_
    refine z_getR hC zc_9 22 (by decide) kw_759 dX9_put_39 h_x0 rfl hr_r1 ?_
    refine z_iload_n hC dX9_put_42 rfl (lv_at hl 1 rfl) ?_
    refine z_iload_n hC dX9_put_43 rfl (lv_at hl 2 rfl) ?_
    obtain ⟨hi3, hz⟩ := ifn_some hz
    refine z_iast hC dX9_put_44 hk_r1 hi3 ?_
    obtain rfl := Option.some.inj hz
    exact z_vret hC hT dX9_put_45 (by decide) (by decide)
  · skip
    refine z_aload_n hC dX9_put_29 rfl (lv_at hl 0 rfl) ?_
    refine z_getR hC zc_9 22 (by decide) kw_759 dX9_put_30 h_x0 rfl hr_r1 ?_
    refine z_iload_n hC dX9_put_33 rfl (lv_at hl 1 rfl) ?_
    refine z_iconst (v := 1) hC dX9_put_34 (by decide) ?_
    refine z_iadd hC dX9_put_35 ?_
    refine z_iconst (v := 0) hC dX9_put_36 (by decide) ?_
    obtain ⟨hi4, hz⟩ := ifn_some hz
    refine z_iast hC dX9_put_37 hk_r1 hi4 ?_
    refine z_aload_n hC dX9_put_38 rfl (lv_at hl 0 rfl) ?_
    refine z_getR hC zc_9 22 (by decide) kw_759 dX9_put_39 h_x0 rfl hr_r1 ?_
    refine z_iload_n hC dX9_put_42 rfl (lv_at hl 1 rfl) ?_
    refine z_iload_n hC dX9_put_43 rfl (lv_at hl 2 rfl) ?_
    obtain ⟨hi5, hz⟩ := ifn_some hz
    refine z_iast hC dX9_put_44 hk_r1 hi5 ?_
    obtain rfl := Option.some.inj hz
    exact z_vret hC hT dX9_put_45 (by decide) (by decide)
set_option maxRecDepth 100000 in
set_option maxHeartbeats 4000000 in
theorem c_X9_put {l : Launch} {D : zD} {b0 : Nat} {S : zS} {I : zI} {X : zI} (F : Nat) (x0 : Nat) (x1 : Int32) (x2 : Int32) (h_x0 : z_is b0 S x0 9) (hz : z_X9_put F S I x0 x1 x2 = some X) : z_M l D b0 yX9_put cX9_put 3 none { frames := 0, cells := 0, slots := 0, locals := 0 } [.ref (x0), .int (x1), .int (x2)] S I none S X := by
  refine z_met (by decide) (Nat.le_of_ble_eq_true rfl) ?_
  intro p e s m below meth c hC hnm hT ls hl
  have hl : lv_has ls 3 [(0, .ref (x0)), (1, .int (x1)), (2, .int (x2))] := hl
  unfold z_X9_put at hz
  refine z_aload_n hC dX9_put_0 rfl (lv_at hl 0 rfl) ?_
  obtain ⟨r1, hr_r1, hz⟩ := ob_some hz
  have hk_r1 : z_is b0 S r1 10 := hT.at h_x0 hr_r1
  refine z_getR hC zc_9 22 (by decide) kw_759 dX9_put_1 h_x0 rfl hr_r1 ?_
  refine z_iload_n hC dX9_put_4 rfl (lv_at hl 1 rfl) ?_
  obtain ⟨hi2, hz⟩ := ifn_some hz
  refine z_iald hC dX9_put_5 hk_r1 hi2 ?_
  refine z_iconst (v := 3) hC dX9_put_6 (by decide) ?_
  refine z_icmp_ne (tgt := 19) hC dX9_put_7 (by decide) hz (fun hz => ?_) (fun hz => ?_)
  · skip
    exact b_X9_put_19 hC hT   (x0) (x1) (x2) (I) h_x0 hz ls (lv_sub hl [0, 1, 2] rfl)
  · skip
    refine z_aload_n hC dX9_put_10 rfl (lv_at hl 0 rfl) ?_
    refine z_getR hC zc_9 22 (by decide) kw_759 dX9_put_11 h_x0 rfl hr_r1 ?_
    refine z_iload_n hC dX9_put_14 rfl (lv_at hl 1 rfl) ?_
    refine z_iconst (v := 1) hC dX9_put_15 (by decide) ?_
    refine z_isub hC dX9_put_16 ?_
    refine z_iconst (v := 0) hC dX9_put_17 (by decide) ?_
    obtain ⟨hi3, hz⟩ := ifn_some hz
    refine z_iast hC dX9_put_18 hk_r1 hi3 ?_
    exact b_X9_put_19 hC hT   (x0) (x1) (x2) (z_up I r1 (x1 - 1).toNatClampNeg 0) h_x0 hz ls (lv_sub hl [0, 1, 2] rfl)
theorem zy_X9_placeActs : z_y yX9_placeActs cX9_placeActs 4 none 2 := ⟨kw_931, kw_8, by decide +kernel, by decide +kernel, by decide +kernel⟩
theorem zv_X9_placeActs : Cond.instanceMethod yX9_placeActs ∈ z_tbl ∧ Cond.selects RX9 yX9_placeActs yX9_placeActs ∈ z_tbl := ⟨kw_930, ks_44⟩
def z_X9_placeActs_52 (F : Nat) (S : zS)  (x0 : Nat) (x2 : Int32) (I : zI) : Option (zI) :=
  ob (S.1 x0 22) (fun r1 => if x2 < 0 ∨ (S.2.1 r1).2 ≤ x2.toNatClampNeg then none else (ob (z_X9_push F S I x0 (I r1 x2.toNatClampNeg)) (fun q3 => some (q3))))
def z_X9_placeActs_46 (F : Nat) (S : zS)  (x0 : Nat) (x2 : Int32) (I : zI) : Option (zI) :=
  ob (z_X9_fails F S I x0 7) (fun q1 => z_X9_placeActs_52 F S  (x0) (x2) (q1))
def z_X9_placeActs_128 (F : Nat) (S : zS)  (x0 : Nat) (x2 : Int32) (x3 : Int32) (I : zI) : Option (zI) :=
  if (I x0 24) = 0 then (ob (z_X9_put F S I x0 x2 x3) (fun q1 => if x3 = 2 then (ob (z_X9_put F S q1 x0 (x2 + 1) 3) (fun q2 => ob (S.1 x0 22) (fun r3 => if x2 < 0 ∨ (S.2.1 r3).2 ≤ x2.toNatClampNeg then none else (some (z_up q2 r3 x2.toNatClampNeg 2))))) else (some (q1)))) else (some (I))
def z_X9_placeActs (F : Nat) (S : zS) (I : zI) (x0 : Nat) (x1 : Int32) (x2 : Int32) : Option (zI) :=
  ob (S.1 x0 3) (fun r1 => if (I x0 21) < 0 ∨ (S.2.1 r1).2 ≤ (I x0 21).toNatClampNeg then none else (if x2 < (I r1 (I x0 21).toNatClampNeg) then (if x1 = 3 then (ob (S.1 x0 22) (fun r9 => if x2 < 0 ∨ (S.2.1 r9).2 ≤ x2.toNatClampNeg then none else (if (I r9 x2.toNatClampNeg) = 0 then (z_X9_placeActs_46 F S  (x0) (x2) (I)) else (if x2 < 0 ∨ (S.2.1 r9).2 ≤ x2.toNatClampNeg then none else (if (I r9 x2.toNatClampNeg) = 3 then (z_X9_placeActs_46 F S  (x0) (x2) (I)) else (z_X9_placeActs_52 F S  (x0) (x2) (I))))))) else (if x1 = 20 then (ob (S.1 x0 22) (fun r6 => if x2 < 0 ∨ (S.2.1 r6).2 ≤ x2.toNatClampNeg then none else (if (I r6 x2.toNatClampNeg) = 1 then (some (I)) else (ob (z_X9_fails F S I x0 7) (fun q8 => some (q8)))))) else (ob (z_X9_pop F S I x0) (fun q3 => if ((q3.2) x0 24) = 0 then (if (q3.1) = 2 then (if ((q3.2) x0 21) < 0 ∨ (S.2.1 r1).2 ≤ ((q3.2) x0 21).toNatClampNeg then none else (if (x2 + 1) < ((q3.2) r1 ((q3.2) x0 21).toNatClampNeg) then (z_X9_placeActs_128 F S  (x0) (x2) (q3.1) (q3.2)) else (ob (z_X9_fails F S (q3.2) x0 7) (fun q5 => z_X9_placeActs_128 F S  (x0) (x2) (q3.1) (q5))))) else (z_X9_placeActs_128 F S  (x0) (x2) (q3.1) (q3.2))) else (z_X9_placeActs_128 F S  (x0) (x2) (q3.1) (q3.2)))))) else (ob (z_X9_fails F S I x0 7) (fun q12 => some (q12)))))
set_option maxRecDepth 100000 in
set_option maxHeartbeats 4000000 in
theorem b_X9_placeActs_52 {p : Program} {l : Launch} {e : Env} {s : State} {m : MethodId} {args : Array Value} {below : List Frame} {meth : Method} {c : Code} {D : zD} {b0 : Nat} {F : Nat} {S : zS} {X : zI} (hC : z_C p s m args meth c cX9_placeActs RX9 4 none D) (hT : z_T b0 S)   (x0 : Nat) (x2 : Int32) (I : zI) (h_x0 : z_is b0 S x0 9) (hz : z_X9_placeActs_52 F S  x0 x2 I = some X) (ls : Array Slot) (hl : lv_has ls 4 [(0, .ref (x0)), (2, .int (x2))]) : z_W p l e { frames := 2, cells := 0, slots := 0, locals := 42 } s m args below meth c D b0 S I 0 0 (MQ below (z_Q D b0 none S X) args s 0 0 (fun q => b0 ≤ q)) (F0 m 52 ls []) := by
  unfold z_X9_placeActs_52 at hz
  refine z_aload_n hC dX9_placeActs_52 rfl (lv_at hl 0 rfl) ?_
  refine z_aload_n hC dX9_placeActs_53 rfl (lv_at hl 0 rfl) ?_
  obtain ⟨r1, hr_r1, hz⟩ := ob_some hz
  have hk_r1 : z_is b0 S r1 10 := hT.at h_x0 hr_r1
  refine z_getR hC zc_9 22 (by decide) kw_759 dX9_placeActs_54 h_x0 rfl hr_r1 ?_
  refine z_iload_n hC dX9_placeActs_57 rfl (lv_at hl 1 rfl) ?_
  obtain ⟨hi2, hz⟩ := ifn_some hz
  refine z_iald hC dX9_placeActs_58 hk_r1 hi2 ?_
  obtain ⟨q3, hq_q3, hz⟩ := ob_some hz
  refine z_callV (As := [.int (I r1 x2.toNatClampNeg)]) hC hT (c_X9_push F x0 (I r1 x2.toNatClampNeg) h_x0 hq_q3) zy_X9_push zc_9 zv_X9_push kw_924 dX9_placeActs_59 h_x0 rfl rfl hl.1 (Nat.le_of_ble_eq_true rfl) (by decide) (by decide) ?_
  refine z_goto (tgt := 161) hC dX9_placeActs_62 (by decide) ?_
  obtain rfl := Option.some.inj hz
  exact z_vret hC hT dX9_placeActs_161 (by decide) (by decide)
set_option maxRecDepth 100000 in
set_option maxHeartbeats 4000000 in
theorem b_X9_placeActs_46 {p : Program} {l : Launch} {e : Env} {s : State} {m : MethodId} {args : Array Value} {below : List Frame} {meth : Method} {c : Code} {D : zD} {b0 : Nat} {F : Nat} {S : zS} {X : zI} (hC : z_C p s m args meth c cX9_placeActs RX9 4 none D) (hT : z_T b0 S)   (x0 : Nat) (x2 : Int32) (I : zI) (h_x0 : z_is b0 S x0 9) (hz : z_X9_placeActs_46 F S  x0 x2 I = some X) (ls : Array Slot) (hl : lv_has ls 4 [(0, .ref (x0)), (2, .int (x2))]) : z_W p l e { frames := 2, cells := 0, slots := 0, locals := 42 } s m args below meth c D b0 S I 0 0 (MQ below (z_Q D b0 none S X) args s 0 0 (fun q => b0 ≤ q)) (F0 m 46 ls []) := by
  unfold z_X9_placeActs_46 at hz
  refine z_aload_n hC dX9_placeActs_46 rfl (lv_at hl 0 rfl) ?_
  refine z_bipush (v := 7) hC dX9_placeActs_47 (by decide) ?_
  obtain ⟨q1, hq_q1, hz⟩ := ob_some hz
  refine z_callV (As := [.int (7)]) hC hT (c_X9_fails F x0 7 h_x0 hq_q1) zy_X9_fails zc_9 zv_X9_fails kw_908 dX9_placeActs_49 h_x0 rfl rfl hl.1 (Nat.le_of_ble_eq_true rfl) (by decide) (by decide) ?_
  exact b_X9_placeActs_52 hC hT   (x0) (x2) (q1) h_x0 hz ls (lv_sub hl [0, 1] rfl)
set_option maxRecDepth 100000 in
set_option maxHeartbeats 4000000 in
theorem b_X9_placeActs_128 {p : Program} {l : Launch} {e : Env} {s : State} {m : MethodId} {args : Array Value} {below : List Frame} {meth : Method} {c : Code} {D : zD} {b0 : Nat} {F : Nat} {S : zS} {X : zI} (hC : z_C p s m args meth c cX9_placeActs RX9 4 none D) (hT : z_T b0 S)   (x0 : Nat) (x2 : Int32) (x3 : Int32) (I : zI) (h_x0 : z_is b0 S x0 9) (hz : z_X9_placeActs_128 F S  x0 x2 x3 I = some X) (ls : Array Slot) (hl : lv_has ls 4 [(0, .ref (x0)), (2, .int (x2)), (3, .int (x3))]) : z_W p l e { frames := 2, cells := 0, slots := 0, locals := 42 } s m args below meth c D b0 S I 0 0 (MQ below (z_Q D b0 none S X) args s 0 0 (fun q => b0 ≤ q)) (F0 m 128 ls []) := by
  unfold z_X9_placeActs_128 at hz
  refine z_aload_n hC dX9_placeActs_128 rfl (lv_at hl 0 rfl) ?_
  refine z_getI hC zc_9 24 (by decide) kw_761 dX9_placeActs_129 h_x0 rfl ?_
  refine z_if_ne (tgt := 161) hC dX9_placeActs_132 (by decide) hz (fun hz => ?_) (fun hz => ?_)
  · skip
    obtain rfl := Option.some.inj hz
    exact z_vret hC hT dX9_placeActs_161 (by decide) (by decide)
  · skip
    refine z_aload_n hC dX9_placeActs_135 rfl (lv_at hl 0 rfl) ?_
    refine z_iload_n hC dX9_placeActs_136 rfl (lv_at hl 1 rfl) ?_
    refine z_iload_n hC dX9_placeActs_137 rfl (lv_at hl 2 rfl) ?_
    obtain ⟨q1, hq_q1, hz⟩ := ob_some hz
    refine z_callV (As := [.int (x2), .int (x3)]) hC hT (c_X9_put F x0 x2 x3 h_x0 hq_q1) zy_X9_put zc_9 zv_X9_put kw_940 dX9_placeActs_138 h_x0 rfl rfl hl.1 (Nat.le_of_ble_eq_true rfl) (by decide) (by decide) ?_
    refine z_iload_n hC dX9_placeActs_141 rfl (lv_at hl 2 rfl) ?_
    refine z_iconst (v := 2) hC dX9_placeActs_142 (by decide) ?_
    refine z_icmp_ne (tgt := 161) hC dX9_placeActs_143 (by decide) hz (fun hz => ?_) (fun hz => ?_)
    · skip
      obtain rfl := Option.some.inj hz
      exact z_vret hC hT dX9_placeActs_161 (by decide) (by decide)
    · skip
      refine z_aload_n hC dX9_placeActs_146 rfl (lv_at hl 0 rfl) ?_
      refine z_iload_n hC dX9_placeActs_147 rfl (lv_at hl 1 rfl) ?_
      refine z_iconst (v := 1) hC dX9_placeActs_148 (by decide) ?_
      refine z_iadd hC dX9_placeActs_149 ?_
      refine z_iconst (v := 3) hC dX9_placeActs_150 (by decide) ?_
      obtain ⟨q2, hq_q2, hz⟩ := ob_some hz
      refine z_callV (As := [.int (x2 + 1), .int (3)]) hC hT (c_X9_put F x0 (x2 + 1) 3 h_x0 hq_q2) zy_X9_put zc_9 zv_X9_put kw_940 dX9_placeActs_151 h_x0 rfl rfl hl.1 (Nat.le_of_ble_eq_true rfl) (by decide) (by decide) ?_
      refine z_aload_n hC dX9_placeActs_154 rfl (lv_at hl 0 rfl) ?_
      obtain ⟨r3, hr_r3, hz⟩ := ob_some hz
      have hk_r3 : z_is b0 S r3 10 := hT.at h_x0 hr_r3
      refine z_getR hC zc_9 22 (by decide) kw_759 dX9_placeActs_155 h_x0 rfl hr_r3 ?_
      refine z_iload_n hC dX9_placeActs_158 rfl (lv_at hl 1 rfl) ?_
      refine z_iconst (v := 2) hC dX9_placeActs_159 (by decide) ?_
      obtain ⟨hi4, hz⟩ := ifn_some hz
      refine z_iast hC dX9_placeActs_160 hk_r3 hi4 ?_
      obtain rfl := Option.some.inj hz
      exact z_vret hC hT dX9_placeActs_161 (by decide) (by decide)
set_option maxRecDepth 100000 in
set_option maxHeartbeats 4000000 in
theorem c_X9_placeActs {l : Launch} {D : zD} {b0 : Nat} {S : zS} {I : zI} {X : zI} (F : Nat) (x0 : Nat) (x1 : Int32) (x2 : Int32) (h_x0 : z_is b0 S x0 9) (hz : z_X9_placeActs F S I x0 x1 x2 = some X) : z_M l D b0 yX9_placeActs cX9_placeActs 4 none { frames := 2, cells := 0, slots := 0, locals := 42 } [.ref (x0), .int (x1), .int (x2)] S I none S X := by
  refine z_met (by decide) (Nat.le_of_ble_eq_true rfl) ?_
  intro p e s m below meth c hC hnm hT ls hl
  have hl : lv_has ls 4 [(0, .ref (x0)), (1, .int (x1)), (2, .int (x2))] := hl
  unfold z_X9_placeActs at hz
  refine z_iload_n hC dX9_placeActs_0 rfl (lv_at hl 2 rfl) ?_
  refine z_aload_n hC dX9_placeActs_1 rfl (lv_at hl 0 rfl) ?_
  obtain ⟨r1, hr_r1, hz⟩ := ob_some hz
  have hk_r1 : z_is b0 S r1 10 := hT.at h_x0 hr_r1
  refine z_getR hC zc_9 3 (by decide) kw_740 dX9_placeActs_2 h_x0 rfl hr_r1 ?_
  refine z_aload_n hC dX9_placeActs_5 rfl (lv_at hl 0 rfl) ?_
  refine z_getI hC zc_9 21 (by decide) kw_758 dX9_placeActs_6 h_x0 rfl ?_
  obtain ⟨hi2, hz⟩ := ifn_some hz
  refine z_iald hC dX9_placeActs_9 hk_r1 hi2 ?_
  refine z_icmp_lt (tgt := 22) hC dX9_placeActs_10 (by decide) hz (fun hz => ?_) (fun hz => ?_)
  · skip
    refine z_iload_n hC dX9_placeActs_22 rfl (lv_at hl 1 rfl) ?_
    refine z_iconst (v := 3) hC dX9_placeActs_23 (by decide) ?_
    refine z_icmp_ne (tgt := 65) hC dX9_placeActs_24 (by decide) hz (fun hz => ?_) (fun hz => ?_)
    · skip
      refine z_iload_n hC dX9_placeActs_65 rfl (lv_at hl 1 rfl) ?_
      refine z_bipush (v := 20) hC dX9_placeActs_66 (by decide) ?_
      refine z_icmp_ne (tgt := 90) hC dX9_placeActs_68 (by decide) hz (fun hz => ?_) (fun hz => ?_)
      · skip
        refine z_aload_n hC dX9_placeActs_90 rfl (lv_at hl 0 rfl) ?_
        obtain ⟨q3, hq_q3, hz⟩ := ob_some hz
        refine z_callV (As := []) hC hT (c_X9_pop F x0 h_x0 hq_q3) zy_X9_pop zc_9 zv_X9_pop kw_932 dX9_placeActs_91 h_x0 rfl rfl hl.1 (Nat.le_of_ble_eq_true rfl) (by decide) (by decide) ?_
        refine z_istore_n (lv' := [(3, .int (q3.1)), (0, .ref (x0)), (1, .int (x1)), (2, .int (x2))]) hC dX9_placeActs_94 rfl hl (by decide) rfl (fun ls hl => ?_)
        refine z_aload_n hC dX9_placeActs_95 rfl (lv_at hl 1 rfl) ?_
        refine z_getI hC zc_9 24 (by decide) kw_761 dX9_placeActs_96 h_x0 rfl ?_
        refine z_if_ne (tgt := 128) hC dX9_placeActs_99 (by decide) hz (fun hz => ?_) (fun hz => ?_)
        · skip
          exact b_X9_placeActs_128 hC hT   (x0) (x2) (q3.1) (q3.2) h_x0 hz ls (lv_sub hl [1, 3, 0] rfl)
        · skip
          refine z_iload_n hC dX9_placeActs_102 rfl (lv_at hl 0 rfl) ?_
          refine z_iconst (v := 2) hC dX9_placeActs_103 (by decide) ?_
          refine z_icmp_ne (tgt := 128) hC dX9_placeActs_104 (by decide) hz (fun hz => ?_) (fun hz => ?_)
          · skip
            exact b_X9_placeActs_128 hC hT   (x0) (x2) (q3.1) (q3.2) h_x0 hz ls (lv_sub hl [1, 3, 0] rfl)
          · skip
            refine z_iload_n hC dX9_placeActs_107 rfl (lv_at hl 3 rfl) ?_
            refine z_iconst (v := 1) hC dX9_placeActs_108 (by decide) ?_
            refine z_iadd hC dX9_placeActs_109 ?_
            refine z_aload_n hC dX9_placeActs_110 rfl (lv_at hl 1 rfl) ?_
            refine z_getR hC zc_9 3 (by decide) kw_740 dX9_placeActs_111 h_x0 rfl hr_r1 ?_
            refine z_aload_n hC dX9_placeActs_114 rfl (lv_at hl 1 rfl) ?_
            refine z_getI hC zc_9 21 (by decide) kw_758 dX9_placeActs_115 h_x0 rfl ?_
            obtain ⟨hi4, hz⟩ := ifn_some hz
            refine z_iald hC dX9_placeActs_118 hk_r1 hi4 ?_
            refine z_icmp_lt (tgt := 128) hC dX9_placeActs_119 (by decide) hz (fun hz => ?_) (fun hz => ?_)
            · skip
              exact b_X9_placeActs_128 hC hT   (x0) (x2) (q3.1) (q3.2) h_x0 hz ls (lv_sub hl [1, 3, 0] rfl)
            · skip
              refine z_aload_n hC dX9_placeActs_122 rfl (lv_at hl 1 rfl) ?_
              refine z_bipush (v := 7) hC dX9_placeActs_123 (by decide) ?_
              obtain ⟨q5, hq_q5, hz⟩ := ob_some hz
              refine z_callV (As := [.int (7)]) hC hT (c_X9_fails F x0 7 h_x0 hq_q5) zy_X9_fails zc_9 zv_X9_fails kw_908 dX9_placeActs_125 h_x0 rfl rfl hl.1 (Nat.le_of_ble_eq_true rfl) (by decide) (by decide) ?_
              exact b_X9_placeActs_128 hC hT   (x0) (x2) (q3.1) (q5) h_x0 hz ls (lv_sub hl [1, 3, 0] rfl)
      · skip
        refine z_aload_n hC dX9_placeActs_71 rfl (lv_at hl 0 rfl) ?_
        obtain ⟨r6, hr_r6, hz⟩ := ob_some hz
        have hk_r6 : z_is b0 S r6 10 := hT.at h_x0 hr_r6
        refine z_getR hC zc_9 22 (by decide) kw_759 dX9_placeActs_72 h_x0 rfl hr_r6 ?_
        refine z_iload_n hC dX9_placeActs_75 rfl (lv_at hl 2 rfl) ?_
        obtain ⟨hi7, hz⟩ := ifn_some hz
        refine z_iald hC dX9_placeActs_76 hk_r6 hi7 ?_
        refine z_iconst (v := 1) hC dX9_placeActs_77 (by decide) ?_
        refine z_icmp_eq (tgt := 161) hC dX9_placeActs_78 (by decide) hz (fun hz => ?_) (fun hz => ?_)
        · skip
          obtain rfl := Option.some.inj hz
          exact z_vret hC hT dX9_placeActs_161 (by decide) (by decide)
        · skip
          refine z_aload_n hC dX9_placeActs_81 rfl (lv_at hl 0 rfl) ?_
          refine z_bipush (v := 7) hC dX9_placeActs_82 (by decide) ?_
          obtain ⟨q8, hq_q8, hz⟩ := ob_some hz
          refine z_callV (As := [.int (7)]) hC hT (c_X9_fails F x0 7 h_x0 hq_q8) zy_X9_fails zc_9 zv_X9_fails kw_908 dX9_placeActs_84 h_x0 rfl rfl hl.1 (Nat.le_of_ble_eq_true rfl) (by decide) (by decide) ?_
          refine z_goto (tgt := 161) hC dX9_placeActs_87 (by decide) ?_
          obtain rfl := Option.some.inj hz
          exact z_vret hC hT dX9_placeActs_161 (by decide) (by decide)
    · skip
      refine z_aload_n hC dX9_placeActs_27 rfl (lv_at hl 0 rfl) ?_
      obtain ⟨r9, hr_r9, hz⟩ := ob_some hz
      have hk_r9 : z_is b0 S r9 10 := hT.at h_x0 hr_r9
      refine z_getR hC zc_9 22 (by decide) kw_759 dX9_placeActs_28 h_x0 rfl hr_r9 ?_
      refine z_iload_n hC dX9_placeActs_31 rfl (lv_at hl 2 rfl) ?_
      obtain ⟨hi10, hz⟩ := ifn_some hz
      refine z_iald hC dX9_placeActs_32 hk_r9 hi10 ?_
      refine z_if_eq (tgt := 46) hC dX9_placeActs_33 (by decide) hz (fun hz => ?_) (fun hz => ?_)
      · skip
        exact b_X9_placeActs_46 hC hT   (x0) (x2) (I) h_x0 hz ls (lv_sub hl [0, 2] rfl)
      · skip
        refine z_aload_n hC dX9_placeActs_36 rfl (lv_at hl 0 rfl) ?_
        refine z_getR hC zc_9 22 (by decide) kw_759 dX9_placeActs_37 h_x0 rfl hr_r9 ?_
        refine z_iload_n hC dX9_placeActs_40 rfl (lv_at hl 2 rfl) ?_
        obtain ⟨hi11, hz⟩ := ifn_some hz
        refine z_iald hC dX9_placeActs_41 hk_r9 hi11 ?_
        refine z_iconst (v := 3) hC dX9_placeActs_42 (by decide) ?_
        refine z_icmp_ne (tgt := 52) hC dX9_placeActs_43 (by decide) hz (fun hz => ?_) (fun hz => ?_)
        · skip
          exact b_X9_placeActs_52 hC hT   (x0) (x2) (I) h_x0 hz ls (lv_sub hl [0, 2] rfl)
        · skip
          exact b_X9_placeActs_46 hC hT   (x0) (x2) (I) h_x0 hz ls (lv_sub hl [0, 2] rfl)
  · skip
    refine z_aload_n hC dX9_placeActs_13 rfl (lv_at hl 0 rfl) ?_
    refine z_bipush (v := 7) hC dX9_placeActs_14 (by decide) ?_
    obtain ⟨q12, hq_q12, hz⟩ := ob_some hz
    refine z_callV (As := [.int (7)]) hC hT (c_X9_fails F x0 7 h_x0 hq_q12) zy_X9_fails zc_9 zv_X9_fails kw_908 dX9_placeActs_16 h_x0 rfl rfl hl.1 (Nat.le_of_ble_eq_true rfl) (by decide) (by decide) ?_
    refine z_goto (tgt := 161) hC dX9_placeActs_19 (by decide) ?_
    obtain rfl := Option.some.inj hz
    exact z_vret hC hT dX9_placeActs_161 (by decide) (by decide)
theorem zy_X9_make : z_y yX9_make cX9_make 4 none 1 := ⟨kw_955, kw_8, by decide +kernel, by decide +kernel, by decide +kernel⟩
theorem zv_X9_make : Cond.instanceMethod yX9_make ∈ z_tbl ∧ Cond.selects RX9 yX9_make yX9_make ∈ z_tbl := ⟨kw_954, ks_50⟩
def z_X9_make_47B (F : Nat) (S : zS) (k47 : Nat → Int32 → Int32 → Int32 → zI → Option (zI)) (x0 : Nat) (x1 : Int32) (x2 : Int32) (x3 : Int32) (I : zI) : Option (zI) :=
  ob (S.1 x0 22) (fun r1 => if (8 : Int32) < 0 ∨ (S.2.1 r1).2 ≤ (8 : Int32).toNatClampNeg then none else (if x3 < (9 + (I r1 (8 : Int32).toNatClampNeg)) then (if (I x0 24) = 0 then (if x3 = 8 then (k47 (x0) (x1) (x2) (x3 + 1) (I)) else (if x3 < 0 ∨ (S.2.1 r1).2 ≤ x3.toNatClampNeg then none else (if (I r1 x3.toNatClampNeg) = x2 then (if x3 < 0 ∨ (S.2.1 r1).2 ≤ x3.toNatClampNeg then none else (k47 (x0) (x1) (x2) (x3 + 1) (z_up I r1 x3.toNatClampNeg (10 + x1)))) else (k47 (x0) (x1) (x2) (x3 + 1) (I))))) else (some (I))) else (some (I))))
def z_X9_make_47 (F : Nat) (S : zS)  : Nat → Nat → Int32 → Int32 → Int32 → zI → Option (zI)
  | 0 => fun _ _ _ _ _ => none
  | n + 1 => fun x0 x1 x2 x3 I => z_X9_make_47B F S  (z_X9_make_47 F S  n) x0 x1 x2 x3 I
def z_X9_make_40 (F : Nat) (S : zS)  (x0 : Nat) (x1 : Int32) (x2 : Int32) (I : zI) : Option (zI) :=
  ob (z_X9_fails F S I x0 2) (fun q1 => z_X9_make_47 F S  F (x0) (x1) (x2) (0) (q1))
def z_X9_make (F : Nat) (S : zS) (I : zI) (x0 : Nat) (x1 : Int32) : Option (zI) :=
  ob (z_X9_pop F S I x0) (fun q1 => if ((q1.2) x0 24) = 0 then (ob (z_X9_isUnmade F S (q1.2) (q1.1)) (fun q2 => if q2 = 0 then (z_X9_make_40 F S  (x0) (x1) (q1.1) (q1.2)) else (ob (S.1 x0 8) (fun r3 => if (((40 * ((q1.2) x0 21)) + (q1.1)) - 100) < 0 ∨ (S.2.1 r3).2 ≤ (((40 * ((q1.2) x0 21)) + (q1.1)) - 100).toNatClampNeg then none else (if ((q1.2) r3 (((40 * ((q1.2) x0 21)) + (q1.1)) - 100).toNatClampNeg) = x1 then (z_X9_make_47 F S  F (x0) (x1) (q1.1) (0) (q1.2)) else (z_X9_make_40 F S  (x0) (x1) (q1.1) (q1.2))))))) else (z_X9_make_47 F S  F (x0) (x1) (q1.1) (0) (q1.2)))
set_option maxRecDepth 100000 in
set_option maxHeartbeats 4000000 in
theorem bb_X9_make_47 {p : Program} {l : Launch} {e : Env} {s : State} {m : MethodId} {args : Array Value} {below : List Frame} {meth : Method} {c : Code} {D : zD} {b0 : Nat} {F : Nat} {S : zS} {X : zI} (hC : z_C p s m args meth c cX9_make RX9 4 none D) (hT : z_T b0 S) (k47 : Nat → Int32 → Int32 → Int32 → zI → Option (zI)) (hk47 : ∀ (x0 : Nat) (x1 : Int32) (x2 : Int32) (x3 : Int32) (I : zI) , z_is b0 S x0 9 → k47 x0 x1 x2 x3 I = some X → ∀ ls : Array Slot, lv_has ls 4 [(0, .ref (x0)), (1, .int (x1)), (2, .int (x2)), (3, .int (x3))] → z_W p l e { frames := 2, cells := 0, slots := 0, locals := 42 } s m args below meth c D b0 S I 0 0 (MQ below (z_Q D b0 none S X) args s 0 0 (fun q => b0 ≤ q)) (F0 m 47 ls [])) (x0 : Nat) (x1 : Int32) (x2 : Int32) (x3 : Int32) (I : zI) (h_x0 : z_is b0 S x0 9) (hz : z_X9_make_47B F S k47 x0 x1 x2 x3 I = some X) (ls : Array Slot) (hl : lv_has ls 4 [(0, .ref (x0)), (1, .int (x1)), (2, .int (x2)), (3, .int (x3))]) : z_W p l e { frames := 2, cells := 0, slots := 0, locals := 42 } s m args below meth c D b0 S I 0 0 (MQ below (z_Q D b0 none S X) args s 0 0 (fun q => b0 ≤ q)) (F0 m 47 ls []) := by
  unfold z_X9_make_47B at hz
  refine z_iload_n hC dX9_make_47 rfl (lv_at hl 3 rfl) ?_
  refine z_bipush (v := 9) hC dX9_make_48 (by decide) ?_
  refine z_aload_n hC dX9_make_50 rfl (lv_at hl 0 rfl) ?_
  obtain ⟨r1, hr_r1, hz⟩ := ob_some hz
  have hk_r1 : z_is b0 S r1 10 := hT.at h_x0 hr_r1
  refine z_getR hC zc_9 22 (by decide) kw_759 dX9_make_51 h_x0 rfl hr_r1 ?_
  refine z_bipush (v := 8) hC dX9_make_54 (by decide) ?_
  obtain ⟨hi2, hz⟩ := ifn_some hz
  refine z_iald hC dX9_make_56 hk_r1 hi2 ?_
  refine z_iadd hC dX9_make_57 ?_
  refine z_icmp_ge (tgt := 100) hC dX9_make_58 (by decide) hz (fun hz => ?_) (fun hz => ?_)
  · skip
    obtain rfl := Option.some.inj hz
    exact z_vret hC hT dX9_make_100 (by decide) (by decide)
  · skip
    refine z_aload_n hC dX9_make_61 rfl (lv_at hl 0 rfl) ?_
    refine z_getI hC zc_9 24 (by decide) kw_761 dX9_make_62 h_x0 rfl ?_
    refine z_if_ne (tgt := 100) hC dX9_make_65 (by decide) hz (fun hz => ?_) (fun hz => ?_)
    · skip
      obtain rfl := Option.some.inj hz
      exact z_vret hC hT dX9_make_100 (by decide) (by decide)
    · skip
      refine z_iload_n hC dX9_make_68 rfl (lv_at hl 3 rfl) ?_
      refine z_bipush (v := 8) hC dX9_make_69 (by decide) ?_
      refine z_icmp_eq (tgt := 94) hC dX9_make_71 (by decide) hz (fun hz => ?_) (fun hz => ?_)
      · skip
        refine z_iinc (k0 := 3) (v := x3 + 1) (lv' := [(3, .int (x3 + 1)), (0, .ref (x0)), (1, .int (x1)), (2, .int (x2))]) hC dX9_make_94 hl rfl rfl (by decide) rfl (fun ls hl => ?_)
        refine z_goto (tgt := 47) hC dX9_make_97 (by decide) ?_
        exact hk47 (x0) (x1) (x2) (x3 + 1) (I) h_x0 hz ls (lv_sub hl [1, 2, 3, 0] rfl)
      · skip
        refine z_aload_n hC dX9_make_74 rfl (lv_at hl 0 rfl) ?_
        refine z_getR hC zc_9 22 (by decide) kw_759 dX9_make_75 h_x0 rfl hr_r1 ?_
        refine z_iload_n hC dX9_make_78 rfl (lv_at hl 3 rfl) ?_
        obtain ⟨hi3, hz⟩ := ifn_some hz
        refine z_iald hC dX9_make_79 hk_r1 hi3 ?_
        refine z_iload_n hC dX9_make_80 rfl (lv_at hl 2 rfl) ?_
        refine z_icmp_ne (tgt := 94) hC dX9_make_81 (by decide) hz (fun hz => ?_) (fun hz => ?_)
        · skip
          refine z_iinc (k0 := 3) (v := x3 + 1) (lv' := [(3, .int (x3 + 1)), (0, .ref (x0)), (1, .int (x1)), (2, .int (x2))]) hC dX9_make_94 hl rfl rfl (by decide) rfl (fun ls hl => ?_)
          refine z_goto (tgt := 47) hC dX9_make_97 (by decide) ?_
          exact hk47 (x0) (x1) (x2) (x3 + 1) (I) h_x0 hz ls (lv_sub hl [1, 2, 3, 0] rfl)
        · skip
          refine z_aload_n hC dX9_make_84 rfl (lv_at hl 0 rfl) ?_
          refine z_getR hC zc_9 22 (by decide) kw_759 dX9_make_85 h_x0 rfl hr_r1 ?_
          refine z_iload_n hC dX9_make_88 rfl (lv_at hl 3 rfl) ?_
          refine z_bipush (v := 10) hC dX9_make_89 (by decide) ?_
          refine z_iload_n hC dX9_make_91 rfl (lv_at hl 1 rfl) ?_
          refine z_iadd hC dX9_make_92 ?_
          obtain ⟨hi4, hz⟩ := ifn_some hz
          refine z_iast hC dX9_make_93 hk_r1 hi4 ?_
          refine z_iinc (k0 := 3) (v := x3 + 1) (lv' := [(3, .int (x3 + 1)), (0, .ref (x0)), (1, .int (x1)), (2, .int (x2))]) hC dX9_make_94 hl rfl rfl (by decide) rfl (fun ls hl => ?_)
          refine z_goto (tgt := 47) hC dX9_make_97 (by decide) ?_
          exact hk47 (x0) (x1) (x2) (x3 + 1) (z_up I r1 x3.toNatClampNeg (10 + x1)) h_x0 hz ls (lv_sub hl [1, 2, 3, 0] rfl)
set_option maxRecDepth 100000 in
set_option maxHeartbeats 4000000 in
theorem b_X9_make_47 {p : Program} {l : Launch} {e : Env} {s : State} {m : MethodId} {args : Array Value} {below : List Frame} {meth : Method} {c : Code} {D : zD} {b0 : Nat} {F : Nat} {S : zS} {X : zI} (hC : z_C p s m args meth c cX9_make RX9 4 none D) (hT : z_T b0 S)   : ∀ (n : Nat) (x0 : Nat) (x1 : Int32) (x2 : Int32) (x3 : Int32) (I : zI), z_is b0 S x0 9 → z_X9_make_47 F S  n x0 x1 x2 x3 I = some X → ∀ ls : Array Slot, lv_has ls 4 [(0, .ref (x0)), (1, .int (x1)), (2, .int (x2)), (3, .int (x3))] → z_W p l e { frames := 2, cells := 0, slots := 0, locals := 42 } s m args below meth c D b0 S I 0 0 (MQ below (z_Q D b0 none S X) args s 0 0 (fun q => b0 ≤ q)) (F0 m 47 ls []) := by
  intro n
  induction n with
  | zero => intro x0 x1 x2 x3 I h_x0 hz; cases hz
  | succ n ih =>
    intro x0 x1 x2 x3 I h_x0 hz ls hl
    exact bb_X9_make_47 (F := F) hC hT  (z_X9_make_47 F S  n)  ih x0 x1 x2 x3 I h_x0 hz ls hl
set_option maxRecDepth 100000 in
set_option maxHeartbeats 4000000 in
theorem b_X9_make_40 {p : Program} {l : Launch} {e : Env} {s : State} {m : MethodId} {args : Array Value} {below : List Frame} {meth : Method} {c : Code} {D : zD} {b0 : Nat} {F : Nat} {S : zS} {X : zI} (hC : z_C p s m args meth c cX9_make RX9 4 none D) (hT : z_T b0 S)   (x0 : Nat) (x1 : Int32) (x2 : Int32) (I : zI) (h_x0 : z_is b0 S x0 9) (hz : z_X9_make_40 F S  x0 x1 x2 I = some X) (ls : Array Slot) (hl : lv_has ls 4 [(0, .ref (x0)), (1, .int (x1)), (2, .int (x2))]) : z_W p l e { frames := 2, cells := 0, slots := 0, locals := 42 } s m args below meth c D b0 S I 0 0 (MQ below (z_Q D b0 none S X) args s 0 0 (fun q => b0 ≤ q)) (F0 m 40 ls []) := by
  unfold z_X9_make_40 at hz
  refine z_aload_n hC dX9_make_40 rfl (lv_at hl 0 rfl) ?_
  refine z_iconst (v := 2) hC dX9_make_41 (by decide) ?_
  obtain ⟨q1, hq_q1, hz⟩ := ob_some hz
  refine z_callV (As := [.int (2)]) hC hT (c_X9_fails F x0 2 h_x0 hq_q1) zy_X9_fails zc_9 zv_X9_fails kw_908 dX9_make_42 h_x0 rfl rfl hl.1 (Nat.le_of_ble_eq_true rfl) (by decide) (by decide) ?_
  refine z_iconst (v := 0) hC dX9_make_45 (by decide) ?_
  refine z_istore_n (lv' := [(3, .int (0)), (0, .ref (x0)), (1, .int (x1)), (2, .int (x2))]) hC dX9_make_46 rfl hl (by decide) rfl (fun ls hl => ?_)
  exact b_X9_make_47 hC hT   F (x0) (x1) (x2) (0) (q1) h_x0 hz ls (lv_sub hl [1, 2, 3, 0] rfl)
set_option maxRecDepth 100000 in
set_option maxHeartbeats 4000000 in
theorem c_X9_make {l : Launch} {D : zD} {b0 : Nat} {S : zS} {I : zI} {X : zI} (F : Nat) (x0 : Nat) (x1 : Int32) (h_x0 : z_is b0 S x0 9) (hz : z_X9_make F S I x0 x1 = some X) : z_M l D b0 yX9_make cX9_make 4 none { frames := 2, cells := 0, slots := 0, locals := 42 } [.ref (x0), .int (x1)] S I none S X := by
  refine z_met (by decide) (Nat.le_of_ble_eq_true rfl) ?_
  intro p e s m below meth c hC hnm hT ls hl
  have hl : lv_has ls 4 [(0, .ref (x0)), (1, .int (x1))] := hl
  unfold z_X9_make at hz
  refine z_aload_n hC dX9_make_0 rfl (lv_at hl 0 rfl) ?_
  obtain ⟨q1, hq_q1, hz⟩ := ob_some hz
  refine z_callV (As := []) hC hT (c_X9_pop F x0 h_x0 hq_q1) zy_X9_pop zc_9 zv_X9_pop kw_932 dX9_make_1 h_x0 rfl rfl hl.1 (Nat.le_of_ble_eq_true rfl) (by decide) (by decide) ?_
  refine z_istore_n (lv' := [(2, .int (q1.1)), (0, .ref (x0)), (1, .int (x1))]) hC dX9_make_4 rfl hl (by decide) rfl (fun ls hl => ?_)
  refine z_aload_n hC dX9_make_5 rfl (lv_at hl 1 rfl) ?_
  refine z_getI hC zc_9 24 (by decide) kw_761 dX9_make_6 h_x0 rfl ?_
  refine z_if_ne (tgt := 45) hC dX9_make_9 (by decide) hz (fun hz => ?_) (fun hz => ?_)
  · skip
    refine z_iconst (v := 0) hC dX9_make_45 (by decide) ?_
    refine z_istore_n (lv' := [(3, .int (0)), (2, .int (q1.1)), (0, .ref (x0)), (1, .int (x1))]) hC dX9_make_46 rfl hl (by decide) rfl (fun ls hl => ?_)
    exact b_X9_make_47 hC hT   F (x0) (x1) (q1.1) (0) (q1.2) h_x0 hz ls (lv_sub hl [2, 3, 1, 0] rfl)
  · skip
    refine z_iload_n hC dX9_make_12 rfl (lv_at hl 0 rfl) ?_
    obtain ⟨q2, hq_q2, hz⟩ := ob_some hz
    refine z_callS (As := [.int (q1.1)]) hC hT (c_X9_isUnmade F (q1.1)  hq_q2) zy_X9_isUnmade kw_902 kw_901 dX9_make_13 rfl rfl hl.1 (Nat.le_of_ble_eq_true rfl) (by decide) (by decide) ?_
    refine z_if_eq (tgt := 40) hC dX9_make_16 (by decide) hz (fun hz => ?_) (fun hz => ?_)
    · skip
      exact b_X9_make_40 hC hT   (x0) (x1) (q1.1) (q1.2) h_x0 hz ls (lv_sub hl [1, 2, 0] rfl)
    · skip
      refine z_aload_n hC dX9_make_19 rfl (lv_at hl 1 rfl) ?_
      obtain ⟨r3, hr_r3, hz⟩ := ob_some hz
      have hk_r3 : z_is b0 S r3 10 := hT.at h_x0 hr_r3
      refine z_getR hC zc_9 8 (by decide) kw_745 dX9_make_20 h_x0 rfl hr_r3 ?_
      refine z_bipush (v := 40) hC dX9_make_23 (by decide) ?_
      refine z_aload_n hC dX9_make_25 rfl (lv_at hl 1 rfl) ?_
      refine z_getI hC zc_9 21 (by decide) kw_758 dX9_make_26 h_x0 rfl ?_
      refine z_imul hC dX9_make_29 ?_
      refine z_iload_n hC dX9_make_30 rfl (lv_at hl 0 rfl) ?_
      refine z_iadd hC dX9_make_31 ?_
      refine z_bipush (v := 100) hC dX9_make_32 (by decide) ?_
      refine z_isub hC dX9_make_34 ?_
      obtain ⟨hi4, hz⟩ := ifn_some hz
      refine z_iald hC dX9_make_35 hk_r3 hi4 ?_
      refine z_iload_n hC dX9_make_36 rfl (lv_at hl 2 rfl) ?_
      refine z_icmp_eq (tgt := 45) hC dX9_make_37 (by decide) hz (fun hz => ?_) (fun hz => ?_)
      · skip
        refine z_iconst (v := 0) hC dX9_make_45 (by decide) ?_
        refine z_istore_n (lv' := [(3, .int (0)), (2, .int (q1.1)), (0, .ref (x0)), (1, .int (x1))]) hC dX9_make_46 rfl hl (by decide) rfl (fun ls hl => ?_)
        exact b_X9_make_47 hC hT   F (x0) (x1) (q1.1) (0) (q1.2) h_x0 hz ls (lv_sub hl [2, 3, 1, 0] rfl)
      · skip
        exact b_X9_make_40 hC hT   (x0) (x1) (q1.1) (q1.2) h_x0 hz ls (lv_sub hl [1, 2, 0] rfl)
theorem zy_X9_doesMore : z_y yX9_doesMore cX9_doesMore 4 none 3 := ⟨kw_951, kw_8, by decide +kernel, by decide +kernel, by decide +kernel⟩
theorem zv_X9_doesMore : Cond.instanceMethod yX9_doesMore ∈ z_tbl ∧ Cond.selects RX9 yX9_doesMore yX9_doesMore ∈ z_tbl := ⟨kw_950, ks_49⟩
def z_X9_doesMore_129 (F : Nat) (S : zS)  (x0 : Nat) (I : zI) : Option (zI) :=
  ob (z_X9_wants F S I x0 1) (fun q1 => some (q1))
def z_X9_doesMore_137 (F : Nat) (S : zS)  (x0 : Nat) (x3 : Int32) (I : zI) : Option (zI) :=
  ob (z_X9_wantsObject F S I x0 x3) (fun q1 => some (q1))
def z_X9_doesMore (F : Nat) (S : zS) (I : zI) (x0 : Nat) (x1 : Int32) (x2 : Int32) (x3 : Int32) : Option (zI) :=
  if x2 = 9 then (ob (z_X9_push F S I x0 (100 + x1)) (fun q1 => some (q1))) else (if x2 = 10 then (ob (z_X9_make F S I x0 x3) (fun q3 => some (q3))) else (if x2 = 11 then (ob (z_X9_wantsObject F S I x0 x3) (fun q5 => ob (z_X9_push F S q5 x0 1) (fun q6 => some (q6)))) else (if x2 = 12 then (ob (z_X9_wants F S I x0 1) (fun q8 => ob (z_X9_wantsObject F S q8 x0 x3) (fun q9 => ob (z_X9_push F S q9 x0 (10 + x3)) (fun q10 => some (q10))))) else (if x2 = 13 then (ob (z_X9_wantsObject F S I x0 (-1)) (fun q12 => ob (z_X9_push F S q12 x0 (10 + x3)) (fun q13 => some (q13)))) else (if x2 = 15 ∨ x2 = 16 ∨ x2 = 17 then (z_X9_doesMore_129 F S  (x0) (I)) else (if x2 = 18 ∨ x2 = 19 then (z_X9_doesMore_137 F S  (x0) (x3) (I)) else (some (I))))))))
set_option maxRecDepth 100000 in
set_option maxHeartbeats 4000000 in
theorem b_X9_doesMore_129 {p : Program} {l : Launch} {e : Env} {s : State} {m : MethodId} {args : Array Value} {below : List Frame} {meth : Method} {c : Code} {D : zD} {b0 : Nat} {F : Nat} {S : zS} {X : zI} (hC : z_C p s m args meth c cX9_doesMore RX9 4 none D) (hT : z_T b0 S)   (x0 : Nat) (I : zI) (h_x0 : z_is b0 S x0 9) (hz : z_X9_doesMore_129 F S  x0 I = some X) (ls : Array Slot) (hl : lv_has ls 4 [(0, .ref (x0))]) : z_W p l e { frames := 3, cells := 0, slots := 0, locals := 67 } s m args below meth c D b0 S I 0 0 (MQ below (z_Q D b0 none S X) args s 0 0 (fun q => b0 ≤ q)) (F0 m 129 ls []) := by
  unfold z_X9_doesMore_129 at hz
  refine z_aload_n hC dX9_doesMore_129 rfl (lv_at hl 0 rfl) ?_
  refine z_iconst (v := 1) hC dX9_doesMore_130 (by decide) ?_
  obtain ⟨q1, hq_q1, hz⟩ := ob_some hz
  refine z_callV (As := [.int (1)]) hC hT (c_X9_wants F x0 1 h_x0 hq_q1) zy_X9_wants zc_9 zv_X9_wants kw_944 dX9_doesMore_131 h_x0 rfl rfl hl.1 (Nat.le_of_ble_eq_true rfl) (by decide) (by decide) ?_
  refine z_goto (tgt := 145) hC dX9_doesMore_134 (by decide) ?_
  obtain rfl := Option.some.inj hz
  exact z_vret hC hT dX9_doesMore_145 (by decide) (by decide)
set_option maxRecDepth 100000 in
set_option maxHeartbeats 4000000 in
theorem b_X9_doesMore_137 {p : Program} {l : Launch} {e : Env} {s : State} {m : MethodId} {args : Array Value} {below : List Frame} {meth : Method} {c : Code} {D : zD} {b0 : Nat} {F : Nat} {S : zS} {X : zI} (hC : z_C p s m args meth c cX9_doesMore RX9 4 none D) (hT : z_T b0 S)   (x0 : Nat) (x3 : Int32) (I : zI) (h_x0 : z_is b0 S x0 9) (hz : z_X9_doesMore_137 F S  x0 x3 I = some X) (ls : Array Slot) (hl : lv_has ls 4 [(0, .ref (x0)), (3, .int (x3))]) : z_W p l e { frames := 3, cells := 0, slots := 0, locals := 67 } s m args below meth c D b0 S I 0 0 (MQ below (z_Q D b0 none S X) args s 0 0 (fun q => b0 ≤ q)) (F0 m 137 ls []) := by
  unfold z_X9_doesMore_137 at hz
  refine z_aload_n hC dX9_doesMore_137 rfl (lv_at hl 0 rfl) ?_
  refine z_iload_n hC dX9_doesMore_138 rfl (lv_at hl 1 rfl) ?_
  obtain ⟨q1, hq_q1, hz⟩ := ob_some hz
  refine z_callV (As := [.int (x3)]) hC hT (c_X9_wantsObject F x0 x3 h_x0 hq_q1) zy_X9_wantsObject zc_9 zv_X9_wantsObject kw_956 dX9_doesMore_139 h_x0 rfl rfl hl.1 (Nat.le_of_ble_eq_true rfl) (by decide) (by decide) ?_
  refine z_goto (tgt := 145) hC dX9_doesMore_142 (by decide) ?_
  obtain rfl := Option.some.inj hz
  exact z_vret hC hT dX9_doesMore_145 (by decide) (by decide)
set_option maxRecDepth 100000 in
set_option maxHeartbeats 4000000 in
theorem c_X9_doesMore {l : Launch} {D : zD} {b0 : Nat} {S : zS} {I : zI} {X : zI} (F : Nat) (x0 : Nat) (x1 : Int32) (x2 : Int32) (x3 : Int32) (h_x0 : z_is b0 S x0 9) (hz : z_X9_doesMore F S I x0 x1 x2 x3 = some X) : z_M l D b0 yX9_doesMore cX9_doesMore 4 none { frames := 3, cells := 0, slots := 0, locals := 67 } [.ref (x0), .int (x1), .int (x2), .int (x3)] S I none S X := by
  refine z_met (by decide) (Nat.le_of_ble_eq_true rfl) ?_
  intro p e s m below meth c hC hnm hT ls hl
  have hl : lv_has ls 4 [(0, .ref (x0)), (1, .int (x1)), (2, .int (x2)), (3, .int (x3))] := hl
  unfold z_X9_doesMore at hz
  refine z_iload_n hC dX9_doesMore_0 rfl (lv_at hl 2 rfl) ?_
  by_cases hs2 : x2 = 9
  · rw [if_pos hs2] at hz
    · refine z_tabIn (off := 59) (tgt := 60) hC dX9_doesMore_1 (by rw [hs2]; decide) (by rw [hs2]; decide) (by rw [hs2]; rfl) (by decide) ?_
      refine z_aload_n hC dX9_doesMore_60 rfl (lv_at hl 0 rfl) ?_
      refine z_bipush (v := 100) hC dX9_doesMore_61 (by decide) ?_
      refine z_iload_n hC dX9_doesMore_63 rfl (lv_at hl 1 rfl) ?_
      refine z_iadd hC dX9_doesMore_64 ?_
      obtain ⟨q1, hq_q1, hz⟩ := ob_some hz
      refine z_callV (As := [.int (100 + x1)]) hC hT (c_X9_push F x0 (100 + x1) h_x0 hq_q1) zy_X9_push zc_9 zv_X9_push kw_924 dX9_doesMore_65 h_x0 rfl rfl hl.1 (Nat.le_of_ble_eq_true rfl) (by decide) (by decide) ?_
      refine z_goto (tgt := 145) hC dX9_doesMore_68 (by decide) ?_
      obtain rfl := Option.some.inj hz
      exact z_vret hC hT dX9_doesMore_145 (by decide) (by decide)
  rw [if_neg hs2] at hz
  by_cases hs4 : x2 = 10
  · rw [if_pos hs4] at hz
    · refine z_tabIn (off := 70) (tgt := 71) hC dX9_doesMore_1 (by rw [hs4]; decide) (by rw [hs4]; decide) (by rw [hs4]; rfl) (by decide) ?_
      refine z_aload_n hC dX9_doesMore_71 rfl (lv_at hl 0 rfl) ?_
      refine z_iload_n hC dX9_doesMore_72 rfl (lv_at hl 3 rfl) ?_
      obtain ⟨q3, hq_q3, hz⟩ := ob_some hz
      refine z_callV (As := [.int (x3)]) hC hT (c_X9_make F x0 x3 h_x0 hq_q3) zy_X9_make zc_9 zv_X9_make kw_952 dX9_doesMore_73 h_x0 rfl rfl hl.1 (Nat.le_of_ble_eq_true rfl) (by decide) (by decide) ?_
      refine z_goto (tgt := 145) hC dX9_doesMore_76 (by decide) ?_
      obtain rfl := Option.some.inj hz
      exact z_vret hC hT dX9_doesMore_145 (by decide) (by decide)
  rw [if_neg hs4] at hz
  by_cases hs7 : x2 = 11
  · rw [if_pos hs7] at hz
    · refine z_tabIn (off := 78) (tgt := 79) hC dX9_doesMore_1 (by rw [hs7]; decide) (by rw [hs7]; decide) (by rw [hs7]; rfl) (by decide) ?_
      refine z_aload_n hC dX9_doesMore_79 rfl (lv_at hl 0 rfl) ?_
      refine z_iload_n hC dX9_doesMore_80 rfl (lv_at hl 3 rfl) ?_
      obtain ⟨q5, hq_q5, hz⟩ := ob_some hz
      refine z_callV (As := [.int (x3)]) hC hT (c_X9_wantsObject F x0 x3 h_x0 hq_q5) zy_X9_wantsObject zc_9 zv_X9_wantsObject kw_956 dX9_doesMore_81 h_x0 rfl rfl hl.1 (Nat.le_of_ble_eq_true rfl) (by decide) (by decide) ?_
      refine z_aload_n hC dX9_doesMore_84 rfl (lv_at hl 0 rfl) ?_
      refine z_iconst (v := 1) hC dX9_doesMore_85 (by decide) ?_
      obtain ⟨q6, hq_q6, hz⟩ := ob_some hz
      refine z_callV (As := [.int (1)]) hC hT (c_X9_push F x0 1 h_x0 hq_q6) zy_X9_push zc_9 zv_X9_push kw_924 dX9_doesMore_86 h_x0 rfl rfl hl.1 (Nat.le_of_ble_eq_true rfl) (by decide) (by decide) ?_
      refine z_goto (tgt := 145) hC dX9_doesMore_89 (by decide) ?_
      obtain rfl := Option.some.inj hz
      exact z_vret hC hT dX9_doesMore_145 (by decide) (by decide)
  rw [if_neg hs7] at hz
  by_cases hs11 : x2 = 12
  · rw [if_pos hs11] at hz
    · refine z_tabIn (off := 91) (tgt := 92) hC dX9_doesMore_1 (by rw [hs11]; decide) (by rw [hs11]; decide) (by rw [hs11]; rfl) (by decide) ?_
      refine z_aload_n hC dX9_doesMore_92 rfl (lv_at hl 0 rfl) ?_
      refine z_iconst (v := 1) hC dX9_doesMore_93 (by decide) ?_
      obtain ⟨q8, hq_q8, hz⟩ := ob_some hz
      refine z_callV (As := [.int (1)]) hC hT (c_X9_wants F x0 1 h_x0 hq_q8) zy_X9_wants zc_9 zv_X9_wants kw_944 dX9_doesMore_94 h_x0 rfl rfl hl.1 (Nat.le_of_ble_eq_true rfl) (by decide) (by decide) ?_
      refine z_aload_n hC dX9_doesMore_97 rfl (lv_at hl 0 rfl) ?_
      refine z_iload_n hC dX9_doesMore_98 rfl (lv_at hl 3 rfl) ?_
      obtain ⟨q9, hq_q9, hz⟩ := ob_some hz
      refine z_callV (As := [.int (x3)]) hC hT (c_X9_wantsObject F x0 x3 h_x0 hq_q9) zy_X9_wantsObject zc_9 zv_X9_wantsObject kw_956 dX9_doesMore_99 h_x0 rfl rfl hl.1 (Nat.le_of_ble_eq_true rfl) (by decide) (by decide) ?_
      refine z_aload_n hC dX9_doesMore_102 rfl (lv_at hl 0 rfl) ?_
      refine z_bipush (v := 10) hC dX9_doesMore_103 (by decide) ?_
      refine z_iload_n hC dX9_doesMore_105 rfl (lv_at hl 3 rfl) ?_
      refine z_iadd hC dX9_doesMore_106 ?_
      obtain ⟨q10, hq_q10, hz⟩ := ob_some hz
      refine z_callV (As := [.int (10 + x3)]) hC hT (c_X9_push F x0 (10 + x3) h_x0 hq_q10) zy_X9_push zc_9 zv_X9_push kw_924 dX9_doesMore_107 h_x0 rfl rfl hl.1 (Nat.le_of_ble_eq_true rfl) (by decide) (by decide) ?_
      refine z_goto (tgt := 145) hC dX9_doesMore_110 (by decide) ?_
      obtain rfl := Option.some.inj hz
      exact z_vret hC hT dX9_doesMore_145 (by decide) (by decide)
  rw [if_neg hs11] at hz
  by_cases hs14 : x2 = 13
  · rw [if_pos hs14] at hz
    · refine z_tabIn (off := 112) (tgt := 113) hC dX9_doesMore_1 (by rw [hs14]; decide) (by rw [hs14]; decide) (by rw [hs14]; rfl) (by decide) ?_
      refine z_aload_n hC dX9_doesMore_113 rfl (lv_at hl 0 rfl) ?_
      refine z_iconst (v := (-1)) hC dX9_doesMore_114 (by decide) ?_
      obtain ⟨q12, hq_q12, hz⟩ := ob_some hz
      refine z_callV (As := [.int ((-1))]) hC hT (c_X9_wantsObject F x0 (-1) h_x0 hq_q12) zy_X9_wantsObject zc_9 zv_X9_wantsObject kw_956 dX9_doesMore_115 h_x0 rfl rfl hl.1 (Nat.le_of_ble_eq_true rfl) (by decide) (by decide) ?_
      refine z_aload_n hC dX9_doesMore_118 rfl (lv_at hl 0 rfl) ?_
      refine z_bipush (v := 10) hC dX9_doesMore_119 (by decide) ?_
      refine z_iload_n hC dX9_doesMore_121 rfl (lv_at hl 3 rfl) ?_
      refine z_iadd hC dX9_doesMore_122 ?_
      obtain ⟨q13, hq_q13, hz⟩ := ob_some hz
      refine z_callV (As := [.int (10 + x3)]) hC hT (c_X9_push F x0 (10 + x3) h_x0 hq_q13) zy_X9_push zc_9 zv_X9_push kw_924 dX9_doesMore_123 h_x0 rfl rfl hl.1 (Nat.le_of_ble_eq_true rfl) (by decide) (by decide) ?_
      refine z_goto (tgt := 145) hC dX9_doesMore_126 (by decide) ?_
      obtain rfl := Option.some.inj hz
      exact z_vret hC hT dX9_doesMore_145 (by decide) (by decide)
  rw [if_neg hs14] at hz
  by_cases hs15 : x2 = 15 ∨ x2 = 16 ∨ x2 = 17
  · rw [if_pos hs15] at hz
    rcases hs15 with hs15 | hs15 | hs15
    · refine z_tabIn (off := 128) (tgt := 129) hC dX9_doesMore_1 (by rw [hs15]; decide) (by rw [hs15]; decide) (by rw [hs15]; rfl) (by decide) ?_
      exact b_X9_doesMore_129 hC hT   (x0) (I) h_x0 hz ls (lv_sub hl [0] rfl)
    · refine z_tabIn (off := 128) (tgt := 129) hC dX9_doesMore_1 (by rw [hs15]; decide) (by rw [hs15]; decide) (by rw [hs15]; rfl) (by decide) ?_
      exact b_X9_doesMore_129 hC hT   (x0) (I) h_x0 hz ls (lv_sub hl [0] rfl)
    · refine z_tabIn (off := 128) (tgt := 129) hC dX9_doesMore_1 (by rw [hs15]; decide) (by rw [hs15]; decide) (by rw [hs15]; rfl) (by decide) ?_
      exact b_X9_doesMore_129 hC hT   (x0) (I) h_x0 hz ls (lv_sub hl [0] rfl)
  rw [if_neg hs15] at hz
  by_cases hs16 : x2 = 18 ∨ x2 = 19
  · rw [if_pos hs16] at hz
    rcases hs16 with hs16 | hs16
    · refine z_tabIn (off := 136) (tgt := 137) hC dX9_doesMore_1 (by rw [hs16]; decide) (by rw [hs16]; decide) (by rw [hs16]; rfl) (by decide) ?_
      exact b_X9_doesMore_137 hC hT   (x0) (x3) (I) h_x0 hz ls (lv_sub hl [0, 3] rfl)
    · refine z_tabIn (off := 136) (tgt := 137) hC dX9_doesMore_1 (by rw [hs16]; decide) (by rw [hs16]; decide) (by rw [hs16]; rfl) (by decide) ?_
      exact b_X9_doesMore_137 hC hT   (x0) (x3) (I) h_x0 hz ls (lv_sub hl [0, 3] rfl)
  rw [if_neg hs16] at hz
  by_cases hs17 : x2 = 14
  · refine z_tabIn (off := 144) (tgt := 145) hC dX9_doesMore_1 (by rw [hs17]; decide) (by rw [hs17]; decide) (by rw [hs17]; rfl) (by decide) ?_
    obtain rfl := Option.some.inj hz
    exact z_vret hC hT dX9_doesMore_145 (by decide) (by decide)
  refine z_tabOut (tgt := 145) hC dX9_doesMore_1 (z_out (fun k9 h5 h6 h7 => by
      rcases (show k9 = 9 ∨ k9 = 10 ∨ k9 = 11 ∨ k9 = 12 ∨ k9 = 13 ∨ k9 = 14 ∨ k9 = 15 ∨ k9 = 16 ∨ k9 = 17 ∨ k9 = 18 ∨ k9 = 19 by omega) with h9 | h9 | h9 | h9 | h9 | h9 | h9 | h9 | h9 | h9 | h9
      · rw [h9] at h7; exact hs2 (by have h8 := z_ofT (v := 9) h7 (by decide); exact h8)
      · rw [h9] at h7; exact hs4 (by have h8 := z_ofT (v := 10) h7 (by decide); exact h8)
      · rw [h9] at h7; exact hs7 (by have h8 := z_ofT (v := 11) h7 (by decide); exact h8)
      · rw [h9] at h7; exact hs11 (by have h8 := z_ofT (v := 12) h7 (by decide); exact h8)
      · rw [h9] at h7; exact hs14 (by have h8 := z_ofT (v := 13) h7 (by decide); exact h8)
      · rw [h9] at h7; exact hs17 (by have h8 := z_ofT (v := 14) h7 (by decide); exact h8)
      · rw [h9] at h7; exact hs15 (by have h8 := z_ofT (v := 15) h7 (by decide); exact Or.inl h8)
      · rw [h9] at h7; exact hs15 (by have h8 := z_ofT (v := 16) h7 (by decide); exact Or.inr (Or.inl h8))
      · rw [h9] at h7; exact hs15 (by have h8 := z_ofT (v := 17) h7 (by decide); exact Or.inr (Or.inr (h8)))
      · rw [h9] at h7; exact hs16 (by have h8 := z_ofT (v := 18) h7 (by decide); exact Or.inl h8)
      · rw [h9] at h7; exact hs16 (by have h8 := z_ofT (v := 19) h7 (by decide); exact Or.inr (h8))
      )) (by decide) ?_
  obtain rfl := Option.some.inj hz
  exact z_vret hC hT dX9_doesMore_145 (by decide) (by decide)
theorem zy_X9_does : z_y yX9_does cX9_does 6 none 1 := ⟨kw_923, kw_8, by decide +kernel, by decide +kernel, by decide +kernel⟩
theorem zv_X9_does : Cond.instanceMethod yX9_does ∈ z_tbl ∧ Cond.selects RX9 yX9_does yX9_does ∈ z_tbl := ⟨kw_922, ks_42⟩
def z_X9_does_244 (F : Nat) (S : zS)  (x0 : Nat) (I : zI) : Option (zI) :=
  if (I x0 24) = 0 then (ob (S.1 x0 22) (fun r1 => ob (z_X9_counted F S I r1) (fun q2 => if 10 < q2 then (ob (z_X9_fails F S I x0 3) (fun q3 => some (q3))) else (some (I))))) else (some (I))
def z_X9_does_152 (F : Nat) (S : zS)  (x0 : Nat) (x2 : Int32) (x3 : Int32) (I : zI) : Option (zI) :=
  ob (S.1 x0 7) (fun r1 => if x2 < 0 ∨ (S.2.1 r1).2 ≤ x2.toNatClampNeg then none else (ob (z_X9_placeActs F S I x0 (I r1 x2.toNatClampNeg) x3) (fun q3 => z_X9_does_244 F S  (x0) (q3))))
def z_X9_does_232 (F : Nat) (S : zS)  (x0 : Nat) (x1 : Int32) (x2 : Int32) (x3 : Int32) (I : zI) : Option (zI) :=
  ob (S.1 x0 7) (fun r1 => if x2 < 0 ∨ (S.2.1 r1).2 ≤ x2.toNatClampNeg then none else (ob (z_X9_doesMore F S I x0 x1 (I r1 x2.toNatClampNeg) x3) (fun q3 => z_X9_does_244 F S  (x0) (q3))))
def z_X9_does (F : Nat) (S : zS) (I : zI) (x0 : Nat) (x1 : Int32) : Option (zI) :=
  ob (S.1 x0 8) (fun r1 => if ((40 * (I x0 21)) + x1) < 0 ∨ (S.2.1 r1).2 ≤ ((40 * (I x0 21)) + x1).toNatClampNeg then none else (ob (S.1 x0 7) (fun r3 => if ((40 * (I x0 21)) + x1) < 0 ∨ (S.2.1 r3).2 ≤ ((40 * (I x0 21)) + x1).toNatClampNeg then none else (if ((z_up I x0 24 0) r3 ((40 * (I x0 21)) + x1).toNatClampNeg) = 0 then (ob (z_X9_push F S (z_up I x0 24 0) x0 1) (fun q5 => z_X9_does_244 F S  (x0) (q5))) else (if ((z_up I x0 24 0) r3 ((40 * (I x0 21)) + x1).toNatClampNeg) = 1 then (ob (z_X9_push F S (z_up I x0 24 0) x0 2) (fun q7 => z_X9_does_244 F S  (x0) (q7))) else (if ((z_up I x0 24 0) r3 ((40 * (I x0 21)) + x1).toNatClampNeg) = 2 then (ob (z_X9_push F S (z_up I x0 24 0) x0 4) (fun q9 => z_X9_does_244 F S  (x0) (q9))) else (if ((z_up I x0 24 0) r3 ((40 * (I x0 21)) + x1).toNatClampNeg) = 3 ∨ ((z_up I x0 24 0) r3 ((40 * (I x0 21)) + x1).toNatClampNeg) = 4 ∨ ((z_up I x0 24 0) r3 ((40 * (I x0 21)) + x1).toNatClampNeg) = 20 then (z_X9_does_152 F S  (x0) ((40 * (I x0 21)) + x1) (I r1 ((40 * (I x0 21)) + x1).toNatClampNeg) (z_up I x0 24 0)) else (if ((z_up I x0 24 0) r3 ((40 * (I x0 21)) + x1).toNatClampNeg) = 5 then (ob (z_X9_pop F S (z_up I x0 24 0) x0) (fun q12 => z_X9_does_244 F S  (x0) (q12.2))) else (if ((z_up I x0 24 0) r3 ((40 * (I x0 21)) + x1).toNatClampNeg) = 6 then (ob (z_X9_pop F S (z_up I x0 24 0) x0) (fun q14 => ob (z_X9_push F S (q14.2) x0 (q14.1)) (fun q15 => ob (z_X9_push F S q15 x0 (q14.1)) (fun q16 => z_X9_does_244 F S  (x0) (q16))))) else (if ((z_up I x0 24 0) r3 ((40 * (I x0 21)) + x1).toNatClampNeg) = 7 then (ob (z_X9_wants F S (z_up I x0 24 0) x0 1) (fun q18 => ob (z_X9_wants F S q18 x0 1) (fun q19 => ob (z_X9_push F S q19 x0 1) (fun q20 => z_X9_does_244 F S  (x0) (q20))))) else (if ((z_up I x0 24 0) r3 ((40 * (I x0 21)) + x1).toNatClampNeg) = 8 then (ob (z_X9_wants F S (z_up I x0 24 0) x0 2) (fun q22 => ob (z_X9_wants F S q22 x0 2) (fun q23 => ob (z_X9_push F S q23 x0 2) (fun q24 => z_X9_does_244 F S  (x0) (q24))))) else (z_X9_does_232 F S  (x0) (x1) ((40 * (I x0 21)) + x1) (I r1 ((40 * (I x0 21)) + x1).toNatClampNeg) (z_up I x0 24 0)))))))))))))
set_option maxRecDepth 100000 in
set_option maxHeartbeats 4000000 in
theorem b_X9_does_244 {p : Program} {l : Launch} {e : Env} {s : State} {m : MethodId} {args : Array Value} {below : List Frame} {meth : Method} {c : Code} {D : zD} {b0 : Nat} {F : Nat} {S : zS} {X : zI} (hC : z_C p s m args meth c cX9_does RX9 6 none D) (hT : z_T b0 S)   (x0 : Nat) (I : zI) (h_x0 : z_is b0 S x0 9) (hz : z_X9_does_244 F S  x0 I = some X) (ls : Array Slot) (hl : lv_has ls 6 [(0, .ref (x0))]) : z_W p l e { frames := 4, cells := 0, slots := 0, locals := 90 } s m args below meth c D b0 S I 0 0 (MQ below (z_Q D b0 none S X) args s 0 0 (fun q => b0 ≤ q)) (F0 m 244 ls []) := by
  unfold z_X9_does_244 at hz
  refine z_aload_n hC dX9_does_244 rfl (lv_at hl 0 rfl) ?_
  refine z_getI hC zc_9 24 (by decide) kw_761 dX9_does_245 h_x0 rfl ?_
  refine z_if_ne (tgt := 268) hC dX9_does_248 (by decide) hz (fun hz => ?_) (fun hz => ?_)
  · skip
    obtain rfl := Option.some.inj hz
    exact z_vret hC hT dX9_does_268 (by decide) (by decide)
  · skip
    refine z_aload_n hC dX9_does_251 rfl (lv_at hl 0 rfl) ?_
    obtain ⟨r1, hr_r1, hz⟩ := ob_some hz
    have hk_r1 : z_is b0 S r1 10 := hT.at h_x0 hr_r1
    refine z_getR hC zc_9 22 (by decide) kw_759 dX9_does_252 h_x0 rfl hr_r1 ?_
    obtain ⟨q2, hq_q2, hz⟩ := ob_some hz
    refine z_callS (As := [.ref (r1)]) hC hT (c_X9_counted F r1 hk_r1 hq_q2) zy_X9_counted kw_961 kw_960 dX9_does_255 rfl rfl hl.1 (Nat.le_of_ble_eq_true rfl) (by decide) (by decide) ?_
    refine z_bipush (v := 10) hC dX9_does_258 (by decide) ?_
    refine z_icmp_le (tgt := 268) hC dX9_does_260 (by decide) hz (fun hz => ?_) (fun hz => ?_)
    · skip
      obtain rfl := Option.some.inj hz
      exact z_vret hC hT dX9_does_268 (by decide) (by decide)
    · skip
      refine z_aload_n hC dX9_does_263 rfl (lv_at hl 0 rfl) ?_
      refine z_iconst (v := 3) hC dX9_does_264 (by decide) ?_
      obtain ⟨q3, hq_q3, hz⟩ := ob_some hz
      refine z_callV (As := [.int (3)]) hC hT (c_X9_fails F x0 3 h_x0 hq_q3) zy_X9_fails zc_9 zv_X9_fails kw_908 dX9_does_265 h_x0 rfl rfl hl.1 (Nat.le_of_ble_eq_true rfl) (by decide) (by decide) ?_
      obtain rfl := Option.some.inj hz
      exact z_vret hC hT dX9_does_268 (by decide) (by decide)
set_option maxRecDepth 100000 in
set_option maxHeartbeats 4000000 in
theorem b_X9_does_152 {p : Program} {l : Launch} {e : Env} {s : State} {m : MethodId} {args : Array Value} {below : List Frame} {meth : Method} {c : Code} {D : zD} {b0 : Nat} {F : Nat} {S : zS} {X : zI} (hC : z_C p s m args meth c cX9_does RX9 6 none D) (hT : z_T b0 S)   (x0 : Nat) (x2 : Int32) (x3 : Int32) (I : zI) (h_x0 : z_is b0 S x0 9) (hz : z_X9_does_152 F S  x0 x2 x3 I = some X) (ls : Array Slot) (hl : lv_has ls 6 [(0, .ref (x0)), (2, .int (x2)), (3, .int (x3))]) : z_W p l e { frames := 4, cells := 0, slots := 0, locals := 90 } s m args below meth c D b0 S I 0 0 (MQ below (z_Q D b0 none S X) args s 0 0 (fun q => b0 ≤ q)) (F0 m 152 ls []) := by
  unfold z_X9_does_152 at hz
  refine z_aload_n hC dX9_does_152 rfl (lv_at hl 0 rfl) ?_
  refine z_aload_n hC dX9_does_153 rfl (lv_at hl 0 rfl) ?_
  obtain ⟨r1, hr_r1, hz⟩ := ob_some hz
  have hk_r1 : z_is b0 S r1 10 := hT.at h_x0 hr_r1
  refine z_getR hC zc_9 7 (by decide) kw_744 dX9_does_154 h_x0 rfl hr_r1 ?_
  refine z_iload_n hC dX9_does_157 rfl (lv_at hl 1 rfl) ?_
  obtain ⟨hi2, hz⟩ := ifn_some hz
  refine z_iald hC dX9_does_158 hk_r1 hi2 ?_
  refine z_iload_n hC dX9_does_159 rfl (lv_at hl 2 rfl) ?_
  obtain ⟨q3, hq_q3, hz⟩ := ob_some hz
  refine z_callV (As := [.int (I r1 x2.toNatClampNeg), .int (x3)]) hC hT (c_X9_placeActs F x0 (I r1 x2.toNatClampNeg) x3 h_x0 hq_q3) zy_X9_placeActs zc_9 zv_X9_placeActs kw_928 dX9_does_160 h_x0 rfl rfl hl.1 (Nat.le_of_ble_eq_true rfl) (by decide) (by decide) ?_
  refine z_goto (tgt := 244) hC dX9_does_163 (by decide) ?_
  exact b_X9_does_244 hC hT   (x0) (q3) h_x0 hz ls (lv_sub hl [0] rfl)
set_option maxRecDepth 100000 in
set_option maxHeartbeats 4000000 in
theorem b_X9_does_232 {p : Program} {l : Launch} {e : Env} {s : State} {m : MethodId} {args : Array Value} {below : List Frame} {meth : Method} {c : Code} {D : zD} {b0 : Nat} {F : Nat} {S : zS} {X : zI} (hC : z_C p s m args meth c cX9_does RX9 6 none D) (hT : z_T b0 S)   (x0 : Nat) (x1 : Int32) (x2 : Int32) (x3 : Int32) (I : zI) (h_x0 : z_is b0 S x0 9) (hz : z_X9_does_232 F S  x0 x1 x2 x3 I = some X) (ls : Array Slot) (hl : lv_has ls 6 [(0, .ref (x0)), (1, .int (x1)), (2, .int (x2)), (3, .int (x3))]) : z_W p l e { frames := 4, cells := 0, slots := 0, locals := 90 } s m args below meth c D b0 S I 0 0 (MQ below (z_Q D b0 none S X) args s 0 0 (fun q => b0 ≤ q)) (F0 m 232 ls []) := by
  unfold z_X9_does_232 at hz
  refine z_aload_n hC dX9_does_232 rfl (lv_at hl 0 rfl) ?_
  refine z_iload_n hC dX9_does_233 rfl (lv_at hl 1 rfl) ?_
  refine z_aload_n hC dX9_does_234 rfl (lv_at hl 0 rfl) ?_
  obtain ⟨r1, hr_r1, hz⟩ := ob_some hz
  have hk_r1 : z_is b0 S r1 10 := hT.at h_x0 hr_r1
  refine z_getR hC zc_9 7 (by decide) kw_744 dX9_does_235 h_x0 rfl hr_r1 ?_
  refine z_iload_n hC dX9_does_238 rfl (lv_at hl 2 rfl) ?_
  obtain ⟨hi2, hz⟩ := ifn_some hz
  refine z_iald hC dX9_does_239 hk_r1 hi2 ?_
  refine z_iload_n hC dX9_does_240 rfl (lv_at hl 3 rfl) ?_
  obtain ⟨q3, hq_q3, hz⟩ := ob_some hz
  refine z_callV (As := [.int (x1), .int (I r1 x2.toNatClampNeg), .int (x3)]) hC hT (c_X9_doesMore F x0 x1 (I r1 x2.toNatClampNeg) x3 h_x0 hq_q3) zy_X9_doesMore zc_9 zv_X9_doesMore kw_948 dX9_does_241 h_x0 rfl rfl hl.1 (Nat.le_of_ble_eq_true rfl) (by decide) (by decide) ?_
  exact b_X9_does_244 hC hT   (x0) (q3) h_x0 hz ls (lv_sub hl [0] rfl)
set_option maxRecDepth 100000 in
set_option maxHeartbeats 4000000 in
theorem c_X9_does {l : Launch} {D : zD} {b0 : Nat} {S : zS} {I : zI} {X : zI} (F : Nat) (x0 : Nat) (x1 : Int32) (h_x0 : z_is b0 S x0 9) (hz : z_X9_does F S I x0 x1 = some X) : z_M l D b0 yX9_does cX9_does 6 none { frames := 4, cells := 0, slots := 0, locals := 90 } [.ref (x0), .int (x1)] S I none S X := by
  refine z_met (by decide) (Nat.le_of_ble_eq_true rfl) ?_
  intro p e s m below meth c hC hnm hT ls hl
  have hl : lv_has ls 6 [(0, .ref (x0)), (1, .int (x1))] := hl
  unfold z_X9_does at hz
  refine z_bipush (v := 40) hC dX9_does_0 (by decide) ?_
  refine z_aload_n hC dX9_does_2 rfl (lv_at hl 0 rfl) ?_
  refine z_getI hC zc_9 21 (by decide) kw_758 dX9_does_3 h_x0 rfl ?_
  refine z_imul hC dX9_does_6 ?_
  refine z_iload_n hC dX9_does_7 rfl (lv_at hl 1 rfl) ?_
  refine z_iadd hC dX9_does_8 ?_
  refine z_istore_n (lv' := [(2, .int ((40 * (I x0 21)) + x1)), (0, .ref (x0)), (1, .int (x1))]) hC dX9_does_9 rfl hl (by decide) rfl (fun ls hl => ?_)
  refine z_aload_n hC dX9_does_10 rfl (lv_at hl 1 rfl) ?_
  obtain ⟨r1, hr_r1, hz⟩ := ob_some hz
  have hk_r1 : z_is b0 S r1 10 := hT.at h_x0 hr_r1
  refine z_getR hC zc_9 8 (by decide) kw_745 dX9_does_11 h_x0 rfl hr_r1 ?_
  refine z_iload_n hC dX9_does_14 rfl (lv_at hl 0 rfl) ?_
  obtain ⟨hi2, hz⟩ := ifn_some hz
  refine z_iald hC dX9_does_15 hk_r1 hi2 ?_
  refine z_istore_n (lv' := [(3, .int (I r1 ((40 * (I x0 21)) + x1).toNatClampNeg)), (2, .int ((40 * (I x0 21)) + x1)), (0, .ref (x0)), (1, .int (x1))]) hC dX9_does_16 rfl hl (by decide) rfl (fun ls hl => ?_)
  refine z_aload_n hC dX9_does_17 rfl (lv_at hl 2 rfl) ?_
  refine z_iconst (v := 0) hC dX9_does_18 (by decide) ?_
  refine z_putI hC zc_9 24 (by decide) kw_761 dX9_does_19 h_x0 rfl rfl rfl rfl ?_
  refine z_aload_n hC dX9_does_22 rfl (lv_at hl 2 rfl) ?_
  obtain ⟨r3, hr_r3, hz⟩ := ob_some hz
  have hk_r3 : z_is b0 S r3 10 := hT.at h_x0 hr_r3
  refine z_getR hC zc_9 7 (by decide) kw_744 dX9_does_23 h_x0 rfl hr_r3 ?_
  refine z_iload_n hC dX9_does_26 rfl (lv_at hl 1 rfl) ?_
  obtain ⟨hi4, hz⟩ := ifn_some hz
  refine z_iald hC dX9_does_27 hk_r3 hi4 ?_
  by_cases hs6 : ((z_up I x0 24 0) r3 ((40 * (I x0 21)) + x1).toNatClampNeg) = 0
  · rw [if_pos hs6] at hz
    · refine z_tabIn (off := 100) (tgt := 128) hC dX9_does_28 (by rw [hs6]; decide) (by rw [hs6]; decide) (by rw [hs6]; rfl) (by decide) ?_
      refine z_aload_n hC dX9_does_128 rfl (lv_at hl 2 rfl) ?_
      refine z_iconst (v := 1) hC dX9_does_129 (by decide) ?_
      obtain ⟨q5, hq_q5, hz⟩ := ob_some hz
      refine z_callV (As := [.int (1)]) hC hT (c_X9_push F x0 1 h_x0 hq_q5) zy_X9_push zc_9 zv_X9_push kw_924 dX9_does_130 h_x0 rfl rfl hl.1 (Nat.le_of_ble_eq_true rfl) (by decide) (by decide) ?_
      refine z_goto (tgt := 244) hC dX9_does_133 (by decide) ?_
      exact b_X9_does_244 hC hT   (x0) (q5) h_x0 hz ls (lv_sub hl [2] rfl)
  rw [if_neg hs6] at hz
  by_cases hs8 : ((z_up I x0 24 0) r3 ((40 * (I x0 21)) + x1).toNatClampNeg) = 1
  · rw [if_pos hs8] at hz
    · refine z_tabIn (off := 108) (tgt := 136) hC dX9_does_28 (by rw [hs8]; decide) (by rw [hs8]; decide) (by rw [hs8]; rfl) (by decide) ?_
      refine z_aload_n hC dX9_does_136 rfl (lv_at hl 2 rfl) ?_
      refine z_iconst (v := 2) hC dX9_does_137 (by decide) ?_
      obtain ⟨q7, hq_q7, hz⟩ := ob_some hz
      refine z_callV (As := [.int (2)]) hC hT (c_X9_push F x0 2 h_x0 hq_q7) zy_X9_push zc_9 zv_X9_push kw_924 dX9_does_138 h_x0 rfl rfl hl.1 (Nat.le_of_ble_eq_true rfl) (by decide) (by decide) ?_
      refine z_goto (tgt := 244) hC dX9_does_141 (by decide) ?_
      exact b_X9_does_244 hC hT   (x0) (q7) h_x0 hz ls (lv_sub hl [2] rfl)
  rw [if_neg hs8] at hz
  by_cases hs10 : ((z_up I x0 24 0) r3 ((40 * (I x0 21)) + x1).toNatClampNeg) = 2
  · rw [if_pos hs10] at hz
    · refine z_tabIn (off := 116) (tgt := 144) hC dX9_does_28 (by rw [hs10]; decide) (by rw [hs10]; decide) (by rw [hs10]; rfl) (by decide) ?_
      refine z_aload_n hC dX9_does_144 rfl (lv_at hl 2 rfl) ?_
      refine z_iconst (v := 4) hC dX9_does_145 (by decide) ?_
      obtain ⟨q9, hq_q9, hz⟩ := ob_some hz
      refine z_callV (As := [.int (4)]) hC hT (c_X9_push F x0 4 h_x0 hq_q9) zy_X9_push zc_9 zv_X9_push kw_924 dX9_does_146 h_x0 rfl rfl hl.1 (Nat.le_of_ble_eq_true rfl) (by decide) (by decide) ?_
      refine z_goto (tgt := 244) hC dX9_does_149 (by decide) ?_
      exact b_X9_does_244 hC hT   (x0) (q9) h_x0 hz ls (lv_sub hl [2] rfl)
  rw [if_neg hs10] at hz
  by_cases hs11 : ((z_up I x0 24 0) r3 ((40 * (I x0 21)) + x1).toNatClampNeg) = 3 ∨ ((z_up I x0 24 0) r3 ((40 * (I x0 21)) + x1).toNatClampNeg) = 4 ∨ ((z_up I x0 24 0) r3 ((40 * (I x0 21)) + x1).toNatClampNeg) = 20
  · rw [if_pos hs11] at hz
    rcases hs11 with hs11 | hs11 | hs11
    · refine z_tabIn (off := 124) (tgt := 152) hC dX9_does_28 (by rw [hs11]; decide) (by rw [hs11]; decide) (by rw [hs11]; rfl) (by decide) ?_
      exact b_X9_does_152 hC hT   (x0) ((40 * (I x0 21)) + x1) (I r1 ((40 * (I x0 21)) + x1).toNatClampNeg) (z_up I x0 24 0) h_x0 hz ls (lv_sub hl [2, 1, 0] rfl)
    · refine z_tabIn (off := 124) (tgt := 152) hC dX9_does_28 (by rw [hs11]; decide) (by rw [hs11]; decide) (by rw [hs11]; rfl) (by decide) ?_
      exact b_X9_does_152 hC hT   (x0) ((40 * (I x0 21)) + x1) (I r1 ((40 * (I x0 21)) + x1).toNatClampNeg) (z_up I x0 24 0) h_x0 hz ls (lv_sub hl [2, 1, 0] rfl)
    · refine z_tabIn (off := 124) (tgt := 152) hC dX9_does_28 (by rw [hs11]; decide) (by rw [hs11]; decide) (by rw [hs11]; rfl) (by decide) ?_
      exact b_X9_does_152 hC hT   (x0) ((40 * (I x0 21)) + x1) (I r1 ((40 * (I x0 21)) + x1).toNatClampNeg) (z_up I x0 24 0) h_x0 hz ls (lv_sub hl [2, 1, 0] rfl)
  rw [if_neg hs11] at hz
  by_cases hs13 : ((z_up I x0 24 0) r3 ((40 * (I x0 21)) + x1).toNatClampNeg) = 5
  · rw [if_pos hs13] at hz
    · refine z_tabIn (off := 138) (tgt := 166) hC dX9_does_28 (by rw [hs13]; decide) (by rw [hs13]; decide) (by rw [hs13]; rfl) (by decide) ?_
      refine z_aload_n hC dX9_does_166 rfl (lv_at hl 2 rfl) ?_
      obtain ⟨q12, hq_q12, hz⟩ := ob_some hz
      refine z_callV (As := []) hC hT (c_X9_pop F x0 h_x0 hq_q12) zy_X9_pop zc_9 zv_X9_pop kw_932 dX9_does_167 h_x0 rfl rfl hl.1 (Nat.le_of_ble_eq_true rfl) (by decide) (by decide) ?_
      refine z_istore (lv' := [(4, .int (q12.1)), (3, .int (I r1 ((40 * (I x0 21)) + x1).toNatClampNeg)), (2, .int ((40 * (I x0 21)) + x1)), (0, .ref (x0)), (1, .int (x1))]) hC dX9_does_170 hl (by decide) rfl (fun ls hl => ?_)
      refine z_goto (tgt := 244) hC dX9_does_172 (by decide) ?_
      exact b_X9_does_244 hC hT   (x0) (q12.2) h_x0 hz ls (lv_sub hl [3] rfl)
  rw [if_neg hs13] at hz
  by_cases hs17 : ((z_up I x0 24 0) r3 ((40 * (I x0 21)) + x1).toNatClampNeg) = 6
  · rw [if_pos hs17] at hz
    · refine z_tabIn (off := 147) (tgt := 175) hC dX9_does_28 (by rw [hs17]; decide) (by rw [hs17]; decide) (by rw [hs17]; rfl) (by decide) ?_
      refine z_aload_n hC dX9_does_175 rfl (lv_at hl 2 rfl) ?_
      obtain ⟨q14, hq_q14, hz⟩ := ob_some hz
      refine z_callV (As := []) hC hT (c_X9_pop F x0 h_x0 hq_q14) zy_X9_pop zc_9 zv_X9_pop kw_932 dX9_does_176 h_x0 rfl rfl hl.1 (Nat.le_of_ble_eq_true rfl) (by decide) (by decide) ?_
      refine z_istore (lv' := [(5, .int (q14.1)), (3, .int (I r1 ((40 * (I x0 21)) + x1).toNatClampNeg)), (2, .int ((40 * (I x0 21)) + x1)), (0, .ref (x0)), (1, .int (x1))]) hC dX9_does_179 hl (by decide) rfl (fun ls hl => ?_)
      refine z_aload_n hC dX9_does_181 rfl (lv_at hl 3 rfl) ?_
      refine z_iload hC dX9_does_182 (lv_at hl 0 rfl) ?_
      obtain ⟨q15, hq_q15, hz⟩ := ob_some hz
      refine z_callV (As := [.int (q14.1)]) hC hT (c_X9_push F x0 (q14.1) h_x0 hq_q15) zy_X9_push zc_9 zv_X9_push kw_924 dX9_does_184 h_x0 rfl rfl hl.1 (Nat.le_of_ble_eq_true rfl) (by decide) (by decide) ?_
      refine z_aload_n hC dX9_does_187 rfl (lv_at hl 3 rfl) ?_
      refine z_iload hC dX9_does_188 (lv_at hl 0 rfl) ?_
      obtain ⟨q16, hq_q16, hz⟩ := ob_some hz
      refine z_callV (As := [.int (q14.1)]) hC hT (c_X9_push F x0 (q14.1) h_x0 hq_q16) zy_X9_push zc_9 zv_X9_push kw_924 dX9_does_190 h_x0 rfl rfl hl.1 (Nat.le_of_ble_eq_true rfl) (by decide) (by decide) ?_
      refine z_goto (tgt := 244) hC dX9_does_193 (by decide) ?_
      exact b_X9_does_244 hC hT   (x0) (q16) h_x0 hz ls (lv_sub hl [3] rfl)
  rw [if_neg hs17] at hz
  by_cases hs21 : ((z_up I x0 24 0) r3 ((40 * (I x0 21)) + x1).toNatClampNeg) = 7
  · rw [if_pos hs21] at hz
    · refine z_tabIn (off := 168) (tgt := 196) hC dX9_does_28 (by rw [hs21]; decide) (by rw [hs21]; decide) (by rw [hs21]; rfl) (by decide) ?_
      refine z_aload_n hC dX9_does_196 rfl (lv_at hl 2 rfl) ?_
      refine z_iconst (v := 1) hC dX9_does_197 (by decide) ?_
      obtain ⟨q18, hq_q18, hz⟩ := ob_some hz
      refine z_callV (As := [.int (1)]) hC hT (c_X9_wants F x0 1 h_x0 hq_q18) zy_X9_wants zc_9 zv_X9_wants kw_944 dX9_does_198 h_x0 rfl rfl hl.1 (Nat.le_of_ble_eq_true rfl) (by decide) (by decide) ?_
      refine z_aload_n hC dX9_does_201 rfl (lv_at hl 2 rfl) ?_
      refine z_iconst (v := 1) hC dX9_does_202 (by decide) ?_
      obtain ⟨q19, hq_q19, hz⟩ := ob_some hz
      refine z_callV (As := [.int (1)]) hC hT (c_X9_wants F x0 1 h_x0 hq_q19) zy_X9_wants zc_9 zv_X9_wants kw_944 dX9_does_203 h_x0 rfl rfl hl.1 (Nat.le_of_ble_eq_true rfl) (by decide) (by decide) ?_
      refine z_aload_n hC dX9_does_206 rfl (lv_at hl 2 rfl) ?_
      refine z_iconst (v := 1) hC dX9_does_207 (by decide) ?_
      obtain ⟨q20, hq_q20, hz⟩ := ob_some hz
      refine z_callV (As := [.int (1)]) hC hT (c_X9_push F x0 1 h_x0 hq_q20) zy_X9_push zc_9 zv_X9_push kw_924 dX9_does_208 h_x0 rfl rfl hl.1 (Nat.le_of_ble_eq_true rfl) (by decide) (by decide) ?_
      refine z_goto (tgt := 244) hC dX9_does_211 (by decide) ?_
      exact b_X9_does_244 hC hT   (x0) (q20) h_x0 hz ls (lv_sub hl [2] rfl)
  rw [if_neg hs21] at hz
  by_cases hs25 : ((z_up I x0 24 0) r3 ((40 * (I x0 21)) + x1).toNatClampNeg) = 8
  · rw [if_pos hs25] at hz
    · refine z_tabIn (off := 186) (tgt := 214) hC dX9_does_28 (by rw [hs25]; decide) (by rw [hs25]; decide) (by rw [hs25]; rfl) (by decide) ?_
      refine z_aload_n hC dX9_does_214 rfl (lv_at hl 2 rfl) ?_
      refine z_iconst (v := 2) hC dX9_does_215 (by decide) ?_
      obtain ⟨q22, hq_q22, hz⟩ := ob_some hz
      refine z_callV (As := [.int (2)]) hC hT (c_X9_wants F x0 2 h_x0 hq_q22) zy_X9_wants zc_9 zv_X9_wants kw_944 dX9_does_216 h_x0 rfl rfl hl.1 (Nat.le_of_ble_eq_true rfl) (by decide) (by decide) ?_
      refine z_aload_n hC dX9_does_219 rfl (lv_at hl 2 rfl) ?_
      refine z_iconst (v := 2) hC dX9_does_220 (by decide) ?_
      obtain ⟨q23, hq_q23, hz⟩ := ob_some hz
      refine z_callV (As := [.int (2)]) hC hT (c_X9_wants F x0 2 h_x0 hq_q23) zy_X9_wants zc_9 zv_X9_wants kw_944 dX9_does_221 h_x0 rfl rfl hl.1 (Nat.le_of_ble_eq_true rfl) (by decide) (by decide) ?_
      refine z_aload_n hC dX9_does_224 rfl (lv_at hl 2 rfl) ?_
      refine z_iconst (v := 2) hC dX9_does_225 (by decide) ?_
      obtain ⟨q24, hq_q24, hz⟩ := ob_some hz
      refine z_callV (As := [.int (2)]) hC hT (c_X9_push F x0 2 h_x0 hq_q24) zy_X9_push zc_9 zv_X9_push kw_924 dX9_does_226 h_x0 rfl rfl hl.1 (Nat.le_of_ble_eq_true rfl) (by decide) (by decide) ?_
      refine z_goto (tgt := 244) hC dX9_does_229 (by decide) ?_
      exact b_X9_does_244 hC hT   (x0) (q24) h_x0 hz ls (lv_sub hl [2] rfl)
  rw [if_neg hs25] at hz
  by_cases hs26 : ((z_up I x0 24 0) r3 ((40 * (I x0 21)) + x1).toNatClampNeg) = 9
  · refine z_tabIn (off := 204) (tgt := 232) hC dX9_does_28 (by rw [hs26]; decide) (by rw [hs26]; decide) (by rw [hs26]; rfl) (by decide) ?_
    exact b_X9_does_232 hC hT   (x0) (x1) ((40 * (I x0 21)) + x1) (I r1 ((40 * (I x0 21)) + x1).toNatClampNeg) (z_up I x0 24 0) h_x0 hz ls (lv_sub hl [2, 3, 1, 0] rfl)
  by_cases hs27 : ((z_up I x0 24 0) r3 ((40 * (I x0 21)) + x1).toNatClampNeg) = 10
  · refine z_tabIn (off := 204) (tgt := 232) hC dX9_does_28 (by rw [hs27]; decide) (by rw [hs27]; decide) (by rw [hs27]; rfl) (by decide) ?_
    exact b_X9_does_232 hC hT   (x0) (x1) ((40 * (I x0 21)) + x1) (I r1 ((40 * (I x0 21)) + x1).toNatClampNeg) (z_up I x0 24 0) h_x0 hz ls (lv_sub hl [2, 3, 1, 0] rfl)
  by_cases hs28 : ((z_up I x0 24 0) r3 ((40 * (I x0 21)) + x1).toNatClampNeg) = 11
  · refine z_tabIn (off := 204) (tgt := 232) hC dX9_does_28 (by rw [hs28]; decide) (by rw [hs28]; decide) (by rw [hs28]; rfl) (by decide) ?_
    exact b_X9_does_232 hC hT   (x0) (x1) ((40 * (I x0 21)) + x1) (I r1 ((40 * (I x0 21)) + x1).toNatClampNeg) (z_up I x0 24 0) h_x0 hz ls (lv_sub hl [2, 3, 1, 0] rfl)
  by_cases hs29 : ((z_up I x0 24 0) r3 ((40 * (I x0 21)) + x1).toNatClampNeg) = 12
  · refine z_tabIn (off := 204) (tgt := 232) hC dX9_does_28 (by rw [hs29]; decide) (by rw [hs29]; decide) (by rw [hs29]; rfl) (by decide) ?_
    exact b_X9_does_232 hC hT   (x0) (x1) ((40 * (I x0 21)) + x1) (I r1 ((40 * (I x0 21)) + x1).toNatClampNeg) (z_up I x0 24 0) h_x0 hz ls (lv_sub hl [2, 3, 1, 0] rfl)
  by_cases hs30 : ((z_up I x0 24 0) r3 ((40 * (I x0 21)) + x1).toNatClampNeg) = 13
  · refine z_tabIn (off := 204) (tgt := 232) hC dX9_does_28 (by rw [hs30]; decide) (by rw [hs30]; decide) (by rw [hs30]; rfl) (by decide) ?_
    exact b_X9_does_232 hC hT   (x0) (x1) ((40 * (I x0 21)) + x1) (I r1 ((40 * (I x0 21)) + x1).toNatClampNeg) (z_up I x0 24 0) h_x0 hz ls (lv_sub hl [2, 3, 1, 0] rfl)
  by_cases hs31 : ((z_up I x0 24 0) r3 ((40 * (I x0 21)) + x1).toNatClampNeg) = 14
  · refine z_tabIn (off := 204) (tgt := 232) hC dX9_does_28 (by rw [hs31]; decide) (by rw [hs31]; decide) (by rw [hs31]; rfl) (by decide) ?_
    exact b_X9_does_232 hC hT   (x0) (x1) ((40 * (I x0 21)) + x1) (I r1 ((40 * (I x0 21)) + x1).toNatClampNeg) (z_up I x0 24 0) h_x0 hz ls (lv_sub hl [2, 3, 1, 0] rfl)
  by_cases hs32 : ((z_up I x0 24 0) r3 ((40 * (I x0 21)) + x1).toNatClampNeg) = 15
  · refine z_tabIn (off := 204) (tgt := 232) hC dX9_does_28 (by rw [hs32]; decide) (by rw [hs32]; decide) (by rw [hs32]; rfl) (by decide) ?_
    exact b_X9_does_232 hC hT   (x0) (x1) ((40 * (I x0 21)) + x1) (I r1 ((40 * (I x0 21)) + x1).toNatClampNeg) (z_up I x0 24 0) h_x0 hz ls (lv_sub hl [2, 3, 1, 0] rfl)
  by_cases hs33 : ((z_up I x0 24 0) r3 ((40 * (I x0 21)) + x1).toNatClampNeg) = 16
  · refine z_tabIn (off := 204) (tgt := 232) hC dX9_does_28 (by rw [hs33]; decide) (by rw [hs33]; decide) (by rw [hs33]; rfl) (by decide) ?_
    exact b_X9_does_232 hC hT   (x0) (x1) ((40 * (I x0 21)) + x1) (I r1 ((40 * (I x0 21)) + x1).toNatClampNeg) (z_up I x0 24 0) h_x0 hz ls (lv_sub hl [2, 3, 1, 0] rfl)
  by_cases hs34 : ((z_up I x0 24 0) r3 ((40 * (I x0 21)) + x1).toNatClampNeg) = 17
  · refine z_tabIn (off := 204) (tgt := 232) hC dX9_does_28 (by rw [hs34]; decide) (by rw [hs34]; decide) (by rw [hs34]; rfl) (by decide) ?_
    exact b_X9_does_232 hC hT   (x0) (x1) ((40 * (I x0 21)) + x1) (I r1 ((40 * (I x0 21)) + x1).toNatClampNeg) (z_up I x0 24 0) h_x0 hz ls (lv_sub hl [2, 3, 1, 0] rfl)
  by_cases hs35 : ((z_up I x0 24 0) r3 ((40 * (I x0 21)) + x1).toNatClampNeg) = 18
  · refine z_tabIn (off := 204) (tgt := 232) hC dX9_does_28 (by rw [hs35]; decide) (by rw [hs35]; decide) (by rw [hs35]; rfl) (by decide) ?_
    exact b_X9_does_232 hC hT   (x0) (x1) ((40 * (I x0 21)) + x1) (I r1 ((40 * (I x0 21)) + x1).toNatClampNeg) (z_up I x0 24 0) h_x0 hz ls (lv_sub hl [2, 3, 1, 0] rfl)
  by_cases hs36 : ((z_up I x0 24 0) r3 ((40 * (I x0 21)) + x1).toNatClampNeg) = 19
  · refine z_tabIn (off := 204) (tgt := 232) hC dX9_does_28 (by rw [hs36]; decide) (by rw [hs36]; decide) (by rw [hs36]; rfl) (by decide) ?_
    exact b_X9_does_232 hC hT   (x0) (x1) ((40 * (I x0 21)) + x1) (I r1 ((40 * (I x0 21)) + x1).toNatClampNeg) (z_up I x0 24 0) h_x0 hz ls (lv_sub hl [2, 3, 1, 0] rfl)
  refine z_tabOut (tgt := 232) hC dX9_does_28 (z_out (fun k9 h5 h6 h7 => by
      rcases (show k9 = 0 ∨ k9 = 1 ∨ k9 = 2 ∨ k9 = 3 ∨ k9 = 4 ∨ k9 = 5 ∨ k9 = 6 ∨ k9 = 7 ∨ k9 = 8 ∨ k9 = 9 ∨ k9 = 10 ∨ k9 = 11 ∨ k9 = 12 ∨ k9 = 13 ∨ k9 = 14 ∨ k9 = 15 ∨ k9 = 16 ∨ k9 = 17 ∨ k9 = 18 ∨ k9 = 19 ∨ k9 = 20 by omega) with h9 | h9 | h9 | h9 | h9 | h9 | h9 | h9 | h9 | h9 | h9 | h9 | h9 | h9 | h9 | h9 | h9 | h9 | h9 | h9 | h9
      · rw [h9] at h7; exact hs6 (by have h8 := z_ofT (v := 0) h7 (by decide); exact h8)
      · rw [h9] at h7; exact hs8 (by have h8 := z_ofT (v := 1) h7 (by decide); exact h8)
      · rw [h9] at h7; exact hs10 (by have h8 := z_ofT (v := 2) h7 (by decide); exact h8)
      · rw [h9] at h7; exact hs11 (by have h8 := z_ofT (v := 3) h7 (by decide); exact Or.inl h8)
      · rw [h9] at h7; exact hs11 (by have h8 := z_ofT (v := 4) h7 (by decide); exact Or.inr (Or.inl h8))
      · rw [h9] at h7; exact hs13 (by have h8 := z_ofT (v := 5) h7 (by decide); exact h8)
      · rw [h9] at h7; exact hs17 (by have h8 := z_ofT (v := 6) h7 (by decide); exact h8)
      · rw [h9] at h7; exact hs21 (by have h8 := z_ofT (v := 7) h7 (by decide); exact h8)
      · rw [h9] at h7; exact hs25 (by have h8 := z_ofT (v := 8) h7 (by decide); exact h8)
      · rw [h9] at h7; exact hs26 (by have h8 := z_ofT (v := 9) h7 (by decide); exact h8)
      · rw [h9] at h7; exact hs27 (by have h8 := z_ofT (v := 10) h7 (by decide); exact h8)
      · rw [h9] at h7; exact hs28 (by have h8 := z_ofT (v := 11) h7 (by decide); exact h8)
      · rw [h9] at h7; exact hs29 (by have h8 := z_ofT (v := 12) h7 (by decide); exact h8)
      · rw [h9] at h7; exact hs30 (by have h8 := z_ofT (v := 13) h7 (by decide); exact h8)
      · rw [h9] at h7; exact hs31 (by have h8 := z_ofT (v := 14) h7 (by decide); exact h8)
      · rw [h9] at h7; exact hs32 (by have h8 := z_ofT (v := 15) h7 (by decide); exact h8)
      · rw [h9] at h7; exact hs33 (by have h8 := z_ofT (v := 16) h7 (by decide); exact h8)
      · rw [h9] at h7; exact hs34 (by have h8 := z_ofT (v := 17) h7 (by decide); exact h8)
      · rw [h9] at h7; exact hs35 (by have h8 := z_ofT (v := 18) h7 (by decide); exact h8)
      · rw [h9] at h7; exact hs36 (by have h8 := z_ofT (v := 19) h7 (by decide); exact h8)
      · rw [h9] at h7; exact hs11 (by have h8 := z_ofT (v := 20) h7 (by decide); exact Or.inr (Or.inr (h8)))
      )) (by decide) ?_
  exact b_X9_does_232 hC hT   (x0) (x1) ((40 * (I x0 21)) + x1) (I r1 ((40 * (I x0 21)) + x1).toNatClampNeg) (z_up I x0 24 0) h_x0 hz ls (lv_sub hl [2, 3, 1, 0] rfl)
theorem zy_X9_goesOn : z_y yX9_goesOn cX9_goesOn 1 (some .boolean) 1 := ⟨kw_965, kw_8, by decide +kernel, by decide +kernel, by decide +kernel⟩
def z_X9_goesOn (F : Nat) (S : zS) (I : zI) (x0 : Int32) : Option (Int32) :=
  if x0 = 14 then (some (0)) else (ob (z_X9_in F S I x0 16 19) (fun q1 => if q1 = 0 then (some (1)) else (some (0))))
set_option maxRecDepth 100000 in
set_option maxHeartbeats 4000000 in
theorem c_X9_goesOn {l : Launch} {D : zD} {b0 : Nat} {S : zS} {I : zI} {X : Int32} (F : Nat) (x0 : Int32)  (hz : z_X9_goesOn F S I x0 = some X) : z_M l D b0 yX9_goesOn cX9_goesOn 1 (some .boolean) { frames := 1, cells := 0, slots := 0, locals := 22 } [.int (x0)] S I (some (.int (X))) S I := by
  refine z_met (by decide) (Nat.le_of_ble_eq_true rfl) ?_
  intro p e s m below meth c hC hnm hT ls hl
  have hl : lv_has ls 1 [(0, .int (x0))] := hl
  unfold z_X9_goesOn at hz
  refine z_iload_n hC dX9_goesOn_0 rfl (lv_at hl 0 rfl) ?_
  refine z_bipush (v := 14) hC dX9_goesOn_1 (by decide) ?_
  refine z_icmp_eq (tgt := 21) hC dX9_goesOn_3 (by decide) hz (fun hz => ?_) (fun hz => ?_)
  · skip
    refine z_iconst (v := 0) hC dX9_goesOn_21 (by decide) ?_
    obtain rfl := Option.some.inj hz
    exact z_zret hC hT dX9_goesOn_22 (Or.inl rfl) (by decide) (by decide)
  · skip
    refine z_iload_n hC dX9_goesOn_6 rfl (lv_at hl 0 rfl) ?_
    refine z_bipush (v := 16) hC dX9_goesOn_7 (by decide) ?_
    refine z_bipush (v := 19) hC dX9_goesOn_9 (by decide) ?_
    obtain ⟨q1, hq_q1, hz⟩ := ob_some hz
    refine z_callS (As := [.int (x0), .int (16), .int (19)]) hC hT (c_X9_in F x0 16 19  hq_q1) zy_X9_in kw_834 kw_833 dX9_goesOn_11 rfl rfl hl.1 (Nat.le_of_ble_eq_true rfl) (by decide) (by decide) ?_
    refine z_if_ne (tgt := 21) hC dX9_goesOn_14 (by decide) hz (fun hz => ?_) (fun hz => ?_)
    · skip
      refine z_iconst (v := 0) hC dX9_goesOn_21 (by decide) ?_
      obtain rfl := Option.some.inj hz
      exact z_zret hC hT dX9_goesOn_22 (Or.inl rfl) (by decide) (by decide)
    · skip
      refine z_iconst (v := 1) hC dX9_goesOn_17 (by decide) ?_
      refine z_goto (tgt := 22) hC dX9_goesOn_18 (by decide) ?_
      obtain rfl := Option.some.inj hz
      exact z_zret hC hT dX9_goesOn_22 (Or.inr rfl) (by decide) (by decide)
theorem zy_X9_jumps : z_y yX9_jumps cX9_jumps 1 (some .boolean) 1 := ⟨kw_968, kw_8, by decide +kernel, by decide +kernel, by decide +kernel⟩
def z_X9_jumps (F : Nat) (S : zS) (I : zI) (x0 : Int32) : Option (Int32) :=
  ob (z_X9_in F S I x0 14 16) (fun q1 => if q1 = 0 ∨ q1 = 1 then (some (q1)) else none)
set_option maxRecDepth 100000 in
set_option maxHeartbeats 4000000 in
theorem c_X9_jumps {l : Launch} {D : zD} {b0 : Nat} {S : zS} {I : zI} {X : Int32} (F : Nat) (x0 : Int32)  (hz : z_X9_jumps F S I x0 = some X) : z_M l D b0 yX9_jumps cX9_jumps 1 (some .boolean) { frames := 1, cells := 0, slots := 0, locals := 22 } [.int (x0)] S I (some (.int (X))) S I := by
  refine z_met (by decide) (Nat.le_of_ble_eq_true rfl) ?_
  intro p e s m below meth c hC hnm hT ls hl
  have hl : lv_has ls 1 [(0, .int (x0))] := hl
  unfold z_X9_jumps at hz
  refine z_iload_n hC dX9_jumps_0 rfl (lv_at hl 0 rfl) ?_
  refine z_bipush (v := 14) hC dX9_jumps_1 (by decide) ?_
  refine z_bipush (v := 16) hC dX9_jumps_3 (by decide) ?_
  obtain ⟨q1, hq_q1, hz⟩ := ob_some hz
  refine z_callS (As := [.int (x0), .int (14), .int (16)]) hC hT (c_X9_in F x0 14 16  hq_q1) zy_X9_in kw_834 kw_833 dX9_jumps_5 rfl rfl hl.1 (Nat.le_of_ble_eq_true rfl) (by decide) (by decide) ?_
  obtain ⟨hb2, hz⟩ := ifp_some hz
  obtain rfl := Option.some.inj hz
  exact z_zret hC hT dX9_jumps_8 hb2 (by decide) (by decide)
theorem zy_X9_copy : z_y yX9_copy cX9_copy 5 none 4 := ⟨kw_888, kw_8, by decide +kernel, by decide +kernel, by decide +kernel⟩
def z_X9_copy_3B (F : Nat) (S : zS) (k3 : Nat → Int32 → Nat → Int32 → Int32 → zI → Option (zI)) (x0 : Nat) (x1 : Int32) (x2 : Nat) (x3 : Int32) (x4 : Int32) (I : zI) : Option (zI) :=
  if x4 < 20 then (if (x1 + x4) < 0 ∨ (S.2.1 x0).2 ≤ (x1 + x4).toNatClampNeg then none else (if (x3 + x4) < 0 ∨ (S.2.1 x2).2 ≤ (x3 + x4).toNatClampNeg then none else (k3 (x0) (x1) (x2) (x3) (x4 + 1) (z_up I x2 (x3 + x4).toNatClampNeg (I x0 (x1 + x4).toNatClampNeg))))) else (some (I))
def z_X9_copy_3 (F : Nat) (S : zS)  : Nat → Nat → Int32 → Nat → Int32 → Int32 → zI → Option (zI)
  | 0 => fun _ _ _ _ _ _ => none
  | n + 1 => fun x0 x1 x2 x3 x4 I => z_X9_copy_3B F S  (z_X9_copy_3 F S  n) x0 x1 x2 x3 x4 I
def z_X9_copy (F : Nat) (S : zS) (I : zI) (x0 : Nat) (x1 : Int32) (x2 : Nat) (x3 : Int32) : Option (zI) :=
  z_X9_copy_3 F S  F (x0) (x1) (x2) (x3) (0) (I)
set_option maxRecDepth 100000 in
set_option maxHeartbeats 4000000 in
theorem bb_X9_copy_3 {p : Program} {l : Launch} {e : Env} {s : State} {m : MethodId} {args : Array Value} {below : List Frame} {meth : Method} {c : Code} {D : zD} {b0 : Nat} {F : Nat} {S : zS} {X : zI} (hC : z_C p s m args meth c cX9_copy RX9 5 none D) (hT : z_T b0 S) (k3 : Nat → Int32 → Nat → Int32 → Int32 → zI → Option (zI)) (hk3 : ∀ (x0 : Nat) (x1 : Int32) (x2 : Nat) (x3 : Int32) (x4 : Int32) (I : zI) , z_is b0 S x0 10 → z_is b0 S x2 10 → k3 x0 x1 x2 x3 x4 I = some X → ∀ ls : Array Slot, lv_has ls 5 [(0, .ref (x0)), (1, .int (x1)), (2, .ref (x2)), (3, .int (x3)), (4, .int (x4))] → z_W p l e { frames := 0, cells := 0, slots := 0, locals := 0 } s m args below meth c D b0 S I 0 0 (MQ below (z_Q D b0 none S X) args s 0 0 (fun q => b0 ≤ q)) (F0 m 3 ls [])) (x0 : Nat) (x1 : Int32) (x2 : Nat) (x3 : Int32) (x4 : Int32) (I : zI) (h_x0 : z_is b0 S x0 10) (h_x2 : z_is b0 S x2 10) (hz : z_X9_copy_3B F S k3 x0 x1 x2 x3 x4 I = some X) (ls : Array Slot) (hl : lv_has ls 5 [(0, .ref (x0)), (1, .int (x1)), (2, .ref (x2)), (3, .int (x3)), (4, .int (x4))]) : z_W p l e { frames := 0, cells := 0, slots := 0, locals := 0 } s m args below meth c D b0 S I 0 0 (MQ below (z_Q D b0 none S X) args s 0 0 (fun q => b0 ≤ q)) (F0 m 3 ls []) := by
  unfold z_X9_copy_3B at hz
  refine z_iload hC dX9_copy_3 (lv_at hl 4 rfl) ?_
  refine z_bipush (v := 20) hC dX9_copy_5 (by decide) ?_
  refine z_icmp_ge (tgt := 28) hC dX9_copy_7 (by decide) hz (fun hz => ?_) (fun hz => ?_)
  · skip
    obtain rfl := Option.some.inj hz
    exact z_vret hC hT dX9_copy_28 (by decide) (by decide)
  · skip
    refine z_aload_n hC dX9_copy_10 rfl (lv_at hl 2 rfl) ?_
    refine z_iload_n hC dX9_copy_11 rfl (lv_at hl 3 rfl) ?_
    refine z_iload hC dX9_copy_12 (lv_at hl 4 rfl) ?_
    refine z_iadd hC dX9_copy_14 ?_
    refine z_aload_n hC dX9_copy_15 rfl (lv_at hl 0 rfl) ?_
    refine z_iload_n hC dX9_copy_16 rfl (lv_at hl 1 rfl) ?_
    refine z_iload hC dX9_copy_17 (lv_at hl 4 rfl) ?_
    refine z_iadd hC dX9_copy_19 ?_
    obtain ⟨hi1, hz⟩ := ifn_some hz
    refine z_iald hC dX9_copy_20 h_x0 hi1 ?_
    obtain ⟨hi2, hz⟩ := ifn_some hz
    refine z_iast hC dX9_copy_21 h_x2 hi2 ?_
    refine z_iinc (k0 := 4) (v := x4 + 1) (lv' := [(4, .int (x4 + 1)), (0, .ref (x0)), (1, .int (x1)), (2, .ref (x2)), (3, .int (x3))]) hC dX9_copy_22 hl rfl rfl (by decide) rfl (fun ls hl => ?_)
    refine z_goto (tgt := 3) hC dX9_copy_25 (by decide) ?_
    exact hk3 (x0) (x1) (x2) (x3) (x4 + 1) (z_up I x2 (x3 + x4).toNatClampNeg (I x0 (x1 + x4).toNatClampNeg)) h_x0 h_x2 hz ls (lv_sub hl [1, 2, 3, 4, 0] rfl)
set_option maxRecDepth 100000 in
set_option maxHeartbeats 4000000 in
theorem b_X9_copy_3 {p : Program} {l : Launch} {e : Env} {s : State} {m : MethodId} {args : Array Value} {below : List Frame} {meth : Method} {c : Code} {D : zD} {b0 : Nat} {F : Nat} {S : zS} {X : zI} (hC : z_C p s m args meth c cX9_copy RX9 5 none D) (hT : z_T b0 S)   : ∀ (n : Nat) (x0 : Nat) (x1 : Int32) (x2 : Nat) (x3 : Int32) (x4 : Int32) (I : zI), z_is b0 S x0 10 → z_is b0 S x2 10 → z_X9_copy_3 F S  n x0 x1 x2 x3 x4 I = some X → ∀ ls : Array Slot, lv_has ls 5 [(0, .ref (x0)), (1, .int (x1)), (2, .ref (x2)), (3, .int (x3)), (4, .int (x4))] → z_W p l e { frames := 0, cells := 0, slots := 0, locals := 0 } s m args below meth c D b0 S I 0 0 (MQ below (z_Q D b0 none S X) args s 0 0 (fun q => b0 ≤ q)) (F0 m 3 ls []) := by
  intro n
  induction n with
  | zero => intro x0 x1 x2 x3 x4 I h_x0 h_x2 hz; cases hz
  | succ n ih =>
    intro x0 x1 x2 x3 x4 I h_x0 h_x2 hz ls hl
    exact bb_X9_copy_3 (F := F) hC hT  (z_X9_copy_3 F S  n)  ih x0 x1 x2 x3 x4 I h_x0 h_x2 hz ls hl
set_option maxRecDepth 100000 in
set_option maxHeartbeats 4000000 in
theorem c_X9_copy {l : Launch} {D : zD} {b0 : Nat} {S : zS} {I : zI} {X : zI} (F : Nat) (x0 : Nat) (x1 : Int32) (x2 : Nat) (x3 : Int32) (h_x0 : z_is b0 S x0 10) (h_x2 : z_is b0 S x2 10) (hz : z_X9_copy F S I x0 x1 x2 x3 = some X) : z_M l D b0 yX9_copy cX9_copy 5 none { frames := 0, cells := 0, slots := 0, locals := 0 } [.ref (x0), .int (x1), .ref (x2), .int (x3)] S I none S X := by
  refine z_met (by decide) (Nat.le_of_ble_eq_true rfl) ?_
  intro p e s m below meth c hC hnm hT ls hl
  have hl : lv_has ls 5 [(0, .ref (x0)), (1, .int (x1)), (2, .ref (x2)), (3, .int (x3))] := hl
  unfold z_X9_copy at hz
  refine z_iconst (v := 0) hC dX9_copy_0 (by decide) ?_
  refine z_istore (lv' := [(4, .int (0)), (0, .ref (x0)), (1, .int (x1)), (2, .ref (x2)), (3, .int (x3))]) hC dX9_copy_1 hl (by decide) rfl (fun ls hl => ?_)
  exact b_X9_copy_3 hC hT   F (x0) (x1) (x2) (x3) (0) (I) h_x0 h_x2 hz ls (lv_sub hl [1, 2, 3, 4, 0] rfl)
theorem zy_X9_caughtState : z_y yX9_caughtState cX9_caughtState 3 none 1 := ⟨kw_900, kw_8, by decide +kernel, by decide +kernel, by decide +kernel⟩
theorem zv_X9_caughtState : Cond.instanceMethod yX9_caughtState ∈ z_tbl ∧ Cond.selects RX9 yX9_caughtState yX9_caughtState ∈ z_tbl := ⟨kw_899, ks_37⟩
def z_X9_caughtState_48 (F : Nat) (S : zS) (k15 : Nat → Int32 → Int32 → zI → Option (zI)) (x0 : Nat) (x1 : Int32) (x2 : Int32) (y0 : Nat) (y1 : Int32) (y2 : Int32) (I : zI) : Option (zI) :=
  if y1 < 0 ∨ (S.2.1 y0).2 ≤ y1.toNatClampNeg then none else (k15 (x0) (x1) (x2 + 1) (z_up I y0 y1.toNatClampNeg y2))
def z_X9_caughtState_15B (F : Nat) (S : zS) (k15 : Nat → Int32 → Int32 → zI → Option (zI)) (x0 : Nat) (x1 : Int32) (x2 : Int32) (I : zI) : Option (zI) :=
  if x2 < 8 then (ob (S.1 x0 23) (fun r6 => if x2 < 0 ∨ (S.2.1 r6).2 ≤ x2.toNatClampNeg then none else (ob (z_X9_isUnmade F S I (I r6 x2.toNatClampNeg)) (fun q8 => if q8 = 0 then (if x2 < 0 ∨ (S.2.1 r6).2 ≤ x2.toNatClampNeg then none else (z_X9_caughtState_48 F S k15 (x0) (x1) (x2) (r6) (x2) (I r6 x2.toNatClampNeg) (I))) else (z_X9_caughtState_48 F S k15 (x0) (x1) (x2) (r6) (x2) (0) (I)))))) else (ob (S.1 x0 23) (fun r1 => if (8 : Int32) < 0 ∨ (S.2.1 r1).2 ≤ (8 : Int32).toNatClampNeg then none else (ob (S.1 x0 14) (fun r3 => if x1 < 0 ∨ (S.2.1 r3).2 ≤ x1.toNatClampNeg then none else (if (9 : Int32) < 0 ∨ (S.2.1 r1).2 ≤ (9 : Int32).toNatClampNeg then none else (some (z_up (z_up I r1 (8 : Int32).toNatClampNeg 1) r1 (9 : Int32).toNatClampNeg (10 + ((z_up I r1 (8 : Int32).toNatClampNeg 1) r3 x1.toNatClampNeg)))))))))
def z_X9_caughtState_15 (F : Nat) (S : zS)  : Nat → Nat → Int32 → Int32 → zI → Option (zI)
  | 0 => fun _ _ _ _ => none
  | n + 1 => fun x0 x1 x2 I => z_X9_caughtState_15B F S  (z_X9_caughtState_15 F S  n) x0 x1 x2 I
def z_X9_caughtState (F : Nat) (S : zS) (I : zI) (x0 : Nat) (x1 : Int32) : Option (zI) :=
  ob (S.1 x0 22) (fun r1 => ob (S.1 x0 23) (fun r2 => ob (z_X9_copy F S I r1 0 r2 0) (fun q3 => z_X9_caughtState_15 F S  F (x0) (x1) (0) (q3))))
set_option maxRecDepth 100000 in
set_option maxHeartbeats 4000000 in
theorem b_X9_caughtState_48 {p : Program} {l : Launch} {e : Env} {s : State} {m : MethodId} {args : Array Value} {below : List Frame} {meth : Method} {c : Code} {D : zD} {b0 : Nat} {F : Nat} {S : zS} {X : zI} (hC : z_C p s m args meth c cX9_caughtState RX9 3 none D) (hT : z_T b0 S) (k15 : Nat → Int32 → Int32 → zI → Option (zI)) (hk15 : ∀ (x0 : Nat) (x1 : Int32) (x2 : Int32) (I : zI) , z_is b0 S x0 9 → k15 x0 x1 x2 I = some X → ∀ ls : Array Slot, lv_has ls 3 [(0, .ref (x0)), (1, .int (x1)), (2, .int (x2))] → z_W p l e { frames := 1, cells := 0, slots := 0, locals := 24 } s m args below meth c D b0 S I 0 0 (MQ below (z_Q D b0 none S X) args s 0 0 (fun q => b0 ≤ q)) (F0 m 15 ls [])) (x0 : Nat) (x1 : Int32) (x2 : Int32) (y0 : Nat) (y1 : Int32) (y2 : Int32) (I : zI) (h_x0 : z_is b0 S x0 9) (h_y0 : z_is b0 S y0 10) (hz : z_X9_caughtState_48 F S k15 x0 x1 x2 y0 y1 y2 I = some X) (ls : Array Slot) (hl : lv_has ls 3 [(0, .ref (x0)), (1, .int (x1)), (2, .int (x2))]) : z_W p l e { frames := 1, cells := 0, slots := 0, locals := 24 } s m args below meth c D b0 S I 0 0 (MQ below (z_Q D b0 none S X) args s 0 0 (fun q => b0 ≤ q)) (F0 m 48 ls [.int (y2), .int (y1), .ref (y0)]) := by
  unfold z_X9_caughtState_48 at hz
  obtain ⟨hi1, hz⟩ := ifn_some hz
  refine z_iast hC dX9_caughtState_48 h_y0 hi1 ?_
  refine z_iinc (k0 := 2) (v := x2 + 1) (lv' := [(2, .int (x2 + 1)), (0, .ref (x0)), (1, .int (x1))]) hC dX9_caughtState_49 hl rfl rfl (by decide) rfl (fun ls hl => ?_)
  refine z_goto (tgt := 15) hC dX9_caughtState_52 (by decide) ?_
  exact hk15 (x0) (x1) (x2 + 1) (z_up I y0 y1.toNatClampNeg y2) h_x0 hz ls (lv_sub hl [1, 2, 0] rfl)
set_option maxRecDepth 100000 in
set_option maxHeartbeats 4000000 in
theorem bb_X9_caughtState_15 {p : Program} {l : Launch} {e : Env} {s : State} {m : MethodId} {args : Array Value} {below : List Frame} {meth : Method} {c : Code} {D : zD} {b0 : Nat} {F : Nat} {S : zS} {X : zI} (hC : z_C p s m args meth c cX9_caughtState RX9 3 none D) (hT : z_T b0 S) (k15 : Nat → Int32 → Int32 → zI → Option (zI)) (hk15 : ∀ (x0 : Nat) (x1 : Int32) (x2 : Int32) (I : zI) , z_is b0 S x0 9 → k15 x0 x1 x2 I = some X → ∀ ls : Array Slot, lv_has ls 3 [(0, .ref (x0)), (1, .int (x1)), (2, .int (x2))] → z_W p l e { frames := 1, cells := 0, slots := 0, locals := 24 } s m args below meth c D b0 S I 0 0 (MQ below (z_Q D b0 none S X) args s 0 0 (fun q => b0 ≤ q)) (F0 m 15 ls [])) (x0 : Nat) (x1 : Int32) (x2 : Int32) (I : zI) (h_x0 : z_is b0 S x0 9) (hz : z_X9_caughtState_15B F S k15 x0 x1 x2 I = some X) (ls : Array Slot) (hl : lv_has ls 3 [(0, .ref (x0)), (1, .int (x1)), (2, .int (x2))]) : z_W p l e { frames := 1, cells := 0, slots := 0, locals := 24 } s m args below meth c D b0 S I 0 0 (MQ below (z_Q D b0 none S X) args s 0 0 (fun q => b0 ≤ q)) (F0 m 15 ls []) := by
  unfold z_X9_caughtState_15B at hz
  refine z_iload_n hC dX9_caughtState_15 rfl (lv_at hl 2 rfl) ?_
  refine z_bipush (v := 8) hC dX9_caughtState_16 (by decide) ?_
  refine z_icmp_ge (tgt := 55) hC dX9_caughtState_18 (by decide) hz (fun hz => ?_) (fun hz => ?_)
  · skip
    refine z_aload_n hC dX9_caughtState_55 rfl (lv_at hl 0 rfl) ?_
    obtain ⟨r1, hr_r1, hz⟩ := ob_some hz
    have hk_r1 : z_is b0 S r1 10 := hT.at h_x0 hr_r1
    refine z_getR hC zc_9 23 (by decide) kw_760 dX9_caughtState_56 h_x0 rfl hr_r1 ?_
    refine z_bipush (v := 8) hC dX9_caughtState_59 (by decide) ?_
    refine z_iconst (v := 1) hC dX9_caughtState_61 (by decide) ?_
    obtain ⟨hi2, hz⟩ := ifn_some hz
    refine z_iast hC dX9_caughtState_62 hk_r1 hi2 ?_
    refine z_aload_n hC dX9_caughtState_63 rfl (lv_at hl 0 rfl) ?_
    refine z_getR hC zc_9 23 (by decide) kw_760 dX9_caughtState_64 h_x0 rfl hr_r1 ?_
    refine z_bipush (v := 9) hC dX9_caughtState_67 (by decide) ?_
    refine z_bipush (v := 10) hC dX9_caughtState_69 (by decide) ?_
    refine z_aload_n hC dX9_caughtState_71 rfl (lv_at hl 0 rfl) ?_
    obtain ⟨r3, hr_r3, hz⟩ := ob_some hz
    have hk_r3 : z_is b0 S r3 10 := hT.at h_x0 hr_r3
    refine z_getR hC zc_9 14 (by decide) kw_751 dX9_caughtState_72 h_x0 rfl hr_r3 ?_
    refine z_iload_n hC dX9_caughtState_75 rfl (lv_at hl 1 rfl) ?_
    obtain ⟨hi4, hz⟩ := ifn_some hz
    refine z_iald hC dX9_caughtState_76 hk_r3 hi4 ?_
    refine z_iadd hC dX9_caughtState_77 ?_
    obtain ⟨hi5, hz⟩ := ifn_some hz
    refine z_iast hC dX9_caughtState_78 hk_r1 hi5 ?_
    obtain rfl := Option.some.inj hz
    exact z_vret hC hT dX9_caughtState_79 (by decide) (by decide)
  · skip
    refine z_aload_n hC dX9_caughtState_21 rfl (lv_at hl 0 rfl) ?_
    obtain ⟨r6, hr_r6, hz⟩ := ob_some hz
    have hk_r6 : z_is b0 S r6 10 := hT.at h_x0 hr_r6
    refine z_getR hC zc_9 23 (by decide) kw_760 dX9_caughtState_22 h_x0 rfl hr_r6 ?_
    refine z_iload_n hC dX9_caughtState_25 rfl (lv_at hl 2 rfl) ?_
    refine z_aload_n hC dX9_caughtState_26 rfl (lv_at hl 0 rfl) ?_
    refine z_getR hC zc_9 23 (by decide) kw_760 dX9_caughtState_27 h_x0 rfl hr_r6 ?_
    refine z_iload_n hC dX9_caughtState_30 rfl (lv_at hl 2 rfl) ?_
    obtain ⟨hi7, hz⟩ := ifn_some hz
    refine z_iald hC dX9_caughtState_31 hk_r6 hi7 ?_
    obtain ⟨q8, hq_q8, hz⟩ := ob_some hz
    refine z_callS (As := [.int (I r6 x2.toNatClampNeg)]) hC hT (c_X9_isUnmade F (I r6 x2.toNatClampNeg)  hq_q8) zy_X9_isUnmade kw_902 kw_901 dX9_caughtState_32 rfl rfl hl.1 (Nat.le_of_ble_eq_true rfl) (by decide) (by decide) ?_
    refine z_if_eq (tgt := 42) hC dX9_caughtState_35 (by decide) hz (fun hz => ?_) (fun hz => ?_)
    · skip
      refine z_aload_n hC dX9_caughtState_42 rfl (lv_at hl 0 rfl) ?_
      refine z_getR hC zc_9 23 (by decide) kw_760 dX9_caughtState_43 h_x0 rfl hr_r6 ?_
      refine z_iload_n hC dX9_caughtState_46 rfl (lv_at hl 2 rfl) ?_
      obtain ⟨hi9, hz⟩ := ifn_some hz
      refine z_iald hC dX9_caughtState_47 hk_r6 hi9 ?_
      exact b_X9_caughtState_48 hC hT k15 hk15 (x0) (x1) (x2) (r6) (x2) (I r6 x2.toNatClampNeg) (I) h_x0 hk_r6 hz ls (lv_sub hl [0, 1, 2] rfl)
    · skip
      refine z_iconst (v := 0) hC dX9_caughtState_38 (by decide) ?_
      refine z_goto (tgt := 48) hC dX9_caughtState_39 (by decide) ?_
      exact b_X9_caughtState_48 hC hT k15 hk15 (x0) (x1) (x2) (r6) (x2) (0) (I) h_x0 hk_r6 hz ls (lv_sub hl [0, 1, 2] rfl)
set_option maxRecDepth 100000 in
set_option maxHeartbeats 4000000 in
theorem b_X9_caughtState_15 {p : Program} {l : Launch} {e : Env} {s : State} {m : MethodId} {args : Array Value} {below : List Frame} {meth : Method} {c : Code} {D : zD} {b0 : Nat} {F : Nat} {S : zS} {X : zI} (hC : z_C p s m args meth c cX9_caughtState RX9 3 none D) (hT : z_T b0 S)   : ∀ (n : Nat) (x0 : Nat) (x1 : Int32) (x2 : Int32) (I : zI), z_is b0 S x0 9 → z_X9_caughtState_15 F S  n x0 x1 x2 I = some X → ∀ ls : Array Slot, lv_has ls 3 [(0, .ref (x0)), (1, .int (x1)), (2, .int (x2))] → z_W p l e { frames := 1, cells := 0, slots := 0, locals := 24 } s m args below meth c D b0 S I 0 0 (MQ below (z_Q D b0 none S X) args s 0 0 (fun q => b0 ≤ q)) (F0 m 15 ls []) := by
  intro n
  induction n with
  | zero => intro x0 x1 x2 I h_x0 hz; cases hz
  | succ n ih =>
    intro x0 x1 x2 I h_x0 hz ls hl
    exact bb_X9_caughtState_15 (F := F) hC hT  (z_X9_caughtState_15 F S  n)  ih x0 x1 x2 I h_x0 hz ls hl
set_option maxRecDepth 100000 in
set_option maxHeartbeats 4000000 in
theorem c_X9_caughtState {l : Launch} {D : zD} {b0 : Nat} {S : zS} {I : zI} {X : zI} (F : Nat) (x0 : Nat) (x1 : Int32) (h_x0 : z_is b0 S x0 9) (hz : z_X9_caughtState F S I x0 x1 = some X) : z_M l D b0 yX9_caughtState cX9_caughtState 3 none { frames := 1, cells := 0, slots := 0, locals := 24 } [.ref (x0), .int (x1)] S I none S X := by
  refine z_met (by decide) (Nat.le_of_ble_eq_true rfl) ?_
  intro p e s m below meth c hC hnm hT ls hl
  have hl : lv_has ls 3 [(0, .ref (x0)), (1, .int (x1))] := hl
  unfold z_X9_caughtState at hz
  refine z_aload_n hC dX9_caughtState_0 rfl (lv_at hl 0 rfl) ?_
  obtain ⟨r1, hr_r1, hz⟩ := ob_some hz
  have hk_r1 : z_is b0 S r1 10 := hT.at h_x0 hr_r1
  refine z_getR hC zc_9 22 (by decide) kw_759 dX9_caughtState_1 h_x0 rfl hr_r1 ?_
  refine z_iconst (v := 0) hC dX9_caughtState_4 (by decide) ?_
  refine z_aload_n hC dX9_caughtState_5 rfl (lv_at hl 0 rfl) ?_
  obtain ⟨r2, hr_r2, hz⟩ := ob_some hz
  have hk_r2 : z_is b0 S r2 10 := hT.at h_x0 hr_r2
  refine z_getR hC zc_9 23 (by decide) kw_760 dX9_caughtState_6 h_x0 rfl hr_r2 ?_
  refine z_iconst (v := 0) hC dX9_caughtState_9 (by decide) ?_
  obtain ⟨q3, hq_q3, hz⟩ := ob_some hz
  refine z_callS (As := [.ref (r1), .int (0), .ref (r2), .int (0)]) hC hT (c_X9_copy F r1 0 r2 0 hk_r1 hk_r2 hq_q3) zy_X9_copy kw_887 kw_886 dX9_caughtState_10 rfl rfl hl.1 (Nat.le_of_ble_eq_true rfl) (by decide) (by decide) ?_
  refine z_iconst (v := 0) hC dX9_caughtState_13 (by decide) ?_
  refine z_istore_n (lv' := [(2, .int (0)), (0, .ref (x0)), (1, .int (x1))]) hC dX9_caughtState_14 rfl hl (by decide) rfl (fun ls hl => ?_)
  exact b_X9_caughtState_15 hC hT   F (x0) (x1) (0) (q3) h_x0 hz ls (lv_sub hl [1, 2, 0] rfl)
