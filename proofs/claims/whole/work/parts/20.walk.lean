theorem zy_X9_in : z_y yX9_in cX9_in 3 (some .boolean) 3 := ⟨kw_835, kw_8, by decide +kernel, by decide +kernel, by decide +kernel⟩
def z_X9_in (F : Nat) (S : zS) (I : zI) (x0 : Int32) (x1 : Int32) (x2 : Int32) : Option (Int32) :=
  if x0 < x1 then (some (0)) else (if x2 < x0 then (some (0)) else (some (1)))
set_option maxRecDepth 100000 in
set_option maxHeartbeats 4000000 in
theorem c_X9_in {l : Launch} {D : zD} {b0 : Nat} {S : zS} {I : zI} {X : Int32} (F : Nat) (x0 : Int32) (x1 : Int32) (x2 : Int32)  (hz : z_X9_in F S I x0 x1 x2 = some X) : z_M l D b0 yX9_in cX9_in 3 (some .boolean) { frames := 0, cells := 0, slots := 0, locals := 0 } [.int (x0), .int (x1), .int (x2)] S I (some (.int (X))) S I := by
  refine z_met (by decide) (Nat.le_of_ble_eq_true rfl) ?_
  intro p e s m below meth c hC hnm hT ls hl
  have hl : lv_has ls 3 [(0, .int (x0)), (1, .int (x1)), (2, .int (x2))] := hl
  unfold z_X9_in at hz
  refine z_iload_n hC dX9_in_0 rfl (lv_at hl 0 rfl) ?_
  refine z_iload_n hC dX9_in_1 rfl (lv_at hl 1 rfl) ?_
  refine z_icmp_lt (tgt := 14) hC dX9_in_2 (by decide) hz (fun hz => ?_) (fun hz => ?_)
  · skip
    refine z_iconst (v := 0) hC dX9_in_14 (by decide) ?_
    obtain rfl := Option.some.inj hz
    exact z_zret hC hT dX9_in_15 (Or.inl rfl) (by decide) (by decide)
  · skip
    refine z_iload_n hC dX9_in_5 rfl (lv_at hl 0 rfl) ?_
    refine z_iload_n hC dX9_in_6 rfl (lv_at hl 2 rfl) ?_
    refine z_icmp_gt (tgt := 14) hC dX9_in_7 (by decide) hz (fun hz => ?_) (fun hz => ?_)
    · skip
      refine z_iconst (v := 0) hC dX9_in_14 (by decide) ?_
      obtain rfl := Option.some.inj hz
      exact z_zret hC hT dX9_in_15 (Or.inl rfl) (by decide) (by decide)
    · skip
      refine z_iconst (v := 1) hC dX9_in_10 (by decide) ?_
      refine z_goto (tgt := 15) hC dX9_in_11 (by decide) ?_
      obtain rfl := Option.some.inj hz
      exact z_zret hC hT dX9_in_15 (Or.inr rfl) (by decide) (by decide)
theorem zy_X9_isClass : z_y yX9_isClass cX9_isClass 2 (some .boolean) 1 := ⟨kw_832, kw_8, by decide +kernel, by decide +kernel, by decide +kernel⟩
theorem zv_X9_isClass : Cond.instanceMethod yX9_isClass ∈ z_tbl ∧ Cond.selects RX9 yX9_isClass yX9_isClass ∈ z_tbl := ⟨kw_831, ks_30⟩
def z_X9_isClass (F : Nat) (S : zS) (I : zI) (x0 : Nat) (x1 : Int32) : Option (Int32) :=
  ob (z_X9_in F S I x1 0 ((I x0 0) - 1)) (fun q1 => if q1 = 0 ∨ q1 = 1 then (some (q1)) else none)
set_option maxRecDepth 100000 in
set_option maxHeartbeats 4000000 in
theorem c_X9_isClass {l : Launch} {D : zD} {b0 : Nat} {S : zS} {I : zI} {X : Int32} (F : Nat) (x0 : Nat) (x1 : Int32) (h_x0 : z_is b0 S x0 9) (hz : z_X9_isClass F S I x0 x1 = some X) : z_M l D b0 yX9_isClass cX9_isClass 2 (some .boolean) { frames := 1, cells := 0, slots := 0, locals := 22 } [.ref (x0), .int (x1)] S I (some (.int (X))) S I := by
  refine z_met (by decide) (Nat.le_of_ble_eq_true rfl) ?_
  intro p e s m below meth c hC hnm hT ls hl
  have hl : lv_has ls 2 [(0, .ref (x0)), (1, .int (x1))] := hl
  unfold z_X9_isClass at hz
  refine z_iload_n hC dX9_isClass_0 rfl (lv_at hl 1 rfl) ?_
  refine z_iconst (v := 0) hC dX9_isClass_1 (by decide) ?_
  refine z_aload_n hC dX9_isClass_2 rfl (lv_at hl 0 rfl) ?_
  refine z_getI hC zc_9 0 (by decide) kw_737 dX9_isClass_3 h_x0 rfl ?_
  refine z_iconst (v := 1) hC dX9_isClass_6 (by decide) ?_
  refine z_isub hC dX9_isClass_7 ?_
  obtain ⟨q1, hq_q1, hz⟩ := ob_some hz
  refine z_callS (As := [.int (x1), .int (0), .int ((I x0 0) - 1)]) hC hT (c_X9_in F x1 0 ((I x0 0) - 1)  hq_q1) zy_X9_in kw_834 kw_833 dX9_isClass_8 rfl rfl hl.1 (Nat.le_of_ble_eq_true rfl) (by decide) (by decide) ?_
  obtain ⟨hb2, hz⟩ := ifp_some hz
  obtain rfl := Option.some.inj hz
  exact z_zret hC hT dX9_isClass_11 hb2 (by decide) (by decide)
theorem zy_X9_isMethod : z_y yX9_isMethod cX9_isMethod 1 (some .boolean) 1 := ⟨kw_862, kw_8, by decide +kernel, by decide +kernel, by decide +kernel⟩
def z_X9_isMethod (F : Nat) (S : zS) (I : zI) (x0 : Int32) : Option (Int32) :=
  ob (z_X9_in F S I x0 0 7) (fun q1 => if q1 = 0 ∨ q1 = 1 then (some (q1)) else none)
set_option maxRecDepth 100000 in
set_option maxHeartbeats 4000000 in
theorem c_X9_isMethod {l : Launch} {D : zD} {b0 : Nat} {S : zS} {I : zI} {X : Int32} (F : Nat) (x0 : Int32)  (hz : z_X9_isMethod F S I x0 = some X) : z_M l D b0 yX9_isMethod cX9_isMethod 1 (some .boolean) { frames := 1, cells := 0, slots := 0, locals := 22 } [.int (x0)] S I (some (.int (X))) S I := by
  refine z_met (by decide) (Nat.le_of_ble_eq_true rfl) ?_
  intro p e s m below meth c hC hnm hT ls hl
  have hl : lv_has ls 1 [(0, .int (x0))] := hl
  unfold z_X9_isMethod at hz
  refine z_iload_n hC dX9_isMethod_0 rfl (lv_at hl 0 rfl) ?_
  refine z_iconst (v := 0) hC dX9_isMethod_1 (by decide) ?_
  refine z_bipush (v := 7) hC dX9_isMethod_2 (by decide) ?_
  obtain ⟨q1, hq_q1, hz⟩ := ob_some hz
  refine z_callS (As := [.int (x0), .int (0), .int (7)]) hC hT (c_X9_in F x0 0 7  hq_q1) zy_X9_in kw_834 kw_833 dX9_isMethod_4 rfl rfl hl.1 (Nat.le_of_ble_eq_true rfl) (by decide) (by decide) ?_
  obtain ⟨hb2, hz⟩ := ifp_some hz
  obtain rfl := Option.some.inj hz
  exact z_zret hC hT dX9_isMethod_7 hb2 (by decide) (by decide)
theorem zy_X9_cls : z_y yX9_cls cX9_cls 3 (some .int) 2 := ⟨kw_828, kw_8, by decide +kernel, by decide +kernel, by decide +kernel⟩
theorem zv_X9_cls : Cond.instanceMethod yX9_cls ∈ z_tbl ∧ Cond.selects RX9 yX9_cls yX9_cls ∈ z_tbl := ⟨kw_826, kw_827⟩
def z_X9_cls_27 (F : Nat) (S : zS)  (x0 : Nat) (x1 : Int32) (x2 : Int32) (I : zI) : Option (Int32 × zI) :=
  if (I x0 0) = 16 then (some ((-2), I)) else (ob (S.1 x0 1) (fun r1 => if (I x0 0) < 0 ∨ (S.2.1 r1).2 ≤ (I x0 0).toNatClampNeg then none else (ob (S.1 x0 2) (fun r3 => if ((z_up I r1 (I x0 0).toNatClampNeg x1) x0 0) < 0 ∨ (S.2.1 r3).2 ≤ ((z_up I r1 (I x0 0).toNatClampNeg x1) x0 0).toNatClampNeg then none else (if x2 = 0 ∨ x2 = 1 then (some (((z_up (z_up (z_up I r1 (I x0 0).toNatClampNeg x1) r3 ((z_up I r1 (I x0 0).toNatClampNeg x1) x0 0).toNatClampNeg x2) x0 0 (((z_up (z_up I r1 (I x0 0).toNatClampNeg x1) r3 ((z_up I r1 (I x0 0).toNatClampNeg x1) x0 0).toNatClampNeg x2) x0 0) + 1)) x0 0) - 1, z_up (z_up (z_up I r1 (I x0 0).toNatClampNeg x1) r3 ((z_up I r1 (I x0 0).toNatClampNeg x1) x0 0).toNatClampNeg x2) x0 0 (((z_up (z_up I r1 (I x0 0).toNatClampNeg x1) r3 ((z_up I r1 (I x0 0).toNatClampNeg x1) x0 0).toNatClampNeg x2) x0 0) + 1))) else none)))))
def z_X9_cls (F : Nat) (S : zS) (I : zI) (x0 : Nat) (x1 : Int32) (x2 : Int32) : Option (Int32 × zI) :=
  ob (z_X9_isClass F S I x0 x1) (fun q1 => if q1 = 0 then (some ((-1), I)) else (ob (S.1 x0 2) (fun r2 => if x1 < 0 ∨ (S.2.1 r2).2 ≤ x1.toNatClampNeg then none else (if (I r2 x1.toNatClampNeg) = 0 then (if x2 = 0 then (z_X9_cls_27 F S  (x0) (x1) (x2) (I)) else (if x1 = 0 then (z_X9_cls_27 F S  (x0) (x1) (x2) (I)) else (some ((-1), I)))) else (some ((-1), I))))))
set_option maxRecDepth 100000 in
set_option maxHeartbeats 4000000 in
theorem b_X9_cls_27 {p : Program} {l : Launch} {e : Env} {s : State} {m : MethodId} {args : Array Value} {below : List Frame} {meth : Method} {c : Code} {D : zD} {b0 : Nat} {F : Nat} {S : zS} {X : Int32 × zI} (hC : z_C p s m args meth c cX9_cls RX9 3 (some .int) D) (hT : z_T b0 S)   (x0 : Nat) (x1 : Int32) (x2 : Int32) (I : zI) (h_x0 : z_is b0 S x0 9) (hz : z_X9_cls_27 F S  x0 x1 x2 I = some X) (ls : Array Slot) (hl : lv_has ls 3 [(0, .ref (x0)), (1, .int (x1)), (2, .int (x2))]) : z_W p l e { frames := 2, cells := 0, slots := 0, locals := 43 } s m args below meth c D b0 S I 0 0 (MQ below (z_Q D b0 (some (.int (X.1))) S X.2) args s 0 0 (fun q => b0 ≤ q)) (F0 m 27 ls []) := by
  unfold z_X9_cls_27 at hz
  refine z_aload_n hC dX9_cls_27 rfl (lv_at hl 0 rfl) ?_
  refine z_getI hC zc_9 0 (by decide) kw_737 dX9_cls_28 h_x0 rfl ?_
  refine z_bipush (v := 16) hC dX9_cls_31 (by decide) ?_
  refine z_icmp_ne (tgt := 39) hC dX9_cls_33 (by decide) hz (fun hz => ?_) (fun hz => ?_)
  · skip
    refine z_aload_n hC dX9_cls_39 rfl (lv_at hl 0 rfl) ?_
    obtain ⟨r1, hr_r1, hz⟩ := ob_some hz
    have hk_r1 : z_is b0 S r1 10 := hT.at h_x0 hr_r1
    refine z_getR hC zc_9 1 (by decide) kw_738 dX9_cls_40 h_x0 rfl hr_r1 ?_
    refine z_aload_n hC dX9_cls_43 rfl (lv_at hl 0 rfl) ?_
    refine z_getI hC zc_9 0 (by decide) kw_737 dX9_cls_44 h_x0 rfl ?_
    refine z_iload_n hC dX9_cls_47 rfl (lv_at hl 1 rfl) ?_
    obtain ⟨hi2, hz⟩ := ifn_some hz
    refine z_iast hC dX9_cls_48 hk_r1 hi2 ?_
    refine z_aload_n hC dX9_cls_49 rfl (lv_at hl 0 rfl) ?_
    obtain ⟨r3, hr_r3, hz⟩ := ob_some hz
    have hk_r3 : z_is b0 S r3 11 := hT.at h_x0 hr_r3
    refine z_getR hC zc_9 2 (by decide) kw_739 dX9_cls_50 h_x0 rfl hr_r3 ?_
    refine z_aload_n hC dX9_cls_53 rfl (lv_at hl 0 rfl) ?_
    refine z_getI hC zc_9 0 (by decide) kw_737 dX9_cls_54 h_x0 rfl ?_
    refine z_iload_n hC dX9_cls_57 rfl (lv_at hl 2 rfl) ?_
    obtain ⟨hi4, hz⟩ := ifn_some hz
    obtain ⟨hb5, hz⟩ := ifp_some hz
    refine z_zast hC dX9_cls_58 hk_r3 hi4 (z_bool hb5) ?_
    refine z_aload_n hC dX9_cls_59 rfl (lv_at hl 0 rfl) ?_
    refine z_dup hC dX9_cls_60 rfl ?_
    refine z_getI hC zc_9 0 (by decide) kw_737 dX9_cls_61 h_x0 rfl ?_
    refine z_iconst (v := 1) hC dX9_cls_64 (by decide) ?_
    refine z_iadd hC dX9_cls_65 ?_
    refine z_putI hC zc_9 0 (by decide) kw_737 dX9_cls_66 h_x0 rfl rfl rfl rfl ?_
    refine z_aload_n hC dX9_cls_69 rfl (lv_at hl 0 rfl) ?_
    refine z_getI hC zc_9 0 (by decide) kw_737 dX9_cls_70 h_x0 rfl ?_
    refine z_iconst (v := 1) hC dX9_cls_73 (by decide) ?_
    refine z_isub hC dX9_cls_74 ?_
    obtain rfl := Option.some.inj hz
    exact z_iret hC hT dX9_cls_75 (by decide) (by decide)
  · skip
    refine z_bipush (v := (-2)) hC dX9_cls_36 (by decide) ?_
    obtain rfl := Option.some.inj hz
    exact z_iret hC hT dX9_cls_38 (by decide) (by decide)
set_option maxRecDepth 100000 in
set_option maxHeartbeats 4000000 in
theorem c_X9_cls {l : Launch} {D : zD} {b0 : Nat} {S : zS} {I : zI} {X : Int32 × zI} (F : Nat) (x0 : Nat) (x1 : Int32) (x2 : Int32) (h_x0 : z_is b0 S x0 9) (hz : z_X9_cls F S I x0 x1 x2 = some X) : z_M l D b0 yX9_cls cX9_cls 3 (some .int) { frames := 2, cells := 0, slots := 0, locals := 43 } [.ref (x0), .int (x1), .int (x2)] S I (some (.int (X.1))) S X.2 := by
  refine z_met (by decide) (Nat.le_of_ble_eq_true rfl) ?_
  intro p e s m below meth c hC hnm hT ls hl
  have hl : lv_has ls 3 [(0, .ref (x0)), (1, .int (x1)), (2, .int (x2))] := hl
  unfold z_X9_cls at hz
  refine z_aload_n hC dX9_cls_0 rfl (lv_at hl 0 rfl) ?_
  refine z_iload_n hC dX9_cls_1 rfl (lv_at hl 1 rfl) ?_
  obtain ⟨q1, hq_q1, hz⟩ := ob_some hz
  refine z_callV (As := [.int (x1)]) hC hT (c_X9_isClass F x0 x1 h_x0 hq_q1) zy_X9_isClass zc_9 zv_X9_isClass kw_829 dX9_cls_2 h_x0 rfl rfl hl.1 (Nat.le_of_ble_eq_true rfl) (by decide) (by decide) ?_
  refine z_if_eq (tgt := 25) hC dX9_cls_5 (by decide) hz (fun hz => ?_) (fun hz => ?_)
  · skip
    refine z_iconst (v := (-1)) hC dX9_cls_25 (by decide) ?_
    obtain rfl := Option.some.inj hz
    exact z_iret hC hT dX9_cls_26 (by decide) (by decide)
  · skip
    refine z_aload_n hC dX9_cls_8 rfl (lv_at hl 0 rfl) ?_
    obtain ⟨r2, hr_r2, hz⟩ := ob_some hz
    have hk_r2 : z_is b0 S r2 11 := hT.at h_x0 hr_r2
    refine z_getR hC zc_9 2 (by decide) kw_739 dX9_cls_9 h_x0 rfl hr_r2 ?_
    refine z_iload_n hC dX9_cls_12 rfl (lv_at hl 1 rfl) ?_
    obtain ⟨hi3, hz⟩ := ifn_some hz
    refine z_zald hC dX9_cls_13 hk_r2 hi3 ?_
    refine z_if_ne (tgt := 25) hC dX9_cls_14 (by decide) hz (fun hz => ?_) (fun hz => ?_)
    · skip
      refine z_iconst (v := (-1)) hC dX9_cls_25 (by decide) ?_
      obtain rfl := Option.some.inj hz
      exact z_iret hC hT dX9_cls_26 (by decide) (by decide)
    · skip
      refine z_iload_n hC dX9_cls_17 rfl (lv_at hl 2 rfl) ?_
      refine z_if_eq (tgt := 27) hC dX9_cls_18 (by decide) hz (fun hz => ?_) (fun hz => ?_)
      · skip
        exact b_X9_cls_27 hC hT   (x0) (x1) (x2) (I) h_x0 hz ls (lv_sub hl [0, 1, 2] rfl)
      · skip
        refine z_iload_n hC dX9_cls_21 rfl (lv_at hl 1 rfl) ?_
        refine z_if_eq (tgt := 27) hC dX9_cls_22 (by decide) hz (fun hz => ?_) (fun hz => ?_)
        · skip
          exact b_X9_cls_27 hC hT   (x0) (x1) (x2) (I) h_x0 hz ls (lv_sub hl [0, 1, 2] rfl)
        · skip
          refine z_iconst (v := (-1)) hC dX9_cls_25 (by decide) ?_
          obtain rfl := Option.some.inj hz
          exact z_iret hC hT dX9_cls_26 (by decide) (by decide)
theorem zy_X9_isBelow : z_y yX9_isBelow cX9_isBelow 4 (some .boolean) 2 := ⟨kw_847, kw_8, by decide +kernel, by decide +kernel, by decide +kernel⟩
theorem zv_X9_isBelow : Cond.instanceMethod yX9_isBelow ∈ z_tbl ∧ Cond.selects RX9 yX9_isBelow yX9_isBelow ∈ z_tbl := ⟨kw_846, ks_32⟩
def z_X9_isBelow_21 (F : Nat) (S : zS) (I : zI)  (x2 : Int32) (x3 : Int32) : Option (Int32) :=
  if x3 = x2 then (some (1)) else (some (0))
def z_X9_isBelow_2B (F : Nat) (S : zS) (I : zI) (k2 : Nat → Int32 → Int32 → Option (Int32)) (x0 : Nat) (x2 : Int32) (x3 : Int32) : Option (Int32) :=
  if x3 = x2 then (z_X9_isBelow_21 F S I  (x2) (x3)) else (if x3 = 0 then (z_X9_isBelow_21 F S I  (x2) (x3)) else (ob (S.1 x0 1) (fun r1 => if x3 < 0 ∨ (S.2.1 r1).2 ≤ x3.toNatClampNeg then none else (k2 (x0) (x2) (I r1 x3.toNatClampNeg)))))
def z_X9_isBelow_2 (F : Nat) (S : zS) (I : zI)  : Nat → Nat → Int32 → Int32 → Option (Int32)
  | 0 => fun _ _ _ => none
  | n + 1 => fun x0 x2 x3 => z_X9_isBelow_2B F S I  (z_X9_isBelow_2 F S I  n) x0 x2 x3
def z_X9_isBelow (F : Nat) (S : zS) (I : zI) (x0 : Nat) (x1 : Int32) (x2 : Int32) : Option (Int32) :=
  z_X9_isBelow_2 F S I  F (x0) (x2) (x1)
set_option maxRecDepth 100000 in
set_option maxHeartbeats 4000000 in
theorem b_X9_isBelow_21 {p : Program} {l : Launch} {e : Env} {s : State} {m : MethodId} {args : Array Value} {below : List Frame} {meth : Method} {c : Code} {D : zD} {b0 : Nat} {F : Nat} {S : zS} {I : zI} {X : Int32} (hC : z_C p s m args meth c cX9_isBelow RX9 4 (some .boolean) D) (hT : z_T b0 S)   (x2 : Int32) (x3 : Int32)  (hz : z_X9_isBelow_21 F S I  x2 x3 = some X) (ls : Array Slot) (hl : lv_has ls 4 [(2, .int (x2)), (3, .int (x3))]) : z_W p l e { frames := 0, cells := 0, slots := 0, locals := 0 } s m args below meth c D b0 S I 0 0 (MQ below (z_Q D b0 (some (.int (X))) S I) args s 0 0 (fun q => b0 ≤ q)) (F0 m 21 ls []) := by
  unfold z_X9_isBelow_21 at hz
  refine z_iload_n hC dX9_isBelow_21 rfl (lv_at hl 1 rfl) ?_
  refine z_iload_n hC dX9_isBelow_22 rfl (lv_at hl 0 rfl) ?_
  refine z_icmp_ne (tgt := 30) hC dX9_isBelow_23 (by decide) hz (fun hz => ?_) (fun hz => ?_)
  · skip
    refine z_iconst (v := 0) hC dX9_isBelow_30 (by decide) ?_
    obtain rfl := Option.some.inj hz
    exact z_zret hC hT dX9_isBelow_31 (Or.inl rfl) (by decide) (by decide)
  · skip
    refine z_iconst (v := 1) hC dX9_isBelow_26 (by decide) ?_
    refine z_goto (tgt := 31) hC dX9_isBelow_27 (by decide) ?_
    obtain rfl := Option.some.inj hz
    exact z_zret hC hT dX9_isBelow_31 (Or.inr rfl) (by decide) (by decide)
set_option maxRecDepth 100000 in
set_option maxHeartbeats 4000000 in
theorem bb_X9_isBelow_2 {p : Program} {l : Launch} {e : Env} {s : State} {m : MethodId} {args : Array Value} {below : List Frame} {meth : Method} {c : Code} {D : zD} {b0 : Nat} {F : Nat} {S : zS} {I : zI} {X : Int32} (hC : z_C p s m args meth c cX9_isBelow RX9 4 (some .boolean) D) (hT : z_T b0 S) (k2 : Nat → Int32 → Int32 → Option (Int32)) (hk2 : ∀ (x0 : Nat) (x2 : Int32) (x3 : Int32) , z_is b0 S x0 9 → k2 x0 x2 x3 = some X → ∀ ls : Array Slot, lv_has ls 4 [(0, .ref (x0)), (2, .int (x2)), (3, .int (x3))] → z_W p l e { frames := 0, cells := 0, slots := 0, locals := 0 } s m args below meth c D b0 S I 0 0 (MQ below (z_Q D b0 (some (.int (X))) S I) args s 0 0 (fun q => b0 ≤ q)) (F0 m 2 ls [])) (x0 : Nat) (x2 : Int32) (x3 : Int32) (h_x0 : z_is b0 S x0 9) (hz : z_X9_isBelow_2B F S I k2 x0 x2 x3 = some X) (ls : Array Slot) (hl : lv_has ls 4 [(0, .ref (x0)), (2, .int (x2)), (3, .int (x3))]) : z_W p l e { frames := 0, cells := 0, slots := 0, locals := 0 } s m args below meth c D b0 S I 0 0 (MQ below (z_Q D b0 (some (.int (X))) S I) args s 0 0 (fun q => b0 ≤ q)) (F0 m 2 ls []) := by
  unfold z_X9_isBelow_2B at hz
  refine z_iload_n hC dX9_isBelow_2 rfl (lv_at hl 2 rfl) ?_
  refine z_iload_n hC dX9_isBelow_3 rfl (lv_at hl 1 rfl) ?_
  refine z_icmp_eq (tgt := 21) hC dX9_isBelow_4 (by decide) hz (fun hz => ?_) (fun hz => ?_)
  · skip
    exact b_X9_isBelow_21 hC hT   (x2) (x3) hz ls (lv_sub hl [1, 2] rfl)
  · skip
    refine z_iload_n hC dX9_isBelow_7 rfl (lv_at hl 2 rfl) ?_
    refine z_if_eq (tgt := 21) hC dX9_isBelow_8 (by decide) hz (fun hz => ?_) (fun hz => ?_)
    · skip
      exact b_X9_isBelow_21 hC hT   (x2) (x3) hz ls (lv_sub hl [1, 2] rfl)
    · skip
      refine z_aload_n hC dX9_isBelow_11 rfl (lv_at hl 0 rfl) ?_
      obtain ⟨r1, hr_r1, hz⟩ := ob_some hz
      have hk_r1 : z_is b0 S r1 10 := hT.at h_x0 hr_r1
      refine z_getR hC zc_9 1 (by decide) kw_738 dX9_isBelow_12 h_x0 rfl hr_r1 ?_
      refine z_iload_n hC dX9_isBelow_15 rfl (lv_at hl 2 rfl) ?_
      obtain ⟨hi2, hz⟩ := ifn_some hz
      refine z_iald hC dX9_isBelow_16 hk_r1 hi2 ?_
      refine z_istore_n (lv' := [(3, .int (I r1 x3.toNatClampNeg)), (0, .ref (x0)), (2, .int (x2))]) hC dX9_isBelow_17 rfl hl (by decide) rfl (fun ls hl => ?_)
      refine z_goto (tgt := 2) hC dX9_isBelow_18 (by decide) ?_
      exact hk2 (x0) (x2) (I r1 x3.toNatClampNeg) h_x0 hz ls (lv_sub hl [1, 2, 0] rfl)
set_option maxRecDepth 100000 in
set_option maxHeartbeats 4000000 in
theorem b_X9_isBelow_2 {p : Program} {l : Launch} {e : Env} {s : State} {m : MethodId} {args : Array Value} {below : List Frame} {meth : Method} {c : Code} {D : zD} {b0 : Nat} {F : Nat} {S : zS} {I : zI} {X : Int32} (hC : z_C p s m args meth c cX9_isBelow RX9 4 (some .boolean) D) (hT : z_T b0 S)   : ∀ (n : Nat) (x0 : Nat) (x2 : Int32) (x3 : Int32), z_is b0 S x0 9 → z_X9_isBelow_2 F S I  n x0 x2 x3 = some X → ∀ ls : Array Slot, lv_has ls 4 [(0, .ref (x0)), (2, .int (x2)), (3, .int (x3))] → z_W p l e { frames := 0, cells := 0, slots := 0, locals := 0 } s m args below meth c D b0 S I 0 0 (MQ below (z_Q D b0 (some (.int (X))) S I) args s 0 0 (fun q => b0 ≤ q)) (F0 m 2 ls []) := by
  intro n
  induction n with
  | zero => intro x0 x2 x3 h_x0 hz; cases hz
  | succ n ih =>
    intro x0 x2 x3 h_x0 hz ls hl
    exact bb_X9_isBelow_2 (F := F) hC hT  (z_X9_isBelow_2 F S I  n)  ih x0 x2 x3 h_x0 hz ls hl
set_option maxRecDepth 100000 in
set_option maxHeartbeats 4000000 in
theorem c_X9_isBelow {l : Launch} {D : zD} {b0 : Nat} {S : zS} {I : zI} {X : Int32} (F : Nat) (x0 : Nat) (x1 : Int32) (x2 : Int32) (h_x0 : z_is b0 S x0 9) (hz : z_X9_isBelow F S I x0 x1 x2 = some X) : z_M l D b0 yX9_isBelow cX9_isBelow 4 (some .boolean) { frames := 0, cells := 0, slots := 0, locals := 0 } [.ref (x0), .int (x1), .int (x2)] S I (some (.int (X))) S I := by
  refine z_met (by decide) (Nat.le_of_ble_eq_true rfl) ?_
  intro p e s m below meth c hC hnm hT ls hl
  have hl : lv_has ls 4 [(0, .ref (x0)), (1, .int (x1)), (2, .int (x2))] := hl
  unfold z_X9_isBelow at hz
  refine z_iload_n hC dX9_isBelow_0 rfl (lv_at hl 1 rfl) ?_
  refine z_istore_n (lv' := [(3, .int (x1)), (0, .ref (x0)), (1, .int (x1)), (2, .int (x2))]) hC dX9_isBelow_1 rfl hl (by decide) rfl (fun ls hl => ?_)
  exact b_X9_isBelow_2 hC hT   F (x0) (x2) (x1) h_x0 hz ls (lv_sub hl [1, 3, 0] rfl)
theorem zy_X9_joinOf : z_y yX9_joinOf cX9_joinOf 4 (some .int) 2 := ⟨kw_843, kw_8, by decide +kernel, by decide +kernel, by decide +kernel⟩
theorem zv_X9_joinOf : Cond.instanceMethod yX9_joinOf ∈ z_tbl ∧ Cond.selects RX9 yX9_joinOf yX9_joinOf ∈ z_tbl := ⟨kw_842, ks_31⟩
def z_X9_joinOf_29B (F : Nat) (S : zS) (I : zI) (k29 : Nat → Int32 → Int32 → Option (Int32)) (x0 : Nat) (x2 : Int32) (x3 : Int32) : Option (Int32) :=
  ob (z_X9_isBelow F S I x0 x2 x3) (fun q1 => if q1 = 0 then (ob (S.1 x0 1) (fun r2 => if x3 < 0 ∨ (S.2.1 r2).2 ≤ x3.toNatClampNeg then none else (k29 (x0) (x2) (I r2 x3.toNatClampNeg)))) else (some (x3)))
def z_X9_joinOf_29 (F : Nat) (S : zS) (I : zI)  : Nat → Nat → Int32 → Int32 → Option (Int32)
  | 0 => fun _ _ _ => none
  | n + 1 => fun x0 x2 x3 => z_X9_joinOf_29B F S I  (z_X9_joinOf_29 F S I  n) x0 x2 x3
def z_X9_joinOf (F : Nat) (S : zS) (I : zI) (x0 : Nat) (x1 : Int32) (x2 : Int32) : Option (Int32) :=
  if x1 = x2 then (some (x1)) else (ob (S.1 x0 2) (fun r1 => if x1 < 0 ∨ (S.2.1 r1).2 ≤ x1.toNatClampNeg then none else (if (I r1 x1.toNatClampNeg) = 0 then (if x2 < 0 ∨ (S.2.1 r1).2 ≤ x2.toNatClampNeg then none else (if (I r1 x2.toNatClampNeg) = 0 then (z_X9_joinOf_29 F S I  F (x0) (x2) (x1)) else (some (0)))) else (some (0)))))
set_option maxRecDepth 100000 in
set_option maxHeartbeats 4000000 in
theorem bb_X9_joinOf_29 {p : Program} {l : Launch} {e : Env} {s : State} {m : MethodId} {args : Array Value} {below : List Frame} {meth : Method} {c : Code} {D : zD} {b0 : Nat} {F : Nat} {S : zS} {I : zI} {X : Int32} (hC : z_C p s m args meth c cX9_joinOf RX9 4 (some .int) D) (hT : z_T b0 S) (k29 : Nat → Int32 → Int32 → Option (Int32)) (hk29 : ∀ (x0 : Nat) (x2 : Int32) (x3 : Int32) , z_is b0 S x0 9 → k29 x0 x2 x3 = some X → ∀ ls : Array Slot, lv_has ls 4 [(0, .ref (x0)), (2, .int (x2)), (3, .int (x3))] → z_W p l e { frames := 1, cells := 0, slots := 0, locals := 23 } s m args below meth c D b0 S I 0 0 (MQ below (z_Q D b0 (some (.int (X))) S I) args s 0 0 (fun q => b0 ≤ q)) (F0 m 29 ls [])) (x0 : Nat) (x2 : Int32) (x3 : Int32) (h_x0 : z_is b0 S x0 9) (hz : z_X9_joinOf_29B F S I k29 x0 x2 x3 = some X) (ls : Array Slot) (hl : lv_has ls 4 [(0, .ref (x0)), (2, .int (x2)), (3, .int (x3))]) : z_W p l e { frames := 1, cells := 0, slots := 0, locals := 23 } s m args below meth c D b0 S I 0 0 (MQ below (z_Q D b0 (some (.int (X))) S I) args s 0 0 (fun q => b0 ≤ q)) (F0 m 29 ls []) := by
  unfold z_X9_joinOf_29B at hz
  refine z_aload_n hC dX9_joinOf_29 rfl (lv_at hl 0 rfl) ?_
  refine z_iload_n hC dX9_joinOf_30 rfl (lv_at hl 1 rfl) ?_
  refine z_iload_n hC dX9_joinOf_31 rfl (lv_at hl 2 rfl) ?_
  obtain ⟨q1, hq_q1, hz⟩ := ob_some hz
  refine z_callV (As := [.int (x2), .int (x3)]) hC hT (c_X9_isBelow F x0 x2 x3 h_x0 hq_q1) zy_X9_isBelow zc_9 zv_X9_isBelow kw_844 dX9_joinOf_32 h_x0 rfl rfl hl.1 (Nat.le_of_ble_eq_true rfl) (by decide) (by decide) ?_
  refine z_if_ne (tgt := 48) hC dX9_joinOf_35 (by decide) hz (fun hz => ?_) (fun hz => ?_)
  · skip
    refine z_iload_n hC dX9_joinOf_48 rfl (lv_at hl 2 rfl) ?_
    obtain rfl := Option.some.inj hz
    exact z_iret hC hT dX9_joinOf_49 (by decide) (by decide)
  · skip
    refine z_aload_n hC dX9_joinOf_38 rfl (lv_at hl 0 rfl) ?_
    obtain ⟨r2, hr_r2, hz⟩ := ob_some hz
    have hk_r2 : z_is b0 S r2 10 := hT.at h_x0 hr_r2
    refine z_getR hC zc_9 1 (by decide) kw_738 dX9_joinOf_39 h_x0 rfl hr_r2 ?_
    refine z_iload_n hC dX9_joinOf_42 rfl (lv_at hl 2 rfl) ?_
    obtain ⟨hi3, hz⟩ := ifn_some hz
    refine z_iald hC dX9_joinOf_43 hk_r2 hi3 ?_
    refine z_istore_n (lv' := [(3, .int (I r2 x3.toNatClampNeg)), (0, .ref (x0)), (2, .int (x2))]) hC dX9_joinOf_44 rfl hl (by decide) rfl (fun ls hl => ?_)
    refine z_goto (tgt := 29) hC dX9_joinOf_45 (by decide) ?_
    exact hk29 (x0) (x2) (I r2 x3.toNatClampNeg) h_x0 hz ls (lv_sub hl [1, 2, 0] rfl)
set_option maxRecDepth 100000 in
set_option maxHeartbeats 4000000 in
theorem b_X9_joinOf_29 {p : Program} {l : Launch} {e : Env} {s : State} {m : MethodId} {args : Array Value} {below : List Frame} {meth : Method} {c : Code} {D : zD} {b0 : Nat} {F : Nat} {S : zS} {I : zI} {X : Int32} (hC : z_C p s m args meth c cX9_joinOf RX9 4 (some .int) D) (hT : z_T b0 S)   : ∀ (n : Nat) (x0 : Nat) (x2 : Int32) (x3 : Int32), z_is b0 S x0 9 → z_X9_joinOf_29 F S I  n x0 x2 x3 = some X → ∀ ls : Array Slot, lv_has ls 4 [(0, .ref (x0)), (2, .int (x2)), (3, .int (x3))] → z_W p l e { frames := 1, cells := 0, slots := 0, locals := 23 } s m args below meth c D b0 S I 0 0 (MQ below (z_Q D b0 (some (.int (X))) S I) args s 0 0 (fun q => b0 ≤ q)) (F0 m 29 ls []) := by
  intro n
  induction n with
  | zero => intro x0 x2 x3 h_x0 hz; cases hz
  | succ n ih =>
    intro x0 x2 x3 h_x0 hz ls hl
    exact bb_X9_joinOf_29 (F := F) hC hT  (z_X9_joinOf_29 F S I  n)  ih x0 x2 x3 h_x0 hz ls hl
set_option maxRecDepth 100000 in
set_option maxHeartbeats 4000000 in
theorem c_X9_joinOf {l : Launch} {D : zD} {b0 : Nat} {S : zS} {I : zI} {X : Int32} (F : Nat) (x0 : Nat) (x1 : Int32) (x2 : Int32) (h_x0 : z_is b0 S x0 9) (hz : z_X9_joinOf F S I x0 x1 x2 = some X) : z_M l D b0 yX9_joinOf cX9_joinOf 4 (some .int) { frames := 1, cells := 0, slots := 0, locals := 23 } [.ref (x0), .int (x1), .int (x2)] S I (some (.int (X))) S I := by
  refine z_met (by decide) (Nat.le_of_ble_eq_true rfl) ?_
  intro p e s m below meth c hC hnm hT ls hl
  have hl : lv_has ls 4 [(0, .ref (x0)), (1, .int (x1)), (2, .int (x2))] := hl
  unfold z_X9_joinOf at hz
  refine z_iload_n hC dX9_joinOf_0 rfl (lv_at hl 1 rfl) ?_
  refine z_iload_n hC dX9_joinOf_1 rfl (lv_at hl 2 rfl) ?_
  refine z_icmp_ne (tgt := 7) hC dX9_joinOf_2 (by decide) hz (fun hz => ?_) (fun hz => ?_)
  · skip
    refine z_aload_n hC dX9_joinOf_7 rfl (lv_at hl 0 rfl) ?_
    obtain ⟨r1, hr_r1, hz⟩ := ob_some hz
    have hk_r1 : z_is b0 S r1 11 := hT.at h_x0 hr_r1
    refine z_getR hC zc_9 2 (by decide) kw_739 dX9_joinOf_8 h_x0 rfl hr_r1 ?_
    refine z_iload_n hC dX9_joinOf_11 rfl (lv_at hl 1 rfl) ?_
    obtain ⟨hi2, hz⟩ := ifn_some hz
    refine z_zald hC dX9_joinOf_12 hk_r1 hi2 ?_
    refine z_if_ne (tgt := 25) hC dX9_joinOf_13 (by decide) hz (fun hz => ?_) (fun hz => ?_)
    · skip
      refine z_iconst (v := 0) hC dX9_joinOf_25 (by decide) ?_
      obtain rfl := Option.some.inj hz
      exact z_iret hC hT dX9_joinOf_26 (by decide) (by decide)
    · skip
      refine z_aload_n hC dX9_joinOf_16 rfl (lv_at hl 0 rfl) ?_
      refine z_getR hC zc_9 2 (by decide) kw_739 dX9_joinOf_17 h_x0 rfl hr_r1 ?_
      refine z_iload_n hC dX9_joinOf_20 rfl (lv_at hl 2 rfl) ?_
      obtain ⟨hi3, hz⟩ := ifn_some hz
      refine z_zald hC dX9_joinOf_21 hk_r1 hi3 ?_
      refine z_if_eq (tgt := 27) hC dX9_joinOf_22 (by decide) hz (fun hz => ?_) (fun hz => ?_)
      · skip
        refine z_iload_n hC dX9_joinOf_27 rfl (lv_at hl 1 rfl) ?_
        refine z_istore_n (lv' := [(3, .int (x1)), (0, .ref (x0)), (1, .int (x1)), (2, .int (x2))]) hC dX9_joinOf_28 rfl hl (by decide) rfl (fun ls hl => ?_)
        exact b_X9_joinOf_29 hC hT   F (x0) (x2) (x1) h_x0 hz ls (lv_sub hl [1, 3, 0] rfl)
      · skip
        refine z_iconst (v := 0) hC dX9_joinOf_25 (by decide) ?_
        obtain rfl := Option.some.inj hz
        exact z_iret hC hT dX9_joinOf_26 (by decide) (by decide)
  · skip
    refine z_iload_n hC dX9_joinOf_5 rfl (lv_at hl 1 rfl) ?_
    obtain rfl := Option.some.inj hz
    exact z_iret hC hT dX9_joinOf_6 (by decide) (by decide)
theorem zy_X9_isOne : z_y yX9_isOne cX9_isOne 3 (some .boolean) 2 := ⟨kw_855, kw_8, by decide +kernel, by decide +kernel, by decide +kernel⟩
theorem zv_X9_isOne : Cond.instanceMethod yX9_isOne ∈ z_tbl ∧ Cond.selects RX9 yX9_isOne yX9_isOne ∈ z_tbl := ⟨kw_854, ks_33⟩
def z_X9_isOne (F : Nat) (S : zS) (I : zI) (x0 : Nat) (x1 : Int32) (x2 : Int32) : Option (Int32) :=
  ob (S.1 x0 2) (fun r1 => if x2 < 0 ∨ (S.2.1 r1).2 ≤ x2.toNatClampNeg then none else (if (I r1 x2.toNatClampNeg) = 0 then (ob (z_X9_isBelow F S I x0 x1 x2) (fun q3 => if q3 = 0 then (some (0)) else (some (1)))) else (some (1))))
set_option maxRecDepth 100000 in
set_option maxHeartbeats 4000000 in
theorem c_X9_isOne {l : Launch} {D : zD} {b0 : Nat} {S : zS} {I : zI} {X : Int32} (F : Nat) (x0 : Nat) (x1 : Int32) (x2 : Int32) (h_x0 : z_is b0 S x0 9) (hz : z_X9_isOne F S I x0 x1 x2 = some X) : z_M l D b0 yX9_isOne cX9_isOne 3 (some .boolean) { frames := 1, cells := 0, slots := 0, locals := 23 } [.ref (x0), .int (x1), .int (x2)] S I (some (.int (X))) S I := by
  refine z_met (by decide) (Nat.le_of_ble_eq_true rfl) ?_
  intro p e s m below meth c hC hnm hT ls hl
  have hl : lv_has ls 3 [(0, .ref (x0)), (1, .int (x1)), (2, .int (x2))] := hl
  unfold z_X9_isOne at hz
  refine z_aload_n hC dX9_isOne_0 rfl (lv_at hl 0 rfl) ?_
  obtain ⟨r1, hr_r1, hz⟩ := ob_some hz
  have hk_r1 : z_is b0 S r1 11 := hT.at h_x0 hr_r1
  refine z_getR hC zc_9 2 (by decide) kw_739 dX9_isOne_1 h_x0 rfl hr_r1 ?_
  refine z_iload_n hC dX9_isOne_4 rfl (lv_at hl 2 rfl) ?_
  obtain ⟨hi2, hz⟩ := ifn_some hz
  refine z_zald hC dX9_isOne_5 hk_r1 hi2 ?_
  refine z_if_ne (tgt := 18) hC dX9_isOne_6 (by decide) hz (fun hz => ?_) (fun hz => ?_)
  · skip
    refine z_iconst (v := 1) hC dX9_isOne_18 (by decide) ?_
    refine z_goto (tgt := 23) hC dX9_isOne_19 (by decide) ?_
    obtain rfl := Option.some.inj hz
    exact z_zret hC hT dX9_isOne_23 (Or.inr rfl) (by decide) (by decide)
  · skip
    refine z_aload_n hC dX9_isOne_9 rfl (lv_at hl 0 rfl) ?_
    refine z_iload_n hC dX9_isOne_10 rfl (lv_at hl 1 rfl) ?_
    refine z_iload_n hC dX9_isOne_11 rfl (lv_at hl 2 rfl) ?_
    obtain ⟨q3, hq_q3, hz⟩ := ob_some hz
    refine z_callV (As := [.int (x1), .int (x2)]) hC hT (c_X9_isBelow F x0 x1 x2 h_x0 hq_q3) zy_X9_isBelow zc_9 zv_X9_isBelow kw_844 dX9_isOne_12 h_x0 rfl rfl hl.1 (Nat.le_of_ble_eq_true rfl) (by decide) (by decide) ?_
    refine z_if_eq (tgt := 22) hC dX9_isOne_15 (by decide) hz (fun hz => ?_) (fun hz => ?_)
    · skip
      refine z_iconst (v := 0) hC dX9_isOne_22 (by decide) ?_
      obtain rfl := Option.some.inj hz
      exact z_zret hC hT dX9_isOne_23 (Or.inl rfl) (by decide) (by decide)
    · skip
      refine z_iconst (v := 1) hC dX9_isOne_18 (by decide) ?_
      refine z_goto (tgt := 23) hC dX9_isOne_19 (by decide) ?_
      obtain rfl := Option.some.inj hz
      exact z_zret hC hT dX9_isOne_23 (Or.inr rfl) (by decide) (by decide)
theorem zy_X9_joined : z_y yX9_joined cX9_joined 3 (some .int) 2 := ⟨kw_839, kw_8, by decide +kernel, by decide +kernel, by decide +kernel⟩
theorem zv_X9_joined : Cond.instanceMethod yX9_joined ∈ z_tbl ∧ Cond.selects RX9 yX9_joined yX9_joined ∈ z_tbl := ⟨kw_837, kw_838⟩
def z_X9_joined (F : Nat) (S : zS) (I : zI) (x0 : Nat) (x1 : Int32) (x2 : Int32) : Option (Int32) :=
  ob (z_X9_isClass F S I x0 x1) (fun q1 => if q1 = 0 then (some ((-1))) else (ob (z_X9_isClass F S I x0 x2) (fun q2 => if q2 = 0 then (some ((-1))) else (ob (z_X9_joinOf F S I x0 x1 x2) (fun q3 => some (q3))))))
set_option maxRecDepth 100000 in
set_option maxHeartbeats 4000000 in
theorem c_X9_joined {l : Launch} {D : zD} {b0 : Nat} {S : zS} {I : zI} {X : Int32} (F : Nat) (x0 : Nat) (x1 : Int32) (x2 : Int32) (h_x0 : z_is b0 S x0 9) (hz : z_X9_joined F S I x0 x1 x2 = some X) : z_M l D b0 yX9_joined cX9_joined 3 (some .int) { frames := 2, cells := 0, slots := 0, locals := 46 } [.ref (x0), .int (x1), .int (x2)] S I (some (.int (X))) S I := by
  refine z_met (by decide) (Nat.le_of_ble_eq_true rfl) ?_
  intro p e s m below meth c hC hnm hT ls hl
  have hl : lv_has ls 3 [(0, .ref (x0)), (1, .int (x1)), (2, .int (x2))] := hl
  unfold z_X9_joined at hz
  refine z_aload_n hC dX9_joined_0 rfl (lv_at hl 0 rfl) ?_
  refine z_iload_n hC dX9_joined_1 rfl (lv_at hl 1 rfl) ?_
  obtain ⟨q1, hq_q1, hz⟩ := ob_some hz
  refine z_callV (As := [.int (x1)]) hC hT (c_X9_isClass F x0 x1 h_x0 hq_q1) zy_X9_isClass zc_9 zv_X9_isClass kw_829 dX9_joined_2 h_x0 rfl rfl hl.1 (Nat.le_of_ble_eq_true rfl) (by decide) (by decide) ?_
  refine z_if_eq (tgt := 25) hC dX9_joined_5 (by decide) hz (fun hz => ?_) (fun hz => ?_)
  · skip
    refine z_iconst (v := (-1)) hC dX9_joined_25 (by decide) ?_
    obtain rfl := Option.some.inj hz
    exact z_iret hC hT dX9_joined_26 (by decide) (by decide)
  · skip
    refine z_aload_n hC dX9_joined_8 rfl (lv_at hl 0 rfl) ?_
    refine z_iload_n hC dX9_joined_9 rfl (lv_at hl 2 rfl) ?_
    obtain ⟨q2, hq_q2, hz⟩ := ob_some hz
    refine z_callV (As := [.int (x2)]) hC hT (c_X9_isClass F x0 x2 h_x0 hq_q2) zy_X9_isClass zc_9 zv_X9_isClass kw_829 dX9_joined_10 h_x0 rfl rfl hl.1 (Nat.le_of_ble_eq_true rfl) (by decide) (by decide) ?_
    refine z_if_eq (tgt := 25) hC dX9_joined_13 (by decide) hz (fun hz => ?_) (fun hz => ?_)
    · skip
      refine z_iconst (v := (-1)) hC dX9_joined_25 (by decide) ?_
      obtain rfl := Option.some.inj hz
      exact z_iret hC hT dX9_joined_26 (by decide) (by decide)
    · skip
      refine z_aload_n hC dX9_joined_16 rfl (lv_at hl 0 rfl) ?_
      refine z_iload_n hC dX9_joined_17 rfl (lv_at hl 1 rfl) ?_
      refine z_iload_n hC dX9_joined_18 rfl (lv_at hl 2 rfl) ?_
      obtain ⟨q3, hq_q3, hz⟩ := ob_some hz
      refine z_callV (As := [.int (x1), .int (x2)]) hC hT (c_X9_joinOf F x0 x1 x2 h_x0 hq_q3) zy_X9_joinOf zc_9 zv_X9_joinOf kw_840 dX9_joined_19 h_x0 rfl rfl hl.1 (Nat.le_of_ble_eq_true rfl) (by decide) (by decide) ?_
      refine z_goto (tgt := 26) hC dX9_joined_22 (by decide) ?_
      obtain rfl := Option.some.inj hz
      exact z_iret hC hT dX9_joined_26 (by decide) (by decide)
theorem zy_X9_is : z_y yX9_is cX9_is 3 (some .int) 2 := ⟨kw_851, kw_8, by decide +kernel, by decide +kernel, by decide +kernel⟩
theorem zv_X9_is : Cond.instanceMethod yX9_is ∈ z_tbl ∧ Cond.selects RX9 yX9_is yX9_is ∈ z_tbl := ⟨kw_849, kw_850⟩
def z_X9_is (F : Nat) (S : zS) (I : zI) (x0 : Nat) (x1 : Int32) (x2 : Int32) : Option (Int32) :=
  ob (z_X9_isClass F S I x0 x1) (fun q1 => if q1 = 0 then (some ((-1))) else (ob (z_X9_isClass F S I x0 x2) (fun q2 => if q2 = 0 then (some ((-1))) else (ob (z_X9_isOne F S I x0 x1 x2) (fun q3 => if q3 = 0 then (some (0)) else (some (1)))))))
set_option maxRecDepth 100000 in
set_option maxHeartbeats 4000000 in
theorem c_X9_is {l : Launch} {D : zD} {b0 : Nat} {S : zS} {I : zI} {X : Int32} (F : Nat) (x0 : Nat) (x1 : Int32) (x2 : Int32) (h_x0 : z_is b0 S x0 9) (hz : z_X9_is F S I x0 x1 x2 = some X) : z_M l D b0 yX9_is cX9_is 3 (some .int) { frames := 2, cells := 0, slots := 0, locals := 45 } [.ref (x0), .int (x1), .int (x2)] S I (some (.int (X))) S I := by
  refine z_met (by decide) (Nat.le_of_ble_eq_true rfl) ?_
  intro p e s m below meth c hC hnm hT ls hl
  have hl : lv_has ls 3 [(0, .ref (x0)), (1, .int (x1)), (2, .int (x2))] := hl
  unfold z_X9_is at hz
  refine z_aload_n hC dX9_is_0 rfl (lv_at hl 0 rfl) ?_
  refine z_iload_n hC dX9_is_1 rfl (lv_at hl 1 rfl) ?_
  obtain ⟨q1, hq_q1, hz⟩ := ob_some hz
  refine z_callV (As := [.int (x1)]) hC hT (c_X9_isClass F x0 x1 h_x0 hq_q1) zy_X9_isClass zc_9 zv_X9_isClass kw_829 dX9_is_2 h_x0 rfl rfl hl.1 (Nat.le_of_ble_eq_true rfl) (by decide) (by decide) ?_
  refine z_if_eq (tgt := 16) hC dX9_is_5 (by decide) hz (fun hz => ?_) (fun hz => ?_)
  · skip
    refine z_iconst (v := (-1)) hC dX9_is_16 (by decide) ?_
    refine z_goto (tgt := 34) hC dX9_is_17 (by decide) ?_
    obtain rfl := Option.some.inj hz
    exact z_iret hC hT dX9_is_34 (by decide) (by decide)
  · skip
    refine z_aload_n hC dX9_is_8 rfl (lv_at hl 0 rfl) ?_
    refine z_iload_n hC dX9_is_9 rfl (lv_at hl 2 rfl) ?_
    obtain ⟨q2, hq_q2, hz⟩ := ob_some hz
    refine z_callV (As := [.int (x2)]) hC hT (c_X9_isClass F x0 x2 h_x0 hq_q2) zy_X9_isClass zc_9 zv_X9_isClass kw_829 dX9_is_10 h_x0 rfl rfl hl.1 (Nat.le_of_ble_eq_true rfl) (by decide) (by decide) ?_
    refine z_if_ne (tgt := 20) hC dX9_is_13 (by decide) hz (fun hz => ?_) (fun hz => ?_)
    · skip
      refine z_aload_n hC dX9_is_20 rfl (lv_at hl 0 rfl) ?_
      refine z_iload_n hC dX9_is_21 rfl (lv_at hl 1 rfl) ?_
      refine z_iload_n hC dX9_is_22 rfl (lv_at hl 2 rfl) ?_
      obtain ⟨q3, hq_q3, hz⟩ := ob_some hz
      refine z_callV (As := [.int (x1), .int (x2)]) hC hT (c_X9_isOne F x0 x1 x2 h_x0 hq_q3) zy_X9_isOne zc_9 zv_X9_isOne kw_852 dX9_is_23 h_x0 rfl rfl hl.1 (Nat.le_of_ble_eq_true rfl) (by decide) (by decide) ?_
      refine z_if_eq (tgt := 33) hC dX9_is_26 (by decide) hz (fun hz => ?_) (fun hz => ?_)
      · skip
        refine z_iconst (v := 0) hC dX9_is_33 (by decide) ?_
        obtain rfl := Option.some.inj hz
        exact z_iret hC hT dX9_is_34 (by decide) (by decide)
      · skip
        refine z_iconst (v := 1) hC dX9_is_29 (by decide) ?_
        refine z_goto (tgt := 34) hC dX9_is_30 (by decide) ?_
        obtain rfl := Option.some.inj hz
        exact z_iret hC hT dX9_is_34 (by decide) (by decide)
    · skip
      refine z_iconst (v := (-1)) hC dX9_is_16 (by decide) ?_
      refine z_goto (tgt := 34) hC dX9_is_17 (by decide) ?_
      obtain rfl := Option.some.inj hz
      exact z_iret hC hT dX9_is_34 (by decide) (by decide)
theorem zy_X9_isObject : z_y yX9_isObject cX9_isObject 1 (some .boolean) 1 := ⟨kw_869, kw_8, by decide +kernel, by decide +kernel, by decide +kernel⟩
def z_X9_isObject (F : Nat) (S : zS) (I : zI) (x0 : Int32) : Option (Int32) :=
  if x0 < 10 then (some (0)) else (if x0 < 100 then (some (1)) else (some (0)))
set_option maxRecDepth 100000 in
set_option maxHeartbeats 4000000 in
theorem c_X9_isObject {l : Launch} {D : zD} {b0 : Nat} {S : zS} {I : zI} {X : Int32} (F : Nat) (x0 : Int32)  (hz : z_X9_isObject F S I x0 = some X) : z_M l D b0 yX9_isObject cX9_isObject 1 (some .boolean) { frames := 0, cells := 0, slots := 0, locals := 0 } [.int (x0)] S I (some (.int (X))) S I := by
  refine z_met (by decide) (Nat.le_of_ble_eq_true rfl) ?_
  intro p e s m below meth c hC hnm hT ls hl
  have hl : lv_has ls 1 [(0, .int (x0))] := hl
  unfold z_X9_isObject at hz
  refine z_iload_n hC dX9_isObject_0 rfl (lv_at hl 0 rfl) ?_
  refine z_bipush (v := 10) hC dX9_isObject_1 (by decide) ?_
  refine z_icmp_lt (tgt := 16) hC dX9_isObject_3 (by decide) hz (fun hz => ?_) (fun hz => ?_)
  · skip
    refine z_iconst (v := 0) hC dX9_isObject_16 (by decide) ?_
    obtain rfl := Option.some.inj hz
    exact z_zret hC hT dX9_isObject_17 (Or.inl rfl) (by decide) (by decide)
  · skip
    refine z_iload_n hC dX9_isObject_6 rfl (lv_at hl 0 rfl) ?_
    refine z_bipush (v := 100) hC dX9_isObject_7 (by decide) ?_
    refine z_icmp_ge (tgt := 16) hC dX9_isObject_9 (by decide) hz (fun hz => ?_) (fun hz => ?_)
    · skip
      refine z_iconst (v := 0) hC dX9_isObject_16 (by decide) ?_
      obtain rfl := Option.some.inj hz
      exact z_zret hC hT dX9_isObject_17 (Or.inl rfl) (by decide) (by decide)
    · skip
      refine z_iconst (v := 1) hC dX9_isObject_12 (by decide) ?_
      refine z_goto (tgt := 17) hC dX9_isObject_13 (by decide) ?_
      obtain rfl := Option.some.inj hz
      exact z_zret hC hT dX9_isObject_17 (Or.inr rfl) (by decide) (by decide)
theorem zy_X9_isUnmade : z_y yX9_isUnmade cX9_isUnmade 1 (some .boolean) 1 := ⟨kw_903, kw_8, by decide +kernel, by decide +kernel, by decide +kernel⟩
def z_X9_isUnmade (F : Nat) (S : zS) (I : zI) (x0 : Int32) : Option (Int32) :=
  if x0 < 100 then (some (0)) else (some (1))
set_option maxRecDepth 100000 in
set_option maxHeartbeats 4000000 in
theorem c_X9_isUnmade {l : Launch} {D : zD} {b0 : Nat} {S : zS} {I : zI} {X : Int32} (F : Nat) (x0 : Int32)  (hz : z_X9_isUnmade F S I x0 = some X) : z_M l D b0 yX9_isUnmade cX9_isUnmade 1 (some .boolean) { frames := 0, cells := 0, slots := 0, locals := 0 } [.int (x0)] S I (some (.int (X))) S I := by
  refine z_met (by decide) (Nat.le_of_ble_eq_true rfl) ?_
  intro p e s m below meth c hC hnm hT ls hl
  have hl : lv_has ls 1 [(0, .int (x0))] := hl
  unfold z_X9_isUnmade at hz
  refine z_iload_n hC dX9_isUnmade_0 rfl (lv_at hl 0 rfl) ?_
  refine z_bipush (v := 100) hC dX9_isUnmade_1 (by decide) ?_
  refine z_icmp_lt (tgt := 10) hC dX9_isUnmade_3 (by decide) hz (fun hz => ?_) (fun hz => ?_)
  · skip
    refine z_iconst (v := 0) hC dX9_isUnmade_10 (by decide) ?_
    obtain rfl := Option.some.inj hz
    exact z_zret hC hT dX9_isUnmade_11 (Or.inl rfl) (by decide) (by decide)
  · skip
    refine z_iconst (v := 1) hC dX9_isUnmade_6 (by decide) ?_
    refine z_goto (tgt := 11) hC dX9_isUnmade_7 (by decide) ?_
    obtain rfl := Option.some.inj hz
    exact z_zret hC hT dX9_isUnmade_11 (Or.inr rfl) (by decide) (by decide)
theorem zy_X9_joinTypes : z_y yX9_joinTypes cX9_joinTypes 3 (some .int) 2 := ⟨kw_919, kw_8, by decide +kernel, by decide +kernel, by decide +kernel⟩
theorem zv_X9_joinTypes : Cond.instanceMethod yX9_joinTypes ∈ z_tbl ∧ Cond.selects RX9 yX9_joinTypes yX9_joinTypes ∈ z_tbl := ⟨kw_918, ks_41⟩
def z_X9_joinTypes_53 (F : Nat) (S : zS) (I : zI)  (x1 : Int32) (x2 : Int32) : Option (Int32) :=
  if x2 = 4 then (ob (z_X9_isObject F S I x1) (fun q1 => if q1 = 0 then (some (0)) else (some (x1)))) else (some (0))
def z_X9_joinTypes_37 (F : Nat) (S : zS) (I : zI)  (x1 : Int32) (x2 : Int32) : Option (Int32) :=
  if x1 = 4 then (ob (z_X9_isObject F S I x2) (fun q1 => if q1 = 0 then (z_X9_joinTypes_53 F S I  (x1) (x2)) else (some (x2)))) else (z_X9_joinTypes_53 F S I  (x1) (x2))
def z_X9_joinTypes (F : Nat) (S : zS) (I : zI) (x0 : Nat) (x1 : Int32) (x2 : Int32) : Option (Int32) :=
  if x1 = x2 then (some (x1)) else (ob (z_X9_isObject F S I x1) (fun q1 => if q1 = 0 then (z_X9_joinTypes_37 F S I  (x1) (x2)) else (ob (z_X9_isObject F S I x2) (fun q2 => if q2 = 0 then (z_X9_joinTypes_37 F S I  (x1) (x2)) else (ob (z_X9_joinOf F S I x0 (x1 - 10) (x2 - 10)) (fun q3 => some (10 + q3)))))))
set_option maxRecDepth 100000 in
set_option maxHeartbeats 4000000 in
theorem b_X9_joinTypes_53 {p : Program} {l : Launch} {e : Env} {s : State} {m : MethodId} {args : Array Value} {below : List Frame} {meth : Method} {c : Code} {D : zD} {b0 : Nat} {F : Nat} {S : zS} {I : zI} {X : Int32} (hC : z_C p s m args meth c cX9_joinTypes RX9 3 (some .int) D) (hT : z_T b0 S)   (x1 : Int32) (x2 : Int32)  (hz : z_X9_joinTypes_53 F S I  x1 x2 = some X) (ls : Array Slot) (hl : lv_has ls 3 [(1, .int (x1)), (2, .int (x2))]) : z_W p l e { frames := 2, cells := 0, slots := 0, locals := 46 } s m args below meth c D b0 S I 0 0 (MQ below (z_Q D b0 (some (.int (X))) S I) args s 0 0 (fun q => b0 ≤ q)) (F0 m 53 ls []) := by
  unfold z_X9_joinTypes_53 at hz
  refine z_iload_n hC dX9_joinTypes_53 rfl (lv_at hl 1 rfl) ?_
  refine z_iconst (v := 4) hC dX9_joinTypes_54 (by decide) ?_
  refine z_icmp_ne (tgt := 69) hC dX9_joinTypes_55 (by decide) hz (fun hz => ?_) (fun hz => ?_)
  · skip
    refine z_iconst (v := 0) hC dX9_joinTypes_69 (by decide) ?_
    obtain rfl := Option.some.inj hz
    exact z_iret hC hT dX9_joinTypes_70 (by decide) (by decide)
  · skip
    refine z_iload_n hC dX9_joinTypes_58 rfl (lv_at hl 0 rfl) ?_
    obtain ⟨q1, hq_q1, hz⟩ := ob_some hz
    refine z_callS (As := [.int (x1)]) hC hT (c_X9_isObject F x1  hq_q1) zy_X9_isObject kw_868 kw_867 dX9_joinTypes_59 rfl rfl hl.1 (Nat.le_of_ble_eq_true rfl) (by decide) (by decide) ?_
    refine z_if_eq (tgt := 69) hC dX9_joinTypes_62 (by decide) hz (fun hz => ?_) (fun hz => ?_)
    · skip
      refine z_iconst (v := 0) hC dX9_joinTypes_69 (by decide) ?_
      obtain rfl := Option.some.inj hz
      exact z_iret hC hT dX9_joinTypes_70 (by decide) (by decide)
    · skip
      refine z_iload_n hC dX9_joinTypes_65 rfl (lv_at hl 0 rfl) ?_
      refine z_goto (tgt := 70) hC dX9_joinTypes_66 (by decide) ?_
      obtain rfl := Option.some.inj hz
      exact z_iret hC hT dX9_joinTypes_70 (by decide) (by decide)
set_option maxRecDepth 100000 in
set_option maxHeartbeats 4000000 in
theorem b_X9_joinTypes_37 {p : Program} {l : Launch} {e : Env} {s : State} {m : MethodId} {args : Array Value} {below : List Frame} {meth : Method} {c : Code} {D : zD} {b0 : Nat} {F : Nat} {S : zS} {I : zI} {X : Int32} (hC : z_C p s m args meth c cX9_joinTypes RX9 3 (some .int) D) (hT : z_T b0 S)   (x1 : Int32) (x2 : Int32)  (hz : z_X9_joinTypes_37 F S I  x1 x2 = some X) (ls : Array Slot) (hl : lv_has ls 3 [(1, .int (x1)), (2, .int (x2))]) : z_W p l e { frames := 2, cells := 0, slots := 0, locals := 46 } s m args below meth c D b0 S I 0 0 (MQ below (z_Q D b0 (some (.int (X))) S I) args s 0 0 (fun q => b0 ≤ q)) (F0 m 37 ls []) := by
  unfold z_X9_joinTypes_37 at hz
  refine z_iload_n hC dX9_joinTypes_37 rfl (lv_at hl 0 rfl) ?_
  refine z_iconst (v := 4) hC dX9_joinTypes_38 (by decide) ?_
  refine z_icmp_ne (tgt := 53) hC dX9_joinTypes_39 (by decide) hz (fun hz => ?_) (fun hz => ?_)
  · skip
    exact b_X9_joinTypes_53 hC hT   (x1) (x2) hz ls (lv_sub hl [0, 1] rfl)
  · skip
    refine z_iload_n hC dX9_joinTypes_42 rfl (lv_at hl 1 rfl) ?_
    obtain ⟨q1, hq_q1, hz⟩ := ob_some hz
    refine z_callS (As := [.int (x2)]) hC hT (c_X9_isObject F x2  hq_q1) zy_X9_isObject kw_868 kw_867 dX9_joinTypes_43 rfl rfl hl.1 (Nat.le_of_ble_eq_true rfl) (by decide) (by decide) ?_
    refine z_if_eq (tgt := 53) hC dX9_joinTypes_46 (by decide) hz (fun hz => ?_) (fun hz => ?_)
    · skip
      exact b_X9_joinTypes_53 hC hT   (x1) (x2) hz ls (lv_sub hl [0, 1] rfl)
    · skip
      refine z_iload_n hC dX9_joinTypes_49 rfl (lv_at hl 1 rfl) ?_
      refine z_goto (tgt := 70) hC dX9_joinTypes_50 (by decide) ?_
      obtain rfl := Option.some.inj hz
      exact z_iret hC hT dX9_joinTypes_70 (by decide) (by decide)
set_option maxRecDepth 100000 in
set_option maxHeartbeats 4000000 in
theorem c_X9_joinTypes {l : Launch} {D : zD} {b0 : Nat} {S : zS} {I : zI} {X : Int32} (F : Nat) (x0 : Nat) (x1 : Int32) (x2 : Int32) (h_x0 : z_is b0 S x0 9) (hz : z_X9_joinTypes F S I x0 x1 x2 = some X) : z_M l D b0 yX9_joinTypes cX9_joinTypes 3 (some .int) { frames := 2, cells := 0, slots := 0, locals := 46 } [.ref (x0), .int (x1), .int (x2)] S I (some (.int (X))) S I := by
  refine z_met (by decide) (Nat.le_of_ble_eq_true rfl) ?_
  intro p e s m below meth c hC hnm hT ls hl
  have hl : lv_has ls 3 [(0, .ref (x0)), (1, .int (x1)), (2, .int (x2))] := hl
  unfold z_X9_joinTypes at hz
  refine z_iload_n hC dX9_joinTypes_0 rfl (lv_at hl 1 rfl) ?_
  refine z_iload_n hC dX9_joinTypes_1 rfl (lv_at hl 2 rfl) ?_
  refine z_icmp_ne (tgt := 7) hC dX9_joinTypes_2 (by decide) hz (fun hz => ?_) (fun hz => ?_)
  · skip
    refine z_iload_n hC dX9_joinTypes_7 rfl (lv_at hl 1 rfl) ?_
    obtain ⟨q1, hq_q1, hz⟩ := ob_some hz
    refine z_callS (As := [.int (x1)]) hC hT (c_X9_isObject F x1  hq_q1) zy_X9_isObject kw_868 kw_867 dX9_joinTypes_8 rfl rfl hl.1 (Nat.le_of_ble_eq_true rfl) (by decide) (by decide) ?_
    refine z_if_eq (tgt := 37) hC dX9_joinTypes_11 (by decide) hz (fun hz => ?_) (fun hz => ?_)
    · skip
      exact b_X9_joinTypes_37 hC hT   (x1) (x2) hz ls (lv_sub hl [1, 2] rfl)
    · skip
      refine z_iload_n hC dX9_joinTypes_14 rfl (lv_at hl 2 rfl) ?_
      obtain ⟨q2, hq_q2, hz⟩ := ob_some hz
      refine z_callS (As := [.int (x2)]) hC hT (c_X9_isObject F x2  hq_q2) zy_X9_isObject kw_868 kw_867 dX9_joinTypes_15 rfl rfl hl.1 (Nat.le_of_ble_eq_true rfl) (by decide) (by decide) ?_
      refine z_if_eq (tgt := 37) hC dX9_joinTypes_18 (by decide) hz (fun hz => ?_) (fun hz => ?_)
      · skip
        exact b_X9_joinTypes_37 hC hT   (x1) (x2) hz ls (lv_sub hl [1, 2] rfl)
      · skip
        refine z_bipush (v := 10) hC dX9_joinTypes_21 (by decide) ?_
        refine z_aload_n hC dX9_joinTypes_23 rfl (lv_at hl 0 rfl) ?_
        refine z_iload_n hC dX9_joinTypes_24 rfl (lv_at hl 1 rfl) ?_
        refine z_bipush (v := 10) hC dX9_joinTypes_25 (by decide) ?_
        refine z_isub hC dX9_joinTypes_27 ?_
        refine z_iload_n hC dX9_joinTypes_28 rfl (lv_at hl 2 rfl) ?_
        refine z_bipush (v := 10) hC dX9_joinTypes_29 (by decide) ?_
        refine z_isub hC dX9_joinTypes_31 ?_
        obtain ⟨q3, hq_q3, hz⟩ := ob_some hz
        refine z_callV (As := [.int (x1 - 10), .int (x2 - 10)]) hC hT (c_X9_joinOf F x0 (x1 - 10) (x2 - 10) h_x0 hq_q3) zy_X9_joinOf zc_9 zv_X9_joinOf kw_840 dX9_joinTypes_32 h_x0 rfl rfl hl.1 (Nat.le_of_ble_eq_true rfl) (by decide) (by decide) ?_
        refine z_iadd hC dX9_joinTypes_35 ?_
        obtain rfl := Option.some.inj hz
        exact z_iret hC hT dX9_joinTypes_36 (by decide) (by decide)
  · skip
    refine z_iload_n hC dX9_joinTypes_5 rfl (lv_at hl 1 rfl) ?_
    obtain rfl := Option.some.inj hz
    exact z_iret hC hT dX9_joinTypes_6 (by decide) (by decide)
theorem zy_X9_fits : z_y yX9_fits cX9_fits 3 (some .boolean) 2 := ⟨kw_1034, kw_8, by decide +kernel, by decide +kernel, by decide +kernel⟩
theorem zv_X9_fits : Cond.instanceMethod yX9_fits ∈ z_tbl ∧ Cond.selects RX9 yX9_fits yX9_fits ∈ z_tbl := ⟨kw_1033, ks_58⟩
def z_X9_fits (F : Nat) (S : zS) (I : zI) (x0 : Nat) (x1 : Int32) (x2 : Int32) : Option (Int32) :=
  if x1 = x2 then (some (1)) else (if x2 = 0 then (some (1)) else (ob (z_X9_isObject F S I x2) (fun q1 => if q1 = 0 then (some (0)) else (if x1 = 4 then (some (1)) else (ob (z_X9_isObject F S I x1) (fun q2 => if q2 = 0 then (some (0)) else (ob (z_X9_isOne F S I x0 (x1 - 10) (x2 - 10)) (fun q3 => if q3 = 0 then (some (0)) else (some (1))))))))))
set_option maxRecDepth 100000 in
set_option maxHeartbeats 4000000 in
theorem c_X9_fits {l : Launch} {D : zD} {b0 : Nat} {S : zS} {I : zI} {X : Int32} (F : Nat) (x0 : Nat) (x1 : Int32) (x2 : Int32) (h_x0 : z_is b0 S x0 9) (hz : z_X9_fits F S I x0 x1 x2 = some X) : z_M l D b0 yX9_fits cX9_fits 3 (some .boolean) { frames := 2, cells := 0, slots := 0, locals := 45 } [.ref (x0), .int (x1), .int (x2)] S I (some (.int (X))) S I := by
  refine z_met (by decide) (Nat.le_of_ble_eq_true rfl) ?_
  intro p e s m below meth c hC hnm hT ls hl
  have hl : lv_has ls 3 [(0, .ref (x0)), (1, .int (x1)), (2, .int (x2))] := hl
  unfold z_X9_fits at hz
  refine z_iload_n hC dX9_fits_0 rfl (lv_at hl 1 rfl) ?_
  refine z_iload_n hC dX9_fits_1 rfl (lv_at hl 2 rfl) ?_
  refine z_icmp_eq (tgt := 43) hC dX9_fits_2 (by decide) hz (fun hz => ?_) (fun hz => ?_)
  · skip
    refine z_iconst (v := 1) hC dX9_fits_43 (by decide) ?_
    refine z_goto (tgt := 48) hC dX9_fits_44 (by decide) ?_
    obtain rfl := Option.some.inj hz
    exact z_zret hC hT dX9_fits_48 (Or.inr rfl) (by decide) (by decide)
  · skip
    refine z_iload_n hC dX9_fits_5 rfl (lv_at hl 2 rfl) ?_
    refine z_if_eq (tgt := 43) hC dX9_fits_6 (by decide) hz (fun hz => ?_) (fun hz => ?_)
    · skip
      refine z_iconst (v := 1) hC dX9_fits_43 (by decide) ?_
      refine z_goto (tgt := 48) hC dX9_fits_44 (by decide) ?_
      obtain rfl := Option.some.inj hz
      exact z_zret hC hT dX9_fits_48 (Or.inr rfl) (by decide) (by decide)
    · skip
      refine z_iload_n hC dX9_fits_9 rfl (lv_at hl 2 rfl) ?_
      obtain ⟨q1, hq_q1, hz⟩ := ob_some hz
      refine z_callS (As := [.int (x2)]) hC hT (c_X9_isObject F x2  hq_q1) zy_X9_isObject kw_868 kw_867 dX9_fits_10 rfl rfl hl.1 (Nat.le_of_ble_eq_true rfl) (by decide) (by decide) ?_
      refine z_if_eq (tgt := 47) hC dX9_fits_13 (by decide) hz (fun hz => ?_) (fun hz => ?_)
      · skip
        refine z_iconst (v := 0) hC dX9_fits_47 (by decide) ?_
        obtain rfl := Option.some.inj hz
        exact z_zret hC hT dX9_fits_48 (Or.inl rfl) (by decide) (by decide)
      · skip
        refine z_iload_n hC dX9_fits_16 rfl (lv_at hl 1 rfl) ?_
        refine z_iconst (v := 4) hC dX9_fits_17 (by decide) ?_
        refine z_icmp_eq (tgt := 43) hC dX9_fits_18 (by decide) hz (fun hz => ?_) (fun hz => ?_)
        · skip
          refine z_iconst (v := 1) hC dX9_fits_43 (by decide) ?_
          refine z_goto (tgt := 48) hC dX9_fits_44 (by decide) ?_
          obtain rfl := Option.some.inj hz
          exact z_zret hC hT dX9_fits_48 (Or.inr rfl) (by decide) (by decide)
        · skip
          refine z_iload_n hC dX9_fits_21 rfl (lv_at hl 1 rfl) ?_
          obtain ⟨q2, hq_q2, hz⟩ := ob_some hz
          refine z_callS (As := [.int (x1)]) hC hT (c_X9_isObject F x1  hq_q2) zy_X9_isObject kw_868 kw_867 dX9_fits_22 rfl rfl hl.1 (Nat.le_of_ble_eq_true rfl) (by decide) (by decide) ?_
          refine z_if_eq (tgt := 47) hC dX9_fits_25 (by decide) hz (fun hz => ?_) (fun hz => ?_)
          · skip
            refine z_iconst (v := 0) hC dX9_fits_47 (by decide) ?_
            obtain rfl := Option.some.inj hz
            exact z_zret hC hT dX9_fits_48 (Or.inl rfl) (by decide) (by decide)
          · skip
            refine z_aload_n hC dX9_fits_28 rfl (lv_at hl 0 rfl) ?_
            refine z_iload_n hC dX9_fits_29 rfl (lv_at hl 1 rfl) ?_
            refine z_bipush (v := 10) hC dX9_fits_30 (by decide) ?_
            refine z_isub hC dX9_fits_32 ?_
            refine z_iload_n hC dX9_fits_33 rfl (lv_at hl 2 rfl) ?_
            refine z_bipush (v := 10) hC dX9_fits_34 (by decide) ?_
            refine z_isub hC dX9_fits_36 ?_
            obtain ⟨q3, hq_q3, hz⟩ := ob_some hz
            refine z_callV (As := [.int (x1 - 10), .int (x2 - 10)]) hC hT (c_X9_isOne F x0 (x1 - 10) (x2 - 10) h_x0 hq_q3) zy_X9_isOne zc_9 zv_X9_isOne kw_852 dX9_fits_37 h_x0 rfl rfl hl.1 (Nat.le_of_ble_eq_true rfl) (by decide) (by decide) ?_
            refine z_if_eq (tgt := 47) hC dX9_fits_40 (by decide) hz (fun hz => ?_) (fun hz => ?_)
            · skip
              refine z_iconst (v := 0) hC dX9_fits_47 (by decide) ?_
              obtain rfl := Option.some.inj hz
              exact z_zret hC hT dX9_fits_48 (Or.inl rfl) (by decide) (by decide)
            · skip
              refine z_iconst (v := 1) hC dX9_fits_43 (by decide) ?_
              refine z_goto (tgt := 48) hC dX9_fits_44 (by decide) ?_
              obtain rfl := Option.some.inj hz
              exact z_zret hC hT dX9_fits_48 (Or.inr rfl) (by decide) (by decide)
theorem zy_X9_clear : z_y yX9_clear cX9_clear 4 (some .int) 2 := ⟨kw_859, kw_8, by decide +kernel, by decide +kernel, by decide +kernel⟩
theorem zv_X9_clear : Cond.instanceMethod yX9_clear ∈ z_tbl ∧ Cond.selects RX9 yX9_clear yX9_clear ∈ z_tbl := ⟨kw_857, kw_858⟩
def z_X9_clear (F : Nat) (S : zS) (I : zI) (x0 : Nat) (x1 : Int32) (x2 : Int32) : Option (Int32 × zI) :=
  ob (z_X9_isMethod F S I x1) (fun q1 => if q1 = 0 then (some ((-1), I)) else (ob (z_X9_in F S I x2 1 8) (fun q2 => if q2 = 0 then (some ((-1), I)) else (ob (S.1 x0 6) (fun r3 => if x1 < 0 ∨ (S.2.1 r3).2 ≤ x1.toNatClampNeg then none else (ob (S.1 x0 3) (fun r5 => if x1 < 0 ∨ (S.2.1 r5).2 ≤ x1.toNatClampNeg then none else (ob (S.1 x0 4) (fun r7 => if x1 < 0 ∨ (S.2.1 r7).2 ≤ x1.toNatClampNeg then none else (if x1 < 0 ∨ (S.2.1 r3).2 ≤ x1.toNatClampNeg then none else (ob (S.1 x0 10) (fun r10 => if x1 < 0 ∨ (S.2.1 r10).2 ≤ x1.toNatClampNeg then none else (ob (S.1 x0 15) (fun r12 => if x1 < 0 ∨ (S.2.1 r12).2 ≤ x1.toNatClampNeg then none else (some (I r3 x1.toNatClampNeg, z_up (z_up (z_up (z_up (z_up I r5 x1.toNatClampNeg x2) r7 x1.toNatClampNeg 0) r3 x1.toNatClampNeg 0) r10 x1.toNatClampNeg 0) r12 x1.toNatClampNeg 0))))))))))))))))
set_option maxRecDepth 100000 in
set_option maxHeartbeats 4000000 in
theorem c_X9_clear {l : Launch} {D : zD} {b0 : Nat} {S : zS} {I : zI} {X : Int32 × zI} (F : Nat) (x0 : Nat) (x1 : Int32) (x2 : Int32) (h_x0 : z_is b0 S x0 9) (hz : z_X9_clear F S I x0 x1 x2 = some X) : z_M l D b0 yX9_clear cX9_clear 4 (some .int) { frames := 2, cells := 0, slots := 0, locals := 42 } [.ref (x0), .int (x1), .int (x2)] S I (some (.int (X.1))) S X.2 := by
  refine z_met (by decide) (Nat.le_of_ble_eq_true rfl) ?_
  intro p e s m below meth c hC hnm hT ls hl
  have hl : lv_has ls 4 [(0, .ref (x0)), (1, .int (x1)), (2, .int (x2))] := hl
  unfold z_X9_clear at hz
  refine z_iload_n hC dX9_clear_0 rfl (lv_at hl 1 rfl) ?_
  obtain ⟨q1, hq_q1, hz⟩ := ob_some hz
  refine z_callS (As := [.int (x1)]) hC hT (c_X9_isMethod F x1  hq_q1) zy_X9_isMethod kw_861 kw_860 dX9_clear_1 rfl rfl hl.1 (Nat.le_of_ble_eq_true rfl) (by decide) (by decide) ?_
  refine z_if_eq (tgt := 17) hC dX9_clear_4 (by decide) hz (fun hz => ?_) (fun hz => ?_)
  · skip
    refine z_iconst (v := (-1)) hC dX9_clear_17 (by decide) ?_
    obtain rfl := Option.some.inj hz
    exact z_iret hC hT dX9_clear_18 (by decide) (by decide)
  · skip
    refine z_iload_n hC dX9_clear_7 rfl (lv_at hl 2 rfl) ?_
    refine z_iconst (v := 1) hC dX9_clear_8 (by decide) ?_
    refine z_bipush (v := 8) hC dX9_clear_9 (by decide) ?_
    obtain ⟨q2, hq_q2, hz⟩ := ob_some hz
    refine z_callS (As := [.int (x2), .int (1), .int (8)]) hC hT (c_X9_in F x2 1 8  hq_q2) zy_X9_in kw_834 kw_833 dX9_clear_11 rfl rfl hl.1 (Nat.le_of_ble_eq_true rfl) (by decide) (by decide) ?_
    refine z_if_ne (tgt := 19) hC dX9_clear_14 (by decide) hz (fun hz => ?_) (fun hz => ?_)
    · skip
      refine z_aload_n hC dX9_clear_19 rfl (lv_at hl 0 rfl) ?_
      obtain ⟨r3, hr_r3, hz⟩ := ob_some hz
      have hk_r3 : z_is b0 S r3 10 := hT.at h_x0 hr_r3
      refine z_getR hC zc_9 6 (by decide) kw_743 dX9_clear_20 h_x0 rfl hr_r3 ?_
      refine z_iload_n hC dX9_clear_23 rfl (lv_at hl 1 rfl) ?_
      obtain ⟨hi4, hz⟩ := ifn_some hz
      refine z_iald hC dX9_clear_24 hk_r3 hi4 ?_
      refine z_istore_n (lv' := [(3, .int (I r3 x1.toNatClampNeg)), (0, .ref (x0)), (1, .int (x1)), (2, .int (x2))]) hC dX9_clear_25 rfl hl (by decide) rfl (fun ls hl => ?_)
      refine z_aload_n hC dX9_clear_26 rfl (lv_at hl 1 rfl) ?_
      obtain ⟨r5, hr_r5, hz⟩ := ob_some hz
      have hk_r5 : z_is b0 S r5 10 := hT.at h_x0 hr_r5
      refine z_getR hC zc_9 3 (by decide) kw_740 dX9_clear_27 h_x0 rfl hr_r5 ?_
      refine z_iload_n hC dX9_clear_30 rfl (lv_at hl 2 rfl) ?_
      refine z_iload_n hC dX9_clear_31 rfl (lv_at hl 3 rfl) ?_
      obtain ⟨hi6, hz⟩ := ifn_some hz
      refine z_iast hC dX9_clear_32 hk_r5 hi6 ?_
      refine z_aload_n hC dX9_clear_33 rfl (lv_at hl 1 rfl) ?_
      obtain ⟨r7, hr_r7, hz⟩ := ob_some hz
      have hk_r7 : z_is b0 S r7 10 := hT.at h_x0 hr_r7
      refine z_getR hC zc_9 4 (by decide) kw_741 dX9_clear_34 h_x0 rfl hr_r7 ?_
      refine z_iload_n hC dX9_clear_37 rfl (lv_at hl 2 rfl) ?_
      refine z_iconst (v := 0) hC dX9_clear_38 (by decide) ?_
      obtain ⟨hi8, hz⟩ := ifn_some hz
      refine z_iast hC dX9_clear_39 hk_r7 hi8 ?_
      refine z_aload_n hC dX9_clear_40 rfl (lv_at hl 1 rfl) ?_
      refine z_getR hC zc_9 6 (by decide) kw_743 dX9_clear_41 h_x0 rfl hr_r3 ?_
      refine z_iload_n hC dX9_clear_44 rfl (lv_at hl 2 rfl) ?_
      refine z_iconst (v := 0) hC dX9_clear_45 (by decide) ?_
      obtain ⟨hi9, hz⟩ := ifn_some hz
      refine z_iast hC dX9_clear_46 hk_r3 hi9 ?_
      refine z_aload_n hC dX9_clear_47 rfl (lv_at hl 1 rfl) ?_
      obtain ⟨r10, hr_r10, hz⟩ := ob_some hz
      have hk_r10 : z_is b0 S r10 10 := hT.at h_x0 hr_r10
      refine z_getR hC zc_9 10 (by decide) kw_747 dX9_clear_48 h_x0 rfl hr_r10 ?_
      refine z_iload_n hC dX9_clear_51 rfl (lv_at hl 2 rfl) ?_
      refine z_iconst (v := 0) hC dX9_clear_52 (by decide) ?_
      obtain ⟨hi11, hz⟩ := ifn_some hz
      refine z_iast hC dX9_clear_53 hk_r10 hi11 ?_
      refine z_aload_n hC dX9_clear_54 rfl (lv_at hl 1 rfl) ?_
      obtain ⟨r12, hr_r12, hz⟩ := ob_some hz
      have hk_r12 : z_is b0 S r12 11 := hT.at h_x0 hr_r12
      refine z_getR hC zc_9 15 (by decide) kw_752 dX9_clear_55 h_x0 rfl hr_r12 ?_
      refine z_iload_n hC dX9_clear_58 rfl (lv_at hl 2 rfl) ?_
      refine z_iconst (v := 0) hC dX9_clear_59 (by decide) ?_
      obtain ⟨hi13, hz⟩ := ifn_some hz
      refine z_zast hC dX9_clear_60 hk_r12 hi13 (z_bool (Or.inl rfl)) ?_
      refine z_iload_n hC dX9_clear_61 rfl (lv_at hl 0 rfl) ?_
      obtain rfl := Option.some.inj hz
      exact z_iret hC hT dX9_clear_62 (by decide) (by decide)
    · skip
      refine z_iconst (v := (-1)) hC dX9_clear_17 (by decide) ?_
      obtain rfl := Option.some.inj hz
      exact z_iret hC hT dX9_clear_18 (by decide) (by decide)
theorem zy_X9_argument : z_y yX9_argument cX9_argument 6 (some .int) 2 := ⟨kw_866, kw_8, by decide +kernel, by decide +kernel, by decide +kernel⟩
theorem zv_X9_argument : Cond.instanceMethod yX9_argument ∈ z_tbl ∧ Cond.selects RX9 yX9_argument yX9_argument ∈ z_tbl := ⟨kw_864, kw_865⟩
def z_X9_argument_122 (F : Nat) (S : zS)  (x0 : Nat) (x1 : Int32) (x4 : Int32) (x5 : Int32) (I : zI) : Option (Int32 × zI) :=
  ob (S.1 x0 4) (fun r1 => if x1 < 0 ∨ (S.2.1 r1).2 ≤ x1.toNatClampNeg then none else (if x1 < 0 ∨ (S.2.1 r1).2 ≤ x1.toNatClampNeg then none else (ob (S.1 x0 15) (fun r4 => if x1 < 0 ∨ (S.2.1 r4).2 ≤ x1.toNatClampNeg then none else (some (x5, z_up (z_up I r1 x1.toNatClampNeg ((I r1 x1.toNatClampNeg) + x4)) r4 x1.toNatClampNeg 0))))))
def z_X9_argument_57 (F : Nat) (S : zS)  (x0 : Nat) (x1 : Int32) (x2 : Int32) (y0 : Int32) (I : zI) : Option (Int32 × zI) :=
  ob (S.1 x0 4) (fun r1 => if x1 < 0 ∨ (S.2.1 r1).2 ≤ x1.toNatClampNeg then none else (ob (S.1 x0 3) (fun r3 => if x1 < 0 ∨ (S.2.1 r3).2 ≤ x1.toNatClampNeg then none else (if (I r3 x1.toNatClampNeg) < ((I r1 x1.toNatClampNeg) + y0) then (some ((-2), I)) else (if x1 < 0 ∨ (S.2.1 r1).2 ≤ x1.toNatClampNeg then none else (ob (S.1 x0 5) (fun r6 => if ((8 * x1) + (I r1 x1.toNatClampNeg)) < 0 ∨ (S.2.1 r6).2 ≤ ((8 * x1) + (I r1 x1.toNatClampNeg)).toNatClampNeg then none else (if y0 = 2 then (if (((8 * x1) + (I r1 x1.toNatClampNeg)) + 1) < 0 ∨ (S.2.1 r6).2 ≤ (((8 * x1) + (I r1 x1.toNatClampNeg)) + 1).toNatClampNeg then none else (z_X9_argument_122 F S  (x0) (x1) (y0) (I r1 x1.toNatClampNeg) (z_up (z_up I r6 ((8 * x1) + (I r1 x1.toNatClampNeg)).toNatClampNeg x2) r6 (((8 * x1) + (I r1 x1.toNatClampNeg)) + 1).toNatClampNeg 3))) else (z_X9_argument_122 F S  (x0) (x1) (y0) (I r1 x1.toNatClampNeg) (z_up I r6 ((8 * x1) + (I r1 x1.toNatClampNeg)).toNatClampNeg x2))))))))))
def z_X9_argument_33 (F : Nat) (S : zS)  (x0 : Nat) (x1 : Int32) (x2 : Int32) (y0 : Int32) (I : zI) : Option (Int32 × zI) :=
  ob (z_X9_isMethod F S I x1) (fun q1 => if q1 = 0 then (some ((-1), I)) else (if y0 = 0 then (some ((-1), I)) else (if x2 = 2 then (z_X9_argument_57 F S  (x0) (x1) (x2) (2) (I)) else (z_X9_argument_57 F S  (x0) (x1) (x2) (1) (I)))))
def z_X9_argument (F : Nat) (S : zS) (I : zI) (x0 : Nat) (x1 : Int32) (x2 : Int32) : Option (Int32 × zI) :=
  if x2 = 1 then (z_X9_argument_33 F S  (x0) (x1) (x2) (1) (I)) else (if x2 = 2 then (z_X9_argument_33 F S  (x0) (x1) (x2) (1) (I)) else (ob (z_X9_isObject F S I x2) (fun q1 => if q1 = 0 then (z_X9_argument_33 F S  (x0) (x1) (x2) (0) (I)) else (ob (z_X9_isClass F S I x0 (x2 - 10)) (fun q2 => if q2 = 0 then (z_X9_argument_33 F S  (x0) (x1) (x2) (0) (I)) else (z_X9_argument_33 F S  (x0) (x1) (x2) (1) (I)))))))
set_option maxRecDepth 100000 in
set_option maxHeartbeats 4000000 in
theorem b_X9_argument_122 {p : Program} {l : Launch} {e : Env} {s : State} {m : MethodId} {args : Array Value} {below : List Frame} {meth : Method} {c : Code} {D : zD} {b0 : Nat} {F : Nat} {S : zS} {X : Int32 × zI} (hC : z_C p s m args meth c cX9_argument RX9 6 (some .int) D) (hT : z_T b0 S)   (x0 : Nat) (x1 : Int32) (x4 : Int32) (x5 : Int32) (I : zI) (h_x0 : z_is b0 S x0 9) (hz : z_X9_argument_122 F S  x0 x1 x4 x5 I = some X) (ls : Array Slot) (hl : lv_has ls 6 [(0, .ref (x0)), (1, .int (x1)), (4, .int (x4)), (5, .int (x5))]) : z_W p l e { frames := 2, cells := 0, slots := 0, locals := 43 } s m args below meth c D b0 S I 0 0 (MQ below (z_Q D b0 (some (.int (X.1))) S X.2) args s 0 0 (fun q => b0 ≤ q)) (F0 m 122 ls []) := by
  unfold z_X9_argument_122 at hz
  refine z_aload_n hC dX9_argument_122 rfl (lv_at hl 0 rfl) ?_
  obtain ⟨r1, hr_r1, hz⟩ := ob_some hz
  have hk_r1 : z_is b0 S r1 10 := hT.at h_x0 hr_r1
  refine z_getR hC zc_9 4 (by decide) kw_741 dX9_argument_123 h_x0 rfl hr_r1 ?_
  refine z_iload_n hC dX9_argument_126 rfl (lv_at hl 1 rfl) ?_
  refine z_dup2 hC dX9_argument_127 rfl rfl ?_
  obtain ⟨hi2, hz⟩ := ifn_some hz
  refine z_iald hC dX9_argument_128 hk_r1 hi2 ?_
  refine z_iload hC dX9_argument_129 (lv_at hl 2 rfl) ?_
  refine z_iadd hC dX9_argument_131 ?_
  obtain ⟨hi3, hz⟩ := ifn_some hz
  refine z_iast hC dX9_argument_132 hk_r1 hi3 ?_
  refine z_aload_n hC dX9_argument_133 rfl (lv_at hl 0 rfl) ?_
  obtain ⟨r4, hr_r4, hz⟩ := ob_some hz
  have hk_r4 : z_is b0 S r4 11 := hT.at h_x0 hr_r4
  refine z_getR hC zc_9 15 (by decide) kw_752 dX9_argument_134 h_x0 rfl hr_r4 ?_
  refine z_iload_n hC dX9_argument_137 rfl (lv_at hl 1 rfl) ?_
  refine z_iconst (v := 0) hC dX9_argument_138 (by decide) ?_
  obtain ⟨hi5, hz⟩ := ifn_some hz
  refine z_zast hC dX9_argument_139 hk_r4 hi5 (z_bool (Or.inl rfl)) ?_
  refine z_iload hC dX9_argument_140 (lv_at hl 3 rfl) ?_
  obtain rfl := Option.some.inj hz
  exact z_iret hC hT dX9_argument_142 (by decide) (by decide)
set_option maxRecDepth 100000 in
set_option maxHeartbeats 4000000 in
theorem b_X9_argument_57 {p : Program} {l : Launch} {e : Env} {s : State} {m : MethodId} {args : Array Value} {below : List Frame} {meth : Method} {c : Code} {D : zD} {b0 : Nat} {F : Nat} {S : zS} {X : Int32 × zI} (hC : z_C p s m args meth c cX9_argument RX9 6 (some .int) D) (hT : z_T b0 S)   (x0 : Nat) (x1 : Int32) (x2 : Int32) (y0 : Int32) (I : zI) (h_x0 : z_is b0 S x0 9) (hz : z_X9_argument_57 F S  x0 x1 x2 y0 I = some X) (ls : Array Slot) (hl : lv_has ls 6 [(0, .ref (x0)), (1, .int (x1)), (2, .int (x2))]) : z_W p l e { frames := 2, cells := 0, slots := 0, locals := 43 } s m args below meth c D b0 S I 0 0 (MQ below (z_Q D b0 (some (.int (X.1))) S X.2) args s 0 0 (fun q => b0 ≤ q)) (F0 m 57 ls [.int (y0)]) := by
  unfold z_X9_argument_57 at hz
  refine z_istore (lv' := [(4, .int (y0)), (0, .ref (x0)), (1, .int (x1)), (2, .int (x2))]) hC dX9_argument_57 hl (by decide) rfl (fun ls hl => ?_)
  refine z_aload_n hC dX9_argument_59 rfl (lv_at hl 1 rfl) ?_
  obtain ⟨r1, hr_r1, hz⟩ := ob_some hz
  have hk_r1 : z_is b0 S r1 10 := hT.at h_x0 hr_r1
  refine z_getR hC zc_9 4 (by decide) kw_741 dX9_argument_60 h_x0 rfl hr_r1 ?_
  refine z_iload_n hC dX9_argument_63 rfl (lv_at hl 2 rfl) ?_
  obtain ⟨hi2, hz⟩ := ifn_some hz
  refine z_iald hC dX9_argument_64 hk_r1 hi2 ?_
  refine z_iload hC dX9_argument_65 (lv_at hl 0 rfl) ?_
  refine z_iadd hC dX9_argument_67 ?_
  refine z_aload_n hC dX9_argument_68 rfl (lv_at hl 1 rfl) ?_
  obtain ⟨r3, hr_r3, hz⟩ := ob_some hz
  have hk_r3 : z_is b0 S r3 10 := hT.at h_x0 hr_r3
  refine z_getR hC zc_9 3 (by decide) kw_740 dX9_argument_69 h_x0 rfl hr_r3 ?_
  refine z_iload_n hC dX9_argument_72 rfl (lv_at hl 2 rfl) ?_
  obtain ⟨hi4, hz⟩ := ifn_some hz
  refine z_iald hC dX9_argument_73 hk_r3 hi4 ?_
  refine z_icmp_le (tgt := 80) hC dX9_argument_74 (by decide) hz (fun hz => ?_) (fun hz => ?_)
  · skip
    refine z_aload_n hC dX9_argument_80 rfl (lv_at hl 1 rfl) ?_
    refine z_getR hC zc_9 4 (by decide) kw_741 dX9_argument_81 h_x0 rfl hr_r1 ?_
    refine z_iload_n hC dX9_argument_84 rfl (lv_at hl 2 rfl) ?_
    obtain ⟨hi5, hz⟩ := ifn_some hz
    refine z_iald hC dX9_argument_85 hk_r1 hi5 ?_
    refine z_istore (lv' := [(5, .int (I r1 x1.toNatClampNeg)), (4, .int (y0)), (0, .ref (x0)), (1, .int (x1)), (2, .int (x2))]) hC dX9_argument_86 hl (by decide) rfl (fun ls hl => ?_)
    refine z_aload_n hC dX9_argument_88 rfl (lv_at hl 2 rfl) ?_
    obtain ⟨r6, hr_r6, hz⟩ := ob_some hz
    have hk_r6 : z_is b0 S r6 10 := hT.at h_x0 hr_r6
    refine z_getR hC zc_9 5 (by decide) kw_742 dX9_argument_89 h_x0 rfl hr_r6 ?_
    refine z_bipush (v := 8) hC dX9_argument_92 (by decide) ?_
    refine z_iload_n hC dX9_argument_94 rfl (lv_at hl 3 rfl) ?_
    refine z_imul hC dX9_argument_95 ?_
    refine z_iload hC dX9_argument_96 (lv_at hl 0 rfl) ?_
    refine z_iadd hC dX9_argument_98 ?_
    refine z_iload_n hC dX9_argument_99 rfl (lv_at hl 4 rfl) ?_
    obtain ⟨hi7, hz⟩ := ifn_some hz
    refine z_iast hC dX9_argument_100 hk_r6 hi7 ?_
    refine z_iload hC dX9_argument_101 (lv_at hl 1 rfl) ?_
    refine z_iconst (v := 2) hC dX9_argument_103 (by decide) ?_
    refine z_icmp_ne (tgt := 122) hC dX9_argument_104 (by decide) hz (fun hz => ?_) (fun hz => ?_)
    · skip
      exact b_X9_argument_122 hC hT   (x0) (x1) (y0) (I r1 x1.toNatClampNeg) (z_up I r6 ((8 * x1) + (I r1 x1.toNatClampNeg)).toNatClampNeg x2) h_x0 hz ls (lv_sub hl [2, 3, 1, 0] rfl)
    · skip
      refine z_aload_n hC dX9_argument_107 rfl (lv_at hl 2 rfl) ?_
      refine z_getR hC zc_9 5 (by decide) kw_742 dX9_argument_108 h_x0 rfl hr_r6 ?_
      refine z_bipush (v := 8) hC dX9_argument_111 (by decide) ?_
      refine z_iload_n hC dX9_argument_113 rfl (lv_at hl 3 rfl) ?_
      refine z_imul hC dX9_argument_114 ?_
      refine z_iload hC dX9_argument_115 (lv_at hl 0 rfl) ?_
      refine z_iadd hC dX9_argument_117 ?_
      refine z_iconst (v := 1) hC dX9_argument_118 (by decide) ?_
      refine z_iadd hC dX9_argument_119 ?_
      refine z_iconst (v := 3) hC dX9_argument_120 (by decide) ?_
      obtain ⟨hi8, hz⟩ := ifn_some hz
      refine z_iast hC dX9_argument_121 hk_r6 hi8 ?_
      exact b_X9_argument_122 hC hT   (x0) (x1) (y0) (I r1 x1.toNatClampNeg) (z_up (z_up I r6 ((8 * x1) + (I r1 x1.toNatClampNeg)).toNatClampNeg x2) r6 (((8 * x1) + (I r1 x1.toNatClampNeg)) + 1).toNatClampNeg 3) h_x0 hz ls (lv_sub hl [2, 3, 1, 0] rfl)
  · skip
    refine z_bipush (v := (-2)) hC dX9_argument_77 (by decide) ?_
    obtain rfl := Option.some.inj hz
    exact z_iret hC hT dX9_argument_79 (by decide) (by decide)
set_option maxRecDepth 100000 in
set_option maxHeartbeats 4000000 in
theorem b_X9_argument_33 {p : Program} {l : Launch} {e : Env} {s : State} {m : MethodId} {args : Array Value} {below : List Frame} {meth : Method} {c : Code} {D : zD} {b0 : Nat} {F : Nat} {S : zS} {X : Int32 × zI} (hC : z_C p s m args meth c cX9_argument RX9 6 (some .int) D) (hT : z_T b0 S)   (x0 : Nat) (x1 : Int32) (x2 : Int32) (y0 : Int32) (I : zI) (h_x0 : z_is b0 S x0 9) (hz : z_X9_argument_33 F S  x0 x1 x2 y0 I = some X) (ls : Array Slot) (hl : lv_has ls 6 [(0, .ref (x0)), (1, .int (x1)), (2, .int (x2))]) : z_W p l e { frames := 2, cells := 0, slots := 0, locals := 43 } s m args below meth c D b0 S I 0 0 (MQ below (z_Q D b0 (some (.int (X.1))) S X.2) args s 0 0 (fun q => b0 ≤ q)) (F0 m 33 ls [.int (y0)]) := by
  unfold z_X9_argument_33 at hz
  refine z_istore_n (lv' := [(3, .int (y0)), (0, .ref (x0)), (1, .int (x1)), (2, .int (x2))]) hC dX9_argument_33 rfl hl (by decide) rfl (fun ls hl => ?_)
  refine z_iload_n hC dX9_argument_34 rfl (lv_at hl 2 rfl) ?_
  obtain ⟨q1, hq_q1, hz⟩ := ob_some hz
  refine z_callS (As := [.int (x1)]) hC hT (c_X9_isMethod F x1  hq_q1) zy_X9_isMethod kw_861 kw_860 dX9_argument_35 rfl rfl hl.1 (Nat.le_of_ble_eq_true rfl) (by decide) (by decide) ?_
  refine z_if_eq (tgt := 45) hC dX9_argument_38 (by decide) hz (fun hz => ?_) (fun hz => ?_)
  · skip
    refine z_iconst (v := (-1)) hC dX9_argument_45 (by decide) ?_
    obtain rfl := Option.some.inj hz
    exact z_iret hC hT dX9_argument_46 (by decide) (by decide)
  · skip
    refine z_iload_n hC dX9_argument_41 rfl (lv_at hl 0 rfl) ?_
    refine z_if_ne (tgt := 47) hC dX9_argument_42 (by decide) hz (fun hz => ?_) (fun hz => ?_)
    · skip
      refine z_iload_n hC dX9_argument_47 rfl (lv_at hl 3 rfl) ?_
      refine z_iconst (v := 2) hC dX9_argument_48 (by decide) ?_
      refine z_icmp_ne (tgt := 56) hC dX9_argument_49 (by decide) hz (fun hz => ?_) (fun hz => ?_)
      · skip
        refine z_iconst (v := 1) hC dX9_argument_56 (by decide) ?_
        exact b_X9_argument_57 hC hT   (x0) (x1) (x2) (1) (I) h_x0 hz ls (lv_sub hl [1, 2, 3] rfl)
      · skip
        refine z_iconst (v := 2) hC dX9_argument_52 (by decide) ?_
        refine z_goto (tgt := 57) hC dX9_argument_53 (by decide) ?_
        exact b_X9_argument_57 hC hT   (x0) (x1) (x2) (2) (I) h_x0 hz ls (lv_sub hl [1, 2, 3] rfl)
    · skip
      refine z_iconst (v := (-1)) hC dX9_argument_45 (by decide) ?_
      obtain rfl := Option.some.inj hz
      exact z_iret hC hT dX9_argument_46 (by decide) (by decide)
set_option maxRecDepth 100000 in
set_option maxHeartbeats 4000000 in
theorem c_X9_argument {l : Launch} {D : zD} {b0 : Nat} {S : zS} {I : zI} {X : Int32 × zI} (F : Nat) (x0 : Nat) (x1 : Int32) (x2 : Int32) (h_x0 : z_is b0 S x0 9) (hz : z_X9_argument F S I x0 x1 x2 = some X) : z_M l D b0 yX9_argument cX9_argument 6 (some .int) { frames := 2, cells := 0, slots := 0, locals := 43 } [.ref (x0), .int (x1), .int (x2)] S I (some (.int (X.1))) S X.2 := by
  refine z_met (by decide) (Nat.le_of_ble_eq_true rfl) ?_
  intro p e s m below meth c hC hnm hT ls hl
  have hl : lv_has ls 6 [(0, .ref (x0)), (1, .int (x1)), (2, .int (x2))] := hl
  unfold z_X9_argument at hz
  refine z_iload_n hC dX9_argument_0 rfl (lv_at hl 2 rfl) ?_
  refine z_iconst (v := 1) hC dX9_argument_1 (by decide) ?_
  refine z_icmp_eq (tgt := 28) hC dX9_argument_2 (by decide) hz (fun hz => ?_) (fun hz => ?_)
  · skip
    refine z_iconst (v := 1) hC dX9_argument_28 (by decide) ?_
    refine z_goto (tgt := 33) hC dX9_argument_29 (by decide) ?_
    exact b_X9_argument_33 hC hT   (x0) (x1) (x2) (1) (I) h_x0 hz ls (lv_sub hl [0, 1, 2] rfl)
  · skip
    refine z_iload_n hC dX9_argument_5 rfl (lv_at hl 2 rfl) ?_
    refine z_iconst (v := 2) hC dX9_argument_6 (by decide) ?_
    refine z_icmp_eq (tgt := 28) hC dX9_argument_7 (by decide) hz (fun hz => ?_) (fun hz => ?_)
    · skip
      refine z_iconst (v := 1) hC dX9_argument_28 (by decide) ?_
      refine z_goto (tgt := 33) hC dX9_argument_29 (by decide) ?_
      exact b_X9_argument_33 hC hT   (x0) (x1) (x2) (1) (I) h_x0 hz ls (lv_sub hl [0, 1, 2] rfl)
    · skip
      refine z_iload_n hC dX9_argument_10 rfl (lv_at hl 2 rfl) ?_
      obtain ⟨q1, hq_q1, hz⟩ := ob_some hz
      refine z_callS (As := [.int (x2)]) hC hT (c_X9_isObject F x2  hq_q1) zy_X9_isObject kw_868 kw_867 dX9_argument_11 rfl rfl hl.1 (Nat.le_of_ble_eq_true rfl) (by decide) (by decide) ?_
      refine z_if_eq (tgt := 32) hC dX9_argument_14 (by decide) hz (fun hz => ?_) (fun hz => ?_)
      · skip
        refine z_iconst (v := 0) hC dX9_argument_32 (by decide) ?_
        exact b_X9_argument_33 hC hT   (x0) (x1) (x2) (0) (I) h_x0 hz ls (lv_sub hl [0, 1, 2] rfl)
      · skip
        refine z_aload_n hC dX9_argument_17 rfl (lv_at hl 0 rfl) ?_
        refine z_iload_n hC dX9_argument_18 rfl (lv_at hl 2 rfl) ?_
        refine z_bipush (v := 10) hC dX9_argument_19 (by decide) ?_
        refine z_isub hC dX9_argument_21 ?_
        obtain ⟨q2, hq_q2, hz⟩ := ob_some hz
        refine z_callV (As := [.int (x2 - 10)]) hC hT (c_X9_isClass F x0 (x2 - 10) h_x0 hq_q2) zy_X9_isClass zc_9 zv_X9_isClass kw_829 dX9_argument_22 h_x0 rfl rfl hl.1 (Nat.le_of_ble_eq_true rfl) (by decide) (by decide) ?_
        refine z_if_eq (tgt := 32) hC dX9_argument_25 (by decide) hz (fun hz => ?_) (fun hz => ?_)
        · skip
          refine z_iconst (v := 0) hC dX9_argument_32 (by decide) ?_
          exact b_X9_argument_33 hC hT   (x0) (x1) (x2) (0) (I) h_x0 hz ls (lv_sub hl [0, 1, 2] rfl)
        · skip
          refine z_iconst (v := 1) hC dX9_argument_28 (by decide) ?_
          refine z_goto (tgt := 33) hC dX9_argument_29 (by decide) ?_
          exact b_X9_argument_33 hC hT   (x0) (x1) (x2) (1) (I) h_x0 hz ls (lv_sub hl [0, 1, 2] rfl)
theorem zy_X9_act : z_y yX9_act cX9_act 9 (some .int) 4 := ⟨kw_873, kw_8, by decide +kernel, by decide +kernel, by decide +kernel⟩
theorem zv_X9_act : Cond.instanceMethod yX9_act ∈ z_tbl ∧ Cond.selects RX9 yX9_act yX9_act ∈ z_tbl := ⟨kw_871, kw_872⟩
def z_X9_act_205 (F : Nat) (S : zS)  (x0 : Nat) (x1 : Int32) (y0 : Nat) (y1 : Int32) (y2 : Int32) (I : zI) : Option (Int32 × zI) :=
  if y1 < 0 ∨ (S.2.1 y0).2 ≤ y1.toNatClampNeg then none else (ob (S.1 x0 6) (fun r2 => if x1 < 0 ∨ (S.2.1 r2).2 ≤ x1.toNatClampNeg then none else (if x1 < 0 ∨ (S.2.1 r2).2 ≤ x1.toNatClampNeg then none else (ob (S.1 x0 15) (fun r5 => if x1 < 0 ∨ (S.2.1 r5).2 ≤ x1.toNatClampNeg then none else (if x1 < 0 ∨ (S.2.1 r2).2 ≤ x1.toNatClampNeg then none else (some (((z_up (z_up (z_up I y0 y1.toNatClampNeg y2) r2 x1.toNatClampNeg (((z_up I y0 y1.toNatClampNeg y2) r2 x1.toNatClampNeg) + 1)) r5 x1.toNatClampNeg 0) r2 x1.toNatClampNeg) - 1, z_up (z_up (z_up I y0 y1.toNatClampNeg y2) r2 x1.toNatClampNeg (((z_up I y0 y1.toNatClampNeg y2) r2 x1.toNatClampNeg) + 1)) r5 x1.toNatClampNeg 0))))))))
def z_X9_act_144 (F : Nat) (S : zS)  (x0 : Nat) (x1 : Int32) (x2 : Int32) (x3 : Int32) (x4 : Int32) (I : zI) : Option (Int32 × zI) :=
  ob (S.1 x0 6) (fun r1 => if x1 < 0 ∨ (S.2.1 r1).2 ≤ x1.toNatClampNeg then none else (if (I r1 x1.toNatClampNeg) = 40 then (some ((-2), I)) else (if x1 < 0 ∨ (S.2.1 r1).2 ≤ x1.toNatClampNeg then none else (ob (S.1 x0 7) (fun r4 => if ((40 * x1) + (I r1 x1.toNatClampNeg)) < 0 ∨ (S.2.1 r4).2 ≤ ((40 * x1) + (I r1 x1.toNatClampNeg)).toNatClampNeg then none else (ob (S.1 x0 8) (fun r6 => if ((40 * x1) + (I r1 x1.toNatClampNeg)) < 0 ∨ (S.2.1 r6).2 ≤ ((40 * x1) + (I r1 x1.toNatClampNeg)).toNatClampNeg then none else (ob (S.1 x0 9) (fun r8 => if x2 = 16 then (z_X9_act_205 F S  (x0) (x1) (r8) ((40 * x1) + (I r1 x1.toNatClampNeg)) (x4) (z_up (z_up I r4 ((40 * x1) + (I r1 x1.toNatClampNeg)).toNatClampNeg x2) r6 ((40 * x1) + (I r1 x1.toNatClampNeg)).toNatClampNeg x3)) else (z_X9_act_205 F S  (x0) (x1) (r8) ((40 * x1) + (I r1 x1.toNatClampNeg)) (x3) (z_up (z_up I r4 ((40 * x1) + (I r1 x1.toNatClampNeg)).toNatClampNeg x2) r6 ((40 * x1) + (I r1 x1.toNatClampNeg)).toNatClampNeg x3)))))))))))
def z_X9_act_125 (F : Nat) (S : zS)  (x0 : Nat) (x1 : Int32) (x2 : Int32) (x3 : Int32) (x4 : Int32) (I : zI) : Option (Int32 × zI) :=
  if x2 = 16 then (ob (z_X9_in F S I x4 x3 39) (fun q1 => if q1 = 0 then (some ((-1), I)) else (z_X9_act_144 F S  (x0) (x1) (x2) (x3) (x4) (I)))) else (z_X9_act_144 F S  (x0) (x1) (x2) (x3) (x4) (I))
def z_X9_act_110 (F : Nat) (S : zS)  (x0 : Nat) (x1 : Int32) (x2 : Int32) (x3 : Int32) (x4 : Int32) (x7 : Int32) (I : zI) : Option (Int32 × zI) :=
  if x7 = 0 then (z_X9_act_125 F S  (x0) (x1) (x2) (x3) (x4) (I)) else (ob (z_X9_in F S I x3 0 39) (fun q1 => if q1 = 0 then (some ((-1), I)) else (z_X9_act_125 F S  (x0) (x1) (x2) (x3) (x4) (I))))
def z_X9_act_97 (F : Nat) (S : zS)  (x0 : Nat) (x1 : Int32) (x2 : Int32) (x3 : Int32) (x4 : Int32) (x6 : Int32) (x7 : Int32) (I : zI) : Option (Int32 × zI) :=
  if x6 = 0 then (z_X9_act_110 F S  (x0) (x1) (x2) (x3) (x4) (x7) (I)) else (ob (z_X9_isClass F S I x0 x3) (fun q1 => if q1 = 0 then (some ((-1), I)) else (z_X9_act_110 F S  (x0) (x1) (x2) (x3) (x4) (x7) (I))))
def z_X9_act_70 (F : Nat) (S : zS)  (x0 : Nat) (x1 : Int32) (x2 : Int32) (x3 : Int32) (x4 : Int32) (x5 : Int32) (y0 : Int32) (I : zI) : Option (Int32 × zI) :=
  ob (z_X9_in F S I x2 14 16) (fun q1 => if x5 = 0 then (z_X9_act_97 F S  (x0) (x1) (x2) (x3) (x4) (y0) (q1) (I)) else (ob (z_X9_in F S I x3 0 7) (fun q2 => if q2 = 0 then (some ((-1), I)) else (z_X9_act_97 F S  (x0) (x1) (x2) (x3) (x4) (y0) (q1) (I)))))
def z_X9_act_40 (F : Nat) (S : zS)  (x0 : Nat) (x1 : Int32) (x2 : Int32) (x3 : Int32) (x4 : Int32) (y0 : Int32) (I : zI) : Option (Int32 × zI) :=
  ob (z_X9_in F S I x2 9 13) (fun q1 => if q1 = 0 then (if x2 = 18 then (z_X9_act_70 F S  (x0) (x1) (x2) (x3) (x4) (y0) (1) (I)) else (if x2 = 19 then (z_X9_act_70 F S  (x0) (x1) (x2) (x3) (x4) (y0) (1) (I)) else (z_X9_act_70 F S  (x0) (x1) (x2) (x3) (x4) (y0) (0) (I)))) else (z_X9_act_70 F S  (x0) (x1) (x2) (x3) (x4) (y0) (1) (I)))
def z_X9_act (F : Nat) (S : zS) (I : zI) (x0 : Nat) (x1 : Int32) (x2 : Int32) (x3 : Int32) (x4 : Int32) : Option (Int32 × zI) :=
  ob (z_X9_isMethod F S I x1) (fun q1 => if q1 = 0 then (some ((-1), I)) else (ob (z_X9_in F S I x2 0 20) (fun q2 => if q2 = 0 then (some ((-1), I)) else (if x2 = 3 then (z_X9_act_40 F S  (x0) (x1) (x2) (x3) (x4) (1) (I)) else (if x2 = 4 then (z_X9_act_40 F S  (x0) (x1) (x2) (x3) (x4) (1) (I)) else (if x2 = 20 then (z_X9_act_40 F S  (x0) (x1) (x2) (x3) (x4) (1) (I)) else (z_X9_act_40 F S  (x0) (x1) (x2) (x3) (x4) (0) (I))))))))
set_option maxRecDepth 100000 in
set_option maxHeartbeats 4000000 in
theorem b_X9_act_205 {p : Program} {l : Launch} {e : Env} {s : State} {m : MethodId} {args : Array Value} {below : List Frame} {meth : Method} {c : Code} {D : zD} {b0 : Nat} {F : Nat} {S : zS} {X : Int32 × zI} (hC : z_C p s m args meth c cX9_act RX9 9 (some .int) D) (hT : z_T b0 S)   (x0 : Nat) (x1 : Int32) (y0 : Nat) (y1 : Int32) (y2 : Int32) (I : zI) (h_x0 : z_is b0 S x0 9) (h_y0 : z_is b0 S y0 10) (hz : z_X9_act_205 F S  x0 x1 y0 y1 y2 I = some X) (ls : Array Slot) (hl : lv_has ls 9 [(0, .ref (x0)), (1, .int (x1))]) : z_W p l e { frames := 2, cells := 0, slots := 0, locals := 43 } s m args below meth c D b0 S I 0 0 (MQ below (z_Q D b0 (some (.int (X.1))) S X.2) args s 0 0 (fun q => b0 ≤ q)) (F0 m 205 ls [.int (y2), .int (y1), .ref (y0)]) := by
  unfold z_X9_act_205 at hz
  obtain ⟨hi1, hz⟩ := ifn_some hz
  refine z_iast hC dX9_act_205 h_y0 hi1 ?_
  refine z_aload_n hC dX9_act_206 rfl (lv_at hl 0 rfl) ?_
  obtain ⟨r2, hr_r2, hz⟩ := ob_some hz
  have hk_r2 : z_is b0 S r2 10 := hT.at h_x0 hr_r2
  refine z_getR hC zc_9 6 (by decide) kw_743 dX9_act_207 h_x0 rfl hr_r2 ?_
  refine z_iload_n hC dX9_act_210 rfl (lv_at hl 1 rfl) ?_
  refine z_dup2 hC dX9_act_211 rfl rfl ?_
  obtain ⟨hi3, hz⟩ := ifn_some hz
  refine z_iald hC dX9_act_212 hk_r2 hi3 ?_
  refine z_iconst (v := 1) hC dX9_act_213 (by decide) ?_
  refine z_iadd hC dX9_act_214 ?_
  obtain ⟨hi4, hz⟩ := ifn_some hz
  refine z_iast hC dX9_act_215 hk_r2 hi4 ?_
  refine z_aload_n hC dX9_act_216 rfl (lv_at hl 0 rfl) ?_
  obtain ⟨r5, hr_r5, hz⟩ := ob_some hz
  have hk_r5 : z_is b0 S r5 11 := hT.at h_x0 hr_r5
  refine z_getR hC zc_9 15 (by decide) kw_752 dX9_act_217 h_x0 rfl hr_r5 ?_
  refine z_iload_n hC dX9_act_220 rfl (lv_at hl 1 rfl) ?_
  refine z_iconst (v := 0) hC dX9_act_221 (by decide) ?_
  obtain ⟨hi6, hz⟩ := ifn_some hz
  refine z_zast hC dX9_act_222 hk_r5 hi6 (z_bool (Or.inl rfl)) ?_
  refine z_aload_n hC dX9_act_223 rfl (lv_at hl 0 rfl) ?_
  refine z_getR hC zc_9 6 (by decide) kw_743 dX9_act_224 h_x0 rfl hr_r2 ?_
  refine z_iload_n hC dX9_act_227 rfl (lv_at hl 1 rfl) ?_
  obtain ⟨hi7, hz⟩ := ifn_some hz
  refine z_iald hC dX9_act_228 hk_r2 hi7 ?_
  refine z_iconst (v := 1) hC dX9_act_229 (by decide) ?_
  refine z_isub hC dX9_act_230 ?_
  obtain rfl := Option.some.inj hz
  exact z_iret hC hT dX9_act_231 (by decide) (by decide)
set_option maxRecDepth 100000 in
set_option maxHeartbeats 4000000 in
theorem b_X9_act_144 {p : Program} {l : Launch} {e : Env} {s : State} {m : MethodId} {args : Array Value} {below : List Frame} {meth : Method} {c : Code} {D : zD} {b0 : Nat} {F : Nat} {S : zS} {X : Int32 × zI} (hC : z_C p s m args meth c cX9_act RX9 9 (some .int) D) (hT : z_T b0 S)   (x0 : Nat) (x1 : Int32) (x2 : Int32) (x3 : Int32) (x4 : Int32) (I : zI) (h_x0 : z_is b0 S x0 9) (hz : z_X9_act_144 F S  x0 x1 x2 x3 x4 I = some X) (ls : Array Slot) (hl : lv_has ls 9 [(0, .ref (x0)), (1, .int (x1)), (2, .int (x2)), (3, .int (x3)), (4, .int (x4))]) : z_W p l e { frames := 2, cells := 0, slots := 0, locals := 43 } s m args below meth c D b0 S I 0 0 (MQ below (z_Q D b0 (some (.int (X.1))) S X.2) args s 0 0 (fun q => b0 ≤ q)) (F0 m 144 ls []) := by
  unfold z_X9_act_144 at hz
  refine z_aload_n hC dX9_act_144 rfl (lv_at hl 0 rfl) ?_
  obtain ⟨r1, hr_r1, hz⟩ := ob_some hz
  have hk_r1 : z_is b0 S r1 10 := hT.at h_x0 hr_r1
  refine z_getR hC zc_9 6 (by decide) kw_743 dX9_act_145 h_x0 rfl hr_r1 ?_
  refine z_iload_n hC dX9_act_148 rfl (lv_at hl 1 rfl) ?_
  obtain ⟨hi2, hz⟩ := ifn_some hz
  refine z_iald hC dX9_act_149 hk_r1 hi2 ?_
  refine z_bipush (v := 40) hC dX9_act_150 (by decide) ?_
  refine z_icmp_ne (tgt := 158) hC dX9_act_152 (by decide) hz (fun hz => ?_) (fun hz => ?_)
  · skip
    refine z_bipush (v := 40) hC dX9_act_158 (by decide) ?_
    refine z_iload_n hC dX9_act_160 rfl (lv_at hl 1 rfl) ?_
    refine z_imul hC dX9_act_161 ?_
    refine z_aload_n hC dX9_act_162 rfl (lv_at hl 0 rfl) ?_
    refine z_getR hC zc_9 6 (by decide) kw_743 dX9_act_163 h_x0 rfl hr_r1 ?_
    refine z_iload_n hC dX9_act_166 rfl (lv_at hl 1 rfl) ?_
    obtain ⟨hi3, hz⟩ := ifn_some hz
    refine z_iald hC dX9_act_167 hk_r1 hi3 ?_
    refine z_iadd hC dX9_act_168 ?_
    refine z_istore (lv' := [(8, .int ((40 * x1) + (I r1 x1.toNatClampNeg))), (0, .ref (x0)), (1, .int (x1)), (2, .int (x2)), (3, .int (x3)), (4, .int (x4))]) hC dX9_act_169 hl (by decide) rfl (fun ls hl => ?_)
    refine z_aload_n hC dX9_act_171 rfl (lv_at hl 1 rfl) ?_
    obtain ⟨r4, hr_r4, hz⟩ := ob_some hz
    have hk_r4 : z_is b0 S r4 10 := hT.at h_x0 hr_r4
    refine z_getR hC zc_9 7 (by decide) kw_744 dX9_act_172 h_x0 rfl hr_r4 ?_
    refine z_iload hC dX9_act_175 (lv_at hl 0 rfl) ?_
    refine z_iload_n hC dX9_act_177 rfl (lv_at hl 3 rfl) ?_
    obtain ⟨hi5, hz⟩ := ifn_some hz
    refine z_iast hC dX9_act_178 hk_r4 hi5 ?_
    refine z_aload_n hC dX9_act_179 rfl (lv_at hl 1 rfl) ?_
    obtain ⟨r6, hr_r6, hz⟩ := ob_some hz
    have hk_r6 : z_is b0 S r6 10 := hT.at h_x0 hr_r6
    refine z_getR hC zc_9 8 (by decide) kw_745 dX9_act_180 h_x0 rfl hr_r6 ?_
    refine z_iload hC dX9_act_183 (lv_at hl 0 rfl) ?_
    refine z_iload_n hC dX9_act_185 rfl (lv_at hl 4 rfl) ?_
    obtain ⟨hi7, hz⟩ := ifn_some hz
    refine z_iast hC dX9_act_186 hk_r6 hi7 ?_
    refine z_aload_n hC dX9_act_187 rfl (lv_at hl 1 rfl) ?_
    obtain ⟨r8, hr_r8, hz⟩ := ob_some hz
    have hk_r8 : z_is b0 S r8 10 := hT.at h_x0 hr_r8
    refine z_getR hC zc_9 9 (by decide) kw_746 dX9_act_188 h_x0 rfl hr_r8 ?_
    refine z_iload hC dX9_act_191 (lv_at hl 0 rfl) ?_
    refine z_iload_n hC dX9_act_193 rfl (lv_at hl 3 rfl) ?_
    refine z_bipush (v := 16) hC dX9_act_194 (by decide) ?_
    refine z_icmp_ne (tgt := 204) hC dX9_act_196 (by decide) hz (fun hz => ?_) (fun hz => ?_)
    · skip
      refine z_iload_n hC dX9_act_204 rfl (lv_at hl 4 rfl) ?_
      exact b_X9_act_205 hC hT   (x0) (x1) (r8) ((40 * x1) + (I r1 x1.toNatClampNeg)) (x3) (z_up (z_up I r4 ((40 * x1) + (I r1 x1.toNatClampNeg)).toNatClampNeg x2) r6 ((40 * x1) + (I r1 x1.toNatClampNeg)).toNatClampNeg x3) h_x0 hk_r8 hz ls (lv_sub hl [1, 2] rfl)
    · skip
      refine z_iload hC dX9_act_199 (lv_at hl 5 rfl) ?_
      refine z_goto (tgt := 205) hC dX9_act_201 (by decide) ?_
      exact b_X9_act_205 hC hT   (x0) (x1) (r8) ((40 * x1) + (I r1 x1.toNatClampNeg)) (x4) (z_up (z_up I r4 ((40 * x1) + (I r1 x1.toNatClampNeg)).toNatClampNeg x2) r6 ((40 * x1) + (I r1 x1.toNatClampNeg)).toNatClampNeg x3) h_x0 hk_r8 hz ls (lv_sub hl [1, 2] rfl)
  · skip
    refine z_bipush (v := (-2)) hC dX9_act_155 (by decide) ?_
    obtain rfl := Option.some.inj hz
    exact z_iret hC hT dX9_act_157 (by decide) (by decide)
set_option maxRecDepth 100000 in
set_option maxHeartbeats 4000000 in
theorem b_X9_act_125 {p : Program} {l : Launch} {e : Env} {s : State} {m : MethodId} {args : Array Value} {below : List Frame} {meth : Method} {c : Code} {D : zD} {b0 : Nat} {F : Nat} {S : zS} {X : Int32 × zI} (hC : z_C p s m args meth c cX9_act RX9 9 (some .int) D) (hT : z_T b0 S)   (x0 : Nat) (x1 : Int32) (x2 : Int32) (x3 : Int32) (x4 : Int32) (I : zI) (h_x0 : z_is b0 S x0 9) (hz : z_X9_act_125 F S  x0 x1 x2 x3 x4 I = some X) (ls : Array Slot) (hl : lv_has ls 9 [(0, .ref (x0)), (1, .int (x1)), (2, .int (x2)), (3, .int (x3)), (4, .int (x4))]) : z_W p l e { frames := 2, cells := 0, slots := 0, locals := 43 } s m args below meth c D b0 S I 0 0 (MQ below (z_Q D b0 (some (.int (X.1))) S X.2) args s 0 0 (fun q => b0 ≤ q)) (F0 m 125 ls []) := by
  unfold z_X9_act_125 at hz
  refine z_iload_n hC dX9_act_125 rfl (lv_at hl 2 rfl) ?_
  refine z_bipush (v := 16) hC dX9_act_126 (by decide) ?_
  refine z_icmp_ne (tgt := 144) hC dX9_act_128 (by decide) hz (fun hz => ?_) (fun hz => ?_)
  · skip
    exact b_X9_act_144 hC hT   (x0) (x1) (x2) (x3) (x4) (I) h_x0 hz ls (lv_sub hl [0, 1, 2, 3, 4] rfl)
  · skip
    refine z_iload hC dX9_act_131 (lv_at hl 4 rfl) ?_
    refine z_iload_n hC dX9_act_133 rfl (lv_at hl 3 rfl) ?_
    refine z_bipush (v := 39) hC dX9_act_134 (by decide) ?_
    obtain ⟨q1, hq_q1, hz⟩ := ob_some hz
    refine z_callS (As := [.int (x4), .int (x3), .int (39)]) hC hT (c_X9_in F x4 x3 39  hq_q1) zy_X9_in kw_834 kw_833 dX9_act_136 rfl rfl hl.1 (Nat.le_of_ble_eq_true rfl) (by decide) (by decide) ?_
    refine z_if_ne (tgt := 144) hC dX9_act_139 (by decide) hz (fun hz => ?_) (fun hz => ?_)
    · skip
      exact b_X9_act_144 hC hT   (x0) (x1) (x2) (x3) (x4) (I) h_x0 hz ls (lv_sub hl [0, 1, 2, 3, 4] rfl)
    · skip
      refine z_iconst (v := (-1)) hC dX9_act_142 (by decide) ?_
      obtain rfl := Option.some.inj hz
      exact z_iret hC hT dX9_act_143 (by decide) (by decide)
set_option maxRecDepth 100000 in
set_option maxHeartbeats 4000000 in
theorem b_X9_act_110 {p : Program} {l : Launch} {e : Env} {s : State} {m : MethodId} {args : Array Value} {below : List Frame} {meth : Method} {c : Code} {D : zD} {b0 : Nat} {F : Nat} {S : zS} {X : Int32 × zI} (hC : z_C p s m args meth c cX9_act RX9 9 (some .int) D) (hT : z_T b0 S)   (x0 : Nat) (x1 : Int32) (x2 : Int32) (x3 : Int32) (x4 : Int32) (x7 : Int32) (I : zI) (h_x0 : z_is b0 S x0 9) (hz : z_X9_act_110 F S  x0 x1 x2 x3 x4 x7 I = some X) (ls : Array Slot) (hl : lv_has ls 9 [(0, .ref (x0)), (1, .int (x1)), (2, .int (x2)), (3, .int (x3)), (4, .int (x4)), (7, .int (x7))]) : z_W p l e { frames := 2, cells := 0, slots := 0, locals := 43 } s m args below meth c D b0 S I 0 0 (MQ below (z_Q D b0 (some (.int (X.1))) S X.2) args s 0 0 (fun q => b0 ≤ q)) (F0 m 110 ls []) := by
  unfold z_X9_act_110 at hz
  refine z_iload hC dX9_act_110 (lv_at hl 5 rfl) ?_
  refine z_if_eq (tgt := 125) hC dX9_act_112 (by decide) hz (fun hz => ?_) (fun hz => ?_)
  · skip
    exact b_X9_act_125 hC hT   (x0) (x1) (x2) (x3) (x4) (I) h_x0 hz ls (lv_sub hl [0, 1, 2, 3, 4] rfl)
  · skip
    refine z_iload_n hC dX9_act_115 rfl (lv_at hl 3 rfl) ?_
    refine z_iconst (v := 0) hC dX9_act_116 (by decide) ?_
    refine z_bipush (v := 39) hC dX9_act_117 (by decide) ?_
    obtain ⟨q1, hq_q1, hz⟩ := ob_some hz
    refine z_callS (As := [.int (x3), .int (0), .int (39)]) hC hT (c_X9_in F x3 0 39  hq_q1) zy_X9_in kw_834 kw_833 dX9_act_119 rfl rfl hl.1 (Nat.le_of_ble_eq_true rfl) (by decide) (by decide) ?_
    refine z_if_eq (tgt := 142) hC dX9_act_122 (by decide) hz (fun hz => ?_) (fun hz => ?_)
    · skip
      refine z_iconst (v := (-1)) hC dX9_act_142 (by decide) ?_
      obtain rfl := Option.some.inj hz
      exact z_iret hC hT dX9_act_143 (by decide) (by decide)
    · skip
      exact b_X9_act_125 hC hT   (x0) (x1) (x2) (x3) (x4) (I) h_x0 hz ls (lv_sub hl [0, 1, 2, 3, 4] rfl)
set_option maxRecDepth 100000 in
set_option maxHeartbeats 4000000 in
theorem b_X9_act_97 {p : Program} {l : Launch} {e : Env} {s : State} {m : MethodId} {args : Array Value} {below : List Frame} {meth : Method} {c : Code} {D : zD} {b0 : Nat} {F : Nat} {S : zS} {X : Int32 × zI} (hC : z_C p s m args meth c cX9_act RX9 9 (some .int) D) (hT : z_T b0 S)   (x0 : Nat) (x1 : Int32) (x2 : Int32) (x3 : Int32) (x4 : Int32) (x6 : Int32) (x7 : Int32) (I : zI) (h_x0 : z_is b0 S x0 9) (hz : z_X9_act_97 F S  x0 x1 x2 x3 x4 x6 x7 I = some X) (ls : Array Slot) (hl : lv_has ls 9 [(0, .ref (x0)), (1, .int (x1)), (2, .int (x2)), (3, .int (x3)), (4, .int (x4)), (6, .int (x6)), (7, .int (x7))]) : z_W p l e { frames := 2, cells := 0, slots := 0, locals := 43 } s m args below meth c D b0 S I 0 0 (MQ below (z_Q D b0 (some (.int (X.1))) S X.2) args s 0 0 (fun q => b0 ≤ q)) (F0 m 97 ls []) := by
  unfold z_X9_act_97 at hz
  refine z_iload hC dX9_act_97 (lv_at hl 5 rfl) ?_
  refine z_if_eq (tgt := 110) hC dX9_act_99 (by decide) hz (fun hz => ?_) (fun hz => ?_)
  · skip
    exact b_X9_act_110 hC hT   (x0) (x1) (x2) (x3) (x4) (x7) (I) h_x0 hz ls (lv_sub hl [0, 1, 2, 3, 4, 6] rfl)
  · skip
    refine z_aload_n hC dX9_act_102 rfl (lv_at hl 0 rfl) ?_
    refine z_iload_n hC dX9_act_103 rfl (lv_at hl 3 rfl) ?_
    obtain ⟨q1, hq_q1, hz⟩ := ob_some hz
    refine z_callV (As := [.int (x3)]) hC hT (c_X9_isClass F x0 x3 h_x0 hq_q1) zy_X9_isClass zc_9 zv_X9_isClass kw_829 dX9_act_104 h_x0 rfl rfl hl.1 (Nat.le_of_ble_eq_true rfl) (by decide) (by decide) ?_
    refine z_if_eq (tgt := 142) hC dX9_act_107 (by decide) hz (fun hz => ?_) (fun hz => ?_)
    · skip
      refine z_iconst (v := (-1)) hC dX9_act_142 (by decide) ?_
      obtain rfl := Option.some.inj hz
      exact z_iret hC hT dX9_act_143 (by decide) (by decide)
    · skip
      exact b_X9_act_110 hC hT   (x0) (x1) (x2) (x3) (x4) (x7) (I) h_x0 hz ls (lv_sub hl [0, 1, 2, 3, 4, 6] rfl)
set_option maxRecDepth 100000 in
set_option maxHeartbeats 4000000 in
theorem b_X9_act_70 {p : Program} {l : Launch} {e : Env} {s : State} {m : MethodId} {args : Array Value} {below : List Frame} {meth : Method} {c : Code} {D : zD} {b0 : Nat} {F : Nat} {S : zS} {X : Int32 × zI} (hC : z_C p s m args meth c cX9_act RX9 9 (some .int) D) (hT : z_T b0 S)   (x0 : Nat) (x1 : Int32) (x2 : Int32) (x3 : Int32) (x4 : Int32) (x5 : Int32) (y0 : Int32) (I : zI) (h_x0 : z_is b0 S x0 9) (hz : z_X9_act_70 F S  x0 x1 x2 x3 x4 x5 y0 I = some X) (ls : Array Slot) (hl : lv_has ls 9 [(0, .ref (x0)), (1, .int (x1)), (2, .int (x2)), (3, .int (x3)), (4, .int (x4)), (5, .int (x5))]) : z_W p l e { frames := 2, cells := 0, slots := 0, locals := 43 } s m args below meth c D b0 S I 0 0 (MQ below (z_Q D b0 (some (.int (X.1))) S X.2) args s 0 0 (fun q => b0 ≤ q)) (F0 m 70 ls [.int (y0)]) := by
  unfold z_X9_act_70 at hz
  refine z_istore (lv' := [(6, .int (y0)), (0, .ref (x0)), (1, .int (x1)), (2, .int (x2)), (3, .int (x3)), (4, .int (x4)), (5, .int (x5))]) hC dX9_act_70 hl (by decide) rfl (fun ls hl => ?_)
  refine z_iload_n hC dX9_act_72 rfl (lv_at hl 3 rfl) ?_
  refine z_bipush (v := 14) hC dX9_act_73 (by decide) ?_
  refine z_bipush (v := 16) hC dX9_act_75 (by decide) ?_
  obtain ⟨q1, hq_q1, hz⟩ := ob_some hz
  refine z_callS (As := [.int (x2), .int (14), .int (16)]) hC hT (c_X9_in F x2 14 16  hq_q1) zy_X9_in kw_834 kw_833 dX9_act_77 rfl rfl hl.1 (Nat.le_of_ble_eq_true rfl) (by decide) (by decide) ?_
  refine z_istore (lv' := [(7, .int (q1)), (6, .int (y0)), (0, .ref (x0)), (1, .int (x1)), (2, .int (x2)), (3, .int (x3)), (4, .int (x4)), (5, .int (x5))]) hC dX9_act_80 hl (by decide) rfl (fun ls hl => ?_)
  refine z_iload hC dX9_act_82 (lv_at hl 7 rfl) ?_
  refine z_if_eq (tgt := 97) hC dX9_act_84 (by decide) hz (fun hz => ?_) (fun hz => ?_)
  · skip
    exact b_X9_act_97 hC hT   (x0) (x1) (x2) (x3) (x4) (y0) (q1) (I) h_x0 hz ls (lv_sub hl [2, 3, 4, 5, 6, 1, 0] rfl)
  · skip
    refine z_iload_n hC dX9_act_87 rfl (lv_at hl 5 rfl) ?_
    refine z_iconst (v := 0) hC dX9_act_88 (by decide) ?_
    refine z_bipush (v := 7) hC dX9_act_89 (by decide) ?_
    obtain ⟨q2, hq_q2, hz⟩ := ob_some hz
    refine z_callS (As := [.int (x3), .int (0), .int (7)]) hC hT (c_X9_in F x3 0 7  hq_q2) zy_X9_in kw_834 kw_833 dX9_act_91 rfl rfl hl.1 (Nat.le_of_ble_eq_true rfl) (by decide) (by decide) ?_
    refine z_if_eq (tgt := 142) hC dX9_act_94 (by decide) hz (fun hz => ?_) (fun hz => ?_)
    · skip
      refine z_iconst (v := (-1)) hC dX9_act_142 (by decide) ?_
      obtain rfl := Option.some.inj hz
      exact z_iret hC hT dX9_act_143 (by decide) (by decide)
    · skip
      exact b_X9_act_97 hC hT   (x0) (x1) (x2) (x3) (x4) (y0) (q1) (I) h_x0 hz ls (lv_sub hl [2, 3, 4, 5, 6, 1, 0] rfl)
set_option maxRecDepth 100000 in
set_option maxHeartbeats 4000000 in
theorem b_X9_act_40 {p : Program} {l : Launch} {e : Env} {s : State} {m : MethodId} {args : Array Value} {below : List Frame} {meth : Method} {c : Code} {D : zD} {b0 : Nat} {F : Nat} {S : zS} {X : Int32 × zI} (hC : z_C p s m args meth c cX9_act RX9 9 (some .int) D) (hT : z_T b0 S)   (x0 : Nat) (x1 : Int32) (x2 : Int32) (x3 : Int32) (x4 : Int32) (y0 : Int32) (I : zI) (h_x0 : z_is b0 S x0 9) (hz : z_X9_act_40 F S  x0 x1 x2 x3 x4 y0 I = some X) (ls : Array Slot) (hl : lv_has ls 9 [(0, .ref (x0)), (1, .int (x1)), (2, .int (x2)), (3, .int (x3)), (4, .int (x4))]) : z_W p l e { frames := 2, cells := 0, slots := 0, locals := 43 } s m args below meth c D b0 S I 0 0 (MQ below (z_Q D b0 (some (.int (X.1))) S X.2) args s 0 0 (fun q => b0 ≤ q)) (F0 m 40 ls [.int (y0)]) := by
  unfold z_X9_act_40 at hz
  refine z_istore (lv' := [(5, .int (y0)), (0, .ref (x0)), (1, .int (x1)), (2, .int (x2)), (3, .int (x3)), (4, .int (x4))]) hC dX9_act_40 hl (by decide) rfl (fun ls hl => ?_)
  refine z_iload_n hC dX9_act_42 rfl (lv_at hl 3 rfl) ?_
  refine z_bipush (v := 9) hC dX9_act_43 (by decide) ?_
  refine z_bipush (v := 13) hC dX9_act_45 (by decide) ?_
  obtain ⟨q1, hq_q1, hz⟩ := ob_some hz
  refine z_callS (As := [.int (x2), .int (9), .int (13)]) hC hT (c_X9_in F x2 9 13  hq_q1) zy_X9_in kw_834 kw_833 dX9_act_47 rfl rfl hl.1 (Nat.le_of_ble_eq_true rfl) (by decide) (by decide) ?_
  refine z_if_ne (tgt := 65) hC dX9_act_50 (by decide) hz (fun hz => ?_) (fun hz => ?_)
  · skip
    refine z_iconst (v := 1) hC dX9_act_65 (by decide) ?_
    refine z_goto (tgt := 70) hC dX9_act_66 (by decide) ?_
    exact b_X9_act_70 hC hT   (x0) (x1) (x2) (x3) (x4) (y0) (1) (I) h_x0 hz ls (lv_sub hl [1, 2, 3, 4, 5, 0] rfl)
  · skip
    refine z_iload_n hC dX9_act_53 rfl (lv_at hl 3 rfl) ?_
    refine z_bipush (v := 18) hC dX9_act_54 (by decide) ?_
    refine z_icmp_eq (tgt := 65) hC dX9_act_56 (by decide) hz (fun hz => ?_) (fun hz => ?_)
    · skip
      refine z_iconst (v := 1) hC dX9_act_65 (by decide) ?_
      refine z_goto (tgt := 70) hC dX9_act_66 (by decide) ?_
      exact b_X9_act_70 hC hT   (x0) (x1) (x2) (x3) (x4) (y0) (1) (I) h_x0 hz ls (lv_sub hl [1, 2, 3, 4, 5, 0] rfl)
    · skip
      refine z_iload_n hC dX9_act_59 rfl (lv_at hl 3 rfl) ?_
      refine z_bipush (v := 19) hC dX9_act_60 (by decide) ?_
      refine z_icmp_ne (tgt := 69) hC dX9_act_62 (by decide) hz (fun hz => ?_) (fun hz => ?_)
      · skip
        refine z_iconst (v := 0) hC dX9_act_69 (by decide) ?_
        exact b_X9_act_70 hC hT   (x0) (x1) (x2) (x3) (x4) (y0) (0) (I) h_x0 hz ls (lv_sub hl [1, 2, 3, 4, 5, 0] rfl)
      · skip
        refine z_iconst (v := 1) hC dX9_act_65 (by decide) ?_
        refine z_goto (tgt := 70) hC dX9_act_66 (by decide) ?_
        exact b_X9_act_70 hC hT   (x0) (x1) (x2) (x3) (x4) (y0) (1) (I) h_x0 hz ls (lv_sub hl [1, 2, 3, 4, 5, 0] rfl)
set_option maxRecDepth 100000 in
set_option maxHeartbeats 4000000 in
theorem c_X9_act {l : Launch} {D : zD} {b0 : Nat} {S : zS} {I : zI} {X : Int32 × zI} (F : Nat) (x0 : Nat) (x1 : Int32) (x2 : Int32) (x3 : Int32) (x4 : Int32) (h_x0 : z_is b0 S x0 9) (hz : z_X9_act F S I x0 x1 x2 x3 x4 = some X) : z_M l D b0 yX9_act cX9_act 9 (some .int) { frames := 2, cells := 0, slots := 0, locals := 43 } [.ref (x0), .int (x1), .int (x2), .int (x3), .int (x4)] S I (some (.int (X.1))) S X.2 := by
  refine z_met (by decide) (Nat.le_of_ble_eq_true rfl) ?_
  intro p e s m below meth c hC hnm hT ls hl
  have hl : lv_has ls 9 [(0, .ref (x0)), (1, .int (x1)), (2, .int (x2)), (3, .int (x3)), (4, .int (x4))] := hl
  unfold z_X9_act at hz
  refine z_iload_n hC dX9_act_0 rfl (lv_at hl 1 rfl) ?_
  obtain ⟨q1, hq_q1, hz⟩ := ob_some hz
  refine z_callS (As := [.int (x1)]) hC hT (c_X9_isMethod F x1  hq_q1) zy_X9_isMethod kw_861 kw_860 dX9_act_1 rfl rfl hl.1 (Nat.le_of_ble_eq_true rfl) (by decide) (by decide) ?_
  refine z_if_eq (tgt := 17) hC dX9_act_4 (by decide) hz (fun hz => ?_) (fun hz => ?_)
  · skip
    refine z_iconst (v := (-1)) hC dX9_act_17 (by decide) ?_
    obtain rfl := Option.some.inj hz
    exact z_iret hC hT dX9_act_18 (by decide) (by decide)
  · skip
    refine z_iload_n hC dX9_act_7 rfl (lv_at hl 2 rfl) ?_
    refine z_iconst (v := 0) hC dX9_act_8 (by decide) ?_
    refine z_bipush (v := 20) hC dX9_act_9 (by decide) ?_
    obtain ⟨q2, hq_q2, hz⟩ := ob_some hz
    refine z_callS (As := [.int (x2), .int (0), .int (20)]) hC hT (c_X9_in F x2 0 20  hq_q2) zy_X9_in kw_834 kw_833 dX9_act_11 rfl rfl hl.1 (Nat.le_of_ble_eq_true rfl) (by decide) (by decide) ?_
    refine z_if_ne (tgt := 19) hC dX9_act_14 (by decide) hz (fun hz => ?_) (fun hz => ?_)
    · skip
      refine z_iload_n hC dX9_act_19 rfl (lv_at hl 2 rfl) ?_
      refine z_iconst (v := 3) hC dX9_act_20 (by decide) ?_
      refine z_icmp_eq (tgt := 35) hC dX9_act_21 (by decide) hz (fun hz => ?_) (fun hz => ?_)
      · skip
        refine z_iconst (v := 1) hC dX9_act_35 (by decide) ?_
        refine z_goto (tgt := 40) hC dX9_act_36 (by decide) ?_
        exact b_X9_act_40 hC hT   (x0) (x1) (x2) (x3) (x4) (1) (I) h_x0 hz ls (lv_sub hl [0, 1, 2, 3, 4] rfl)
      · skip
        refine z_iload_n hC dX9_act_24 rfl (lv_at hl 2 rfl) ?_
        refine z_iconst (v := 4) hC dX9_act_25 (by decide) ?_
        refine z_icmp_eq (tgt := 35) hC dX9_act_26 (by decide) hz (fun hz => ?_) (fun hz => ?_)
        · skip
          refine z_iconst (v := 1) hC dX9_act_35 (by decide) ?_
          refine z_goto (tgt := 40) hC dX9_act_36 (by decide) ?_
          exact b_X9_act_40 hC hT   (x0) (x1) (x2) (x3) (x4) (1) (I) h_x0 hz ls (lv_sub hl [0, 1, 2, 3, 4] rfl)
        · skip
          refine z_iload_n hC dX9_act_29 rfl (lv_at hl 2 rfl) ?_
          refine z_bipush (v := 20) hC dX9_act_30 (by decide) ?_
          refine z_icmp_ne (tgt := 39) hC dX9_act_32 (by decide) hz (fun hz => ?_) (fun hz => ?_)
          · skip
            refine z_iconst (v := 0) hC dX9_act_39 (by decide) ?_
            exact b_X9_act_40 hC hT   (x0) (x1) (x2) (x3) (x4) (0) (I) h_x0 hz ls (lv_sub hl [0, 1, 2, 3, 4] rfl)
          · skip
            refine z_iconst (v := 1) hC dX9_act_35 (by decide) ?_
            refine z_goto (tgt := 40) hC dX9_act_36 (by decide) ?_
            exact b_X9_act_40 hC hT   (x0) (x1) (x2) (x3) (x4) (1) (I) h_x0 hz ls (lv_sub hl [0, 1, 2, 3, 4] rfl)
    · skip
      refine z_iconst (v := (-1)) hC dX9_act_17 (by decide) ?_
      obtain rfl := Option.some.inj hz
      exact z_iret hC hT dX9_act_18 (by decide) (by decide)
theorem zy_X9_guard : z_y yX9_guard cX9_guard 7 (some .int) 5 := ⟨kw_877, kw_8, by decide +kernel, by decide +kernel, by decide +kernel⟩
theorem zv_X9_guard : Cond.instanceMethod yX9_guard ∈ z_tbl ∧ Cond.selects RX9 yX9_guard yX9_guard ∈ z_tbl := ⟨kw_875, kw_876⟩
def z_X9_guard (F : Nat) (S : zS) (I : zI) (x0 : Nat) (x1 : Int32) (x2 : Int32) (x3 : Int32) (x4 : Int32) (x5 : Int32) : Option (Int32 × zI) :=
  ob (z_X9_isMethod F S I x1) (fun q1 => if q1 = 0 then (some ((-1), I)) else (ob (z_X9_in F S I x2 0 40) (fun q2 => if q2 = 0 then (some ((-1), I)) else (ob (z_X9_in F S I x3 0 40) (fun q3 => if q3 = 0 then (some ((-1), I)) else (if x2 < x3 then (ob (z_X9_in F S I x4 0 39) (fun q4 => if q4 = 0 then (some ((-1), I)) else (ob (z_X9_isClass F S I x0 x5) (fun q5 => if q5 = 0 then (some ((-1), I)) else (ob (S.1 x0 10) (fun r6 => if x1 < 0 ∨ (S.2.1 r6).2 ≤ x1.toNatClampNeg then none else (if (I r6 x1.toNatClampNeg) = 4 then (some ((-2), I)) else (if x1 < 0 ∨ (S.2.1 r6).2 ≤ x1.toNatClampNeg then none else (ob (S.1 x0 11) (fun r9 => if ((4 * x1) + (I r6 x1.toNatClampNeg)) < 0 ∨ (S.2.1 r9).2 ≤ ((4 * x1) + (I r6 x1.toNatClampNeg)).toNatClampNeg then none else (ob (S.1 x0 12) (fun r11 => if ((4 * x1) + (I r6 x1.toNatClampNeg)) < 0 ∨ (S.2.1 r11).2 ≤ ((4 * x1) + (I r6 x1.toNatClampNeg)).toNatClampNeg then none else (ob (S.1 x0 13) (fun r13 => if ((4 * x1) + (I r6 x1.toNatClampNeg)) < 0 ∨ (S.2.1 r13).2 ≤ ((4 * x1) + (I r6 x1.toNatClampNeg)).toNatClampNeg then none else (ob (S.1 x0 14) (fun r15 => if ((4 * x1) + (I r6 x1.toNatClampNeg)) < 0 ∨ (S.2.1 r15).2 ≤ ((4 * x1) + (I r6 x1.toNatClampNeg)).toNatClampNeg then none else (if x1 < 0 ∨ (S.2.1 r6).2 ≤ x1.toNatClampNeg then none else (if x1 < 0 ∨ (S.2.1 r6).2 ≤ x1.toNatClampNeg then none else (ob (S.1 x0 15) (fun r19 => if x1 < 0 ∨ (S.2.1 r19).2 ≤ x1.toNatClampNeg then none else (if x1 < 0 ∨ (S.2.1 r6).2 ≤ x1.toNatClampNeg then none else (some (((z_up (z_up (z_up (z_up (z_up (z_up I r9 ((4 * x1) + (I r6 x1.toNatClampNeg)).toNatClampNeg x2) r11 ((4 * x1) + (I r6 x1.toNatClampNeg)).toNatClampNeg x3) r13 ((4 * x1) + (I r6 x1.toNatClampNeg)).toNatClampNeg x4) r15 ((4 * x1) + (I r6 x1.toNatClampNeg)).toNatClampNeg x5) r6 x1.toNatClampNeg (((z_up (z_up (z_up (z_up I r9 ((4 * x1) + (I r6 x1.toNatClampNeg)).toNatClampNeg x2) r11 ((4 * x1) + (I r6 x1.toNatClampNeg)).toNatClampNeg x3) r13 ((4 * x1) + (I r6 x1.toNatClampNeg)).toNatClampNeg x4) r15 ((4 * x1) + (I r6 x1.toNatClampNeg)).toNatClampNeg x5) r6 x1.toNatClampNeg) + 1)) r19 x1.toNatClampNeg 0) r6 x1.toNatClampNeg) - 1, z_up (z_up (z_up (z_up (z_up (z_up I r9 ((4 * x1) + (I r6 x1.toNatClampNeg)).toNatClampNeg x2) r11 ((4 * x1) + (I r6 x1.toNatClampNeg)).toNatClampNeg x3) r13 ((4 * x1) + (I r6 x1.toNatClampNeg)).toNatClampNeg x4) r15 ((4 * x1) + (I r6 x1.toNatClampNeg)).toNatClampNeg x5) r6 x1.toNatClampNeg (((z_up (z_up (z_up (z_up I r9 ((4 * x1) + (I r6 x1.toNatClampNeg)).toNatClampNeg x2) r11 ((4 * x1) + (I r6 x1.toNatClampNeg)).toNatClampNeg x3) r13 ((4 * x1) + (I r6 x1.toNatClampNeg)).toNatClampNeg x4) r15 ((4 * x1) + (I r6 x1.toNatClampNeg)).toNatClampNeg x5) r6 x1.toNatClampNeg) + 1)) r19 x1.toNatClampNeg 0))))))))))))))))))))))) else (some ((-1), I))))))))
set_option maxRecDepth 100000 in
set_option maxHeartbeats 4000000 in
theorem c_X9_guard {l : Launch} {D : zD} {b0 : Nat} {S : zS} {I : zI} {X : Int32 × zI} (F : Nat) (x0 : Nat) (x1 : Int32) (x2 : Int32) (x3 : Int32) (x4 : Int32) (x5 : Int32) (h_x0 : z_is b0 S x0 9) (hz : z_X9_guard F S I x0 x1 x2 x3 x4 x5 = some X) : z_M l D b0 yX9_guard cX9_guard 7 (some .int) { frames := 2, cells := 0, slots := 0, locals := 43 } [.ref (x0), .int (x1), .int (x2), .int (x3), .int (x4), .int (x5)] S I (some (.int (X.1))) S X.2 := by
  refine z_met (by decide) (Nat.le_of_ble_eq_true rfl) ?_
  intro p e s m below meth c hC hnm hT ls hl
  have hl : lv_has ls 7 [(0, .ref (x0)), (1, .int (x1)), (2, .int (x2)), (3, .int (x3)), (4, .int (x4)), (5, .int (x5))] := hl
  unfold z_X9_guard at hz
  refine z_iload_n hC dX9_guard_0 rfl (lv_at hl 1 rfl) ?_
  obtain ⟨q1, hq_q1, hz⟩ := ob_some hz
  refine z_callS (As := [.int (x1)]) hC hT (c_X9_isMethod F x1  hq_q1) zy_X9_isMethod kw_861 kw_860 dX9_guard_1 rfl rfl hl.1 (Nat.le_of_ble_eq_true rfl) (by decide) (by decide) ?_
  refine z_if_eq (tgt := 52) hC dX9_guard_4 (by decide) hz (fun hz => ?_) (fun hz => ?_)
  · skip
    refine z_iconst (v := (-1)) hC dX9_guard_52 (by decide) ?_
    obtain rfl := Option.some.inj hz
    exact z_iret hC hT dX9_guard_53 (by decide) (by decide)
  · skip
    refine z_iload_n hC dX9_guard_7 rfl (lv_at hl 2 rfl) ?_
    refine z_iconst (v := 0) hC dX9_guard_8 (by decide) ?_
    refine z_bipush (v := 40) hC dX9_guard_9 (by decide) ?_
    obtain ⟨q2, hq_q2, hz⟩ := ob_some hz
    refine z_callS (As := [.int (x2), .int (0), .int (40)]) hC hT (c_X9_in F x2 0 40  hq_q2) zy_X9_in kw_834 kw_833 dX9_guard_11 rfl rfl hl.1 (Nat.le_of_ble_eq_true rfl) (by decide) (by decide) ?_
    refine z_if_eq (tgt := 52) hC dX9_guard_14 (by decide) hz (fun hz => ?_) (fun hz => ?_)
    · skip
      refine z_iconst (v := (-1)) hC dX9_guard_52 (by decide) ?_
      obtain rfl := Option.some.inj hz
      exact z_iret hC hT dX9_guard_53 (by decide) (by decide)
    · skip
      refine z_iload_n hC dX9_guard_17 rfl (lv_at hl 3 rfl) ?_
      refine z_iconst (v := 0) hC dX9_guard_18 (by decide) ?_
      refine z_bipush (v := 40) hC dX9_guard_19 (by decide) ?_
      obtain ⟨q3, hq_q3, hz⟩ := ob_some hz
      refine z_callS (As := [.int (x3), .int (0), .int (40)]) hC hT (c_X9_in F x3 0 40  hq_q3) zy_X9_in kw_834 kw_833 dX9_guard_21 rfl rfl hl.1 (Nat.le_of_ble_eq_true rfl) (by decide) (by decide) ?_
      refine z_if_eq (tgt := 52) hC dX9_guard_24 (by decide) hz (fun hz => ?_) (fun hz => ?_)
      · skip
        refine z_iconst (v := (-1)) hC dX9_guard_52 (by decide) ?_
        obtain rfl := Option.some.inj hz
        exact z_iret hC hT dX9_guard_53 (by decide) (by decide)
      · skip
        refine z_iload_n hC dX9_guard_27 rfl (lv_at hl 2 rfl) ?_
        refine z_iload_n hC dX9_guard_28 rfl (lv_at hl 3 rfl) ?_
        refine z_icmp_ge (tgt := 52) hC dX9_guard_29 (by decide) hz (fun hz => ?_) (fun hz => ?_)
        · skip
          refine z_iconst (v := (-1)) hC dX9_guard_52 (by decide) ?_
          obtain rfl := Option.some.inj hz
          exact z_iret hC hT dX9_guard_53 (by decide) (by decide)
        · skip
          refine z_iload hC dX9_guard_32 (lv_at hl 4 rfl) ?_
          refine z_iconst (v := 0) hC dX9_guard_34 (by decide) ?_
          refine z_bipush (v := 39) hC dX9_guard_35 (by decide) ?_
          obtain ⟨q4, hq_q4, hz⟩ := ob_some hz
          refine z_callS (As := [.int (x4), .int (0), .int (39)]) hC hT (c_X9_in F x4 0 39  hq_q4) zy_X9_in kw_834 kw_833 dX9_guard_37 rfl rfl hl.1 (Nat.le_of_ble_eq_true rfl) (by decide) (by decide) ?_
          refine z_if_eq (tgt := 52) hC dX9_guard_40 (by decide) hz (fun hz => ?_) (fun hz => ?_)
          · skip
            refine z_iconst (v := (-1)) hC dX9_guard_52 (by decide) ?_
            obtain rfl := Option.some.inj hz
            exact z_iret hC hT dX9_guard_53 (by decide) (by decide)
          · skip
            refine z_aload_n hC dX9_guard_43 rfl (lv_at hl 0 rfl) ?_
            refine z_iload hC dX9_guard_44 (lv_at hl 5 rfl) ?_
            obtain ⟨q5, hq_q5, hz⟩ := ob_some hz
            refine z_callV (As := [.int (x5)]) hC hT (c_X9_isClass F x0 x5 h_x0 hq_q5) zy_X9_isClass zc_9 zv_X9_isClass kw_829 dX9_guard_46 h_x0 rfl rfl hl.1 (Nat.le_of_ble_eq_true rfl) (by decide) (by decide) ?_
            refine z_if_ne (tgt := 54) hC dX9_guard_49 (by decide) hz (fun hz => ?_) (fun hz => ?_)
            · skip
              refine z_aload_n hC dX9_guard_54 rfl (lv_at hl 0 rfl) ?_
              obtain ⟨r6, hr_r6, hz⟩ := ob_some hz
              have hk_r6 : z_is b0 S r6 10 := hT.at h_x0 hr_r6
              refine z_getR hC zc_9 10 (by decide) kw_747 dX9_guard_55 h_x0 rfl hr_r6 ?_
              refine z_iload_n hC dX9_guard_58 rfl (lv_at hl 1 rfl) ?_
              obtain ⟨hi7, hz⟩ := ifn_some hz
              refine z_iald hC dX9_guard_59 hk_r6 hi7 ?_
              refine z_iconst (v := 4) hC dX9_guard_60 (by decide) ?_
              refine z_icmp_ne (tgt := 67) hC dX9_guard_61 (by decide) hz (fun hz => ?_) (fun hz => ?_)
              · skip
                refine z_iconst (v := 4) hC dX9_guard_67 (by decide) ?_
                refine z_iload_n hC dX9_guard_68 rfl (lv_at hl 1 rfl) ?_
                refine z_imul hC dX9_guard_69 ?_
                refine z_aload_n hC dX9_guard_70 rfl (lv_at hl 0 rfl) ?_
                refine z_getR hC zc_9 10 (by decide) kw_747 dX9_guard_71 h_x0 rfl hr_r6 ?_
                refine z_iload_n hC dX9_guard_74 rfl (lv_at hl 1 rfl) ?_
                obtain ⟨hi8, hz⟩ := ifn_some hz
                refine z_iald hC dX9_guard_75 hk_r6 hi8 ?_
                refine z_iadd hC dX9_guard_76 ?_
                refine z_istore (lv' := [(6, .int ((4 * x1) + (I r6 x1.toNatClampNeg))), (0, .ref (x0)), (1, .int (x1)), (2, .int (x2)), (3, .int (x3)), (4, .int (x4)), (5, .int (x5))]) hC dX9_guard_77 hl (by decide) rfl (fun ls hl => ?_)
                refine z_aload_n hC dX9_guard_79 rfl (lv_at hl 1 rfl) ?_
                obtain ⟨r9, hr_r9, hz⟩ := ob_some hz
                have hk_r9 : z_is b0 S r9 10 := hT.at h_x0 hr_r9
                refine z_getR hC zc_9 11 (by decide) kw_748 dX9_guard_80 h_x0 rfl hr_r9 ?_
                refine z_iload hC dX9_guard_83 (lv_at hl 0 rfl) ?_
                refine z_iload_n hC dX9_guard_85 rfl (lv_at hl 3 rfl) ?_
                obtain ⟨hi10, hz⟩ := ifn_some hz
                refine z_iast hC dX9_guard_86 hk_r9 hi10 ?_
                refine z_aload_n hC dX9_guard_87 rfl (lv_at hl 1 rfl) ?_
                obtain ⟨r11, hr_r11, hz⟩ := ob_some hz
                have hk_r11 : z_is b0 S r11 10 := hT.at h_x0 hr_r11
                refine z_getR hC zc_9 12 (by decide) kw_749 dX9_guard_88 h_x0 rfl hr_r11 ?_
                refine z_iload hC dX9_guard_91 (lv_at hl 0 rfl) ?_
                refine z_iload_n hC dX9_guard_93 rfl (lv_at hl 4 rfl) ?_
                obtain ⟨hi12, hz⟩ := ifn_some hz
                refine z_iast hC dX9_guard_94 hk_r11 hi12 ?_
                refine z_aload_n hC dX9_guard_95 rfl (lv_at hl 1 rfl) ?_
                obtain ⟨r13, hr_r13, hz⟩ := ob_some hz
                have hk_r13 : z_is b0 S r13 10 := hT.at h_x0 hr_r13
                refine z_getR hC zc_9 13 (by decide) kw_750 dX9_guard_96 h_x0 rfl hr_r13 ?_
                refine z_iload hC dX9_guard_99 (lv_at hl 0 rfl) ?_
                refine z_iload hC dX9_guard_101 (lv_at hl 5 rfl) ?_
                obtain ⟨hi14, hz⟩ := ifn_some hz
                refine z_iast hC dX9_guard_103 hk_r13 hi14 ?_
                refine z_aload_n hC dX9_guard_104 rfl (lv_at hl 1 rfl) ?_
                obtain ⟨r15, hr_r15, hz⟩ := ob_some hz
                have hk_r15 : z_is b0 S r15 10 := hT.at h_x0 hr_r15
                refine z_getR hC zc_9 14 (by decide) kw_751 dX9_guard_105 h_x0 rfl hr_r15 ?_
                refine z_iload hC dX9_guard_108 (lv_at hl 0 rfl) ?_
                refine z_iload hC dX9_guard_110 (lv_at hl 6 rfl) ?_
                obtain ⟨hi16, hz⟩ := ifn_some hz
                refine z_iast hC dX9_guard_112 hk_r15 hi16 ?_
                refine z_aload_n hC dX9_guard_113 rfl (lv_at hl 1 rfl) ?_
                refine z_getR hC zc_9 10 (by decide) kw_747 dX9_guard_114 h_x0 rfl hr_r6 ?_
                refine z_iload_n hC dX9_guard_117 rfl (lv_at hl 2 rfl) ?_
                refine z_dup2 hC dX9_guard_118 rfl rfl ?_
                obtain ⟨hi17, hz⟩ := ifn_some hz
                refine z_iald hC dX9_guard_119 hk_r6 hi17 ?_
                refine z_iconst (v := 1) hC dX9_guard_120 (by decide) ?_
                refine z_iadd hC dX9_guard_121 ?_
                obtain ⟨hi18, hz⟩ := ifn_some hz
                refine z_iast hC dX9_guard_122 hk_r6 hi18 ?_
                refine z_aload_n hC dX9_guard_123 rfl (lv_at hl 1 rfl) ?_
                obtain ⟨r19, hr_r19, hz⟩ := ob_some hz
                have hk_r19 : z_is b0 S r19 11 := hT.at h_x0 hr_r19
                refine z_getR hC zc_9 15 (by decide) kw_752 dX9_guard_124 h_x0 rfl hr_r19 ?_
                refine z_iload_n hC dX9_guard_127 rfl (lv_at hl 2 rfl) ?_
                refine z_iconst (v := 0) hC dX9_guard_128 (by decide) ?_
                obtain ⟨hi20, hz⟩ := ifn_some hz
                refine z_zast hC dX9_guard_129 hk_r19 hi20 (z_bool (Or.inl rfl)) ?_
                refine z_aload_n hC dX9_guard_130 rfl (lv_at hl 1 rfl) ?_
                refine z_getR hC zc_9 10 (by decide) kw_747 dX9_guard_131 h_x0 rfl hr_r6 ?_
                refine z_iload_n hC dX9_guard_134 rfl (lv_at hl 2 rfl) ?_
                obtain ⟨hi21, hz⟩ := ifn_some hz
                refine z_iald hC dX9_guard_135 hk_r6 hi21 ?_
                refine z_iconst (v := 1) hC dX9_guard_136 (by decide) ?_
                refine z_isub hC dX9_guard_137 ?_
                obtain rfl := Option.some.inj hz
                exact z_iret hC hT dX9_guard_138 (by decide) (by decide)
              · skip
                refine z_bipush (v := (-2)) hC dX9_guard_64 (by decide) ?_
                obtain rfl := Option.some.inj hz
                exact z_iret hC hT dX9_guard_66 (by decide) (by decide)
            · skip
              refine z_iconst (v := (-1)) hC dX9_guard_52 (by decide) ?_
              obtain rfl := Option.some.inj hz
              exact z_iret hC hT dX9_guard_53 (by decide) (by decide)
theorem zy_X9_fails : z_y yX9_fails cX9_fails 2 none 1 := ⟨kw_911, kw_8, by decide +kernel, by decide +kernel, by decide +kernel⟩
theorem zv_X9_fails : Cond.instanceMethod yX9_fails ∈ z_tbl ∧ Cond.selects RX9 yX9_fails yX9_fails ∈ z_tbl := ⟨kw_910, ks_39⟩
def z_X9_fails (F : Nat) (S : zS) (I : zI) (x0 : Nat) (x1 : Int32) : Option (zI) :=
  if (I x0 24) = 0 then (some (z_up I x0 24 x1)) else (some (z_up I x0 24 (I x0 24)))
set_option maxRecDepth 100000 in
set_option maxHeartbeats 4000000 in
theorem c_X9_fails {l : Launch} {D : zD} {b0 : Nat} {S : zS} {I : zI} {X : zI} (F : Nat) (x0 : Nat) (x1 : Int32) (h_x0 : z_is b0 S x0 9) (hz : z_X9_fails F S I x0 x1 = some X) : z_M l D b0 yX9_fails cX9_fails 2 none { frames := 0, cells := 0, slots := 0, locals := 0 } [.ref (x0), .int (x1)] S I none S X := by
  refine z_met (by decide) (Nat.le_of_ble_eq_true rfl) ?_
  intro p e s m below meth c hC hnm hT ls hl
  have hl : lv_has ls 2 [(0, .ref (x0)), (1, .int (x1))] := hl
  unfold z_X9_fails at hz
  refine z_aload_n hC dX9_fails_0 rfl (lv_at hl 0 rfl) ?_
  refine z_aload_n hC dX9_fails_1 rfl (lv_at hl 0 rfl) ?_
  refine z_getI hC zc_9 24 (by decide) kw_761 dX9_fails_2 h_x0 rfl ?_
  refine z_if_ne (tgt := 12) hC dX9_fails_5 (by decide) hz (fun hz => ?_) (fun hz => ?_)
  · skip
    refine z_aload_n hC dX9_fails_12 rfl (lv_at hl 0 rfl) ?_
    refine z_getI hC zc_9 24 (by decide) kw_761 dX9_fails_13 h_x0 rfl ?_
    refine z_putI hC zc_9 24 (by decide) kw_761 dX9_fails_16 h_x0 rfl rfl rfl rfl ?_
    obtain rfl := Option.some.inj hz
    exact z_vret hC hT dX9_fails_19 (by decide) (by decide)
  · skip
    refine z_iload_n hC dX9_fails_8 rfl (lv_at hl 1 rfl) ?_
    refine z_goto (tgt := 16) hC dX9_fails_9 (by decide) ?_
    refine z_putI hC zc_9 24 (by decide) kw_761 dX9_fails_16 h_x0 rfl rfl rfl rfl ?_
    obtain rfl := Option.some.inj hz
    exact z_vret hC hT dX9_fails_19 (by decide) (by decide)
theorem zy_X9_top : z_y yX9_top cX9_top 1 (some .int) 0 := ⟨kw_939, kw_8, by decide +kernel, by decide +kernel, by decide +kernel⟩
theorem zv_X9_top : Cond.instanceMethod yX9_top ∈ z_tbl ∧ Cond.selects RX9 yX9_top yX9_top ∈ z_tbl := ⟨kw_938, ks_46⟩
def z_X9_top (F : Nat) (S : zS) (I : zI) (x0 : Nat) : Option (Int32) :=
  ob (S.1 x0 22) (fun r1 => if (8 : Int32) < 0 ∨ (S.2.1 r1).2 ≤ (8 : Int32).toNatClampNeg then none else (if (I r1 (8 : Int32).toNatClampNeg) = 0 then (some ((-1))) else (if (8 : Int32) < 0 ∨ (S.2.1 r1).2 ≤ (8 : Int32).toNatClampNeg then none else (if ((9 + (I r1 (8 : Int32).toNatClampNeg)) - 1) < 0 ∨ (S.2.1 r1).2 ≤ ((9 + (I r1 (8 : Int32).toNatClampNeg)) - 1).toNatClampNeg then none else (some (I r1 ((9 + (I r1 (8 : Int32).toNatClampNeg)) - 1).toNatClampNeg))))))
set_option maxRecDepth 100000 in
set_option maxHeartbeats 4000000 in
theorem c_X9_top {l : Launch} {D : zD} {b0 : Nat} {S : zS} {I : zI} {X : Int32} (F : Nat) (x0 : Nat) (h_x0 : z_is b0 S x0 9) (hz : z_X9_top F S I x0 = some X) : z_M l D b0 yX9_top cX9_top 1 (some .int) { frames := 0, cells := 0, slots := 0, locals := 0 } [.ref (x0)] S I (some (.int (X))) S I := by
  refine z_met (by decide) (Nat.le_of_ble_eq_true rfl) ?_
  intro p e s m below meth c hC hnm hT ls hl
  have hl : lv_has ls 1 [(0, .ref (x0))] := hl
  unfold z_X9_top at hz
  refine z_aload_n hC dX9_top_0 rfl (lv_at hl 0 rfl) ?_
  obtain ⟨r1, hr_r1, hz⟩ := ob_some hz
  have hk_r1 : z_is b0 S r1 10 := hT.at h_x0 hr_r1
  refine z_getR hC zc_9 22 (by decide) kw_759 dX9_top_1 h_x0 rfl hr_r1 ?_
  refine z_bipush (v := 8) hC dX9_top_4 (by decide) ?_
  obtain ⟨hi2, hz⟩ := ifn_some hz
  refine z_iald hC dX9_top_6 hk_r1 hi2 ?_
  refine z_if_ne (tgt := 14) hC dX9_top_7 (by decide) hz (fun hz => ?_) (fun hz => ?_)
  · skip
    refine z_aload_n hC dX9_top_14 rfl (lv_at hl 0 rfl) ?_
    refine z_getR hC zc_9 22 (by decide) kw_759 dX9_top_15 h_x0 rfl hr_r1 ?_
    refine z_bipush (v := 9) hC dX9_top_18 (by decide) ?_
    refine z_aload_n hC dX9_top_20 rfl (lv_at hl 0 rfl) ?_
    refine z_getR hC zc_9 22 (by decide) kw_759 dX9_top_21 h_x0 rfl hr_r1 ?_
    refine z_bipush (v := 8) hC dX9_top_24 (by decide) ?_
    obtain ⟨hi3, hz⟩ := ifn_some hz
    refine z_iald hC dX9_top_26 hk_r1 hi3 ?_
    refine z_iadd hC dX9_top_27 ?_
    refine z_iconst (v := 1) hC dX9_top_28 (by decide) ?_
    refine z_isub hC dX9_top_29 ?_
    obtain ⟨hi4, hz⟩ := ifn_some hz
    refine z_iald hC dX9_top_30 hk_r1 hi4 ?_
    obtain rfl := Option.some.inj hz
    exact z_iret hC hT dX9_top_31 (by decide) (by decide)
  · skip
    refine z_iconst (v := (-1)) hC dX9_top_10 (by decide) ?_
    refine z_goto (tgt := 31) hC dX9_top_11 (by decide) ?_
    obtain rfl := Option.some.inj hz
    exact z_iret hC hT dX9_top_31 (by decide) (by decide)
