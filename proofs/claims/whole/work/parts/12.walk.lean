theorem zy_X6_replace : z_y yX6_replace cX6_replace 4 none 2 := ⟨kw_522, kw_4, by decide +kernel, by decide +kernel, by decide +kernel⟩
theorem zv_X6_replace : Cond.instanceMethod yX6_replace ∈ z_tbl ∧ Cond.selects RX6 yX6_replace yX6_replace ∈ z_tbl := ⟨kw_520, kw_521⟩
def z_X6_replace_31B (F : Nat) (S : zS) (k31 : Nat → Int32 → Int32 → Int32 → zI → Option (zI)) (x0 : Nat) (x1 : Int32) (x2 : Int32) (x3 : Int32) (I : zI) : Option (zI) :=
  if x3 < (I x0 2) then (ob (z_X6_onStack F S I x0 x3) (fun q1 => if q1 = x1 then (ob (z_X6_setStack F S I x0 x3 x2) (fun q2 => k31 (x0) (x1) (x2) (x3 + 1) (q2))) else (k31 (x0) (x1) (x2) (x3 + 1) (I)))) else (some (I))
def z_X6_replace_31 (F : Nat) (S : zS)  : Nat → Nat → Int32 → Int32 → Int32 → zI → Option (zI)
  | 0 => fun _ _ _ _ _ => none
  | n + 1 => fun x0 x1 x2 x3 I => z_X6_replace_31B F S  (z_X6_replace_31 F S  n) x0 x1 x2 x3 I
def z_X6_replace_2B (F : Nat) (S : zS) (k2 : Nat → Int32 → Int32 → Int32 → zI → Option (zI)) (x0 : Nat) (x1 : Int32) (x2 : Int32) (x3 : Int32) (I : zI) : Option (zI) :=
  if x3 < 8 then (ob (z_X6_inPlace F S I x0 x3) (fun q1 => if q1 = x1 then (ob (z_X6_setPlace F S I x0 x3 x2) (fun q2 => k2 (x0) (x1) (x2) (x3 + 1) (q2))) else (k2 (x0) (x1) (x2) (x3 + 1) (I)))) else (z_X6_replace_31 F S  F (x0) (x1) (x2) (0) (I))
def z_X6_replace_2 (F : Nat) (S : zS)  : Nat → Nat → Int32 → Int32 → Int32 → zI → Option (zI)
  | 0 => fun _ _ _ _ _ => none
  | n + 1 => fun x0 x1 x2 x3 I => z_X6_replace_2B F S  (z_X6_replace_2 F S  n) x0 x1 x2 x3 I
def z_X6_replace (F : Nat) (S : zS) (I : zI) (x0 : Nat) (x1 : Int32) (x2 : Int32) : Option (zI) :=
  z_X6_replace_2 F S  F (x0) (x1) (x2) (0) (I)
set_option maxRecDepth 100000 in
set_option maxHeartbeats 4000000 in
theorem bb_X6_replace_31 {p : Program} {l : Launch} {e : Env} {s : State} {m : MethodId} {args : Array Value} {below : List Frame} {meth : Method} {c : Code} {D : zD} {b0 : Nat} {F : Nat} {S : zS} {X : zI} (hC : z_C p s m args meth c cX6_replace RX6 4 none D) (hT : z_T b0 S) (k31 : Nat → Int32 → Int32 → Int32 → zI → Option (zI)) (hk31 : ∀ (x0 : Nat) (x1 : Int32) (x2 : Int32) (x3 : Int32) (I : zI) , z_is b0 S x0 6 → k31 x0 x1 x2 x3 I = some X → ∀ ls : Array Slot, lv_has ls 4 [(0, .ref (x0)), (1, .int (x1)), (2, .int (x2)), (3, .int (x3))] → z_W p l e { frames := 1, cells := 0, slots := 0, locals := 22 } s m args below meth c D b0 S I 0 0 (MQ below (z_Q D b0 none S X) args s 0 0 (fun q => b0 ≤ q)) (F0 m 31 ls [])) (x0 : Nat) (x1 : Int32) (x2 : Int32) (x3 : Int32) (I : zI) (h_x0 : z_is b0 S x0 6) (hz : z_X6_replace_31B F S k31 x0 x1 x2 x3 I = some X) (ls : Array Slot) (hl : lv_has ls 4 [(0, .ref (x0)), (1, .int (x1)), (2, .int (x2)), (3, .int (x3))]) : z_W p l e { frames := 1, cells := 0, slots := 0, locals := 22 } s m args below meth c D b0 S I 0 0 (MQ below (z_Q D b0 none S X) args s 0 0 (fun q => b0 ≤ q)) (F0 m 31 ls []) := by
  unfold z_X6_replace_31B at hz
  refine z_iload_n hC dX6_replace_31 rfl (lv_at hl 3 rfl) ?_
  refine z_aload_n hC dX6_replace_32 rfl (lv_at hl 0 rfl) ?_
  refine z_getI hC zc_6 2 (by decide) kw_59 dX6_replace_33 h_x0 rfl ?_
  refine z_icmp_ge (tgt := 60) hC dX6_replace_36 (by decide) hz (fun hz => ?_) (fun hz => ?_)
  · skip
    obtain rfl := Option.some.inj hz
    exact z_vret hC hT dX6_replace_60 (by decide) (by decide)
  · skip
    refine z_aload_n hC dX6_replace_39 rfl (lv_at hl 0 rfl) ?_
    refine z_iload_n hC dX6_replace_40 rfl (lv_at hl 3 rfl) ?_
    obtain ⟨q1, hq_q1, hz⟩ := ob_some hz
    refine z_callV (As := [.int (x3)]) hC hT (c_X6_onStack F x0 x3 h_x0 hq_q1) zy_X6_onStack zc_6 zv_X6_onStack kw_401 dX6_replace_41 h_x0 rfl rfl hl.1 (Nat.le_of_ble_eq_true rfl) (by decide) (by decide) ?_
    refine z_iload_n hC dX6_replace_44 rfl (lv_at hl 1 rfl) ?_
    refine z_icmp_ne (tgt := 54) hC dX6_replace_45 (by decide) hz (fun hz => ?_) (fun hz => ?_)
    · skip
      refine z_iinc (k0 := 3) (v := x3 + 1) (lv' := [(3, .int (x3 + 1)), (0, .ref (x0)), (1, .int (x1)), (2, .int (x2))]) hC dX6_replace_54 hl rfl rfl (by decide) rfl (fun ls hl => ?_)
      refine z_goto (tgt := 31) hC dX6_replace_57 (by decide) ?_
      exact hk31 (x0) (x1) (x2) (x3 + 1) (I) h_x0 hz ls (lv_sub hl [1, 2, 3, 0] rfl)
    · skip
      refine z_aload_n hC dX6_replace_48 rfl (lv_at hl 0 rfl) ?_
      refine z_iload_n hC dX6_replace_49 rfl (lv_at hl 3 rfl) ?_
      refine z_iload_n hC dX6_replace_50 rfl (lv_at hl 2 rfl) ?_
      obtain ⟨q2, hq_q2, hz⟩ := ob_some hz
      refine z_callV (As := [.int (x3), .int (x2)]) hC hT (c_X6_setStack F x0 x3 x2 h_x0 hq_q2) zy_X6_setStack zc_6 zv_X6_setStack kw_471 dX6_replace_51 h_x0 rfl rfl hl.1 (Nat.le_of_ble_eq_true rfl) (by decide) (by decide) ?_
      refine z_iinc (k0 := 3) (v := x3 + 1) (lv' := [(3, .int (x3 + 1)), (0, .ref (x0)), (1, .int (x1)), (2, .int (x2))]) hC dX6_replace_54 hl rfl rfl (by decide) rfl (fun ls hl => ?_)
      refine z_goto (tgt := 31) hC dX6_replace_57 (by decide) ?_
      exact hk31 (x0) (x1) (x2) (x3 + 1) (q2) h_x0 hz ls (lv_sub hl [1, 2, 3, 0] rfl)
set_option maxRecDepth 100000 in
set_option maxHeartbeats 4000000 in
theorem b_X6_replace_31 {p : Program} {l : Launch} {e : Env} {s : State} {m : MethodId} {args : Array Value} {below : List Frame} {meth : Method} {c : Code} {D : zD} {b0 : Nat} {F : Nat} {S : zS} {X : zI} (hC : z_C p s m args meth c cX6_replace RX6 4 none D) (hT : z_T b0 S)   : ∀ (n : Nat) (x0 : Nat) (x1 : Int32) (x2 : Int32) (x3 : Int32) (I : zI), z_is b0 S x0 6 → z_X6_replace_31 F S  n x0 x1 x2 x3 I = some X → ∀ ls : Array Slot, lv_has ls 4 [(0, .ref (x0)), (1, .int (x1)), (2, .int (x2)), (3, .int (x3))] → z_W p l e { frames := 1, cells := 0, slots := 0, locals := 22 } s m args below meth c D b0 S I 0 0 (MQ below (z_Q D b0 none S X) args s 0 0 (fun q => b0 ≤ q)) (F0 m 31 ls []) := by
  intro n
  induction n with
  | zero => intro x0 x1 x2 x3 I h_x0 hz; cases hz
  | succ n ih =>
    intro x0 x1 x2 x3 I h_x0 hz ls hl
    exact bb_X6_replace_31 (F := F) hC hT  (z_X6_replace_31 F S  n)  ih x0 x1 x2 x3 I h_x0 hz ls hl
set_option maxRecDepth 100000 in
set_option maxHeartbeats 4000000 in
theorem bb_X6_replace_2 {p : Program} {l : Launch} {e : Env} {s : State} {m : MethodId} {args : Array Value} {below : List Frame} {meth : Method} {c : Code} {D : zD} {b0 : Nat} {F : Nat} {S : zS} {X : zI} (hC : z_C p s m args meth c cX6_replace RX6 4 none D) (hT : z_T b0 S) (k2 : Nat → Int32 → Int32 → Int32 → zI → Option (zI)) (hk2 : ∀ (x0 : Nat) (x1 : Int32) (x2 : Int32) (x3 : Int32) (I : zI) , z_is b0 S x0 6 → k2 x0 x1 x2 x3 I = some X → ∀ ls : Array Slot, lv_has ls 4 [(0, .ref (x0)), (1, .int (x1)), (2, .int (x2)), (3, .int (x3))] → z_W p l e { frames := 1, cells := 0, slots := 0, locals := 22 } s m args below meth c D b0 S I 0 0 (MQ below (z_Q D b0 none S X) args s 0 0 (fun q => b0 ≤ q)) (F0 m 2 ls [])) (x0 : Nat) (x1 : Int32) (x2 : Int32) (x3 : Int32) (I : zI) (h_x0 : z_is b0 S x0 6) (hz : z_X6_replace_2B F S k2 x0 x1 x2 x3 I = some X) (ls : Array Slot) (hl : lv_has ls 4 [(0, .ref (x0)), (1, .int (x1)), (2, .int (x2)), (3, .int (x3))]) : z_W p l e { frames := 1, cells := 0, slots := 0, locals := 22 } s m args below meth c D b0 S I 0 0 (MQ below (z_Q D b0 none S X) args s 0 0 (fun q => b0 ≤ q)) (F0 m 2 ls []) := by
  unfold z_X6_replace_2B at hz
  refine z_iload_n hC dX6_replace_2 rfl (lv_at hl 3 rfl) ?_
  refine z_bipush (v := 8) hC dX6_replace_3 (by decide) ?_
  refine z_icmp_ge (tgt := 29) hC dX6_replace_5 (by decide) hz (fun hz => ?_) (fun hz => ?_)
  · skip
    refine z_iconst (v := 0) hC dX6_replace_29 (by decide) ?_
    refine z_istore_n (lv' := [(3, .int (0)), (0, .ref (x0)), (1, .int (x1)), (2, .int (x2))]) hC dX6_replace_30 rfl hl (by decide) rfl (fun ls hl => ?_)
    exact b_X6_replace_31 hC hT   F (x0) (x1) (x2) (0) (I) h_x0 hz ls (lv_sub hl [1, 2, 3, 0] rfl)
  · skip
    refine z_aload_n hC dX6_replace_8 rfl (lv_at hl 0 rfl) ?_
    refine z_iload_n hC dX6_replace_9 rfl (lv_at hl 3 rfl) ?_
    obtain ⟨q1, hq_q1, hz⟩ := ob_some hz
    refine z_callV (As := [.int (x3)]) hC hT (c_X6_inPlace F x0 x3 h_x0 hq_q1) zy_X6_inPlace zc_6 zv_X6_inPlace kw_261 dX6_replace_10 h_x0 rfl rfl hl.1 (Nat.le_of_ble_eq_true rfl) (by decide) (by decide) ?_
    refine z_iload_n hC dX6_replace_13 rfl (lv_at hl 1 rfl) ?_
    refine z_icmp_ne (tgt := 23) hC dX6_replace_14 (by decide) hz (fun hz => ?_) (fun hz => ?_)
    · skip
      refine z_iinc (k0 := 3) (v := x3 + 1) (lv' := [(3, .int (x3 + 1)), (0, .ref (x0)), (1, .int (x1)), (2, .int (x2))]) hC dX6_replace_23 hl rfl rfl (by decide) rfl (fun ls hl => ?_)
      refine z_goto (tgt := 2) hC dX6_replace_26 (by decide) ?_
      exact hk2 (x0) (x1) (x2) (x3 + 1) (I) h_x0 hz ls (lv_sub hl [1, 2, 3, 0] rfl)
    · skip
      refine z_aload_n hC dX6_replace_17 rfl (lv_at hl 0 rfl) ?_
      refine z_iload_n hC dX6_replace_18 rfl (lv_at hl 3 rfl) ?_
      refine z_iload_n hC dX6_replace_19 rfl (lv_at hl 2 rfl) ?_
      obtain ⟨q2, hq_q2, hz⟩ := ob_some hz
      refine z_callV (As := [.int (x3), .int (x2)]) hC hT (c_X6_setPlace F x0 x3 x2 h_x0 hq_q2) zy_X6_setPlace zc_6 zv_X6_setPlace kw_265 dX6_replace_20 h_x0 rfl rfl hl.1 (Nat.le_of_ble_eq_true rfl) (by decide) (by decide) ?_
      refine z_iinc (k0 := 3) (v := x3 + 1) (lv' := [(3, .int (x3 + 1)), (0, .ref (x0)), (1, .int (x1)), (2, .int (x2))]) hC dX6_replace_23 hl rfl rfl (by decide) rfl (fun ls hl => ?_)
      refine z_goto (tgt := 2) hC dX6_replace_26 (by decide) ?_
      exact hk2 (x0) (x1) (x2) (x3 + 1) (q2) h_x0 hz ls (lv_sub hl [1, 2, 3, 0] rfl)
set_option maxRecDepth 100000 in
set_option maxHeartbeats 4000000 in
theorem b_X6_replace_2 {p : Program} {l : Launch} {e : Env} {s : State} {m : MethodId} {args : Array Value} {below : List Frame} {meth : Method} {c : Code} {D : zD} {b0 : Nat} {F : Nat} {S : zS} {X : zI} (hC : z_C p s m args meth c cX6_replace RX6 4 none D) (hT : z_T b0 S)   : ∀ (n : Nat) (x0 : Nat) (x1 : Int32) (x2 : Int32) (x3 : Int32) (I : zI), z_is b0 S x0 6 → z_X6_replace_2 F S  n x0 x1 x2 x3 I = some X → ∀ ls : Array Slot, lv_has ls 4 [(0, .ref (x0)), (1, .int (x1)), (2, .int (x2)), (3, .int (x3))] → z_W p l e { frames := 1, cells := 0, slots := 0, locals := 22 } s m args below meth c D b0 S I 0 0 (MQ below (z_Q D b0 none S X) args s 0 0 (fun q => b0 ≤ q)) (F0 m 2 ls []) := by
  intro n
  induction n with
  | zero => intro x0 x1 x2 x3 I h_x0 hz; cases hz
  | succ n ih =>
    intro x0 x1 x2 x3 I h_x0 hz ls hl
    exact bb_X6_replace_2 (F := F) hC hT  (z_X6_replace_2 F S  n)  ih x0 x1 x2 x3 I h_x0 hz ls hl
set_option maxRecDepth 100000 in
set_option maxHeartbeats 4000000 in
theorem c_X6_replace {l : Launch} {D : zD} {b0 : Nat} {S : zS} {I : zI} {X : zI} (F : Nat) (x0 : Nat) (x1 : Int32) (x2 : Int32) (h_x0 : z_is b0 S x0 6) (hz : z_X6_replace F S I x0 x1 x2 = some X) : z_M l D b0 yX6_replace cX6_replace 4 none { frames := 1, cells := 0, slots := 0, locals := 22 } [.ref (x0), .int (x1), .int (x2)] S I none S X := by
  refine z_met (by decide) (Nat.le_of_ble_eq_true rfl) ?_
  intro p e s m below meth c hC hnm hT ls hl
  have hl : lv_has ls 4 [(0, .ref (x0)), (1, .int (x1)), (2, .int (x2))] := hl
  unfold z_X6_replace at hz
  refine z_iconst (v := 0) hC dX6_replace_0 (by decide) ?_
  refine z_istore_n (lv' := [(3, .int (0)), (0, .ref (x0)), (1, .int (x1)), (2, .int (x2))]) hC dX6_replace_1 rfl hl (by decide) rfl (fun ls hl => ?_)
  exact b_X6_replace_2 hC hT   F (x0) (x1) (x2) (0) (I) h_x0 hz ls (lv_sub hl [1, 2, 3, 0] rfl)
theorem zy_X7_make : z_y yX7_make cX7_make 5 (some .int) 3 := ⟨kw_514, kw_5, by decide +kernel, by decide +kernel, by decide +kernel⟩
theorem zv_X7_make : Cond.instanceMethod yX7_make ∈ z_tbl ∧ Cond.selects RX7 yX7_make yX7_make ∈ z_tbl := ⟨kw_513, ks_12⟩
def z_X7_make (F : Nat) (S : zS) (I : zI) (x0 : Nat) (x1 : Nat) (x2 : Int32) (x3 : Nat) : Option (Int32 × zI) :=
  ob (z_X6_pop F S I x3) (fun q1 => if (q1.1) = (-1) then (some (1, q1.2)) else (ob (z_X5_isUnmadeOf F S (q1.2) x1 (q1.1) x2) (fun q2 => if q2 = 0 then (some (2, q1.2)) else (ob (z_X6_replace F S (q1.2) x3 (q1.1) (10 + x2)) (fun q3 => some (0, q3))))))
set_option maxRecDepth 100000 in
set_option maxHeartbeats 4000000 in
theorem c_X7_make {l : Launch} {D : zD} {b0 : Nat} {S : zS} {I : zI} {X : Int32 × zI} (F : Nat) (x0 : Nat) (x1 : Nat) (x2 : Int32) (x3 : Nat) (h_x0 : z_is b0 S x0 7) (h_x1 : z_is b0 S x1 5) (h_x3 : z_is b0 S x3 6) (hz : z_X7_make F S I x0 x1 x2 x3 = some X) : z_M l D b0 yX7_make cX7_make 5 (some .int) { frames := 2, cells := 0, slots := 0, locals := 45 } [.ref (x0), .ref (x1), .int (x2), .ref (x3)] S I (some (.int (X.1))) S X.2 := by
  refine z_met (by decide) (Nat.le_of_ble_eq_true rfl) ?_
  intro p e s m below meth c hC hnm hT ls hl
  have hl : lv_has ls 5 [(0, .ref (x0)), (1, .ref (x1)), (2, .int (x2)), (3, .ref (x3))] := hl
  unfold z_X7_make at hz
  refine z_aload_n hC dX7_make_0 rfl (lv_at hl 3 rfl) ?_
  obtain ⟨q1, hq_q1, hz⟩ := ob_some hz
  refine z_callV (As := []) hC hT (c_X6_pop F x3 h_x3 hq_q1) zy_X6_pop zc_6 zv_X6_pop kw_490 dX7_make_1 h_x3 rfl rfl hl.1 (Nat.le_of_ble_eq_true rfl) (by decide) (by decide) ?_
  refine z_istore (lv' := [(4, .int (q1.1)), (0, .ref (x0)), (1, .ref (x1)), (2, .int (x2)), (3, .ref (x3))]) hC dX7_make_4 hl (by decide) rfl (fun ls hl => ?_)
  refine z_iload hC dX7_make_6 (lv_at hl 0 rfl) ?_
  refine z_iconst (v := (-1)) hC dX7_make_8 (by decide) ?_
  refine z_icmp_ne (tgt := 14) hC dX7_make_9 (by decide) hz (fun hz => ?_) (fun hz => ?_)
  · skip
    refine z_aload_n hC dX7_make_14 rfl (lv_at hl 2 rfl) ?_
    refine z_iload hC dX7_make_15 (lv_at hl 0 rfl) ?_
    refine z_iload_n hC dX7_make_17 rfl (lv_at hl 3 rfl) ?_
    obtain ⟨q2, hq_q2, hz⟩ := ob_some hz
    refine z_callV (As := [.int (q1.1), .int (x2)]) hC hT (c_X5_isUnmadeOf F x1 (q1.1) x2 h_x1 hq_q2) zy_X5_isUnmadeOf zc_5 zv_X5_isUnmadeOf kw_515 dX7_make_18 h_x1 rfl rfl hl.1 (Nat.le_of_ble_eq_true rfl) (by decide) (by decide) ?_
    refine z_if_ne (tgt := 26) hC dX7_make_21 (by decide) hz (fun hz => ?_) (fun hz => ?_)
    · skip
      refine z_aload_n hC dX7_make_26 rfl (lv_at hl 4 rfl) ?_
      refine z_iload hC dX7_make_27 (lv_at hl 0 rfl) ?_
      refine z_bipush (v := 10) hC dX7_make_29 (by decide) ?_
      refine z_iload_n hC dX7_make_31 rfl (lv_at hl 3 rfl) ?_
      refine z_iadd hC dX7_make_32 ?_
      obtain ⟨q3, hq_q3, hz⟩ := ob_some hz
      refine z_callV (As := [.int (q1.1), .int (10 + x2)]) hC hT (c_X6_replace F x3 (q1.1) (10 + x2) h_x3 hq_q3) zy_X6_replace zc_6 zv_X6_replace kw_519 dX7_make_33 h_x3 rfl rfl hl.1 (Nat.le_of_ble_eq_true rfl) (by decide) (by decide) ?_
      refine z_iconst (v := 0) hC dX7_make_36 (by decide) ?_
      obtain rfl := Option.some.inj hz
      exact z_iret hC hT dX7_make_37 (by decide) (by decide)
    · skip
      refine z_iconst (v := 2) hC dX7_make_24 (by decide) ?_
      obtain rfl := Option.some.inj hz
      exact z_iret hC hT dX7_make_25 (by decide) (by decide)
  · skip
    refine z_iconst (v := 1) hC dX7_make_12 (by decide) ?_
    obtain rfl := Option.some.inj hz
    exact z_iret hC hT dX7_make_13 (by decide) (by decide)
theorem zy_X7_takeObject : z_y yX7_takeObject cX7_takeObject 4 (some .int) 2 := ⟨kw_526, kw_5, by decide +kernel, by decide +kernel, by decide +kernel⟩
theorem zv_X7_takeObject : Cond.instanceMethod yX7_takeObject ∈ z_tbl ∧ Cond.selects RX7 yX7_takeObject yX7_takeObject ∈ z_tbl := ⟨kw_525, ks_13⟩
def z_X7_takeObject (F : Nat) (S : zS) (I : zI) (x0 : Nat) (x1 : Nat) (x2 : Int32) : Option (Int32 × zI) :=
  ob (z_X6_pop F S I x1) (fun q1 => if (q1.1) = (-1) then (some (1, q1.2)) else (ob (S.1 x0 0) (fun r2 => ob (z_X1_isObjectFor F S (q1.2) r2 (q1.1) x2) (fun q3 => if q3 = 0 then (some (2, q1.2)) else (some (0, q1.2))))))
set_option maxRecDepth 100000 in
set_option maxHeartbeats 4000000 in
theorem c_X7_takeObject {l : Launch} {D : zD} {b0 : Nat} {S : zS} {I : zI} {X : Int32 × zI} (F : Nat) (x0 : Nat) (x1 : Nat) (x2 : Int32) (h_x0 : z_is b0 S x0 7) (h_x1 : z_is b0 S x1 6) (hz : z_X7_takeObject F S I x0 x1 x2 = some X) : z_M l D b0 yX7_takeObject cX7_takeObject 4 (some .int) { frames := 2, cells := 0, slots := 0, locals := 44 } [.ref (x0), .ref (x1), .int (x2)] S I (some (.int (X.1))) S X.2 := by
  refine z_met (by decide) (Nat.le_of_ble_eq_true rfl) ?_
  intro p e s m below meth c hC hnm hT ls hl
  have hl : lv_has ls 4 [(0, .ref (x0)), (1, .ref (x1)), (2, .int (x2))] := hl
  unfold z_X7_takeObject at hz
  refine z_aload_n hC dX7_takeObject_0 rfl (lv_at hl 1 rfl) ?_
  obtain ⟨q1, hq_q1, hz⟩ := ob_some hz
  refine z_callV (As := []) hC hT (c_X6_pop F x1 h_x1 hq_q1) zy_X6_pop zc_6 zv_X6_pop kw_490 dX7_takeObject_1 h_x1 rfl rfl hl.1 (Nat.le_of_ble_eq_true rfl) (by decide) (by decide) ?_
  refine z_istore_n (lv' := [(3, .int (q1.1)), (0, .ref (x0)), (1, .ref (x1)), (2, .int (x2))]) hC dX7_takeObject_4 rfl hl (by decide) rfl (fun ls hl => ?_)
  refine z_iload_n hC dX7_takeObject_5 rfl (lv_at hl 0 rfl) ?_
  refine z_iconst (v := (-1)) hC dX7_takeObject_6 (by decide) ?_
  refine z_icmp_ne (tgt := 12) hC dX7_takeObject_7 (by decide) hz (fun hz => ?_) (fun hz => ?_)
  · skip
    refine z_aload_n hC dX7_takeObject_12 rfl (lv_at hl 1 rfl) ?_
    obtain ⟨r2, hr_r2, hz⟩ := ob_some hz
    have hk_r2 : z_is b0 S r2 1 := hT.at h_x0 hr_r2
    refine z_getR hC zc_7 0 (by decide) kw_119 dX7_takeObject_13 h_x0 rfl hr_r2 ?_
    refine z_iload_n hC dX7_takeObject_16 rfl (lv_at hl 0 rfl) ?_
    refine z_iload_n hC dX7_takeObject_17 rfl (lv_at hl 3 rfl) ?_
    obtain ⟨q3, hq_q3, hz⟩ := ob_some hz
    refine z_callV (As := [.int (q1.1), .int (x2)]) hC hT (c_X1_isObjectFor F r2 (q1.1) x2 hk_r2 hq_q3) zy_X1_isObjectFor zc_1 zv_X1_isObjectFor kw_527 dX7_takeObject_18 hk_r2 rfl rfl hl.1 (Nat.le_of_ble_eq_true rfl) (by decide) (by decide) ?_
    refine z_if_eq (tgt := 28) hC dX7_takeObject_21 (by decide) hz (fun hz => ?_) (fun hz => ?_)
    · skip
      refine z_iconst (v := 2) hC dX7_takeObject_28 (by decide) ?_
      obtain rfl := Option.some.inj hz
      exact z_iret hC hT dX7_takeObject_29 (by decide) (by decide)
    · skip
      refine z_iconst (v := 0) hC dX7_takeObject_24 (by decide) ?_
      refine z_goto (tgt := 29) hC dX7_takeObject_25 (by decide) ?_
      obtain rfl := Option.some.inj hz
      exact z_iret hC hT dX7_takeObject_29 (by decide) (by decide)
  · skip
    refine z_iconst (v := 1) hC dX7_takeObject_10 (by decide) ?_
    obtain rfl := Option.some.inj hz
    exact z_iret hC hT dX7_takeObject_11 (by decide) (by decide)
theorem zy_X7_callOn : z_y yX7_callOn cX7_callOn 4 (some .int) 2 := ⟨kw_535, kw_5, by decide +kernel, by decide +kernel, by decide +kernel⟩
theorem zv_X7_callOn : Cond.instanceMethod yX7_callOn ∈ z_tbl ∧ Cond.selects RX7 yX7_callOn yX7_callOn ∈ z_tbl := ⟨kw_534, ks_14⟩
def z_X7_callOn_18 (F : Nat) (S : zS)  (x0 : Nat) (x1 : Nat) (x2 : Int32) (x3 : Int32) (I : zI) : Option (Int32 × zI) :=
  ob (z_X7_pushUnless F S I x0 x3 x1 (10 + x2)) (fun q1 => some (q1.1, q1.2))
def z_X7_callOn (F : Nat) (S : zS) (I : zI) (x0 : Nat) (x1 : Nat) (x2 : Int32) : Option (Int32 × zI) :=
  ob (z_X7_take F S I x0 x1 1) (fun q1 => if (q1.1) = 0 then (ob (z_X7_takeObject F S (q1.2) x0 x1 x2) (fun q2 => z_X7_callOn_18 F S  (x0) (x1) (x2) (q2.1) (q2.2))) else (z_X7_callOn_18 F S  (x0) (x1) (x2) (q1.1) (q1.2)))
set_option maxRecDepth 100000 in
set_option maxHeartbeats 4000000 in
theorem b_X7_callOn_18 {p : Program} {l : Launch} {e : Env} {s : State} {m : MethodId} {args : Array Value} {below : List Frame} {meth : Method} {c : Code} {D : zD} {b0 : Nat} {F : Nat} {S : zS} {X : Int32 × zI} (hC : z_C p s m args meth c cX7_callOn RX7 4 (some .int) D) (hT : z_T b0 S)   (x0 : Nat) (x1 : Nat) (x2 : Int32) (x3 : Int32) (I : zI) (h_x0 : z_is b0 S x0 7) (h_x1 : z_is b0 S x1 6) (hz : z_X7_callOn_18 F S  x0 x1 x2 x3 I = some X) (ls : Array Slot) (hl : lv_has ls 4 [(0, .ref (x0)), (1, .ref (x1)), (2, .int (x2)), (3, .int (x3))]) : z_W p l e { frames := 3, cells := 0, slots := 0, locals := 67 } s m args below meth c D b0 S I 0 0 (MQ below (z_Q D b0 (some (.int (X.1))) S X.2) args s 0 0 (fun q => b0 ≤ q)) (F0 m 18 ls []) := by
  unfold z_X7_callOn_18 at hz
  refine z_aload_n hC dX7_callOn_18 rfl (lv_at hl 0 rfl) ?_
  refine z_iload_n hC dX7_callOn_19 rfl (lv_at hl 3 rfl) ?_
  refine z_aload_n hC dX7_callOn_20 rfl (lv_at hl 1 rfl) ?_
  refine z_bipush (v := 10) hC dX7_callOn_21 (by decide) ?_
  refine z_iload_n hC dX7_callOn_23 rfl (lv_at hl 2 rfl) ?_
  refine z_iadd hC dX7_callOn_24 ?_
  obtain ⟨q1, hq_q1, hz⟩ := ob_some hz
  refine z_callV (As := [.int (x3), .ref (x1), .int (10 + x2)]) hC hT (c_X7_pushUnless F x0 x3 x1 (10 + x2) h_x0 h_x1 hq_q1) zy_X7_pushUnless zc_7 zv_X7_pushUnless kw_507 dX7_callOn_25 h_x0 rfl rfl hl.1 (Nat.le_of_ble_eq_true rfl) (by decide) (by decide) ?_
  obtain rfl := Option.some.inj hz
  exact z_iret hC hT dX7_callOn_28 (by decide) (by decide)
set_option maxRecDepth 100000 in
set_option maxHeartbeats 4000000 in
theorem c_X7_callOn {l : Launch} {D : zD} {b0 : Nat} {S : zS} {I : zI} {X : Int32 × zI} (F : Nat) (x0 : Nat) (x1 : Nat) (x2 : Int32) (h_x0 : z_is b0 S x0 7) (h_x1 : z_is b0 S x1 6) (hz : z_X7_callOn F S I x0 x1 x2 = some X) : z_M l D b0 yX7_callOn cX7_callOn 4 (some .int) { frames := 3, cells := 0, slots := 0, locals := 67 } [.ref (x0), .ref (x1), .int (x2)] S I (some (.int (X.1))) S X.2 := by
  refine z_met (by decide) (Nat.le_of_ble_eq_true rfl) ?_
  intro p e s m below meth c hC hnm hT ls hl
  have hl : lv_has ls 4 [(0, .ref (x0)), (1, .ref (x1)), (2, .int (x2))] := hl
  unfold z_X7_callOn at hz
  refine z_aload_n hC dX7_callOn_0 rfl (lv_at hl 0 rfl) ?_
  refine z_aload_n hC dX7_callOn_1 rfl (lv_at hl 1 rfl) ?_
  refine z_iconst (v := 1) hC dX7_callOn_2 (by decide) ?_
  obtain ⟨q1, hq_q1, hz⟩ := ob_some hz
  refine z_callV (As := [.ref (x1), .int (1)]) hC hT (c_X7_take F x0 x1 1 h_x0 h_x1 hq_q1) zy_X7_take zc_7 zv_X7_take kw_503 dX7_callOn_3 h_x0 rfl rfl hl.1 (Nat.le_of_ble_eq_true rfl) (by decide) (by decide) ?_
  refine z_istore_n (lv' := [(3, .int (q1.1)), (0, .ref (x0)), (1, .ref (x1)), (2, .int (x2))]) hC dX7_callOn_6 rfl hl (by decide) rfl (fun ls hl => ?_)
  refine z_iload_n hC dX7_callOn_7 rfl (lv_at hl 0 rfl) ?_
  refine z_if_ne (tgt := 18) hC dX7_callOn_8 (by decide) hz (fun hz => ?_) (fun hz => ?_)
  · skip
    exact b_X7_callOn_18 hC hT   (x0) (x1) (x2) (q1.1) (q1.2) h_x0 h_x1 hz ls (lv_sub hl [1, 2, 3, 0] rfl)
  · skip
    refine z_aload_n hC dX7_callOn_11 rfl (lv_at hl 1 rfl) ?_
    refine z_aload_n hC dX7_callOn_12 rfl (lv_at hl 2 rfl) ?_
    refine z_iload_n hC dX7_callOn_13 rfl (lv_at hl 3 rfl) ?_
    obtain ⟨q2, hq_q2, hz⟩ := ob_some hz
    refine z_callV (As := [.ref (x1), .int (x2)]) hC hT (c_X7_takeObject F x0 x1 x2 h_x0 h_x1 hq_q2) zy_X7_takeObject zc_7 zv_X7_takeObject kw_523 dX7_callOn_14 h_x0 rfl rfl hl.1 (Nat.le_of_ble_eq_true rfl) (by decide) (by decide) ?_
    refine z_istore_n (lv' := [(3, .int (q2.1)), (0, .ref (x0)), (1, .ref (x1)), (2, .int (x2))]) hC dX7_callOn_17 rfl hl (by decide) rfl (fun ls hl => ?_)
    exact b_X7_callOn_18 hC hT   (x0) (x1) (x2) (q2.1) (q2.2) h_x0 h_x1 hz ls (lv_sub hl [1, 2, 3, 0] rfl)
theorem zy_X7_perform : z_y yX7_perform cX7_perform 5 (some .int) 4 := ⟨kw_475, kw_5, by decide +kernel, by decide +kernel, by decide +kernel⟩
theorem zv_X7_perform : Cond.instanceMethod yX7_perform ∈ z_tbl ∧ Cond.selects RX7 yX7_perform yX7_perform ∈ z_tbl := ⟨kw_473, kw_474⟩
def z_X7_perform_276 (F : Nat) (S : zS)  (x0 : Nat) (x4 : Nat) (I : zI) : Option (Int32 × zI) :=
  ob (z_X7_take F S I x0 x4 1) (fun q1 => some (q1.1, q1.2))
def z_X7_perform_284 (F : Nat) (S : zS)  (x0 : Nat) (x3 : Nat) (x4 : Nat) (I : zI) : Option (Int32 × zI) :=
  ob (z_X7_takeObject F S I x0 x4 (I x3 1)) (fun q1 => some (q1.1, q1.2))
def z_X7_perform (F : Nat) (S : zS) (I : zI) (x0 : Nat) (x1 : Nat) (x2 : Int32) (x3 : Nat) (x4 : Nat) : Option (Int32 × zI) :=
  if (I x3 0) = 0 then (ob (z_X6_push F S I x4 1) (fun q1 => some (q1.1, q1.2))) else (if (I x3 0) = 1 then (ob (z_X6_push F S I x4 2) (fun q3 => some (q3.1, q3.2))) else (if (I x3 0) = 2 then (ob (z_X6_push F S I x4 4) (fun q5 => some (q5.1, q5.2))) else (if (I x3 0) = 3 then (ob (z_X7_load F S I x0 x1 (I x3 1) x4) (fun q7 => some (q7.1, q7.2))) else (if (I x3 0) = 4 then (ob (z_X7_store F S I x0 x1 (I x3 1) x4) (fun q9 => some (q9.1, q9.2))) else (if (I x3 0) = 5 then (ob (z_X6_pop F S I x4) (fun q11 => if (q11.1) = (-1) then (some (1, q11.2)) else (some (0, q11.2)))) else (if (I x3 0) = 6 then (ob (z_X6_top F S I x4) (fun q13 => if q13 = (-1) then (some (1, I)) else (ob (z_X6_top F S I x4) (fun q14 => ob (z_X6_push F S I x4 q14) (fun q15 => some (q15.1, q15.2)))))) else (if (I x3 0) = 7 then (ob (z_X7_add F S I x0 x4 1) (fun q17 => some (q17.1, q17.2))) else (if (I x3 0) = 8 then (ob (z_X7_add F S I x0 x4 2) (fun q19 => some (q19.1, q19.2))) else (if (I x3 0) = 9 then (ob (z_X6_push F S I x4 (100 + x2)) (fun q21 => some (q21.1, q21.2))) else (if (I x3 0) = 10 then (ob (z_X7_make F S I x0 x1 (I x3 1) x4) (fun q23 => some (q23.1, q23.2))) else (if (I x3 0) = 11 then (ob (z_X7_takeObject F S I x0 x4 (I x3 1)) (fun q25 => ob (z_X7_pushUnless F S (q25.2) x0 (q25.1) x4 1) (fun q26 => some (q26.1, q26.2)))) else (if (I x3 0) = 12 then (ob (z_X7_callOn F S I x0 x4 (I x3 1)) (fun q28 => some (q28.1, q28.2))) else (if (I x3 0) = 13 then (ob (z_X7_takeObject F S I x0 x4 0) (fun q30 => ob (z_X7_pushUnless F S (q30.2) x0 (q30.1) x4 (10 + ((q30.2) x3 1))) (fun q31 => some (q31.1, q31.2)))) else (if (I x3 0) = 15 ∨ (I x3 0) = 16 ∨ (I x3 0) = 17 then (z_X7_perform_276 F S  (x0) (x4) (I)) else (if (I x3 0) = 18 ∨ (I x3 0) = 19 then (z_X7_perform_284 F S  (x0) (x3) (x4) (I)) else (if (I x3 0) = 20 then (ob (z_X5_hasPlace F S I x1 (I x3 1)) (fun q35 => if q35 = 0 then (some (7, I)) else (ob (z_X6_inPlace F S I x4 (I x3 1)) (fun q36 => if q36 = 1 then (some (0, I)) else (some (7, I)))))) else (some (0, I))))))))))))))))))
set_option maxRecDepth 100000 in
set_option maxHeartbeats 4000000 in
theorem b_X7_perform_276 {p : Program} {l : Launch} {e : Env} {s : State} {m : MethodId} {args : Array Value} {below : List Frame} {meth : Method} {c : Code} {D : zD} {b0 : Nat} {F : Nat} {S : zS} {X : Int32 × zI} (hC : z_C p s m args meth c cX7_perform RX7 5 (some .int) D) (hT : z_T b0 S)   (x0 : Nat) (x4 : Nat) (I : zI) (h_x0 : z_is b0 S x0 7) (h_x4 : z_is b0 S x4 6) (hz : z_X7_perform_276 F S  x0 x4 I = some X) (ls : Array Slot) (hl : lv_has ls 5 [(0, .ref (x0)), (4, .ref (x4))]) : z_W p l e { frames := 4, cells := 0, slots := 0, locals := 90 } s m args below meth c D b0 S I 0 0 (MQ below (z_Q D b0 (some (.int (X.1))) S X.2) args s 0 0 (fun q => b0 ≤ q)) (F0 m 276 ls []) := by
  unfold z_X7_perform_276 at hz
  refine z_aload_n hC dX7_perform_276 rfl (lv_at hl 0 rfl) ?_
  refine z_aload hC dX7_perform_277 (lv_at hl 1 rfl) ?_
  refine z_iconst (v := 1) hC dX7_perform_279 (by decide) ?_
  obtain ⟨q1, hq_q1, hz⟩ := ob_some hz
  refine z_callV (As := [.ref (x4), .int (1)]) hC hT (c_X7_take F x0 x4 1 h_x0 h_x4 hq_q1) zy_X7_take zc_7 zv_X7_take kw_503 dX7_perform_280 h_x0 rfl rfl hl.1 (Nat.le_of_ble_eq_true rfl) (by decide) (by decide) ?_
  obtain rfl := Option.some.inj hz
  exact z_iret hC hT dX7_perform_283 (by decide) (by decide)
set_option maxRecDepth 100000 in
set_option maxHeartbeats 4000000 in
theorem b_X7_perform_284 {p : Program} {l : Launch} {e : Env} {s : State} {m : MethodId} {args : Array Value} {below : List Frame} {meth : Method} {c : Code} {D : zD} {b0 : Nat} {F : Nat} {S : zS} {X : Int32 × zI} (hC : z_C p s m args meth c cX7_perform RX7 5 (some .int) D) (hT : z_T b0 S)   (x0 : Nat) (x3 : Nat) (x4 : Nat) (I : zI) (h_x0 : z_is b0 S x0 7) (h_x3 : z_is b0 S x3 0) (h_x4 : z_is b0 S x4 6) (hz : z_X7_perform_284 F S  x0 x3 x4 I = some X) (ls : Array Slot) (hl : lv_has ls 5 [(0, .ref (x0)), (3, .ref (x3)), (4, .ref (x4))]) : z_W p l e { frames := 4, cells := 0, slots := 0, locals := 90 } s m args below meth c D b0 S I 0 0 (MQ below (z_Q D b0 (some (.int (X.1))) S X.2) args s 0 0 (fun q => b0 ≤ q)) (F0 m 284 ls []) := by
  unfold z_X7_perform_284 at hz
  refine z_aload_n hC dX7_perform_284 rfl (lv_at hl 0 rfl) ?_
  refine z_aload hC dX7_perform_285 (lv_at hl 2 rfl) ?_
  refine z_aload_n hC dX7_perform_287 rfl (lv_at hl 1 rfl) ?_
  refine z_getI hC zc_0 1 (by decide) kw_298 dX7_perform_288 h_x3 rfl ?_
  obtain ⟨q1, hq_q1, hz⟩ := ob_some hz
  refine z_callV (As := [.ref (x4), .int (I x3 1)]) hC hT (c_X7_takeObject F x0 x4 (I x3 1) h_x0 h_x4 hq_q1) zy_X7_takeObject zc_7 zv_X7_takeObject kw_523 dX7_perform_291 h_x0 rfl rfl hl.1 (Nat.le_of_ble_eq_true rfl) (by decide) (by decide) ?_
  obtain rfl := Option.some.inj hz
  exact z_iret hC hT dX7_perform_294 (by decide) (by decide)
set_option maxRecDepth 100000 in
set_option maxHeartbeats 4000000 in
theorem c_X7_perform {l : Launch} {D : zD} {b0 : Nat} {S : zS} {I : zI} {X : Int32 × zI} (F : Nat) (x0 : Nat) (x1 : Nat) (x2 : Int32) (x3 : Nat) (x4 : Nat) (h_x0 : z_is b0 S x0 7) (h_x1 : z_is b0 S x1 5) (h_x3 : z_is b0 S x3 0) (h_x4 : z_is b0 S x4 6) (hz : z_X7_perform F S I x0 x1 x2 x3 x4 = some X) : z_M l D b0 yX7_perform cX7_perform 5 (some .int) { frames := 4, cells := 0, slots := 0, locals := 90 } [.ref (x0), .ref (x1), .int (x2), .ref (x3), .ref (x4)] S I (some (.int (X.1))) S X.2 := by
  refine z_met (by decide) (Nat.le_of_ble_eq_true rfl) ?_
  intro p e s m below meth c hC hnm hT ls hl
  have hl : lv_has ls 5 [(0, .ref (x0)), (1, .ref (x1)), (2, .int (x2)), (3, .ref (x3)), (4, .ref (x4))] := hl
  unfold z_X7_perform at hz
  refine z_aload_n hC dX7_perform_0 rfl (lv_at hl 3 rfl) ?_
  refine z_getI hC zc_0 0 (by decide) kw_294 dX7_perform_1 h_x3 rfl ?_
  by_cases hs2 : (I x3 0) = 0
  · rw [if_pos hs2] at hz
    · refine z_tabIn (off := 100) (tgt := 104) hC dX7_perform_4 (by rw [hs2]; decide) (by rw [hs2]; decide) (by rw [hs2]; rfl) (by decide) ?_
      refine z_aload hC dX7_perform_104 (lv_at hl 4 rfl) ?_
      refine z_iconst (v := 1) hC dX7_perform_106 (by decide) ?_
      obtain ⟨q1, hq_q1, hz⟩ := ob_some hz
      refine z_callV (As := [.int (1)]) hC hT (c_X6_push F x4 1 h_x4 hq_q1) zy_X6_push zc_6 zv_X6_push kw_476 dX7_perform_107 h_x4 rfl rfl hl.1 (Nat.le_of_ble_eq_true rfl) (by decide) (by decide) ?_
      obtain rfl := Option.some.inj hz
      exact z_iret hC hT dX7_perform_110 (by decide) (by decide)
  rw [if_neg hs2] at hz
  by_cases hs4 : (I x3 0) = 1
  · rw [if_pos hs4] at hz
    · refine z_tabIn (off := 107) (tgt := 111) hC dX7_perform_4 (by rw [hs4]; decide) (by rw [hs4]; decide) (by rw [hs4]; rfl) (by decide) ?_
      refine z_aload hC dX7_perform_111 (lv_at hl 4 rfl) ?_
      refine z_iconst (v := 2) hC dX7_perform_113 (by decide) ?_
      obtain ⟨q3, hq_q3, hz⟩ := ob_some hz
      refine z_callV (As := [.int (2)]) hC hT (c_X6_push F x4 2 h_x4 hq_q3) zy_X6_push zc_6 zv_X6_push kw_476 dX7_perform_114 h_x4 rfl rfl hl.1 (Nat.le_of_ble_eq_true rfl) (by decide) (by decide) ?_
      obtain rfl := Option.some.inj hz
      exact z_iret hC hT dX7_perform_117 (by decide) (by decide)
  rw [if_neg hs4] at hz
  by_cases hs6 : (I x3 0) = 2
  · rw [if_pos hs6] at hz
    · refine z_tabIn (off := 114) (tgt := 118) hC dX7_perform_4 (by rw [hs6]; decide) (by rw [hs6]; decide) (by rw [hs6]; rfl) (by decide) ?_
      refine z_aload hC dX7_perform_118 (lv_at hl 4 rfl) ?_
      refine z_iconst (v := 4) hC dX7_perform_120 (by decide) ?_
      obtain ⟨q5, hq_q5, hz⟩ := ob_some hz
      refine z_callV (As := [.int (4)]) hC hT (c_X6_push F x4 4 h_x4 hq_q5) zy_X6_push zc_6 zv_X6_push kw_476 dX7_perform_121 h_x4 rfl rfl hl.1 (Nat.le_of_ble_eq_true rfl) (by decide) (by decide) ?_
      obtain rfl := Option.some.inj hz
      exact z_iret hC hT dX7_perform_124 (by decide) (by decide)
  rw [if_neg hs6] at hz
  by_cases hs8 : (I x3 0) = 3
  · rw [if_pos hs8] at hz
    · refine z_tabIn (off := 121) (tgt := 125) hC dX7_perform_4 (by rw [hs8]; decide) (by rw [hs8]; decide) (by rw [hs8]; rfl) (by decide) ?_
      refine z_aload_n hC dX7_perform_125 rfl (lv_at hl 0 rfl) ?_
      refine z_aload_n hC dX7_perform_126 rfl (lv_at hl 1 rfl) ?_
      refine z_aload_n hC dX7_perform_127 rfl (lv_at hl 3 rfl) ?_
      refine z_getI hC zc_0 1 (by decide) kw_298 dX7_perform_128 h_x3 rfl ?_
      refine z_aload hC dX7_perform_131 (lv_at hl 4 rfl) ?_
      obtain ⟨q7, hq_q7, hz⟩ := ob_some hz
      refine z_callV (As := [.ref (x1), .int (I x3 1), .ref (x4)]) hC hT (c_X7_load F x0 x1 (I x3 1) x4 h_x0 h_x1 h_x4 hq_q7) zy_X7_load zc_7 zv_X7_load kw_477 dX7_perform_133 h_x0 rfl rfl hl.1 (Nat.le_of_ble_eq_true rfl) (by decide) (by decide) ?_
      obtain rfl := Option.some.inj hz
      exact z_iret hC hT dX7_perform_136 (by decide) (by decide)
  rw [if_neg hs8] at hz
  by_cases hs10 : (I x3 0) = 4
  · rw [if_pos hs10] at hz
    · refine z_tabIn (off := 133) (tgt := 137) hC dX7_perform_4 (by rw [hs10]; decide) (by rw [hs10]; decide) (by rw [hs10]; rfl) (by decide) ?_
      refine z_aload_n hC dX7_perform_137 rfl (lv_at hl 0 rfl) ?_
      refine z_aload_n hC dX7_perform_138 rfl (lv_at hl 1 rfl) ?_
      refine z_aload_n hC dX7_perform_139 rfl (lv_at hl 3 rfl) ?_
      refine z_getI hC zc_0 1 (by decide) kw_298 dX7_perform_140 h_x3 rfl ?_
      refine z_aload hC dX7_perform_143 (lv_at hl 4 rfl) ?_
      obtain ⟨q9, hq_q9, hz⟩ := ob_some hz
      refine z_callV (As := [.ref (x1), .int (I x3 1), .ref (x4)]) hC hT (c_X7_store F x0 x1 (I x3 1) x4 h_x0 h_x1 h_x4 hq_q9) zy_X7_store zc_7 zv_X7_store kw_486 dX7_perform_145 h_x0 rfl rfl hl.1 (Nat.le_of_ble_eq_true rfl) (by decide) (by decide) ?_
      obtain rfl := Option.some.inj hz
      exact z_iret hC hT dX7_perform_148 (by decide) (by decide)
  rw [if_neg hs10] at hz
  by_cases hs12 : (I x3 0) = 5
  · rw [if_pos hs12] at hz
    · refine z_tabIn (off := 145) (tgt := 149) hC dX7_perform_4 (by rw [hs12]; decide) (by rw [hs12]; decide) (by rw [hs12]; rfl) (by decide) ?_
      refine z_aload hC dX7_perform_149 (lv_at hl 4 rfl) ?_
      obtain ⟨q11, hq_q11, hz⟩ := ob_some hz
      refine z_callV (As := []) hC hT (c_X6_pop F x4 h_x4 hq_q11) zy_X6_pop zc_6 zv_X6_pop kw_490 dX7_perform_151 h_x4 rfl rfl hl.1 (Nat.le_of_ble_eq_true rfl) (by decide) (by decide) ?_
      refine z_iconst (v := (-1)) hC dX7_perform_154 (by decide) ?_
      refine z_icmp_ne (tgt := 162) hC dX7_perform_155 (by decide) hz (fun hz => ?_) (fun hz => ?_)
      · skip
        refine z_iconst (v := 0) hC dX7_perform_162 (by decide) ?_
        obtain rfl := Option.some.inj hz
        exact z_iret hC hT dX7_perform_163 (by decide) (by decide)
      · skip
        refine z_iconst (v := 1) hC dX7_perform_158 (by decide) ?_
        refine z_goto (tgt := 163) hC dX7_perform_159 (by decide) ?_
        obtain rfl := Option.some.inj hz
        exact z_iret hC hT dX7_perform_163 (by decide) (by decide)
  rw [if_neg hs12] at hz
  by_cases hs16 : (I x3 0) = 6
  · rw [if_pos hs16] at hz
    · refine z_tabIn (off := 160) (tgt := 164) hC dX7_perform_4 (by rw [hs16]; decide) (by rw [hs16]; decide) (by rw [hs16]; rfl) (by decide) ?_
      refine z_aload hC dX7_perform_164 (lv_at hl 4 rfl) ?_
      obtain ⟨q13, hq_q13, hz⟩ := ob_some hz
      refine z_callV (As := []) hC hT (c_X6_top F x4 h_x4 hq_q13) zy_X6_top zc_6 zv_X6_top kw_495 dX7_perform_166 h_x4 rfl rfl hl.1 (Nat.le_of_ble_eq_true rfl) (by decide) (by decide) ?_
      refine z_iconst (v := (-1)) hC dX7_perform_169 (by decide) ?_
      refine z_icmp_ne (tgt := 177) hC dX7_perform_170 (by decide) hz (fun hz => ?_) (fun hz => ?_)
      · skip
        refine z_aload hC dX7_perform_177 (lv_at hl 4 rfl) ?_
        refine z_aload hC dX7_perform_179 (lv_at hl 4 rfl) ?_
        obtain ⟨q14, hq_q14, hz⟩ := ob_some hz
        refine z_callV (As := []) hC hT (c_X6_top F x4 h_x4 hq_q14) zy_X6_top zc_6 zv_X6_top kw_495 dX7_perform_181 h_x4 rfl rfl hl.1 (Nat.le_of_ble_eq_true rfl) (by decide) (by decide) ?_
        obtain ⟨q15, hq_q15, hz⟩ := ob_some hz
        refine z_callV (As := [.int (q14)]) hC hT (c_X6_push F x4 q14 h_x4 hq_q15) zy_X6_push zc_6 zv_X6_push kw_476 dX7_perform_184 h_x4 rfl rfl hl.1 (Nat.le_of_ble_eq_true rfl) (by decide) (by decide) ?_
        obtain rfl := Option.some.inj hz
        exact z_iret hC hT dX7_perform_187 (by decide) (by decide)
      · skip
        refine z_iconst (v := 1) hC dX7_perform_173 (by decide) ?_
        refine z_goto (tgt := 187) hC dX7_perform_174 (by decide) ?_
        obtain rfl := Option.some.inj hz
        exact z_iret hC hT dX7_perform_187 (by decide) (by decide)
  rw [if_neg hs16] at hz
  by_cases hs18 : (I x3 0) = 7
  · rw [if_pos hs18] at hz
    · refine z_tabIn (off := 184) (tgt := 188) hC dX7_perform_4 (by rw [hs18]; decide) (by rw [hs18]; decide) (by rw [hs18]; rfl) (by decide) ?_
      refine z_aload_n hC dX7_perform_188 rfl (lv_at hl 0 rfl) ?_
      refine z_aload hC dX7_perform_189 (lv_at hl 4 rfl) ?_
      refine z_iconst (v := 1) hC dX7_perform_191 (by decide) ?_
      obtain ⟨q17, hq_q17, hz⟩ := ob_some hz
      refine z_callV (As := [.ref (x4), .int (1)]) hC hT (c_X7_add F x0 x4 1 h_x0 h_x4 hq_q17) zy_X7_add zc_7 zv_X7_add kw_499 dX7_perform_192 h_x0 rfl rfl hl.1 (Nat.le_of_ble_eq_true rfl) (by decide) (by decide) ?_
      obtain rfl := Option.some.inj hz
      exact z_iret hC hT dX7_perform_195 (by decide) (by decide)
  rw [if_neg hs18] at hz
  by_cases hs20 : (I x3 0) = 8
  · rw [if_pos hs20] at hz
    · refine z_tabIn (off := 192) (tgt := 196) hC dX7_perform_4 (by rw [hs20]; decide) (by rw [hs20]; decide) (by rw [hs20]; rfl) (by decide) ?_
      refine z_aload_n hC dX7_perform_196 rfl (lv_at hl 0 rfl) ?_
      refine z_aload hC dX7_perform_197 (lv_at hl 4 rfl) ?_
      refine z_iconst (v := 2) hC dX7_perform_199 (by decide) ?_
      obtain ⟨q19, hq_q19, hz⟩ := ob_some hz
      refine z_callV (As := [.ref (x4), .int (2)]) hC hT (c_X7_add F x0 x4 2 h_x0 h_x4 hq_q19) zy_X7_add zc_7 zv_X7_add kw_499 dX7_perform_200 h_x0 rfl rfl hl.1 (Nat.le_of_ble_eq_true rfl) (by decide) (by decide) ?_
      obtain rfl := Option.some.inj hz
      exact z_iret hC hT dX7_perform_203 (by decide) (by decide)
  rw [if_neg hs20] at hz
  by_cases hs22 : (I x3 0) = 9
  · rw [if_pos hs22] at hz
    · refine z_tabIn (off := 200) (tgt := 204) hC dX7_perform_4 (by rw [hs22]; decide) (by rw [hs22]; decide) (by rw [hs22]; rfl) (by decide) ?_
      refine z_aload hC dX7_perform_204 (lv_at hl 4 rfl) ?_
      refine z_bipush (v := 100) hC dX7_perform_206 (by decide) ?_
      refine z_iload_n hC dX7_perform_208 rfl (lv_at hl 2 rfl) ?_
      refine z_iadd hC dX7_perform_209 ?_
      obtain ⟨q21, hq_q21, hz⟩ := ob_some hz
      refine z_callV (As := [.int (100 + x2)]) hC hT (c_X6_push F x4 (100 + x2) h_x4 hq_q21) zy_X6_push zc_6 zv_X6_push kw_476 dX7_perform_210 h_x4 rfl rfl hl.1 (Nat.le_of_ble_eq_true rfl) (by decide) (by decide) ?_
      obtain rfl := Option.some.inj hz
      exact z_iret hC hT dX7_perform_213 (by decide) (by decide)
  rw [if_neg hs22] at hz
  by_cases hs24 : (I x3 0) = 10
  · rw [if_pos hs24] at hz
    · refine z_tabIn (off := 210) (tgt := 214) hC dX7_perform_4 (by rw [hs24]; decide) (by rw [hs24]; decide) (by rw [hs24]; rfl) (by decide) ?_
      refine z_aload_n hC dX7_perform_214 rfl (lv_at hl 0 rfl) ?_
      refine z_aload_n hC dX7_perform_215 rfl (lv_at hl 1 rfl) ?_
      refine z_aload_n hC dX7_perform_216 rfl (lv_at hl 3 rfl) ?_
      refine z_getI hC zc_0 1 (by decide) kw_298 dX7_perform_217 h_x3 rfl ?_
      refine z_aload hC dX7_perform_220 (lv_at hl 4 rfl) ?_
      obtain ⟨q23, hq_q23, hz⟩ := ob_some hz
      refine z_callV (As := [.ref (x1), .int (I x3 1), .ref (x4)]) hC hT (c_X7_make F x0 x1 (I x3 1) x4 h_x0 h_x1 h_x4 hq_q23) zy_X7_make zc_7 zv_X7_make kw_511 dX7_perform_222 h_x0 rfl rfl hl.1 (Nat.le_of_ble_eq_true rfl) (by decide) (by decide) ?_
      obtain rfl := Option.some.inj hz
      exact z_iret hC hT dX7_perform_225 (by decide) (by decide)
  rw [if_neg hs24] at hz
  by_cases hs27 : (I x3 0) = 11
  · rw [if_pos hs27] at hz
    · refine z_tabIn (off := 222) (tgt := 226) hC dX7_perform_4 (by rw [hs27]; decide) (by rw [hs27]; decide) (by rw [hs27]; rfl) (by decide) ?_
      refine z_aload_n hC dX7_perform_226 rfl (lv_at hl 0 rfl) ?_
      refine z_aload_n hC dX7_perform_227 rfl (lv_at hl 0 rfl) ?_
      refine z_aload hC dX7_perform_228 (lv_at hl 4 rfl) ?_
      refine z_aload_n hC dX7_perform_230 rfl (lv_at hl 3 rfl) ?_
      refine z_getI hC zc_0 1 (by decide) kw_298 dX7_perform_231 h_x3 rfl ?_
      obtain ⟨q25, hq_q25, hz⟩ := ob_some hz
      refine z_callV (As := [.ref (x4), .int (I x3 1)]) hC hT (c_X7_takeObject F x0 x4 (I x3 1) h_x0 h_x4 hq_q25) zy_X7_takeObject zc_7 zv_X7_takeObject kw_523 dX7_perform_234 h_x0 rfl rfl hl.1 (Nat.le_of_ble_eq_true rfl) (by decide) (by decide) ?_
      refine z_aload hC dX7_perform_237 (lv_at hl 4 rfl) ?_
      refine z_iconst (v := 1) hC dX7_perform_239 (by decide) ?_
      obtain ⟨q26, hq_q26, hz⟩ := ob_some hz
      refine z_callV (As := [.int (q25.1), .ref (x4), .int (1)]) hC hT (c_X7_pushUnless F x0 (q25.1) x4 1 h_x0 h_x4 hq_q26) zy_X7_pushUnless zc_7 zv_X7_pushUnless kw_507 dX7_perform_240 h_x0 rfl rfl hl.1 (Nat.le_of_ble_eq_true rfl) (by decide) (by decide) ?_
      obtain rfl := Option.some.inj hz
      exact z_iret hC hT dX7_perform_243 (by decide) (by decide)
  rw [if_neg hs27] at hz
  by_cases hs29 : (I x3 0) = 12
  · rw [if_pos hs29] at hz
    · refine z_tabIn (off := 240) (tgt := 244) hC dX7_perform_4 (by rw [hs29]; decide) (by rw [hs29]; decide) (by rw [hs29]; rfl) (by decide) ?_
      refine z_aload_n hC dX7_perform_244 rfl (lv_at hl 0 rfl) ?_
      refine z_aload hC dX7_perform_245 (lv_at hl 4 rfl) ?_
      refine z_aload_n hC dX7_perform_247 rfl (lv_at hl 3 rfl) ?_
      refine z_getI hC zc_0 1 (by decide) kw_298 dX7_perform_248 h_x3 rfl ?_
      obtain ⟨q28, hq_q28, hz⟩ := ob_some hz
      refine z_callV (As := [.ref (x4), .int (I x3 1)]) hC hT (c_X7_callOn F x0 x4 (I x3 1) h_x0 h_x4 hq_q28) zy_X7_callOn zc_7 zv_X7_callOn kw_532 dX7_perform_251 h_x0 rfl rfl hl.1 (Nat.le_of_ble_eq_true rfl) (by decide) (by decide) ?_
      obtain rfl := Option.some.inj hz
      exact z_iret hC hT dX7_perform_254 (by decide) (by decide)
  rw [if_neg hs29] at hz
  by_cases hs32 : (I x3 0) = 13
  · rw [if_pos hs32] at hz
    · refine z_tabIn (off := 251) (tgt := 255) hC dX7_perform_4 (by rw [hs32]; decide) (by rw [hs32]; decide) (by rw [hs32]; rfl) (by decide) ?_
      refine z_aload_n hC dX7_perform_255 rfl (lv_at hl 0 rfl) ?_
      refine z_aload_n hC dX7_perform_256 rfl (lv_at hl 0 rfl) ?_
      refine z_aload hC dX7_perform_257 (lv_at hl 4 rfl) ?_
      refine z_iconst (v := 0) hC dX7_perform_259 (by decide) ?_
      obtain ⟨q30, hq_q30, hz⟩ := ob_some hz
      refine z_callV (As := [.ref (x4), .int (0)]) hC hT (c_X7_takeObject F x0 x4 0 h_x0 h_x4 hq_q30) zy_X7_takeObject zc_7 zv_X7_takeObject kw_523 dX7_perform_260 h_x0 rfl rfl hl.1 (Nat.le_of_ble_eq_true rfl) (by decide) (by decide) ?_
      refine z_aload hC dX7_perform_263 (lv_at hl 4 rfl) ?_
      refine z_bipush (v := 10) hC dX7_perform_265 (by decide) ?_
      refine z_aload_n hC dX7_perform_267 rfl (lv_at hl 3 rfl) ?_
      refine z_getI hC zc_0 1 (by decide) kw_298 dX7_perform_268 h_x3 rfl ?_
      refine z_iadd hC dX7_perform_271 ?_
      obtain ⟨q31, hq_q31, hz⟩ := ob_some hz
      refine z_callV (As := [.int (q30.1), .ref (x4), .int (10 + ((q30.2) x3 1))]) hC hT (c_X7_pushUnless F x0 (q30.1) x4 (10 + ((q30.2) x3 1)) h_x0 h_x4 hq_q31) zy_X7_pushUnless zc_7 zv_X7_pushUnless kw_507 dX7_perform_272 h_x0 rfl rfl hl.1 (Nat.le_of_ble_eq_true rfl) (by decide) (by decide) ?_
      obtain rfl := Option.some.inj hz
      exact z_iret hC hT dX7_perform_275 (by decide) (by decide)
  rw [if_neg hs32] at hz
  by_cases hs33 : (I x3 0) = 15 ∨ (I x3 0) = 16 ∨ (I x3 0) = 17
  · rw [if_pos hs33] at hz
    rcases hs33 with hs33 | hs33 | hs33
    · refine z_tabIn (off := 272) (tgt := 276) hC dX7_perform_4 (by rw [hs33]; decide) (by rw [hs33]; decide) (by rw [hs33]; rfl) (by decide) ?_
      exact b_X7_perform_276 hC hT   (x0) (x4) (I) h_x0 h_x4 hz ls (lv_sub hl [0, 4] rfl)
    · refine z_tabIn (off := 272) (tgt := 276) hC dX7_perform_4 (by rw [hs33]; decide) (by rw [hs33]; decide) (by rw [hs33]; rfl) (by decide) ?_
      exact b_X7_perform_276 hC hT   (x0) (x4) (I) h_x0 h_x4 hz ls (lv_sub hl [0, 4] rfl)
    · refine z_tabIn (off := 272) (tgt := 276) hC dX7_perform_4 (by rw [hs33]; decide) (by rw [hs33]; decide) (by rw [hs33]; rfl) (by decide) ?_
      exact b_X7_perform_276 hC hT   (x0) (x4) (I) h_x0 h_x4 hz ls (lv_sub hl [0, 4] rfl)
  rw [if_neg hs33] at hz
  by_cases hs34 : (I x3 0) = 18 ∨ (I x3 0) = 19
  · rw [if_pos hs34] at hz
    rcases hs34 with hs34 | hs34
    · refine z_tabIn (off := 280) (tgt := 284) hC dX7_perform_4 (by rw [hs34]; decide) (by rw [hs34]; decide) (by rw [hs34]; rfl) (by decide) ?_
      exact b_X7_perform_284 hC hT   (x0) (x3) (x4) (I) h_x0 h_x3 h_x4 hz ls (lv_sub hl [0, 3, 4] rfl)
    · refine z_tabIn (off := 280) (tgt := 284) hC dX7_perform_4 (by rw [hs34]; decide) (by rw [hs34]; decide) (by rw [hs34]; rfl) (by decide) ?_
      exact b_X7_perform_284 hC hT   (x0) (x3) (x4) (I) h_x0 h_x3 h_x4 hz ls (lv_sub hl [0, 3, 4] rfl)
  rw [if_neg hs34] at hz
  by_cases hs37 : (I x3 0) = 20
  · rw [if_pos hs37] at hz
    · refine z_tabIn (off := 291) (tgt := 295) hC dX7_perform_4 (by rw [hs37]; decide) (by rw [hs37]; decide) (by rw [hs37]; rfl) (by decide) ?_
      refine z_aload_n hC dX7_perform_295 rfl (lv_at hl 1 rfl) ?_
      refine z_aload_n hC dX7_perform_296 rfl (lv_at hl 3 rfl) ?_
      refine z_getI hC zc_0 1 (by decide) kw_298 dX7_perform_297 h_x3 rfl ?_
      obtain ⟨q35, hq_q35, hz⟩ := ob_some hz
      refine z_callV (As := [.int (I x3 1)]) hC hT (c_X5_hasPlace F x1 (I x3 1) h_x1 hq_q35) zy_X5_hasPlace zc_5 zv_X5_hasPlace kw_482 dX7_perform_300 h_x1 rfl rfl hl.1 (Nat.le_of_ble_eq_true rfl) (by decide) (by decide) ?_
      refine z_if_eq (tgt := 323) hC dX7_perform_303 (by decide) hz (fun hz => ?_) (fun hz => ?_)
      · skip
        refine z_bipush (v := 7) hC dX7_perform_323 (by decide) ?_
        obtain rfl := Option.some.inj hz
        exact z_iret hC hT dX7_perform_325 (by decide) (by decide)
      · skip
        refine z_aload hC dX7_perform_306 (lv_at hl 4 rfl) ?_
        refine z_aload_n hC dX7_perform_308 rfl (lv_at hl 3 rfl) ?_
        refine z_getI hC zc_0 1 (by decide) kw_298 dX7_perform_309 h_x3 rfl ?_
        obtain ⟨q36, hq_q36, hz⟩ := ob_some hz
        refine z_callV (As := [.int (I x3 1)]) hC hT (c_X6_inPlace F x4 (I x3 1) h_x4 hq_q36) zy_X6_inPlace zc_6 zv_X6_inPlace kw_481 dX7_perform_312 h_x4 rfl rfl hl.1 (Nat.le_of_ble_eq_true rfl) (by decide) (by decide) ?_
        refine z_iconst (v := 1) hC dX7_perform_315 (by decide) ?_
        refine z_icmp_ne (tgt := 323) hC dX7_perform_316 (by decide) hz (fun hz => ?_) (fun hz => ?_)
        · skip
          refine z_bipush (v := 7) hC dX7_perform_323 (by decide) ?_
          obtain rfl := Option.some.inj hz
          exact z_iret hC hT dX7_perform_325 (by decide) (by decide)
        · skip
          refine z_iconst (v := 0) hC dX7_perform_319 (by decide) ?_
          refine z_goto (tgt := 325) hC dX7_perform_320 (by decide) ?_
          obtain rfl := Option.some.inj hz
          exact z_iret hC hT dX7_perform_325 (by decide) (by decide)
  rw [if_neg hs37] at hz
  by_cases hs38 : (I x3 0) = 14
  · refine z_tabIn (off := 322) (tgt := 326) hC dX7_perform_4 (by rw [hs38]; decide) (by rw [hs38]; decide) (by rw [hs38]; rfl) (by decide) ?_
    refine z_iconst (v := 0) hC dX7_perform_326 (by decide) ?_
    obtain rfl := Option.some.inj hz
    exact z_iret hC hT dX7_perform_327 (by decide) (by decide)
  refine z_tabOut (tgt := 326) hC dX7_perform_4 (z_out (fun k9 h5 h6 h7 => by
      rcases (show k9 = 0 ∨ k9 = 1 ∨ k9 = 2 ∨ k9 = 3 ∨ k9 = 4 ∨ k9 = 5 ∨ k9 = 6 ∨ k9 = 7 ∨ k9 = 8 ∨ k9 = 9 ∨ k9 = 10 ∨ k9 = 11 ∨ k9 = 12 ∨ k9 = 13 ∨ k9 = 14 ∨ k9 = 15 ∨ k9 = 16 ∨ k9 = 17 ∨ k9 = 18 ∨ k9 = 19 ∨ k9 = 20 by omega) with h9 | h9 | h9 | h9 | h9 | h9 | h9 | h9 | h9 | h9 | h9 | h9 | h9 | h9 | h9 | h9 | h9 | h9 | h9 | h9 | h9
      · rw [h9] at h7; exact hs2 (by have h8 := z_ofT (v := 0) h7 (by decide); exact h8)
      · rw [h9] at h7; exact hs4 (by have h8 := z_ofT (v := 1) h7 (by decide); exact h8)
      · rw [h9] at h7; exact hs6 (by have h8 := z_ofT (v := 2) h7 (by decide); exact h8)
      · rw [h9] at h7; exact hs8 (by have h8 := z_ofT (v := 3) h7 (by decide); exact h8)
      · rw [h9] at h7; exact hs10 (by have h8 := z_ofT (v := 4) h7 (by decide); exact h8)
      · rw [h9] at h7; exact hs12 (by have h8 := z_ofT (v := 5) h7 (by decide); exact h8)
      · rw [h9] at h7; exact hs16 (by have h8 := z_ofT (v := 6) h7 (by decide); exact h8)
      · rw [h9] at h7; exact hs18 (by have h8 := z_ofT (v := 7) h7 (by decide); exact h8)
      · rw [h9] at h7; exact hs20 (by have h8 := z_ofT (v := 8) h7 (by decide); exact h8)
      · rw [h9] at h7; exact hs22 (by have h8 := z_ofT (v := 9) h7 (by decide); exact h8)
      · rw [h9] at h7; exact hs24 (by have h8 := z_ofT (v := 10) h7 (by decide); exact h8)
      · rw [h9] at h7; exact hs27 (by have h8 := z_ofT (v := 11) h7 (by decide); exact h8)
      · rw [h9] at h7; exact hs29 (by have h8 := z_ofT (v := 12) h7 (by decide); exact h8)
      · rw [h9] at h7; exact hs32 (by have h8 := z_ofT (v := 13) h7 (by decide); exact h8)
      · rw [h9] at h7; exact hs38 (by have h8 := z_ofT (v := 14) h7 (by decide); exact h8)
      · rw [h9] at h7; exact hs33 (by have h8 := z_ofT (v := 15) h7 (by decide); exact Or.inl h8)
      · rw [h9] at h7; exact hs33 (by have h8 := z_ofT (v := 16) h7 (by decide); exact Or.inr (Or.inl h8))
      · rw [h9] at h7; exact hs33 (by have h8 := z_ofT (v := 17) h7 (by decide); exact Or.inr (Or.inr (h8)))
      · rw [h9] at h7; exact hs34 (by have h8 := z_ofT (v := 18) h7 (by decide); exact Or.inl h8)
      · rw [h9] at h7; exact hs34 (by have h8 := z_ofT (v := 19) h7 (by decide); exact Or.inr (h8))
      · rw [h9] at h7; exact hs37 (by have h8 := z_ofT (v := 20) h7 (by decide); exact h8)
      )) (by decide) ?_
  refine z_iconst (v := 0) hC dX7_perform_326 (by decide) ?_
  obtain rfl := Option.some.inj hz
  exact z_iret hC hT dX7_perform_327 (by decide) (by decide)
theorem zy_X5_notePlaces : z_y yX5_notePlaces cX5_notePlaces 4 none 2 := ⟨kw_539, kw_3, by decide +kernel, by decide +kernel, by decide +kernel⟩
theorem zv_X5_notePlaces : Cond.instanceMethod yX5_notePlaces ∈ z_tbl ∧ Cond.selects RX5 yX5_notePlaces yX5_notePlaces ∈ z_tbl := ⟨kw_537, kw_538⟩
def z_X5_notePlaces_24 (F : Nat) (S : zS)  (x0 : Nat) (x1 : Nat) (y0 : Int32) (I : zI) : Option (zI) :=
  some (z_up I x0 9 (if (I x0 9) < (((I x1 1) + 1) + y0) then ((I x1 1) + 1) + y0 else I x0 9))
def z_X5_notePlaces (F : Nat) (S : zS) (I : zI) (x0 : Nat) (x1 : Nat) (x2 : Nat) : Option (zI) :=
  ob (z_X0_usesPlace F S I x1) (fun q1 => if q1 = 0 then (some (I)) else (ob (z_X6_inPlace F S I x2 (I x1 1)) (fun q2 => if q2 = 2 then (z_X5_notePlaces_24 F S  (x0) (x1) (1) (I)) else (z_X5_notePlaces_24 F S  (x0) (x1) (0) (I)))))
set_option maxRecDepth 100000 in
set_option maxHeartbeats 4000000 in
theorem b_X5_notePlaces_24 {p : Program} {l : Launch} {e : Env} {s : State} {m : MethodId} {args : Array Value} {below : List Frame} {meth : Method} {c : Code} {D : zD} {b0 : Nat} {F : Nat} {S : zS} {X : zI} (hC : z_C p s m args meth c cX5_notePlaces RX5 4 none D) (hT : z_T b0 S)   (x0 : Nat) (x1 : Nat) (y0 : Int32) (I : zI) (h_x0 : z_is b0 S x0 5) (h_x1 : z_is b0 S x1 0) (hz : z_X5_notePlaces_24 F S  x0 x1 y0 I = some X) (ls : Array Slot) (hl : lv_has ls 4 [(0, .ref (x0)), (1, .ref (x1))]) : z_W p l e { frames := 1, cells := 0, slots := 0, locals := 40 } s m args below meth c D b0 S I 0 0 (MQ below (z_Q D b0 none S X) args s 0 0 (fun q => b0 ≤ q)) (F0 m 24 ls [.int (y0)]) := by
  unfold z_X5_notePlaces_24 at hz
  refine z_istore_n (lv' := [(3, .int (y0)), (0, .ref (x0)), (1, .ref (x1))]) hC dX5_notePlaces_24 rfl hl (by decide) rfl (fun ls hl => ?_)
  refine z_aload_n hC dX5_notePlaces_25 rfl (lv_at hl 1 rfl) ?_
  refine z_aload_n hC dX5_notePlaces_26 rfl (lv_at hl 1 rfl) ?_
  refine z_getI hC zc_5 9 (by decide) kw_90 dX5_notePlaces_27 h_x0 rfl ?_
  refine z_aload_n hC dX5_notePlaces_30 rfl (lv_at hl 2 rfl) ?_
  refine z_getI hC zc_0 1 (by decide) kw_299 dX5_notePlaces_31 h_x1 rfl ?_
  refine z_iconst (v := 1) hC dX5_notePlaces_34 (by decide) ?_
  refine z_iadd hC dX5_notePlaces_35 ?_
  refine z_iload_n hC dX5_notePlaces_36 rfl (lv_at hl 0 rfl) ?_
  refine z_iadd hC dX5_notePlaces_37 ?_
  refine z_mmax hC kw_446 kw_447 kw_12 kw_448 dX5_notePlaces_38 hl.1 (by decide) (Nat.le_of_ble_eq_true rfl) (by decide) (by decide) ?_
  refine z_putI hC zc_5 9 (by decide) kw_90 dX5_notePlaces_41 h_x0 rfl rfl rfl rfl ?_
  obtain rfl := Option.some.inj hz
  exact z_vret hC hT dX5_notePlaces_44 (by decide) (by decide)
set_option maxRecDepth 100000 in
set_option maxHeartbeats 4000000 in
theorem c_X5_notePlaces {l : Launch} {D : zD} {b0 : Nat} {S : zS} {I : zI} {X : zI} (F : Nat) (x0 : Nat) (x1 : Nat) (x2 : Nat) (h_x0 : z_is b0 S x0 5) (h_x1 : z_is b0 S x1 0) (h_x2 : z_is b0 S x2 6) (hz : z_X5_notePlaces F S I x0 x1 x2 = some X) : z_M l D b0 yX5_notePlaces cX5_notePlaces 4 none { frames := 1, cells := 0, slots := 0, locals := 40 } [.ref (x0), .ref (x1), .ref (x2)] S I none S X := by
  refine z_met (by decide) (Nat.le_of_ble_eq_true rfl) ?_
  intro p e s m below meth c hC hnm hT ls hl
  have hl : lv_has ls 4 [(0, .ref (x0)), (1, .ref (x1)), (2, .ref (x2))] := hl
  unfold z_X5_notePlaces at hz
  refine z_aload_n hC dX5_notePlaces_0 rfl (lv_at hl 1 rfl) ?_
  obtain ⟨q1, hq_q1, hz⟩ := ob_some hz
  refine z_callV (As := []) hC hT (c_X0_usesPlace F x1 h_x1 hq_q1) zy_X0_usesPlace zc_0 zv_X0_usesPlace kw_540 dX5_notePlaces_1 h_x1 rfl rfl hl.1 (Nat.le_of_ble_eq_true rfl) (by decide) (by decide) ?_
  refine z_if_eq (tgt := 44) hC dX5_notePlaces_4 (by decide) hz (fun hz => ?_) (fun hz => ?_)
  · skip
    obtain rfl := Option.some.inj hz
    exact z_vret hC hT dX5_notePlaces_44 (by decide) (by decide)
  · skip
    refine z_aload_n hC dX5_notePlaces_7 rfl (lv_at hl 2 rfl) ?_
    refine z_aload_n hC dX5_notePlaces_8 rfl (lv_at hl 1 rfl) ?_
    refine z_getI hC zc_0 1 (by decide) kw_299 dX5_notePlaces_9 h_x1 rfl ?_
    obtain ⟨q2, hq_q2, hz⟩ := ob_some hz
    refine z_callV (As := [.int (I x1 1)]) hC hT (c_X6_inPlace F x2 (I x1 1) h_x2 hq_q2) zy_X6_inPlace zc_6 zv_X6_inPlace kw_544 dX5_notePlaces_12 h_x2 rfl rfl hl.1 (Nat.le_of_ble_eq_true rfl) (by decide) (by decide) ?_
    refine z_iconst (v := 2) hC dX5_notePlaces_15 (by decide) ?_
    refine z_icmp_ne (tgt := 23) hC dX5_notePlaces_16 (by decide) hz (fun hz => ?_) (fun hz => ?_)
    · skip
      refine z_iconst (v := 0) hC dX5_notePlaces_23 (by decide) ?_
      exact b_X5_notePlaces_24 hC hT   (x0) (x1) (0) (I) h_x0 h_x1 hz ls (lv_sub hl [0, 1] rfl)
    · skip
      refine z_iconst (v := 1) hC dX5_notePlaces_19 (by decide) ?_
      refine z_goto (tgt := 24) hC dX5_notePlaces_20 (by decide) ?_
      exact b_X5_notePlaces_24 hC hT   (x0) (x1) (1) (I) h_x0 h_x1 hz ls (lv_sub hl [0, 1] rfl)
theorem zy_X2_sendOn : z_y yX2_sendOn cX2_sendOn 7 (some .int) 3 := ⟨kw_548, kw_6, by decide +kernel, by decide +kernel, by decide +kernel⟩
theorem zv_X2_sendOn : Cond.instanceMethod yX2_sendOn ∈ z_tbl ∧ Cond.selects RX2 yX2_sendOn yX2_sendOn ∈ z_tbl := ⟨kw_547, ks_15⟩
def z_X2_sendOn_38B (F : Nat) (S : zS) (k38 : Nat → Nat → Int32 → Int32 → Int32 → Int32 → zI → Option (Int32 × zI)) (x0 : Nat) (x1 : Nat) (x2 : Int32) (x4 : Int32) (x5 : Int32) (x6 : Int32) (I : zI) : Option (Int32 × zI) :=
  if x5 < x6 then (some (x4, I)) else (if x4 = 0 then (ob (S.1 x0 2) (fun r1 => ob (z_X2_arrive F S I x0 x1 x2 x6 r1) (fun q2 => k38 (x0) (x1) (x2) (q2.1) (x5) (x6 + 1) (q2.2)))) else (some (x4, I)))
def z_X2_sendOn_38 (F : Nat) (S : zS)  : Nat → Nat → Nat → Int32 → Int32 → Int32 → Int32 → zI → Option (Int32 × zI)
  | 0 => fun _ _ _ _ _ _ _ => none
  | n + 1 => fun x0 x1 x2 x4 x5 x6 I => z_X2_sendOn_38B F S  (z_X2_sendOn_38 F S  n) x0 x1 x2 x4 x5 x6 I
def z_X2_sendOn_24 (F : Nat) (S : zS)  (x0 : Nat) (x1 : Nat) (x2 : Int32) (x3 : Nat) (y0 : Int32) (I : zI) : Option (Int32 × zI) :=
  ob (z_X0_lastTarget F S I x3) (fun q1 => ob (z_X0_firstTarget F S I x3) (fun q2 => z_X2_sendOn_38 F S  F (x0) (x1) (x2) (y0) (q1) (q2) (I)))
def z_X2_sendOn (F : Nat) (S : zS) (I : zI) (x0 : Nat) (x1 : Nat) (x2 : Int32) (x3 : Nat) : Option (Int32 × zI) :=
  ob (z_X0_goesToNext F S I x3) (fun q1 => if q1 = 0 then (z_X2_sendOn_24 F S  (x0) (x1) (x2) (x3) (0) (I)) else (ob (S.1 x0 2) (fun r2 => ob (z_X2_arrive F S I x0 x1 x2 (x2 + 1) r2) (fun q3 => z_X2_sendOn_24 F S  (x0) (x1) (x2) (x3) (q3.1) (q3.2)))))
set_option maxRecDepth 100000 in
set_option maxHeartbeats 4000000 in
theorem bb_X2_sendOn_38 {p : Program} {l : Launch} {e : Env} {s : State} {m : MethodId} {args : Array Value} {below : List Frame} {meth : Method} {c : Code} {D : zD} {b0 : Nat} {F : Nat} {S : zS} {X : Int32 × zI} (hC : z_C p s m args meth c cX2_sendOn RX2 7 (some .int) D) (hT : z_T b0 S) (k38 : Nat → Nat → Int32 → Int32 → Int32 → Int32 → zI → Option (Int32 × zI)) (hk38 : ∀ (x0 : Nat) (x1 : Nat) (x2 : Int32) (x4 : Int32) (x5 : Int32) (x6 : Int32) (I : zI) , z_is b0 S x0 2 → z_is b0 S x1 5 → k38 x0 x1 x2 x4 x5 x6 I = some X → ∀ ls : Array Slot, lv_has ls 7 [(0, .ref (x0)), (1, .ref (x1)), (2, .int (x2)), (4, .int (x4)), (5, .int (x5)), (6, .int (x6))] → z_W p l e { frames := 4, cells := 0, slots := 0, locals := 99 } s m args below meth c D b0 S I 0 0 (MQ below (z_Q D b0 (some (.int (X.1))) S X.2) args s 0 0 (fun q => b0 ≤ q)) (F0 m 38 ls [])) (x0 : Nat) (x1 : Nat) (x2 : Int32) (x4 : Int32) (x5 : Int32) (x6 : Int32) (I : zI) (h_x0 : z_is b0 S x0 2) (h_x1 : z_is b0 S x1 5) (hz : z_X2_sendOn_38B F S k38 x0 x1 x2 x4 x5 x6 I = some X) (ls : Array Slot) (hl : lv_has ls 7 [(0, .ref (x0)), (1, .ref (x1)), (2, .int (x2)), (4, .int (x4)), (5, .int (x5)), (6, .int (x6))]) : z_W p l e { frames := 4, cells := 0, slots := 0, locals := 99 } s m args below meth c D b0 S I 0 0 (MQ below (z_Q D b0 (some (.int (X.1))) S X.2) args s 0 0 (fun q => b0 ≤ q)) (F0 m 38 ls []) := by
  unfold z_X2_sendOn_38B at hz
  refine z_iload hC dX2_sendOn_38 (lv_at hl 5 rfl) ?_
  refine z_iload hC dX2_sendOn_40 (lv_at hl 4 rfl) ?_
  refine z_icmp_gt (tgt := 70) hC dX2_sendOn_42 (by decide) hz (fun hz => ?_) (fun hz => ?_)
  · skip
    refine z_iload hC dX2_sendOn_70 (lv_at hl 3 rfl) ?_
    obtain rfl := Option.some.inj hz
    exact z_iret hC hT dX2_sendOn_72 (by decide) (by decide)
  · skip
    refine z_iload hC dX2_sendOn_45 (lv_at hl 3 rfl) ?_
    refine z_if_ne (tgt := 70) hC dX2_sendOn_47 (by decide) hz (fun hz => ?_) (fun hz => ?_)
    · skip
      refine z_iload hC dX2_sendOn_70 (lv_at hl 3 rfl) ?_
      obtain rfl := Option.some.inj hz
      exact z_iret hC hT dX2_sendOn_72 (by decide) (by decide)
    · skip
      refine z_aload_n hC dX2_sendOn_50 rfl (lv_at hl 0 rfl) ?_
      refine z_aload_n hC dX2_sendOn_51 rfl (lv_at hl 1 rfl) ?_
      refine z_iload_n hC dX2_sendOn_52 rfl (lv_at hl 2 rfl) ?_
      refine z_iload hC dX2_sendOn_53 (lv_at hl 5 rfl) ?_
      refine z_aload_n hC dX2_sendOn_55 rfl (lv_at hl 0 rfl) ?_
      obtain ⟨r1, hr_r1, hz⟩ := ob_some hz
      have hk_r1 : z_is b0 S r1 6 := hT.at h_x0 hr_r1
      refine z_getR hC zc_2 2 (by decide) kw_133 dX2_sendOn_56 h_x0 rfl hr_r1 ?_
      obtain ⟨q2, hq_q2, hz⟩ := ob_some hz
      refine z_callV (As := [.ref (x1), .int (x2), .int (x6), .ref (r1)]) hC hT (c_X2_arrive F x0 x1 x2 x6 r1 h_x0 h_x1 hk_r1 hq_q2) zy_X2_arrive zc_2 zv_X2_arrive kw_392 dX2_sendOn_59 h_x0 rfl rfl hl.1 (Nat.le_of_ble_eq_true rfl) (by decide) (by decide) ?_
      refine z_istore (lv' := [(4, .int (q2.1)), (0, .ref (x0)), (1, .ref (x1)), (2, .int (x2)), (5, .int (x5)), (6, .int (x6))]) hC dX2_sendOn_62 hl (by decide) rfl (fun ls hl => ?_)
      refine z_iinc (k0 := 5) (v := x6 + 1) (lv' := [(6, .int (x6 + 1)), (4, .int (q2.1)), (0, .ref (x0)), (1, .ref (x1)), (2, .int (x2)), (5, .int (x5))]) hC dX2_sendOn_64 hl rfl rfl (by decide) rfl (fun ls hl => ?_)
      refine z_goto (tgt := 38) hC dX2_sendOn_67 (by decide) ?_
      exact hk38 (x0) (x1) (x2) (q2.1) (x5) (x6 + 1) (q2.2) h_x0 h_x1 hz ls (lv_sub hl [2, 3, 4, 1, 5, 0] rfl)
set_option maxRecDepth 100000 in
set_option maxHeartbeats 4000000 in
theorem b_X2_sendOn_38 {p : Program} {l : Launch} {e : Env} {s : State} {m : MethodId} {args : Array Value} {below : List Frame} {meth : Method} {c : Code} {D : zD} {b0 : Nat} {F : Nat} {S : zS} {X : Int32 × zI} (hC : z_C p s m args meth c cX2_sendOn RX2 7 (some .int) D) (hT : z_T b0 S)   : ∀ (n : Nat) (x0 : Nat) (x1 : Nat) (x2 : Int32) (x4 : Int32) (x5 : Int32) (x6 : Int32) (I : zI), z_is b0 S x0 2 → z_is b0 S x1 5 → z_X2_sendOn_38 F S  n x0 x1 x2 x4 x5 x6 I = some X → ∀ ls : Array Slot, lv_has ls 7 [(0, .ref (x0)), (1, .ref (x1)), (2, .int (x2)), (4, .int (x4)), (5, .int (x5)), (6, .int (x6))] → z_W p l e { frames := 4, cells := 0, slots := 0, locals := 99 } s m args below meth c D b0 S I 0 0 (MQ below (z_Q D b0 (some (.int (X.1))) S X.2) args s 0 0 (fun q => b0 ≤ q)) (F0 m 38 ls []) := by
  intro n
  induction n with
  | zero => intro x0 x1 x2 x4 x5 x6 I h_x0 h_x1 hz; cases hz
  | succ n ih =>
    intro x0 x1 x2 x4 x5 x6 I h_x0 h_x1 hz ls hl
    exact bb_X2_sendOn_38 (F := F) hC hT  (z_X2_sendOn_38 F S  n)  ih x0 x1 x2 x4 x5 x6 I h_x0 h_x1 hz ls hl
set_option maxRecDepth 100000 in
set_option maxHeartbeats 4000000 in
theorem b_X2_sendOn_24 {p : Program} {l : Launch} {e : Env} {s : State} {m : MethodId} {args : Array Value} {below : List Frame} {meth : Method} {c : Code} {D : zD} {b0 : Nat} {F : Nat} {S : zS} {X : Int32 × zI} (hC : z_C p s m args meth c cX2_sendOn RX2 7 (some .int) D) (hT : z_T b0 S)   (x0 : Nat) (x1 : Nat) (x2 : Int32) (x3 : Nat) (y0 : Int32) (I : zI) (h_x0 : z_is b0 S x0 2) (h_x1 : z_is b0 S x1 5) (h_x3 : z_is b0 S x3 0) (hz : z_X2_sendOn_24 F S  x0 x1 x2 x3 y0 I = some X) (ls : Array Slot) (hl : lv_has ls 7 [(0, .ref (x0)), (1, .ref (x1)), (2, .int (x2)), (3, .ref (x3))]) : z_W p l e { frames := 4, cells := 0, slots := 0, locals := 99 } s m args below meth c D b0 S I 0 0 (MQ below (z_Q D b0 (some (.int (X.1))) S X.2) args s 0 0 (fun q => b0 ≤ q)) (F0 m 24 ls [.int (y0)]) := by
  unfold z_X2_sendOn_24 at hz
  refine z_istore (lv' := [(4, .int (y0)), (0, .ref (x0)), (1, .ref (x1)), (2, .int (x2)), (3, .ref (x3))]) hC dX2_sendOn_24 hl (by decide) rfl (fun ls hl => ?_)
  refine z_aload_n hC dX2_sendOn_26 rfl (lv_at hl 4 rfl) ?_
  obtain ⟨q1, hq_q1, hz⟩ := ob_some hz
  refine z_callV (As := []) hC hT (c_X0_lastTarget F x3 h_x3 hq_q1) zy_X0_lastTarget zc_0 zv_X0_lastTarget kw_553 dX2_sendOn_27 h_x3 rfl rfl hl.1 (Nat.le_of_ble_eq_true rfl) (by decide) (by decide) ?_
  refine z_istore (lv' := [(5, .int (q1)), (4, .int (y0)), (0, .ref (x0)), (1, .ref (x1)), (2, .int (x2)), (3, .ref (x3))]) hC dX2_sendOn_30 hl (by decide) rfl (fun ls hl => ?_)
  refine z_aload_n hC dX2_sendOn_32 rfl (lv_at hl 5 rfl) ?_
  obtain ⟨q2, hq_q2, hz⟩ := ob_some hz
  refine z_callV (As := []) hC hT (c_X0_firstTarget F x3 h_x3 hq_q2) zy_X0_firstTarget zc_0 zv_X0_firstTarget kw_561 dX2_sendOn_33 h_x3 rfl rfl hl.1 (Nat.le_of_ble_eq_true rfl) (by decide) (by decide) ?_
  refine z_istore (lv' := [(6, .int (q2)), (5, .int (q1)), (4, .int (y0)), (0, .ref (x0)), (1, .ref (x1)), (2, .int (x2)), (3, .ref (x3))]) hC dX2_sendOn_36 hl (by decide) rfl (fun ls hl => ?_)
  exact b_X2_sendOn_38 hC hT   F (x0) (x1) (x2) (y0) (q1) (q2) (I) h_x0 h_x1 hz ls (lv_sub hl [3, 4, 5, 2, 1, 0] rfl)
set_option maxRecDepth 100000 in
set_option maxHeartbeats 4000000 in
theorem c_X2_sendOn {l : Launch} {D : zD} {b0 : Nat} {S : zS} {I : zI} {X : Int32 × zI} (F : Nat) (x0 : Nat) (x1 : Nat) (x2 : Int32) (x3 : Nat) (h_x0 : z_is b0 S x0 2) (h_x1 : z_is b0 S x1 5) (h_x3 : z_is b0 S x3 0) (hz : z_X2_sendOn F S I x0 x1 x2 x3 = some X) : z_M l D b0 yX2_sendOn cX2_sendOn 7 (some .int) { frames := 4, cells := 0, slots := 0, locals := 99 } [.ref (x0), .ref (x1), .int (x2), .ref (x3)] S I (some (.int (X.1))) S X.2 := by
  refine z_met (by decide) (Nat.le_of_ble_eq_true rfl) ?_
  intro p e s m below meth c hC hnm hT ls hl
  have hl : lv_has ls 7 [(0, .ref (x0)), (1, .ref (x1)), (2, .int (x2)), (3, .ref (x3))] := hl
  unfold z_X2_sendOn at hz
  refine z_aload_n hC dX2_sendOn_0 rfl (lv_at hl 3 rfl) ?_
  obtain ⟨q1, hq_q1, hz⟩ := ob_some hz
  refine z_callV (As := []) hC hT (c_X0_goesToNext F x3 h_x3 hq_q1) zy_X0_goesToNext zc_0 zv_X0_goesToNext kw_549 dX2_sendOn_1 h_x3 rfl rfl hl.1 (Nat.le_of_ble_eq_true rfl) (by decide) (by decide) ?_
  refine z_if_eq (tgt := 23) hC dX2_sendOn_4 (by decide) hz (fun hz => ?_) (fun hz => ?_)
  · skip
    refine z_iconst (v := 0) hC dX2_sendOn_23 (by decide) ?_
    exact b_X2_sendOn_24 hC hT   (x0) (x1) (x2) (x3) (0) (I) h_x0 h_x1 h_x3 hz ls (lv_sub hl [0, 1, 2, 3] rfl)
  · skip
    refine z_aload_n hC dX2_sendOn_7 rfl (lv_at hl 0 rfl) ?_
    refine z_aload_n hC dX2_sendOn_8 rfl (lv_at hl 1 rfl) ?_
    refine z_iload_n hC dX2_sendOn_9 rfl (lv_at hl 2 rfl) ?_
    refine z_iload_n hC dX2_sendOn_10 rfl (lv_at hl 2 rfl) ?_
    refine z_iconst (v := 1) hC dX2_sendOn_11 (by decide) ?_
    refine z_iadd hC dX2_sendOn_12 ?_
    refine z_aload_n hC dX2_sendOn_13 rfl (lv_at hl 0 rfl) ?_
    obtain ⟨r2, hr_r2, hz⟩ := ob_some hz
    have hk_r2 : z_is b0 S r2 6 := hT.at h_x0 hr_r2
    refine z_getR hC zc_2 2 (by decide) kw_133 dX2_sendOn_14 h_x0 rfl hr_r2 ?_
    obtain ⟨q3, hq_q3, hz⟩ := ob_some hz
    refine z_callV (As := [.ref (x1), .int (x2), .int (x2 + 1), .ref (r2)]) hC hT (c_X2_arrive F x0 x1 x2 (x2 + 1) r2 h_x0 h_x1 hk_r2 hq_q3) zy_X2_arrive zc_2 zv_X2_arrive kw_392 dX2_sendOn_17 h_x0 rfl rfl hl.1 (Nat.le_of_ble_eq_true rfl) (by decide) (by decide) ?_
    refine z_goto (tgt := 24) hC dX2_sendOn_20 (by decide) ?_
    exact b_X2_sendOn_24 hC hT   (x0) (x1) (x2) (x3) (q3.1) (q3.2) h_x0 h_x1 h_x3 hz ls (lv_sub hl [0, 1, 2, 3] rfl)
theorem zy_X2_workOn : z_y yX2_workOn cX2_workOn 5 (some .int) 2 := ⟨kw_437, kw_6, by decide +kernel, by decide +kernel, by decide +kernel⟩
theorem zv_X2_workOn : Cond.instanceMethod yX2_workOn ∈ z_tbl ∧ Cond.selects RX2 yX2_workOn yX2_workOn ∈ z_tbl := ⟨kw_436, ks_5⟩
def z_X2_workOn_65 (F : Nat) (S : zS)  (x0 : Nat) (x1 : Nat) (x2 : Int32) (x3 : Nat) (x4 : Int32) (I : zI) : Option (Int32 × zI) :=
  if x4 = 0 then (ob (S.1 x0 2) (fun r1 => ob (z_X5_noteStack F S I x1 r1) (fun q2 => ob (z_X5_notePlaces F S q2 x1 x3 r1) (fun q3 => ob (z_X2_sendOn F S q3 x0 x1 x2 x3) (fun q4 => some (q4.1, q4.2)))))) else (some (x4, I))
def z_X2_workOn (F : Nat) (S : zS) (I : zI) (x0 : Nat) (x1 : Nat) (x2 : Int32) : Option (Int32 × zI) :=
  ob (z_X5_actAt F S I x1 x2) (fun q1 => ob2 (q1) (some (5, I)) (fun r2 => ob (S.1 x0 2) (fun r3 => ob (S.1 r2 6) (fun r4 => ob (z_X6_become F S (z_up I r2 4 0) r3 r4) (fun q5 => ob (z_X5_noteStack F S q5 x1 r3) (fun q6 => ob (z_X2_sendToGuards F S q6 x0 x1 x2) (fun q7 => if (q7.1) = 0 then (ob (S.1 x0 1) (fun r8 => ob (z_X7_perform F S (q7.2) r8 x1 x2 r2 r3) (fun q9 => z_X2_workOn_65 F S  (x0) (x1) (x2) (r2) (q9.1) (q9.2)))) else (z_X2_workOn_65 F S  (x0) (x1) (x2) (r2) (q7.1) (q7.2)))))))))
set_option maxRecDepth 100000 in
set_option maxHeartbeats 4000000 in
theorem b_X2_workOn_65 {p : Program} {l : Launch} {e : Env} {s : State} {m : MethodId} {args : Array Value} {below : List Frame} {meth : Method} {c : Code} {D : zD} {b0 : Nat} {F : Nat} {S : zS} {X : Int32 × zI} (hC : z_C p s m args meth c cX2_workOn RX2 5 (some .int) D) (hT : z_T b0 S)   (x0 : Nat) (x1 : Nat) (x2 : Int32) (x3 : Nat) (x4 : Int32) (I : zI) (h_x0 : z_is b0 S x0 2) (h_x1 : z_is b0 S x1 5) (h_x3 : z_is b0 S x3 0) (hz : z_X2_workOn_65 F S  x0 x1 x2 x3 x4 I = some X) (ls : Array Slot) (hl : lv_has ls 5 [(0, .ref (x0)), (1, .ref (x1)), (2, .int (x2)), (3, .ref (x3)), (4, .int (x4))]) : z_W p l e { frames := 5, cells := 0, slots := 0, locals := 125 } s m args below meth c D b0 S I 0 0 (MQ below (z_Q D b0 (some (.int (X.1))) S X.2) args s 0 0 (fun q => b0 ≤ q)) (F0 m 65 ls []) := by
  unfold z_X2_workOn_65 at hz
  refine z_iload hC dX2_workOn_65 (lv_at hl 4 rfl) ?_
  refine z_if_eq (tgt := 73) hC dX2_workOn_67 (by decide) hz (fun hz => ?_) (fun hz => ?_)
  · skip
    refine z_aload_n hC dX2_workOn_73 rfl (lv_at hl 1 rfl) ?_
    refine z_aload_n hC dX2_workOn_74 rfl (lv_at hl 0 rfl) ?_
    obtain ⟨r1, hr_r1, hz⟩ := ob_some hz
    have hk_r1 : z_is b0 S r1 6 := hT.at h_x0 hr_r1
    refine z_getR hC zc_2 2 (by decide) kw_133 dX2_workOn_75 h_x0 rfl hr_r1 ?_
    obtain ⟨q2, hq_q2, hz⟩ := ob_some hz
    refine z_callV (As := [.ref (r1)]) hC hT (c_X5_noteStack F x1 r1 h_x1 hk_r1 hq_q2) zy_X5_noteStack zc_5 zv_X5_noteStack kw_438 dX2_workOn_78 h_x1 rfl rfl hl.1 (Nat.le_of_ble_eq_true rfl) (by decide) (by decide) ?_
    refine z_aload_n hC dX2_workOn_81 rfl (lv_at hl 1 rfl) ?_
    refine z_aload_n hC dX2_workOn_82 rfl (lv_at hl 3 rfl) ?_
    refine z_aload_n hC dX2_workOn_83 rfl (lv_at hl 0 rfl) ?_
    refine z_getR hC zc_2 2 (by decide) kw_133 dX2_workOn_84 h_x0 rfl hr_r1 ?_
    obtain ⟨q3, hq_q3, hz⟩ := ob_some hz
    refine z_callV (As := [.ref (x3), .ref (r1)]) hC hT (c_X5_notePlaces F x1 x3 r1 h_x1 h_x3 hk_r1 hq_q3) zy_X5_notePlaces zc_5 zv_X5_notePlaces kw_536 dX2_workOn_87 h_x1 rfl rfl hl.1 (Nat.le_of_ble_eq_true rfl) (by decide) (by decide) ?_
    refine z_aload_n hC dX2_workOn_90 rfl (lv_at hl 0 rfl) ?_
    refine z_aload_n hC dX2_workOn_91 rfl (lv_at hl 1 rfl) ?_
    refine z_iload_n hC dX2_workOn_92 rfl (lv_at hl 2 rfl) ?_
    refine z_aload_n hC dX2_workOn_93 rfl (lv_at hl 3 rfl) ?_
    obtain ⟨q4, hq_q4, hz⟩ := ob_some hz
    refine z_callV (As := [.ref (x1), .int (x2), .ref (x3)]) hC hT (c_X2_sendOn F x0 x1 x2 x3 h_x0 h_x1 h_x3 hq_q4) zy_X2_sendOn zc_2 zv_X2_sendOn kw_545 dX2_workOn_94 h_x0 rfl rfl hl.1 (Nat.le_of_ble_eq_true rfl) (by decide) (by decide) ?_
    obtain rfl := Option.some.inj hz
    exact z_iret hC hT dX2_workOn_97 (by decide) (by decide)
  · skip
    refine z_iload hC dX2_workOn_70 (lv_at hl 4 rfl) ?_
    obtain rfl := Option.some.inj hz
    exact z_iret hC hT dX2_workOn_72 (by decide) (by decide)
set_option maxRecDepth 100000 in
set_option maxHeartbeats 4000000 in
theorem c_X2_workOn {l : Launch} {D : zD} {b0 : Nat} {S : zS} {I : zI} {X : Int32 × zI} (F : Nat) (x0 : Nat) (x1 : Nat) (x2 : Int32) (h_x0 : z_is b0 S x0 2) (h_x1 : z_is b0 S x1 5) (hz : z_X2_workOn F S I x0 x1 x2 = some X) : z_M l D b0 yX2_workOn cX2_workOn 5 (some .int) { frames := 5, cells := 0, slots := 0, locals := 125 } [.ref (x0), .ref (x1), .int (x2)] S I (some (.int (X.1))) S X.2 := by
  refine z_met (by decide) (Nat.le_of_ble_eq_true rfl) ?_
  intro p e s m below meth c hC hnm hT ls hl
  have hl : lv_has ls 5 [(0, .ref (x0)), (1, .ref (x1)), (2, .int (x2))] := hl
  unfold z_X2_workOn at hz
  refine z_aload_n hC dX2_workOn_0 rfl (lv_at hl 1 rfl) ?_
  refine z_iload_n hC dX2_workOn_1 rfl (lv_at hl 2 rfl) ?_
  obtain ⟨q1, hq_q1, hz⟩ := ob_some hz
  refine z_callV (As := [.int (x2)]) hC hT (c_X5_actAt F x1 x2 h_x1 hq_q1) zy_X5_actAt zc_5 zv_X5_actAt kw_396 dX2_workOn_2 h_x1 rfl rfl hl.1 (Nat.le_of_ble_eq_true rfl) (by decide) (by decide) ?_
  rcases ob2_some hz with ⟨ho_r2, hz⟩ | ⟨r2, ho_r2, hz⟩
  · try rw [ho_r2]
    try rw [ho_r2] at hl
    refine z_astore_nN (lv' := [(3, .null), (0, .ref (x0)), (1, .ref (x1)), (2, .int (x2))]) hC dX2_workOn_5 rfl hl (by decide) rfl (fun ls hl => ?_)
    refine z_aload_nN hC dX2_workOn_6 rfl (lv_at hl 0 rfl) ?_
    refine z_ifnonnullN hC dX2_workOn_7 ?_
    refine z_iconst (v := 5) hC dX2_workOn_10 (by decide) ?_
    obtain rfl := Option.some.inj hz
    exact z_iret hC hT dX2_workOn_11 (by decide) (by decide)
  · have hk_r2 : z_is b0 S r2 0 := (tk_X5_actAt hT h_x1 hq_q1) _ ho_r2
    try rw [ho_r2]
    try rw [ho_r2] at hl
    refine z_astore_n (lv' := [(3, .ref (r2)), (0, .ref (x0)), (1, .ref (x1)), (2, .int (x2))]) hC dX2_workOn_5 rfl hl (by decide) rfl (fun ls hl => ?_)
    refine z_aload_n hC dX2_workOn_6 rfl (lv_at hl 0 rfl) ?_
    refine z_ifnonnull (tgt := 12) hC dX2_workOn_7 (by decide) ?_
    refine z_aload_n hC dX2_workOn_12 rfl (lv_at hl 0 rfl) ?_
    refine z_iconst (v := 0) hC dX2_workOn_13 (by decide) ?_
    refine z_putI hC zc_0 4 (by decide) kw_306 dX2_workOn_14 hk_r2 rfl rfl (z_bool (Or.inl rfl)) (z_boolf (Or.inl rfl)) ?_
    refine z_aload_n hC dX2_workOn_17 rfl (lv_at hl 1 rfl) ?_
    obtain ⟨r3, hr_r3, hz⟩ := ob_some hz
    have hk_r3 : z_is b0 S r3 6 := hT.at h_x0 hr_r3
    refine z_getR hC zc_2 2 (by decide) kw_133 dX2_workOn_18 h_x0 rfl hr_r3 ?_
    refine z_aload_n hC dX2_workOn_21 rfl (lv_at hl 0 rfl) ?_
    obtain ⟨r4, hr_r4, hz⟩ := ob_some hz
    have hk_r4 : z_is b0 S r4 6 := hT.at hk_r2 hr_r4
    refine z_getR hC zc_0 6 (by decide) kw_312 dX2_workOn_22 hk_r2 rfl hr_r4 ?_
    obtain ⟨q5, hq_q5, hz⟩ := ob_some hz
    refine z_callV (As := [.ref (r4)]) hC hT (c_X6_become F r3 r4 hk_r3 hk_r4 hq_q5) zy_X6_become zc_6 zv_X6_become kw_405 dX2_workOn_25 hk_r3 rfl rfl hl.1 (Nat.le_of_ble_eq_true rfl) (by decide) (by decide) ?_
    refine z_aload_n hC dX2_workOn_28 rfl (lv_at hl 2 rfl) ?_
    refine z_aload_n hC dX2_workOn_29 rfl (lv_at hl 1 rfl) ?_
    refine z_getR hC zc_2 2 (by decide) kw_133 dX2_workOn_30 h_x0 rfl hr_r3 ?_
    obtain ⟨q6, hq_q6, hz⟩ := ob_some hz
    refine z_callV (As := [.ref (r3)]) hC hT (c_X5_noteStack F x1 r3 h_x1 hk_r3 hq_q6) zy_X5_noteStack zc_5 zv_X5_noteStack kw_438 dX2_workOn_33 h_x1 rfl rfl hl.1 (Nat.le_of_ble_eq_true rfl) (by decide) (by decide) ?_
    refine z_aload_n hC dX2_workOn_36 rfl (lv_at hl 1 rfl) ?_
    refine z_aload_n hC dX2_workOn_37 rfl (lv_at hl 2 rfl) ?_
    refine z_iload_n hC dX2_workOn_38 rfl (lv_at hl 3 rfl) ?_
    obtain ⟨q7, hq_q7, hz⟩ := ob_some hz
    refine z_callV (As := [.ref (x1), .int (x2)]) hC hT (c_X2_sendToGuards F x0 x1 x2 h_x0 h_x1 hq_q7) zy_X2_sendToGuards zc_2 zv_X2_sendToGuards kw_449 dX2_workOn_39 h_x0 rfl rfl hl.1 (Nat.le_of_ble_eq_true rfl) (by decide) (by decide) ?_
    refine z_istore (lv' := [(4, .int (q7.1)), (3, .ref (r2)), (0, .ref (x0)), (1, .ref (x1)), (2, .int (x2))]) hC dX2_workOn_42 hl (by decide) rfl (fun ls hl => ?_)
    refine z_iload hC dX2_workOn_44 (lv_at hl 0 rfl) ?_
    refine z_if_ne (tgt := 65) hC dX2_workOn_46 (by decide) hz (fun hz => ?_) (fun hz => ?_)
    · skip
      exact b_X2_workOn_65 hC hT   (x0) (x1) (x2) (r2) (q7.1) (q7.2) h_x0 h_x1 hk_r2 hz ls (lv_sub hl [2, 3, 4, 1, 0] rfl)
    · skip
      refine z_aload_n hC dX2_workOn_49 rfl (lv_at hl 2 rfl) ?_
      obtain ⟨r8, hr_r8, hz⟩ := ob_some hz
      have hk_r8 : z_is b0 S r8 7 := hT.at h_x0 hr_r8
      refine z_getR hC zc_2 1 (by decide) kw_132 dX2_workOn_50 h_x0 rfl hr_r8 ?_
      refine z_aload_n hC dX2_workOn_53 rfl (lv_at hl 3 rfl) ?_
      refine z_iload_n hC dX2_workOn_54 rfl (lv_at hl 4 rfl) ?_
      refine z_aload_n hC dX2_workOn_55 rfl (lv_at hl 1 rfl) ?_
      refine z_aload_n hC dX2_workOn_56 rfl (lv_at hl 2 rfl) ?_
      refine z_getR hC zc_2 2 (by decide) kw_133 dX2_workOn_57 h_x0 rfl hr_r3 ?_
      obtain ⟨q9, hq_q9, hz⟩ := ob_some hz
      refine z_callV (As := [.ref (x1), .int (x2), .ref (r2), .ref (r3)]) hC hT (c_X7_perform F r8 x1 x2 r2 r3 hk_r8 h_x1 hk_r2 hk_r3 hq_q9) zy_X7_perform zc_7 zv_X7_perform kw_472 dX2_workOn_60 hk_r8 rfl rfl hl.1 (Nat.le_of_ble_eq_true rfl) (by decide) (by decide) ?_
      refine z_istore (lv' := [(4, .int (q9.1)), (3, .ref (r2)), (0, .ref (x0)), (1, .ref (x1)), (2, .int (x2))]) hC dX2_workOn_63 hl (by decide) rfl (fun ls hl => ?_)
      exact b_X2_workOn_65 hC hT   (x0) (x1) (x2) (r2) (q9.1) (q9.2) h_x0 h_x1 hk_r2 hz ls (lv_sub hl [2, 3, 4, 1, 0] rfl)
theorem zy_X5_leads : z_y yX5_leads cX5_leads 6 (some .boolean) 2 := ⟨kw_576, kw_3, by decide +kernel, by decide +kernel, by decide +kernel⟩
theorem zv_X5_leads : Cond.instanceMethod yX5_leads ∈ z_tbl ∧ Cond.selects RX5 yX5_leads yX5_leads ∈ z_tbl := ⟨kw_575, ks_17⟩
def z_X5_leads_32B (F : Nat) (S : zS) (I : zI) (k32 : Nat → Int32 → Int32 → Int32 → Option (Int32)) (x0 : Nat) (x1 : Int32) (x2 : Int32) (x4 : Int32) : Option (Int32) :=
  if x4 < (I x0 4) then (ob (z_X5_guardOver F S I x0 x4 x1) (fun q1 => ob2 (q1) (k32 (x0) (x1) (x2) (x4 + 1)) (fun r2 => if (I r2 2) = x2 then (some (1)) else (k32 (x0) (x1) (x2) (x4 + 1))))) else (some (0))
def z_X5_leads_32 (F : Nat) (S : zS) (I : zI)  : Nat → Nat → Int32 → Int32 → Int32 → Option (Int32)
  | 0 => fun _ _ _ _ => none
  | n + 1 => fun x0 x1 x2 x4 => z_X5_leads_32B F S I  (z_X5_leads_32 F S I  n) x0 x1 x2 x4
def z_X5_leads (F : Nat) (S : zS) (I : zI) (x0 : Nat) (x1 : Int32) (x2 : Int32) : Option (Int32) :=
  ob (z_X5_actAt F S I x0 x1) (fun q1 => ob2 (q1) (some (0)) (fun r2 => if (I r2 3) = 0 then (some (0)) else (ob (z_X0_goesOnAt F S I r2 x2) (fun q3 => if q3 = 0 then (z_X5_leads_32 F S I  F (x0) (x1) (x2) (0)) else (some (1))))))
set_option maxRecDepth 100000 in
set_option maxHeartbeats 4000000 in
theorem bb_X5_leads_32 {p : Program} {l : Launch} {e : Env} {s : State} {m : MethodId} {args : Array Value} {below : List Frame} {meth : Method} {c : Code} {D : zD} {b0 : Nat} {F : Nat} {S : zS} {I : zI} {X : Int32} (hC : z_C p s m args meth c cX5_leads RX5 6 (some .boolean) D) (hT : z_T b0 S) (k32 : Nat → Int32 → Int32 → Int32 → Option (Int32)) (hk32 : ∀ (x0 : Nat) (x1 : Int32) (x2 : Int32) (x4 : Int32) , z_is b0 S x0 5 → k32 x0 x1 x2 x4 = some X → ∀ ls : Array Slot, lv_has ls 6 [(0, .ref (x0)), (1, .int (x1)), (2, .int (x2)), (4, .int (x4))] → z_W p l e { frames := 3, cells := 0, slots := 0, locals := 61 } s m args below meth c D b0 S I 0 0 (MQ below (z_Q D b0 (some (.int (X))) S I) args s 0 0 (fun q => b0 ≤ q)) (F0 m 32 ls [])) (x0 : Nat) (x1 : Int32) (x2 : Int32) (x4 : Int32) (h_x0 : z_is b0 S x0 5) (hz : z_X5_leads_32B F S I k32 x0 x1 x2 x4 = some X) (ls : Array Slot) (hl : lv_has ls 6 [(0, .ref (x0)), (1, .int (x1)), (2, .int (x2)), (4, .int (x4))]) : z_W p l e { frames := 3, cells := 0, slots := 0, locals := 61 } s m args below meth c D b0 S I 0 0 (MQ below (z_Q D b0 (some (.int (X))) S I) args s 0 0 (fun q => b0 ≤ q)) (F0 m 32 ls []) := by
  unfold z_X5_leads_32B at hz
  refine z_iload hC dX5_leads_32 (lv_at hl 3 rfl) ?_
  refine z_aload_n hC dX5_leads_34 rfl (lv_at hl 0 rfl) ?_
  refine z_getI hC zc_5 4 (by decide) kw_78 dX5_leads_35 h_x0 rfl ?_
  refine z_icmp_ge (tgt := 72) hC dX5_leads_38 (by decide) hz (fun hz => ?_) (fun hz => ?_)
  · skip
    refine z_iconst (v := 0) hC dX5_leads_72 (by decide) ?_
    obtain rfl := Option.some.inj hz
    exact z_zret hC hT dX5_leads_73 (Or.inl rfl) (by decide) (by decide)
  · skip
    refine z_aload_n hC dX5_leads_41 rfl (lv_at hl 0 rfl) ?_
    refine z_iload hC dX5_leads_42 (lv_at hl 3 rfl) ?_
    refine z_iload_n hC dX5_leads_44 rfl (lv_at hl 1 rfl) ?_
    obtain ⟨q1, hq_q1, hz⟩ := ob_some hz
    refine z_callV (As := [.int (x4), .int (x1)]) hC hT (c_X5_guardOver F x0 x4 x1 h_x0 hq_q1) zy_X5_guardOver zc_5 zv_X5_guardOver kw_583 dX5_leads_45 h_x0 rfl rfl hl.1 (Nat.le_of_ble_eq_true rfl) (by decide) (by decide) ?_
    rcases ob2_some hz with ⟨ho_r2, hz⟩ | ⟨r2, ho_r2, hz⟩
    · try rw [ho_r2]
      try rw [ho_r2] at hl
      refine z_astoreN (lv' := [(5, .null), (0, .ref (x0)), (1, .int (x1)), (2, .int (x2)), (4, .int (x4))]) hC dX5_leads_48 hl (by decide) rfl (fun ls hl => ?_)
      refine z_aloadN hC dX5_leads_50 (lv_at hl 0 rfl) ?_
      refine z_ifnullN (tgt := 66) hC dX5_leads_52 (by decide) ?_
      refine z_iinc (k0 := 4) (v := x4 + 1) (lv' := [(4, .int (x4 + 1)), (5, .null), (0, .ref (x0)), (1, .int (x1)), (2, .int (x2))]) hC dX5_leads_66 hl rfl rfl (by decide) rfl (fun ls hl => ?_)
      refine z_goto (tgt := 32) hC dX5_leads_69 (by decide) ?_
      exact hk32 (x0) (x1) (x2) (x4 + 1) h_x0 hz ls (lv_sub hl [2, 3, 4, 0] rfl)
    · have hk_r2 : z_is b0 S r2 3 := (tk_X5_guardOver hT h_x0 hq_q1) _ ho_r2
      try rw [ho_r2]
      try rw [ho_r2] at hl
      refine z_astore (lv' := [(5, .ref (r2)), (0, .ref (x0)), (1, .int (x1)), (2, .int (x2)), (4, .int (x4))]) hC dX5_leads_48 hl (by decide) rfl (fun ls hl => ?_)
      refine z_aload hC dX5_leads_50 (lv_at hl 0 rfl) ?_
      refine z_ifnull hC dX5_leads_52 ?_
      refine z_aload hC dX5_leads_55 (lv_at hl 0 rfl) ?_
      refine z_getI hC zc_3 2 (by decide) kw_359 dX5_leads_57 hk_r2 rfl ?_
      refine z_iload_n hC dX5_leads_60 rfl (lv_at hl 3 rfl) ?_
      refine z_icmp_ne (tgt := 66) hC dX5_leads_61 (by decide) hz (fun hz => ?_) (fun hz => ?_)
      · skip
        refine z_iinc (k0 := 4) (v := x4 + 1) (lv' := [(4, .int (x4 + 1)), (5, .ref (r2)), (0, .ref (x0)), (1, .int (x1)), (2, .int (x2))]) hC dX5_leads_66 hl rfl rfl (by decide) rfl (fun ls hl => ?_)
        refine z_goto (tgt := 32) hC dX5_leads_69 (by decide) ?_
        exact hk32 (x0) (x1) (x2) (x4 + 1) h_x0 hz ls (lv_sub hl [2, 3, 4, 0] rfl)
      · skip
        refine z_iconst (v := 1) hC dX5_leads_64 (by decide) ?_
        obtain rfl := Option.some.inj hz
        exact z_zret hC hT dX5_leads_65 (Or.inr rfl) (by decide) (by decide)
set_option maxRecDepth 100000 in
set_option maxHeartbeats 4000000 in
theorem b_X5_leads_32 {p : Program} {l : Launch} {e : Env} {s : State} {m : MethodId} {args : Array Value} {below : List Frame} {meth : Method} {c : Code} {D : zD} {b0 : Nat} {F : Nat} {S : zS} {I : zI} {X : Int32} (hC : z_C p s m args meth c cX5_leads RX5 6 (some .boolean) D) (hT : z_T b0 S)   : ∀ (n : Nat) (x0 : Nat) (x1 : Int32) (x2 : Int32) (x4 : Int32), z_is b0 S x0 5 → z_X5_leads_32 F S I  n x0 x1 x2 x4 = some X → ∀ ls : Array Slot, lv_has ls 6 [(0, .ref (x0)), (1, .int (x1)), (2, .int (x2)), (4, .int (x4))] → z_W p l e { frames := 3, cells := 0, slots := 0, locals := 61 } s m args below meth c D b0 S I 0 0 (MQ below (z_Q D b0 (some (.int (X))) S I) args s 0 0 (fun q => b0 ≤ q)) (F0 m 32 ls []) := by
  intro n
  induction n with
  | zero => intro x0 x1 x2 x4 h_x0 hz; cases hz
  | succ n ih =>
    intro x0 x1 x2 x4 h_x0 hz ls hl
    exact bb_X5_leads_32 (F := F) hC hT  (z_X5_leads_32 F S I  n)  ih x0 x1 x2 x4 h_x0 hz ls hl
set_option maxRecDepth 100000 in
set_option maxHeartbeats 4000000 in
theorem c_X5_leads {l : Launch} {D : zD} {b0 : Nat} {S : zS} {I : zI} {X : Int32} (F : Nat) (x0 : Nat) (x1 : Int32) (x2 : Int32) (h_x0 : z_is b0 S x0 5) (hz : z_X5_leads F S I x0 x1 x2 = some X) : z_M l D b0 yX5_leads cX5_leads 6 (some .boolean) { frames := 3, cells := 0, slots := 0, locals := 61 } [.ref (x0), .int (x1), .int (x2)] S I (some (.int (X))) S I := by
  refine z_met (by decide) (Nat.le_of_ble_eq_true rfl) ?_
  intro p e s m below meth c hC hnm hT ls hl
  have hl : lv_has ls 6 [(0, .ref (x0)), (1, .int (x1)), (2, .int (x2))] := hl
  unfold z_X5_leads at hz
  refine z_aload_n hC dX5_leads_0 rfl (lv_at hl 0 rfl) ?_
  refine z_iload_n hC dX5_leads_1 rfl (lv_at hl 1 rfl) ?_
  obtain ⟨q1, hq_q1, hz⟩ := ob_some hz
  refine z_callV (As := [.int (x1)]) hC hT (c_X5_actAt F x0 x1 h_x0 hq_q1) zy_X5_actAt zc_5 zv_X5_actAt kw_384 dX5_leads_2 h_x0 rfl rfl hl.1 (Nat.le_of_ble_eq_true rfl) (by decide) (by decide) ?_
  rcases ob2_some hz with ⟨ho_r2, hz⟩ | ⟨r2, ho_r2, hz⟩
  · try rw [ho_r2]
    try rw [ho_r2] at hl
    refine z_astore_nN (lv' := [(3, .null), (0, .ref (x0)), (1, .int (x1)), (2, .int (x2))]) hC dX5_leads_5 rfl hl (by decide) rfl (fun ls hl => ?_)
    refine z_aload_nN hC dX5_leads_6 rfl (lv_at hl 0 rfl) ?_
    refine z_ifnullN (tgt := 17) hC dX5_leads_7 (by decide) ?_
    refine z_iconst (v := 0) hC dX5_leads_17 (by decide) ?_
    obtain rfl := Option.some.inj hz
    exact z_zret hC hT dX5_leads_18 (Or.inl rfl) (by decide) (by decide)
  · have hk_r2 : z_is b0 S r2 0 := (tk_X5_actAt hT h_x0 hq_q1) _ ho_r2
    try rw [ho_r2]
    try rw [ho_r2] at hl
    refine z_astore_n (lv' := [(3, .ref (r2)), (0, .ref (x0)), (1, .int (x1)), (2, .int (x2))]) hC dX5_leads_5 rfl hl (by decide) rfl (fun ls hl => ?_)
    refine z_aload_n hC dX5_leads_6 rfl (lv_at hl 0 rfl) ?_
    refine z_ifnull hC dX5_leads_7 ?_
    refine z_aload_n hC dX5_leads_10 rfl (lv_at hl 0 rfl) ?_
    refine z_getI hC zc_0 3 (by decide) kw_304 dX5_leads_11 hk_r2 rfl ?_
    refine z_if_ne (tgt := 19) hC dX5_leads_14 (by decide) hz (fun hz => ?_) (fun hz => ?_)
    · skip
      refine z_aload_n hC dX5_leads_19 rfl (lv_at hl 0 rfl) ?_
      refine z_iload_n hC dX5_leads_20 rfl (lv_at hl 3 rfl) ?_
      obtain ⟨q3, hq_q3, hz⟩ := ob_some hz
      refine z_callV (As := [.int (x2)]) hC hT (c_X0_goesOnAt F r2 x2 hk_r2 hq_q3) zy_X0_goesOnAt zc_0 zv_X0_goesOnAt kw_577 dX5_leads_21 hk_r2 rfl rfl hl.1 (Nat.le_of_ble_eq_true rfl) (by decide) (by decide) ?_
      refine z_if_eq (tgt := 29) hC dX5_leads_24 (by decide) hz (fun hz => ?_) (fun hz => ?_)
      · skip
        refine z_iconst (v := 0) hC dX5_leads_29 (by decide) ?_
        refine z_istore (lv' := [(4, .int (0)), (3, .ref (r2)), (0, .ref (x0)), (1, .int (x1)), (2, .int (x2))]) hC dX5_leads_30 hl (by decide) rfl (fun ls hl => ?_)
        exact b_X5_leads_32 hC hT   F (x0) (x1) (x2) (0) h_x0 hz ls (lv_sub hl [2, 3, 4, 0] rfl)
      · skip
        refine z_iconst (v := 1) hC dX5_leads_27 (by decide) ?_
        obtain rfl := Option.some.inj hz
        exact z_zret hC hT dX5_leads_28 (Or.inr rfl) (by decide) (by decide)
    · skip
      refine z_iconst (v := 0) hC dX5_leads_17 (by decide) ?_
      obtain rfl := Option.some.inj hz
      exact z_zret hC hT dX5_leads_18 (Or.inl rfl) (by decide) (by decide)
theorem zy_X5_countSources : z_y yX5_countSources cX5_countSources 4 (some .int) 1 := ⟨kw_572, kw_3, by decide +kernel, by decide +kernel, by decide +kernel⟩
theorem zv_X5_countSources : Cond.instanceMethod yX5_countSources ∈ z_tbl ∧ Cond.selects RX5 yX5_countSources yX5_countSources ∈ z_tbl := ⟨kw_570, kw_571⟩
def z_X5_countSources_4B (F : Nat) (S : zS) (I : zI) (k4 : Nat → Int32 → Int32 → Int32 → Option (Int32)) (x0 : Nat) (x1 : Int32) (x2 : Int32) (x3 : Int32) : Option (Int32) :=
  if x3 < (I x0 3) then (ob (z_X5_leads F S I x0 x3 x1) (fun q1 => if q1 = 0 then (k4 (x0) (x1) (x2) (x3 + 1)) else (k4 (x0) (x1) (x2 + 1) (x3 + 1)))) else (some (x2))
def z_X5_countSources_4 (F : Nat) (S : zS) (I : zI)  : Nat → Nat → Int32 → Int32 → Int32 → Option (Int32)
  | 0 => fun _ _ _ _ => none
  | n + 1 => fun x0 x1 x2 x3 => z_X5_countSources_4B F S I  (z_X5_countSources_4 F S I  n) x0 x1 x2 x3
def z_X5_countSources (F : Nat) (S : zS) (I : zI) (x0 : Nat) (x1 : Int32) : Option (Int32) :=
  z_X5_countSources_4 F S I  F (x0) (x1) (0) (0)
set_option maxRecDepth 100000 in
set_option maxHeartbeats 4000000 in
theorem bb_X5_countSources_4 {p : Program} {l : Launch} {e : Env} {s : State} {m : MethodId} {args : Array Value} {below : List Frame} {meth : Method} {c : Code} {D : zD} {b0 : Nat} {F : Nat} {S : zS} {I : zI} {X : Int32} (hC : z_C p s m args meth c cX5_countSources RX5 4 (some .int) D) (hT : z_T b0 S) (k4 : Nat → Int32 → Int32 → Int32 → Option (Int32)) (hk4 : ∀ (x0 : Nat) (x1 : Int32) (x2 : Int32) (x3 : Int32) , z_is b0 S x0 5 → k4 x0 x1 x2 x3 = some X → ∀ ls : Array Slot, lv_has ls 4 [(0, .ref (x0)), (1, .int (x1)), (2, .int (x2)), (3, .int (x3))] → z_W p l e { frames := 4, cells := 0, slots := 0, locals := 86 } s m args below meth c D b0 S I 0 0 (MQ below (z_Q D b0 (some (.int (X))) S I) args s 0 0 (fun q => b0 ≤ q)) (F0 m 4 ls [])) (x0 : Nat) (x1 : Int32) (x2 : Int32) (x3 : Int32) (h_x0 : z_is b0 S x0 5) (hz : z_X5_countSources_4B F S I k4 x0 x1 x2 x3 = some X) (ls : Array Slot) (hl : lv_has ls 4 [(0, .ref (x0)), (1, .int (x1)), (2, .int (x2)), (3, .int (x3))]) : z_W p l e { frames := 4, cells := 0, slots := 0, locals := 86 } s m args below meth c D b0 S I 0 0 (MQ below (z_Q D b0 (some (.int (X))) S I) args s 0 0 (fun q => b0 ≤ q)) (F0 m 4 ls []) := by
  unfold z_X5_countSources_4B at hz
  refine z_iload_n hC dX5_countSources_4 rfl (lv_at hl 3 rfl) ?_
  refine z_aload_n hC dX5_countSources_5 rfl (lv_at hl 0 rfl) ?_
  refine z_getI hC zc_5 3 (by decide) kw_75 dX5_countSources_6 h_x0 rfl ?_
  refine z_icmp_ge (tgt := 30) hC dX5_countSources_9 (by decide) hz (fun hz => ?_) (fun hz => ?_)
  · skip
    refine z_iload_n hC dX5_countSources_30 rfl (lv_at hl 2 rfl) ?_
    obtain rfl := Option.some.inj hz
    exact z_iret hC hT dX5_countSources_31 (by decide) (by decide)
  · skip
    refine z_aload_n hC dX5_countSources_12 rfl (lv_at hl 0 rfl) ?_
    refine z_iload_n hC dX5_countSources_13 rfl (lv_at hl 3 rfl) ?_
    refine z_iload_n hC dX5_countSources_14 rfl (lv_at hl 1 rfl) ?_
    obtain ⟨q1, hq_q1, hz⟩ := ob_some hz
    refine z_callV (As := [.int (x3), .int (x1)]) hC hT (c_X5_leads F x0 x3 x1 h_x0 hq_q1) zy_X5_leads zc_5 zv_X5_leads kw_573 dX5_countSources_15 h_x0 rfl rfl hl.1 (Nat.le_of_ble_eq_true rfl) (by decide) (by decide) ?_
    refine z_if_eq (tgt := 24) hC dX5_countSources_18 (by decide) hz (fun hz => ?_) (fun hz => ?_)
    · skip
      refine z_iinc (k0 := 3) (v := x3 + 1) (lv' := [(3, .int (x3 + 1)), (0, .ref (x0)), (1, .int (x1)), (2, .int (x2))]) hC dX5_countSources_24 hl rfl rfl (by decide) rfl (fun ls hl => ?_)
      refine z_goto (tgt := 4) hC dX5_countSources_27 (by decide) ?_
      exact hk4 (x0) (x1) (x2) (x3 + 1) h_x0 hz ls (lv_sub hl [1, 2, 3, 0] rfl)
    · skip
      refine z_iinc (k0 := 2) (v := x2 + 1) (lv' := [(2, .int (x2 + 1)), (0, .ref (x0)), (1, .int (x1)), (3, .int (x3))]) hC dX5_countSources_21 hl rfl rfl (by decide) rfl (fun ls hl => ?_)
      refine z_iinc (k0 := 3) (v := x3 + 1) (lv' := [(3, .int (x3 + 1)), (2, .int (x2 + 1)), (0, .ref (x0)), (1, .int (x1))]) hC dX5_countSources_24 hl rfl rfl (by decide) rfl (fun ls hl => ?_)
      refine z_goto (tgt := 4) hC dX5_countSources_27 (by decide) ?_
      exact hk4 (x0) (x1) (x2 + 1) (x3 + 1) h_x0 hz ls (lv_sub hl [2, 3, 1, 0] rfl)
set_option maxRecDepth 100000 in
set_option maxHeartbeats 4000000 in
theorem b_X5_countSources_4 {p : Program} {l : Launch} {e : Env} {s : State} {m : MethodId} {args : Array Value} {below : List Frame} {meth : Method} {c : Code} {D : zD} {b0 : Nat} {F : Nat} {S : zS} {I : zI} {X : Int32} (hC : z_C p s m args meth c cX5_countSources RX5 4 (some .int) D) (hT : z_T b0 S)   : ∀ (n : Nat) (x0 : Nat) (x1 : Int32) (x2 : Int32) (x3 : Int32), z_is b0 S x0 5 → z_X5_countSources_4 F S I  n x0 x1 x2 x3 = some X → ∀ ls : Array Slot, lv_has ls 4 [(0, .ref (x0)), (1, .int (x1)), (2, .int (x2)), (3, .int (x3))] → z_W p l e { frames := 4, cells := 0, slots := 0, locals := 86 } s m args below meth c D b0 S I 0 0 (MQ below (z_Q D b0 (some (.int (X))) S I) args s 0 0 (fun q => b0 ≤ q)) (F0 m 4 ls []) := by
  intro n
  induction n with
  | zero => intro x0 x1 x2 x3 h_x0 hz; cases hz
  | succ n ih =>
    intro x0 x1 x2 x3 h_x0 hz ls hl
    exact bb_X5_countSources_4 (F := F) hC hT  (z_X5_countSources_4 F S I  n)  ih x0 x1 x2 x3 h_x0 hz ls hl
set_option maxRecDepth 100000 in
set_option maxHeartbeats 4000000 in
theorem c_X5_countSources {l : Launch} {D : zD} {b0 : Nat} {S : zS} {I : zI} {X : Int32} (F : Nat) (x0 : Nat) (x1 : Int32) (h_x0 : z_is b0 S x0 5) (hz : z_X5_countSources F S I x0 x1 = some X) : z_M l D b0 yX5_countSources cX5_countSources 4 (some .int) { frames := 4, cells := 0, slots := 0, locals := 86 } [.ref (x0), .int (x1)] S I (some (.int (X))) S I := by
  refine z_met (by decide) (Nat.le_of_ble_eq_true rfl) ?_
  intro p e s m below meth c hC hnm hT ls hl
  have hl : lv_has ls 4 [(0, .ref (x0)), (1, .int (x1))] := hl
  unfold z_X5_countSources at hz
  refine z_iconst (v := 0) hC dX5_countSources_0 (by decide) ?_
  refine z_istore_n (lv' := [(2, .int (0)), (0, .ref (x0)), (1, .int (x1))]) hC dX5_countSources_1 rfl hl (by decide) rfl (fun ls hl => ?_)
  refine z_iconst (v := 0) hC dX5_countSources_2 (by decide) ?_
  refine z_istore_n (lv' := [(3, .int (0)), (2, .int (0)), (0, .ref (x0)), (1, .int (x1))]) hC dX5_countSources_3 rfl hl (by decide) rfl (fun ls hl => ?_)
  exact b_X5_countSources_4 hC hT   F (x0) (x1) (0) (0) h_x0 hz ls (lv_sub hl [2, 3, 1, 0] rfl)
theorem zy_X5_setFrames : z_y yX5_setFrames cX5_setFrames 3 none 0 := ⟨kw_568, kw_3, by decide +kernel, by decide +kernel, by decide +kernel⟩
theorem zv_X5_setFrames : Cond.instanceMethod yX5_setFrames ∈ z_tbl ∧ Cond.selects RX5 yX5_setFrames yX5_setFrames ∈ z_tbl := ⟨kw_566, kw_567⟩
def z_X5_setFrames_2B (F : Nat) (S : zS) (k2 : Nat → Int32 → zI → Option (zI)) (x0 : Nat) (x1 : Int32) (I : zI) : Option (zI) :=
  if x1 < (I x0 3) then (ob (z_X5_actAt F S I x0 x1) (fun q1 => ob2 (q1) (k2 (x0) (x1 + 1) (I)) (fun r2 => if (I r2 3) = 0 then (k2 (x0) (x1 + 1) (I)) else (ob (z_X5_countSources F S I x0 x1) (fun q3 => if 0 < q3 then (ob (S.1 r2 7) (fun r4 => ob (S.1 r2 6) (fun r5 => ob (z_X6_become F S (z_up I r2 5 1) r4 r5) (fun q6 => k2 (x0) (x1 + 1) (q6))))) else (k2 (x0) (x1 + 1) (I))))))) else (some (I))
def z_X5_setFrames_2 (F : Nat) (S : zS)  : Nat → Nat → Int32 → zI → Option (zI)
  | 0 => fun _ _ _ => none
  | n + 1 => fun x0 x1 I => z_X5_setFrames_2B F S  (z_X5_setFrames_2 F S  n) x0 x1 I
def z_X5_setFrames (F : Nat) (S : zS) (I : zI) (x0 : Nat) : Option (zI) :=
  z_X5_setFrames_2 F S  F (x0) (0) (I)
set_option maxRecDepth 100000 in
set_option maxHeartbeats 4000000 in
theorem bb_X5_setFrames_2 {p : Program} {l : Launch} {e : Env} {s : State} {m : MethodId} {args : Array Value} {below : List Frame} {meth : Method} {c : Code} {D : zD} {b0 : Nat} {F : Nat} {S : zS} {X : zI} (hC : z_C p s m args meth c cX5_setFrames RX5 3 none D) (hT : z_T b0 S) (k2 : Nat → Int32 → zI → Option (zI)) (hk2 : ∀ (x0 : Nat) (x1 : Int32) (I : zI) , z_is b0 S x0 5 → k2 x0 x1 I = some X → ∀ ls : Array Slot, lv_has ls 3 [(0, .ref (x0)), (1, .int (x1))] → z_W p l e { frames := 5, cells := 0, slots := 0, locals := 109 } s m args below meth c D b0 S I 0 0 (MQ below (z_Q D b0 none S X) args s 0 0 (fun q => b0 ≤ q)) (F0 m 2 ls [])) (x0 : Nat) (x1 : Int32) (I : zI) (h_x0 : z_is b0 S x0 5) (hz : z_X5_setFrames_2B F S k2 x0 x1 I = some X) (ls : Array Slot) (hl : lv_has ls 3 [(0, .ref (x0)), (1, .int (x1))]) : z_W p l e { frames := 5, cells := 0, slots := 0, locals := 109 } s m args below meth c D b0 S I 0 0 (MQ below (z_Q D b0 none S X) args s 0 0 (fun q => b0 ≤ q)) (F0 m 2 ls []) := by
  unfold z_X5_setFrames_2B at hz
  refine z_iload_n hC dX5_setFrames_2 rfl (lv_at hl 1 rfl) ?_
  refine z_aload_n hC dX5_setFrames_3 rfl (lv_at hl 0 rfl) ?_
  refine z_getI hC zc_5 3 (by decide) kw_75 dX5_setFrames_4 h_x0 rfl ?_
  refine z_icmp_ge (tgt := 57) hC dX5_setFrames_7 (by decide) hz (fun hz => ?_) (fun hz => ?_)
  · skip
    obtain rfl := Option.some.inj hz
    exact z_vret hC hT dX5_setFrames_57 (by decide) (by decide)
  · skip
    refine z_aload_n hC dX5_setFrames_10 rfl (lv_at hl 0 rfl) ?_
    refine z_iload_n hC dX5_setFrames_11 rfl (lv_at hl 1 rfl) ?_
    obtain ⟨q1, hq_q1, hz⟩ := ob_some hz
    refine z_callV (As := [.int (x1)]) hC hT (c_X5_actAt F x0 x1 h_x0 hq_q1) zy_X5_actAt zc_5 zv_X5_actAt kw_384 dX5_setFrames_12 h_x0 rfl rfl hl.1 (Nat.le_of_ble_eq_true rfl) (by decide) (by decide) ?_
    rcases ob2_some hz with ⟨ho_r2, hz⟩ | ⟨r2, ho_r2, hz⟩
    · try rw [ho_r2]
      try rw [ho_r2] at hl
      refine z_astore_nN (lv' := [(2, .null), (0, .ref (x0)), (1, .int (x1))]) hC dX5_setFrames_15 rfl hl (by decide) rfl (fun ls hl => ?_)
      refine z_aload_nN hC dX5_setFrames_16 rfl (lv_at hl 0 rfl) ?_
      refine z_ifnullN (tgt := 51) hC dX5_setFrames_17 (by decide) ?_
      refine z_iinc (k0 := 2) (v := x1 + 1) (lv' := [(1, .int (x1 + 1)), (2, .null), (0, .ref (x0))]) hC dX5_setFrames_51 hl rfl rfl (by decide) rfl (fun ls hl => ?_)
      refine z_goto (tgt := 2) hC dX5_setFrames_54 (by decide) ?_
      exact hk2 (x0) (x1 + 1) (I) h_x0 hz ls (lv_sub hl [2, 0] rfl)
    · have hk_r2 : z_is b0 S r2 0 := (tk_X5_actAt hT h_x0 hq_q1) _ ho_r2
      try rw [ho_r2]
      try rw [ho_r2] at hl
      refine z_astore_n (lv' := [(2, .ref (r2)), (0, .ref (x0)), (1, .int (x1))]) hC dX5_setFrames_15 rfl hl (by decide) rfl (fun ls hl => ?_)
      refine z_aload_n hC dX5_setFrames_16 rfl (lv_at hl 0 rfl) ?_
      refine z_ifnull hC dX5_setFrames_17 ?_
      refine z_aload_n hC dX5_setFrames_20 rfl (lv_at hl 0 rfl) ?_
      refine z_getI hC zc_0 3 (by decide) kw_304 dX5_setFrames_21 hk_r2 rfl ?_
      refine z_if_eq (tgt := 51) hC dX5_setFrames_24 (by decide) hz (fun hz => ?_) (fun hz => ?_)
      · skip
        refine z_iinc (k0 := 2) (v := x1 + 1) (lv' := [(1, .int (x1 + 1)), (2, .ref (r2)), (0, .ref (x0))]) hC dX5_setFrames_51 hl rfl rfl (by decide) rfl (fun ls hl => ?_)
        refine z_goto (tgt := 2) hC dX5_setFrames_54 (by decide) ?_
        exact hk2 (x0) (x1 + 1) (I) h_x0 hz ls (lv_sub hl [2, 0] rfl)
      · skip
        refine z_aload_n hC dX5_setFrames_27 rfl (lv_at hl 1 rfl) ?_
        refine z_iload_n hC dX5_setFrames_28 rfl (lv_at hl 2 rfl) ?_
        obtain ⟨q3, hq_q3, hz⟩ := ob_some hz
        refine z_callV (As := [.int (x1)]) hC hT (c_X5_countSources F x0 x1 h_x0 hq_q3) zy_X5_countSources zc_5 zv_X5_countSources kw_569 dX5_setFrames_29 h_x0 rfl rfl hl.1 (Nat.le_of_ble_eq_true rfl) (by decide) (by decide) ?_
        refine z_if_le (tgt := 51) hC dX5_setFrames_32 (by decide) hz (fun hz => ?_) (fun hz => ?_)
        · skip
          refine z_iinc (k0 := 2) (v := x1 + 1) (lv' := [(1, .int (x1 + 1)), (2, .ref (r2)), (0, .ref (x0))]) hC dX5_setFrames_51 hl rfl rfl (by decide) rfl (fun ls hl => ?_)
          refine z_goto (tgt := 2) hC dX5_setFrames_54 (by decide) ?_
          exact hk2 (x0) (x1 + 1) (I) h_x0 hz ls (lv_sub hl [2, 0] rfl)
        · skip
          refine z_aload_n hC dX5_setFrames_35 rfl (lv_at hl 0 rfl) ?_
          refine z_iconst (v := 1) hC dX5_setFrames_36 (by decide) ?_
          refine z_putI hC zc_0 5 (by decide) kw_310 dX5_setFrames_37 hk_r2 rfl rfl (z_bool (Or.inr rfl)) (z_boolf (Or.inr rfl)) ?_
          refine z_aload_n hC dX5_setFrames_40 rfl (lv_at hl 0 rfl) ?_
          obtain ⟨r4, hr_r4, hz⟩ := ob_some hz
          have hk_r4 : z_is b0 S r4 6 := hT.at hk_r2 hr_r4
          refine z_getR hC zc_0 7 (by decide) kw_318 dX5_setFrames_41 hk_r2 rfl hr_r4 ?_
          refine z_aload_n hC dX5_setFrames_44 rfl (lv_at hl 0 rfl) ?_
          obtain ⟨r5, hr_r5, hz⟩ := ob_some hz
          have hk_r5 : z_is b0 S r5 6 := hT.at hk_r2 hr_r5
          refine z_getR hC zc_0 6 (by decide) kw_314 dX5_setFrames_45 hk_r2 rfl hr_r5 ?_
          obtain ⟨q6, hq_q6, hz⟩ := ob_some hz
          refine z_callV (As := [.ref (r5)]) hC hT (c_X6_become F r4 r5 hk_r4 hk_r5 hq_q6) zy_X6_become zc_6 zv_X6_become kw_584 dX5_setFrames_48 hk_r4 rfl rfl hl.1 (Nat.le_of_ble_eq_true rfl) (by decide) (by decide) ?_
          refine z_iinc (k0 := 2) (v := x1 + 1) (lv' := [(1, .int (x1 + 1)), (2, .ref (r2)), (0, .ref (x0))]) hC dX5_setFrames_51 hl rfl rfl (by decide) rfl (fun ls hl => ?_)
          refine z_goto (tgt := 2) hC dX5_setFrames_54 (by decide) ?_
          exact hk2 (x0) (x1 + 1) (q6) h_x0 hz ls (lv_sub hl [2, 0] rfl)
set_option maxRecDepth 100000 in
set_option maxHeartbeats 4000000 in
theorem b_X5_setFrames_2 {p : Program} {l : Launch} {e : Env} {s : State} {m : MethodId} {args : Array Value} {below : List Frame} {meth : Method} {c : Code} {D : zD} {b0 : Nat} {F : Nat} {S : zS} {X : zI} (hC : z_C p s m args meth c cX5_setFrames RX5 3 none D) (hT : z_T b0 S)   : ∀ (n : Nat) (x0 : Nat) (x1 : Int32) (I : zI), z_is b0 S x0 5 → z_X5_setFrames_2 F S  n x0 x1 I = some X → ∀ ls : Array Slot, lv_has ls 3 [(0, .ref (x0)), (1, .int (x1))] → z_W p l e { frames := 5, cells := 0, slots := 0, locals := 109 } s m args below meth c D b0 S I 0 0 (MQ below (z_Q D b0 none S X) args s 0 0 (fun q => b0 ≤ q)) (F0 m 2 ls []) := by
  intro n
  induction n with
  | zero => intro x0 x1 I h_x0 hz; cases hz
  | succ n ih =>
    intro x0 x1 I h_x0 hz ls hl
    exact bb_X5_setFrames_2 (F := F) hC hT  (z_X5_setFrames_2 F S  n)  ih x0 x1 I h_x0 hz ls hl
set_option maxRecDepth 100000 in
set_option maxHeartbeats 4000000 in
theorem c_X5_setFrames {l : Launch} {D : zD} {b0 : Nat} {S : zS} {I : zI} {X : zI} (F : Nat) (x0 : Nat) (h_x0 : z_is b0 S x0 5) (hz : z_X5_setFrames F S I x0 = some X) : z_M l D b0 yX5_setFrames cX5_setFrames 3 none { frames := 5, cells := 0, slots := 0, locals := 109 } [.ref (x0)] S I none S X := by
  refine z_met (by decide) (Nat.le_of_ble_eq_true rfl) ?_
  intro p e s m below meth c hC hnm hT ls hl
  have hl : lv_has ls 3 [(0, .ref (x0))] := hl
  unfold z_X5_setFrames at hz
  refine z_iconst (v := 0) hC dX5_setFrames_0 (by decide) ?_
  refine z_istore_n (lv' := [(1, .int (0)), (0, .ref (x0))]) hC dX5_setFrames_1 rfl hl (by decide) rfl (fun ls hl => ?_)
  exact b_X5_setFrames_2 hC hT   F (x0) (0) (I) h_x0 hz ls (lv_sub hl [1, 0] rfl)
theorem zy_X2_run : z_y yX2_run cX2_run 4 (some .int) 1 := ⟨kw_379, kw_6, by decide +kernel, by decide +kernel, by decide +kernel⟩
theorem zv_X2_run : Cond.instanceMethod yX2_run ∈ z_tbl ∧ Cond.selects RX2 yX2_run yX2_run ∈ z_tbl := ⟨kw_377, kw_378⟩
def z_X2_run_67 (F : Nat) (S : zS)  (x1 : Nat) (I : zI) : Option (Int32 × zI) :=
  ob (z_X5_setFrames F S I x1) (fun q1 => some ((-1), z_up q1 x1 7 1))
def z_X2_run_26B (F : Nat) (S : zS) (k26 : Nat → Nat → Int32 → Int32 → zI → Option (Int32 × zI)) (x0 : Nat) (x1 : Nat) (x2 : Int32) (x3 : Int32) (I : zI) : Option (Int32 × zI) :=
  if x3 < 1000000 then (if x2 = (-1) then (z_X2_run_67 F S  (x1) (I)) else (ob (z_X2_workOn F S I x0 x1 x2) (fun q1 => if ((z_up (q1.2) x0 4 (q1.1)) x0 4) = 0 then (ob (z_X5_leastDue F S (z_up (q1.2) x0 4 (q1.1)) x1) (fun q2 => k26 (x0) (x1) (q2) (x3 + 1) (z_up (q1.2) x0 4 (q1.1)))) else (some (x2, z_up (q1.2) x0 4 (q1.1)))))) else (z_X2_run_67 F S  (x1) (I))
def z_X2_run_26 (F : Nat) (S : zS)  : Nat → Nat → Nat → Int32 → Int32 → zI → Option (Int32 × zI)
  | 0 => fun _ _ _ _ _ => none
  | n + 1 => fun x0 x1 x2 x3 I => z_X2_run_26B F S  (z_X2_run_26 F S  n) x0 x1 x2 x3 I
def z_X2_run (F : Nat) (S : zS) (I : zI) (x0 : Nat) (x1 : Nat) : Option (Int32 × zI) :=
  ob (z_X5_forgetComputed F S I x1) (fun q1 => ob (S.1 x1 2) (fun r2 => ob (z_X2_arrive F S q1 x0 x1 (-1) 0 r2) (fun q3 => ob (z_X5_leastDue F S (z_up (q3.2) x0 4 (q3.1)) x1) (fun q4 => z_X2_run_26 F S  F (x0) (x1) (q4) (0) (z_up (q3.2) x0 4 (q3.1))))))
set_option maxRecDepth 100000 in
set_option maxHeartbeats 4000000 in
theorem b_X2_run_67 {p : Program} {l : Launch} {e : Env} {s : State} {m : MethodId} {args : Array Value} {below : List Frame} {meth : Method} {c : Code} {D : zD} {b0 : Nat} {F : Nat} {S : zS} {X : Int32 × zI} (hC : z_C p s m args meth c cX2_run RX2 4 (some .int) D) (hT : z_T b0 S)   (x1 : Nat) (I : zI) (h_x1 : z_is b0 S x1 5) (hz : z_X2_run_67 F S  x1 I = some X) (ls : Array Slot) (hl : lv_has ls 4 [(1, .ref (x1))]) : z_W p l e { frames := 6, cells := 0, slots := 0, locals := 149 } s m args below meth c D b0 S I 0 0 (MQ below (z_Q D b0 (some (.int (X.1))) S X.2) args s 0 0 (fun q => b0 ≤ q)) (F0 m 67 ls []) := by
  unfold z_X2_run_67 at hz
  refine z_aload_n hC dX2_run_67 rfl (lv_at hl 0 rfl) ?_
  obtain ⟨q1, hq_q1, hz⟩ := ob_some hz
  refine z_callV (As := []) hC hT (c_X5_setFrames F x1 h_x1 hq_q1) zy_X5_setFrames zc_5 zv_X5_setFrames kw_565 dX2_run_68 h_x1 rfl rfl hl.1 (Nat.le_of_ble_eq_true rfl) (by decide) (by decide) ?_
  refine z_aload_n hC dX2_run_71 rfl (lv_at hl 0 rfl) ?_
  refine z_iconst (v := 1) hC dX2_run_72 (by decide) ?_
  refine z_putI hC zc_5 7 (by decide) kw_86 dX2_run_73 h_x1 rfl rfl (z_bool (Or.inr rfl)) (z_boolf (Or.inr rfl)) ?_
  refine z_iconst (v := (-1)) hC dX2_run_76 (by decide) ?_
  obtain rfl := Option.some.inj hz
  exact z_iret hC hT dX2_run_77 (by decide) (by decide)
set_option maxRecDepth 100000 in
set_option maxHeartbeats 4000000 in
theorem bb_X2_run_26 {p : Program} {l : Launch} {e : Env} {s : State} {m : MethodId} {args : Array Value} {below : List Frame} {meth : Method} {c : Code} {D : zD} {b0 : Nat} {F : Nat} {S : zS} {X : Int32 × zI} (hC : z_C p s m args meth c cX2_run RX2 4 (some .int) D) (hT : z_T b0 S) (k26 : Nat → Nat → Int32 → Int32 → zI → Option (Int32 × zI)) (hk26 : ∀ (x0 : Nat) (x1 : Nat) (x2 : Int32) (x3 : Int32) (I : zI) , z_is b0 S x0 2 → z_is b0 S x1 5 → k26 x0 x1 x2 x3 I = some X → ∀ ls : Array Slot, lv_has ls 4 [(0, .ref (x0)), (1, .ref (x1)), (2, .int (x2)), (3, .int (x3))] → z_W p l e { frames := 6, cells := 0, slots := 0, locals := 149 } s m args below meth c D b0 S I 0 0 (MQ below (z_Q D b0 (some (.int (X.1))) S X.2) args s 0 0 (fun q => b0 ≤ q)) (F0 m 26 ls [])) (x0 : Nat) (x1 : Nat) (x2 : Int32) (x3 : Int32) (I : zI) (h_x0 : z_is b0 S x0 2) (h_x1 : z_is b0 S x1 5) (hz : z_X2_run_26B F S k26 x0 x1 x2 x3 I = some X) (ls : Array Slot) (hl : lv_has ls 4 [(0, .ref (x0)), (1, .ref (x1)), (2, .int (x2)), (3, .int (x3))]) : z_W p l e { frames := 6, cells := 0, slots := 0, locals := 149 } s m args below meth c D b0 S I 0 0 (MQ below (z_Q D b0 (some (.int (X.1))) S X.2) args s 0 0 (fun q => b0 ≤ q)) (F0 m 26 ls []) := by
  unfold z_X2_run_26B at hz
  refine z_iload_n hC dX2_run_26 rfl (lv_at hl 3 rfl) ?_
  refine z_ldc hC kw_433 dX2_run_27 ?_
  refine z_icmp_ge (tgt := 67) hC dX2_run_29 (by decide) hz (fun hz => ?_) (fun hz => ?_)
  · skip
    exact b_X2_run_67 hC hT   (x1) (I) h_x1 hz ls (lv_sub hl [1] rfl)
  · skip
    refine z_iload_n hC dX2_run_32 rfl (lv_at hl 2 rfl) ?_
    refine z_iconst (v := (-1)) hC dX2_run_33 (by decide) ?_
    refine z_icmp_eq (tgt := 67) hC dX2_run_34 (by decide) hz (fun hz => ?_) (fun hz => ?_)
    · skip
      exact b_X2_run_67 hC hT   (x1) (I) h_x1 hz ls (lv_sub hl [1] rfl)
    · skip
      refine z_aload_n hC dX2_run_37 rfl (lv_at hl 0 rfl) ?_
      refine z_aload_n hC dX2_run_38 rfl (lv_at hl 0 rfl) ?_
      refine z_aload_n hC dX2_run_39 rfl (lv_at hl 1 rfl) ?_
      refine z_iload_n hC dX2_run_40 rfl (lv_at hl 2 rfl) ?_
      obtain ⟨q1, hq_q1, hz⟩ := ob_some hz
      refine z_callV (As := [.ref (x1), .int (x2)]) hC hT (c_X2_workOn F x0 x1 x2 h_x0 h_x1 hq_q1) zy_X2_workOn zc_2 zv_X2_workOn kw_434 dX2_run_41 h_x0 rfl rfl hl.1 (Nat.le_of_ble_eq_true rfl) (by decide) (by decide) ?_
      refine z_putI hC zc_2 4 (by decide) kw_135 dX2_run_44 h_x0 rfl rfl rfl rfl ?_
      refine z_aload_n hC dX2_run_47 rfl (lv_at hl 0 rfl) ?_
      refine z_getI hC zc_2 4 (by decide) kw_135 dX2_run_48 h_x0 rfl ?_
      refine z_if_eq (tgt := 56) hC dX2_run_51 (by decide) hz (fun hz => ?_) (fun hz => ?_)
      · skip
        refine z_aload_n hC dX2_run_56 rfl (lv_at hl 1 rfl) ?_
        obtain ⟨q2, hq_q2, hz⟩ := ob_some hz
        refine z_callV (As := []) hC hT (c_X5_leastDue F x1 h_x1 hq_q2) zy_X5_leastDue zc_5 zv_X5_leastDue kw_429 dX2_run_57 h_x1 rfl rfl hl.1 (Nat.le_of_ble_eq_true rfl) (by decide) (by decide) ?_
        refine z_istore_n (lv' := [(2, .int (q2)), (0, .ref (x0)), (1, .ref (x1)), (3, .int (x3))]) hC dX2_run_60 rfl hl (by decide) rfl (fun ls hl => ?_)
        refine z_iinc (k0 := 3) (v := x3 + 1) (lv' := [(3, .int (x3 + 1)), (2, .int (q2)), (0, .ref (x0)), (1, .ref (x1))]) hC dX2_run_61 hl rfl rfl (by decide) rfl (fun ls hl => ?_)
        refine z_goto (tgt := 26) hC dX2_run_64 (by decide) ?_
        exact hk26 (x0) (x1) (q2) (x3 + 1) (z_up (q1.2) x0 4 (q1.1)) h_x0 h_x1 hz ls (lv_sub hl [2, 3, 1, 0] rfl)
      · skip
        refine z_iload_n hC dX2_run_54 rfl (lv_at hl 2 rfl) ?_
        obtain rfl := Option.some.inj hz
        exact z_iret hC hT dX2_run_55 (by decide) (by decide)
set_option maxRecDepth 100000 in
set_option maxHeartbeats 4000000 in
theorem b_X2_run_26 {p : Program} {l : Launch} {e : Env} {s : State} {m : MethodId} {args : Array Value} {below : List Frame} {meth : Method} {c : Code} {D : zD} {b0 : Nat} {F : Nat} {S : zS} {X : Int32 × zI} (hC : z_C p s m args meth c cX2_run RX2 4 (some .int) D) (hT : z_T b0 S)   : ∀ (n : Nat) (x0 : Nat) (x1 : Nat) (x2 : Int32) (x3 : Int32) (I : zI), z_is b0 S x0 2 → z_is b0 S x1 5 → z_X2_run_26 F S  n x0 x1 x2 x3 I = some X → ∀ ls : Array Slot, lv_has ls 4 [(0, .ref (x0)), (1, .ref (x1)), (2, .int (x2)), (3, .int (x3))] → z_W p l e { frames := 6, cells := 0, slots := 0, locals := 149 } s m args below meth c D b0 S I 0 0 (MQ below (z_Q D b0 (some (.int (X.1))) S X.2) args s 0 0 (fun q => b0 ≤ q)) (F0 m 26 ls []) := by
  intro n
  induction n with
  | zero => intro x0 x1 x2 x3 I h_x0 h_x1 hz; cases hz
  | succ n ih =>
    intro x0 x1 x2 x3 I h_x0 h_x1 hz ls hl
    exact bb_X2_run_26 (F := F) hC hT  (z_X2_run_26 F S  n)  ih x0 x1 x2 x3 I h_x0 h_x1 hz ls hl
set_option maxRecDepth 100000 in
set_option maxHeartbeats 4000000 in
theorem c_X2_run {l : Launch} {D : zD} {b0 : Nat} {S : zS} {I : zI} {X : Int32 × zI} (F : Nat) (x0 : Nat) (x1 : Nat) (h_x0 : z_is b0 S x0 2) (h_x1 : z_is b0 S x1 5) (hz : z_X2_run F S I x0 x1 = some X) : z_M l D b0 yX2_run cX2_run 4 (some .int) { frames := 6, cells := 0, slots := 0, locals := 149 } [.ref (x0), .ref (x1)] S I (some (.int (X.1))) S X.2 := by
  refine z_met (by decide) (Nat.le_of_ble_eq_true rfl) ?_
  intro p e s m below meth c hC hnm hT ls hl
  have hl : lv_has ls 4 [(0, .ref (x0)), (1, .ref (x1))] := hl
  unfold z_X2_run at hz
  refine z_aload_n hC dX2_run_0 rfl (lv_at hl 1 rfl) ?_
  obtain ⟨q1, hq_q1, hz⟩ := ob_some hz
  refine z_callV (As := []) hC hT (c_X5_forgetComputed F x1 h_x1 hq_q1) zy_X5_forgetComputed zc_5 zv_X5_forgetComputed kw_380 dX2_run_1 h_x1 rfl rfl hl.1 (Nat.le_of_ble_eq_true rfl) (by decide) (by decide) ?_
  refine z_aload_n hC dX2_run_4 rfl (lv_at hl 0 rfl) ?_
  refine z_aload_n hC dX2_run_5 rfl (lv_at hl 0 rfl) ?_
  refine z_aload_n hC dX2_run_6 rfl (lv_at hl 1 rfl) ?_
  refine z_iconst (v := (-1)) hC dX2_run_7 (by decide) ?_
  refine z_iconst (v := 0) hC dX2_run_8 (by decide) ?_
  refine z_aload_n hC dX2_run_9 rfl (lv_at hl 1 rfl) ?_
  obtain ⟨r2, hr_r2, hz⟩ := ob_some hz
  have hk_r2 : z_is b0 S r2 6 := hT.at h_x1 hr_r2
  refine z_getR hC zc_5 2 (by decide) kw_73 dX2_run_10 h_x1 rfl hr_r2 ?_
  obtain ⟨q3, hq_q3, hz⟩ := ob_some hz
  refine z_callV (As := [.ref (x1), .int ((-1)), .int (0), .ref (r2)]) hC hT (c_X2_arrive F x0 x1 (-1) 0 r2 h_x0 h_x1 hk_r2 hq_q3) zy_X2_arrive zc_2 zv_X2_arrive kw_392 dX2_run_13 h_x0 rfl rfl hl.1 (Nat.le_of_ble_eq_true rfl) (by decide) (by decide) ?_
  refine z_putI hC zc_2 4 (by decide) kw_135 dX2_run_16 h_x0 rfl rfl rfl rfl ?_
  refine z_aload_n hC dX2_run_19 rfl (lv_at hl 1 rfl) ?_
  obtain ⟨q4, hq_q4, hz⟩ := ob_some hz
  refine z_callV (As := []) hC hT (c_X5_leastDue F x1 h_x1 hq_q4) zy_X5_leastDue zc_5 zv_X5_leastDue kw_429 dX2_run_20 h_x1 rfl rfl hl.1 (Nat.le_of_ble_eq_true rfl) (by decide) (by decide) ?_
  refine z_istore_n (lv' := [(2, .int (q4)), (0, .ref (x0)), (1, .ref (x1))]) hC dX2_run_23 rfl hl (by decide) rfl (fun ls hl => ?_)
  refine z_iconst (v := 0) hC dX2_run_24 (by decide) ?_
  refine z_istore_n (lv' := [(3, .int (0)), (2, .int (q4)), (0, .ref (x0)), (1, .ref (x1))]) hC dX2_run_25 rfl hl (by decide) rfl (fun ls hl => ?_)
  exact b_X2_run_26 hC hT   F (x0) (x1) (q4) (0) (z_up (q3.2) x0 4 (q3.1)) h_x0 h_x1 hz ls (lv_sub hl [2, 3, 1, 0] rfl)
theorem zy_X3_init : z_y yX3_init cX3_init 1 none 0 := ⟨kw_351, kw_10, by decide +kernel, by decide +kernel, by decide +kernel⟩
def z_X3_init (F : Nat) (S : zS) (I : zI) (x0 : Nat) : Option (Unit) :=
  some (())
set_option maxRecDepth 100000 in
set_option maxHeartbeats 4000000 in
theorem c_X3_init {l : Launch} {D : zD} {b0 : Nat} {S : zS} {I : zI} {X : Unit} (F : Nat) (x0 : Nat) (h_x0 : z_is b0 S x0 3) (hz : z_X3_init F S I x0 = some X) : z_M l D b0 yX3_init cX3_init 1 none { frames := 1, cells := 0, slots := 0, locals := 40 } [.ref (x0)] S I none S I := by
  refine z_met (by decide) (Nat.le_of_ble_eq_true rfl) ?_
  intro p e s m below meth c hC hnm hT ls hl
  have hl : lv_has ls 1 [(0, .ref (x0))] := hl
  unfold z_X3_init at hz
  refine z_aload_n hC dX3_init_0 rfl (lv_at hl 0 rfl) ?_
  refine z_objInit hC kw_352 kw_19 kw_20 dX3_init_1 hl.1 (by decide) (Nat.le_of_ble_eq_true rfl) ?_
  obtain rfl := Option.some.inj hz
  exact z_vret hC hT dX3_init_4 (by decide) (by decide)
theorem zy_X4_takeFrame : z_y yX4_takeFrame cX4_takeFrame 2 (some .int) 1 := ⟨kw_678, kw_7, by decide +kernel, by decide +kernel, by decide +kernel⟩
theorem zv_X4_takeFrame : Cond.instanceMethod yX4_takeFrame ∈ z_tbl ∧ Cond.selects RX4 yX4_takeFrame yX4_takeFrame ∈ z_tbl := ⟨kw_677, ks_22⟩
def z_X4_takeFrame_49 (F : Nat) (S : zS)  (x0 : Nat) (x1 : Nat) (I : zI) : Option (Int32 × zI) :=
  ob (S.1 x0 2) (fun r1 => ob (S.1 x1 7) (fun r2 => ob (z_X6_become F S I r1 r2) (fun q3 => some (0, q3))))
def z_X4_takeFrame (F : Nat) (S : zS) (I : zI) (x0 : Nat) (x1 : Nat) : Option (Int32 × zI) :=
  if (I x1 5) = 0 then (if (I x0 4) = 0 then (some (8, I)) else (some (0, I))) else (if (I x0 4) = 0 then (z_X4_takeFrame_49 F S  (x0) (x1) (I)) else (ob (S.1 x0 0) (fun r1 => ob (S.1 x0 2) (fun r2 => ob (S.1 x1 7) (fun r3 => ob (z_X1_fitsAll F S I r1 r2 r3) (fun q4 => if q4 = 0 then (some (9, I)) else (z_X4_takeFrame_49 F S  (x0) (x1) (I))))))))
set_option maxRecDepth 100000 in
set_option maxHeartbeats 4000000 in
theorem b_X4_takeFrame_49 {p : Program} {l : Launch} {e : Env} {s : State} {m : MethodId} {args : Array Value} {below : List Frame} {meth : Method} {c : Code} {D : zD} {b0 : Nat} {F : Nat} {S : zS} {X : Int32 × zI} (hC : z_C p s m args meth c cX4_takeFrame RX4 2 (some .int) D) (hT : z_T b0 S)   (x0 : Nat) (x1 : Nat) (I : zI) (h_x0 : z_is b0 S x0 4) (h_x1 : z_is b0 S x1 0) (hz : z_X4_takeFrame_49 F S  x0 x1 I = some X) (ls : Array Slot) (hl : lv_has ls 2 [(0, .ref (x0)), (1, .ref (x1))]) : z_W p l e { frames := 3, cells := 0, slots := 0, locals := 67 } s m args below meth c D b0 S I 0 0 (MQ below (z_Q D b0 (some (.int (X.1))) S X.2) args s 0 0 (fun q => b0 ≤ q)) (F0 m 49 ls []) := by
  unfold z_X4_takeFrame_49 at hz
  refine z_aload_n hC dX4_takeFrame_49 rfl (lv_at hl 0 rfl) ?_
  obtain ⟨r1, hr_r1, hz⟩ := ob_some hz
  have hk_r1 : z_is b0 S r1 6 := hT.at h_x0 hr_r1
  refine z_getR hC zc_4 2 (by decide) kw_158 dX4_takeFrame_50 h_x0 rfl hr_r1 ?_
  refine z_aload_n hC dX4_takeFrame_53 rfl (lv_at hl 1 rfl) ?_
  obtain ⟨r2, hr_r2, hz⟩ := ob_some hz
  have hk_r2 : z_is b0 S r2 6 := hT.at h_x1 hr_r2
  refine z_getR hC zc_0 7 (by decide) kw_316 dX4_takeFrame_54 h_x1 rfl hr_r2 ?_
  obtain ⟨q3, hq_q3, hz⟩ := ob_some hz
  refine z_callV (As := [.ref (r2)]) hC hT (c_X6_become F r1 r2 hk_r1 hk_r2 hq_q3) zy_X6_become zc_6 zv_X6_become kw_669 dX4_takeFrame_57 hk_r1 rfl rfl hl.1 (Nat.le_of_ble_eq_true rfl) (by decide) (by decide) ?_
  refine z_iconst (v := 0) hC dX4_takeFrame_60 (by decide) ?_
  obtain rfl := Option.some.inj hz
  exact z_iret hC hT dX4_takeFrame_61 (by decide) (by decide)
set_option maxRecDepth 100000 in
set_option maxHeartbeats 4000000 in
theorem c_X4_takeFrame {l : Launch} {D : zD} {b0 : Nat} {S : zS} {I : zI} {X : Int32 × zI} (F : Nat) (x0 : Nat) (x1 : Nat) (h_x0 : z_is b0 S x0 4) (h_x1 : z_is b0 S x1 0) (hz : z_X4_takeFrame F S I x0 x1 = some X) : z_M l D b0 yX4_takeFrame cX4_takeFrame 2 (some .int) { frames := 3, cells := 0, slots := 0, locals := 67 } [.ref (x0), .ref (x1)] S I (some (.int (X.1))) S X.2 := by
  refine z_met (by decide) (Nat.le_of_ble_eq_true rfl) ?_
  intro p e s m below meth c hC hnm hT ls hl
  have hl : lv_has ls 2 [(0, .ref (x0)), (1, .ref (x1))] := hl
  unfold z_X4_takeFrame at hz
  refine z_aload_n hC dX4_takeFrame_0 rfl (lv_at hl 1 rfl) ?_
  refine z_getI hC zc_0 5 (by decide) kw_309 dX4_takeFrame_1 h_x1 rfl ?_
  refine z_if_ne (tgt := 21) hC dX4_takeFrame_4 (by decide) hz (fun hz => ?_) (fun hz => ?_)
  · skip
    refine z_aload_n hC dX4_takeFrame_21 rfl (lv_at hl 0 rfl) ?_
    refine z_getI hC zc_4 4 (by decide) kw_160 dX4_takeFrame_22 h_x0 rfl ?_
    refine z_if_eq (tgt := 49) hC dX4_takeFrame_25 (by decide) hz (fun hz => ?_) (fun hz => ?_)
    · skip
      exact b_X4_takeFrame_49 hC hT   (x0) (x1) (I) h_x0 h_x1 hz ls (lv_sub hl [0, 1] rfl)
    · skip
      refine z_aload_n hC dX4_takeFrame_28 rfl (lv_at hl 0 rfl) ?_
      obtain ⟨r1, hr_r1, hz⟩ := ob_some hz
      have hk_r1 : z_is b0 S r1 1 := hT.at h_x0 hr_r1
      refine z_getR hC zc_4 0 (by decide) kw_156 dX4_takeFrame_29 h_x0 rfl hr_r1 ?_
      refine z_aload_n hC dX4_takeFrame_32 rfl (lv_at hl 0 rfl) ?_
      obtain ⟨r2, hr_r2, hz⟩ := ob_some hz
      have hk_r2 : z_is b0 S r2 6 := hT.at h_x0 hr_r2
      refine z_getR hC zc_4 2 (by decide) kw_158 dX4_takeFrame_33 h_x0 rfl hr_r2 ?_
      refine z_aload_n hC dX4_takeFrame_36 rfl (lv_at hl 1 rfl) ?_
      obtain ⟨r3, hr_r3, hz⟩ := ob_some hz
      have hk_r3 : z_is b0 S r3 6 := hT.at h_x1 hr_r3
      refine z_getR hC zc_0 7 (by decide) kw_316 dX4_takeFrame_37 h_x1 rfl hr_r3 ?_
      obtain ⟨q4, hq_q4, hz⟩ := ob_some hz
      refine z_callV (As := [.ref (r2), .ref (r3)]) hC hT (c_X1_fitsAll F r1 r2 r3 hk_r1 hk_r2 hk_r3 hq_q4) zy_X1_fitsAll zc_1 zv_X1_fitsAll kw_679 dX4_takeFrame_40 hk_r1 rfl rfl hl.1 (Nat.le_of_ble_eq_true rfl) (by decide) (by decide) ?_
      refine z_if_ne (tgt := 49) hC dX4_takeFrame_43 (by decide) hz (fun hz => ?_) (fun hz => ?_)
      · skip
        exact b_X4_takeFrame_49 hC hT   (x0) (x1) (I) h_x0 h_x1 hz ls (lv_sub hl [0, 1] rfl)
      · skip
        refine z_bipush (v := 9) hC dX4_takeFrame_46 (by decide) ?_
        obtain rfl := Option.some.inj hz
        exact z_iret hC hT dX4_takeFrame_48 (by decide) (by decide)
  · skip
    refine z_aload_n hC dX4_takeFrame_7 rfl (lv_at hl 0 rfl) ?_
    refine z_getI hC zc_4 4 (by decide) kw_160 dX4_takeFrame_8 h_x0 rfl ?_
    refine z_if_eq (tgt := 18) hC dX4_takeFrame_11 (by decide) hz (fun hz => ?_) (fun hz => ?_)
    · skip
      refine z_bipush (v := 8) hC dX4_takeFrame_18 (by decide) ?_
      obtain rfl := Option.some.inj hz
      exact z_iret hC hT dX4_takeFrame_20 (by decide) (by decide)
    · skip
      refine z_iconst (v := 0) hC dX4_takeFrame_14 (by decide) ?_
      refine z_goto (tgt := 20) hC dX4_takeFrame_15 (by decide) ?_
      obtain rfl := Option.some.inj hz
      exact z_iret hC hT dX4_takeFrame_20 (by decide) (by decide)
