theorem zy_X4_meet : z_y yX4_meet cX4_meet 3 (some .int) 2 := ⟨kw_698, kw_7, by decide +kernel, by decide +kernel, by decide +kernel⟩
theorem zv_X4_meet : Cond.instanceMethod yX4_meet ∈ z_tbl ∧ Cond.selects RX4 yX4_meet yX4_meet ∈ z_tbl := ⟨kw_697, ks_24⟩
def z_X4_meet (F : Nat) (S : zS) (I : zI) (x0 : Nat) (x1 : Option Nat) (x2 : Nat) : Option (Int32) :=
  ob2 x1 (some (8)) (fun r0 => if (I r0 5) = 0 then (some (8)) else (ob (S.1 x0 0) (fun r1 => ob (S.1 r0 7) (fun r2 => ob (z_X1_fitsAll F S I r1 x2 r2) (fun q3 => if q3 = 0 then (some (9)) else (some (0)))))))
set_option maxRecDepth 100000 in
set_option maxHeartbeats 4000000 in
theorem c_X4_meet {l : Launch} {D : zD} {b0 : Nat} {S : zS} {I : zI} {X : Int32} (F : Nat) (x0 : Nat) (x1 : Option Nat) (x2 : Nat) (h_x0 : z_is b0 S x0 4) (h_x1 : ∀ r, x1 = some r → z_is b0 S r 0) (h_x2 : z_is b0 S x2 6) (hz : z_X4_meet F S I x0 x1 x2 = some X) : z_M l D b0 yX4_meet cX4_meet 3 (some .int) { frames := 3, cells := 0, slots := 0, locals := 67 } [.ref (x0), va_rf (x1), .ref (x2)] S I (some (.int (X))) S I := by
  unfold z_X4_meet at hz
  rcases ob2_some hz with ⟨ho, hz⟩ | ⟨r0, ho, hz⟩
  · subst ho
    refine z_met (by decide) (Nat.le_of_ble_eq_true rfl) ?_
    intro p e s m below meth c hC hnm hT ls hl
    have hl : lv_has ls 3 [(0, .ref (x0)), (1, .null), (2, .ref (x2))] := hl
    refine z_aload_nN hC dX4_meet_0 rfl (lv_at hl 1 rfl) ?_
    refine z_ifnullN (tgt := 11) hC dX4_meet_1 (by decide) ?_
    refine z_bipush (v := 8) hC dX4_meet_11 (by decide) ?_
    obtain rfl := Option.some.inj hz
    exact z_iret hC hT dX4_meet_13 (by decide) (by decide)
  · have hk_r0 := h_x1 _ ho
    subst ho
    refine z_met (by decide) (Nat.le_of_ble_eq_true rfl) ?_
    intro p e s m below meth c hC hnm hT ls hl
    have hl : lv_has ls 3 [(0, .ref (x0)), (1, .ref (r0)), (2, .ref (x2))] := hl
    refine z_aload_n hC dX4_meet_0 rfl (lv_at hl 1 rfl) ?_
    refine z_ifnull hC dX4_meet_1 ?_
    refine z_aload_n hC dX4_meet_4 rfl (lv_at hl 1 rfl) ?_
    refine z_getI hC zc_0 5 (by decide) kw_309 dX4_meet_5 hk_r0 rfl ?_
    refine z_if_ne (tgt := 14) hC dX4_meet_8 (by decide) hz (fun hz => ?_) (fun hz => ?_)
    · skip
      refine z_aload_n hC dX4_meet_14 rfl (lv_at hl 0 rfl) ?_
      obtain ⟨r1, hr_r1, hz⟩ := ob_some hz
      have hk_r1 : z_is b0 S r1 1 := hT.at h_x0 hr_r1
      refine z_getR hC zc_4 0 (by decide) kw_156 dX4_meet_15 h_x0 rfl hr_r1 ?_
      refine z_aload_n hC dX4_meet_18 rfl (lv_at hl 2 rfl) ?_
      refine z_aload_n hC dX4_meet_19 rfl (lv_at hl 1 rfl) ?_
      obtain ⟨r2, hr_r2, hz⟩ := ob_some hz
      have hk_r2 : z_is b0 S r2 6 := hT.at hk_r0 hr_r2
      refine z_getR hC zc_0 7 (by decide) kw_316 dX4_meet_20 hk_r0 rfl hr_r2 ?_
      obtain ⟨q3, hq_q3, hz⟩ := ob_some hz
      refine z_callV (As := [.ref (x2), .ref (r2)]) hC hT (c_X1_fitsAll F r1 x2 r2 hk_r1 h_x2 hk_r2 hq_q3) zy_X1_fitsAll zc_1 zv_X1_fitsAll kw_679 dX4_meet_23 hk_r1 rfl rfl hl.1 (Nat.le_of_ble_eq_true rfl) (by decide) (by decide) ?_
      refine z_if_eq (tgt := 33) hC dX4_meet_26 (by decide) hz (fun hz => ?_) (fun hz => ?_)
      · skip
        refine z_bipush (v := 9) hC dX4_meet_33 (by decide) ?_
        obtain rfl := Option.some.inj hz
        exact z_iret hC hT dX4_meet_35 (by decide) (by decide)
      · skip
        refine z_iconst (v := 0) hC dX4_meet_29 (by decide) ?_
        refine z_goto (tgt := 35) hC dX4_meet_30 (by decide) ?_
        obtain rfl := Option.some.inj hz
        exact z_iret hC hT dX4_meet_35 (by decide) (by decide)
    · skip
      refine z_bipush (v := 8) hC dX4_meet_11 (by decide) ?_
      obtain rfl := Option.some.inj hz
      exact z_iret hC hT dX4_meet_13 (by decide) (by decide)
theorem zy_X4_lookAtGuards : z_y yX4_lookAtGuards cX4_lookAtGuards 6 (some .int) 2 := ⟨kw_692, kw_7, by decide +kernel, by decide +kernel, by decide +kernel⟩
theorem zv_X4_lookAtGuards : Cond.instanceMethod yX4_lookAtGuards ∈ z_tbl ∧ Cond.selects RX4 yX4_lookAtGuards yX4_lookAtGuards ∈ z_tbl := ⟨kw_691, ks_23⟩
def z_X4_lookAtGuards_2B (F : Nat) (S : zS) (k2 : Nat → Nat → Int32 → Int32 → zI → Option (Int32 × zI)) (x0 : Nat) (x1 : Nat) (x2 : Int32) (x3 : Int32) (I : zI) : Option (Int32 × zI) :=
  if x3 < (I x1 4) then (ob (z_X5_guardOver F S I x1 x3 x2) (fun q1 => ob2 (q1) (k2 (x0) (x1) (x2) (x3 + 1) (I)) (fun r2 => ob (S.1 x0 3) (fun r3 => ob (S.1 x0 2) (fun r4 => ob (z_X6_becomeCaught F S I r3 r4 (I r2 3)) (fun q5 => ob (z_X5_actAt F S q5 x1 (q5 r2 2)) (fun q6 => ob (z_X4_meet F S q5 x0 q6 r3) (fun q7 => if q7 = 0 then (k2 (x0) (x1) (x2) (x3 + 1) (q5)) else (some (q7, q5)))))))))) else (some (0, I))
def z_X4_lookAtGuards_2 (F : Nat) (S : zS)  : Nat → Nat → Nat → Int32 → Int32 → zI → Option (Int32 × zI)
  | 0 => fun _ _ _ _ _ => none
  | n + 1 => fun x0 x1 x2 x3 I => z_X4_lookAtGuards_2B F S  (z_X4_lookAtGuards_2 F S  n) x0 x1 x2 x3 I
def z_X4_lookAtGuards (F : Nat) (S : zS) (I : zI) (x0 : Nat) (x1 : Nat) (x2 : Int32) : Option (Int32 × zI) :=
  z_X4_lookAtGuards_2 F S  F (x0) (x1) (x2) (0) (I)
set_option maxRecDepth 100000 in
set_option maxHeartbeats 4000000 in
theorem bb_X4_lookAtGuards_2 {p : Program} {l : Launch} {e : Env} {s : State} {m : MethodId} {args : Array Value} {below : List Frame} {meth : Method} {c : Code} {D : zD} {b0 : Nat} {F : Nat} {S : zS} {X : Int32 × zI} (hC : z_C p s m args meth c cX4_lookAtGuards RX4 6 (some .int) D) (hT : z_T b0 S) (k2 : Nat → Nat → Int32 → Int32 → zI → Option (Int32 × zI)) (hk2 : ∀ (x0 : Nat) (x1 : Nat) (x2 : Int32) (x3 : Int32) (I : zI) , z_is b0 S x0 4 → z_is b0 S x1 5 → k2 x0 x1 x2 x3 I = some X → ∀ ls : Array Slot, lv_has ls 6 [(0, .ref (x0)), (1, .ref (x1)), (2, .int (x2)), (3, .int (x3))] → z_W p l e { frames := 4, cells := 0, slots := 0, locals := 89 } s m args below meth c D b0 S I 0 0 (MQ below (z_Q D b0 (some (.int (X.1))) S X.2) args s 0 0 (fun q => b0 ≤ q)) (F0 m 2 ls [])) (x0 : Nat) (x1 : Nat) (x2 : Int32) (x3 : Int32) (I : zI) (h_x0 : z_is b0 S x0 4) (h_x1 : z_is b0 S x1 5) (hz : z_X4_lookAtGuards_2B F S k2 x0 x1 x2 x3 I = some X) (ls : Array Slot) (hl : lv_has ls 6 [(0, .ref (x0)), (1, .ref (x1)), (2, .int (x2)), (3, .int (x3))]) : z_W p l e { frames := 4, cells := 0, slots := 0, locals := 89 } s m args below meth c D b0 S I 0 0 (MQ below (z_Q D b0 (some (.int (X.1))) S X.2) args s 0 0 (fun q => b0 ≤ q)) (F0 m 2 ls []) := by
  unfold z_X4_lookAtGuards_2B at hz
  refine z_iload_n hC dX4_lookAtGuards_2 rfl (lv_at hl 3 rfl) ?_
  refine z_aload_n hC dX4_lookAtGuards_3 rfl (lv_at hl 1 rfl) ?_
  refine z_getI hC zc_5 4 (by decide) kw_80 dX4_lookAtGuards_4 h_x1 rfl ?_
  refine z_icmp_ge (tgt := 72) hC dX4_lookAtGuards_7 (by decide) hz (fun hz => ?_) (fun hz => ?_)
  · skip
    refine z_iconst (v := 0) hC dX4_lookAtGuards_72 (by decide) ?_
    obtain rfl := Option.some.inj hz
    exact z_iret hC hT dX4_lookAtGuards_73 (by decide) (by decide)
  · skip
    refine z_aload_n hC dX4_lookAtGuards_10 rfl (lv_at hl 1 rfl) ?_
    refine z_iload_n hC dX4_lookAtGuards_11 rfl (lv_at hl 3 rfl) ?_
    refine z_iload_n hC dX4_lookAtGuards_12 rfl (lv_at hl 2 rfl) ?_
    obtain ⟨q1, hq_q1, hz⟩ := ob_some hz
    refine z_callV (As := [.int (x3), .int (x2)]) hC hT (c_X5_guardOver F x1 x3 x2 h_x1 hq_q1) zy_X5_guardOver zc_5 zv_X5_guardOver kw_693 dX4_lookAtGuards_13 h_x1 rfl rfl hl.1 (Nat.le_of_ble_eq_true rfl) (by decide) (by decide) ?_
    rcases ob2_some hz with ⟨ho_r2, hz⟩ | ⟨r2, ho_r2, hz⟩
    · try rw [ho_r2]
      try rw [ho_r2] at hl
      refine z_astoreN (lv' := [(4, .null), (0, .ref (x0)), (1, .ref (x1)), (2, .int (x2)), (3, .int (x3))]) hC dX4_lookAtGuards_16 hl (by decide) rfl (fun ls hl => ?_)
      refine z_aloadN hC dX4_lookAtGuards_18 (lv_at hl 0 rfl) ?_
      refine z_ifnullN (tgt := 66) hC dX4_lookAtGuards_20 (by decide) ?_
      refine z_iinc (k0 := 4) (v := x3 + 1) (lv' := [(3, .int (x3 + 1)), (4, .null), (0, .ref (x0)), (1, .ref (x1)), (2, .int (x2))]) hC dX4_lookAtGuards_66 hl rfl rfl (by decide) rfl (fun ls hl => ?_)
      refine z_goto (tgt := 2) hC dX4_lookAtGuards_69 (by decide) ?_
      exact hk2 (x0) (x1) (x2) (x3 + 1) (I) h_x0 h_x1 hz ls (lv_sub hl [2, 3, 4, 0] rfl)
    · have hk_r2 : z_is b0 S r2 3 := (tk_X5_guardOver hT h_x1 hq_q1) _ ho_r2
      try rw [ho_r2]
      try rw [ho_r2] at hl
      refine z_astore (lv' := [(4, .ref (r2)), (0, .ref (x0)), (1, .ref (x1)), (2, .int (x2)), (3, .int (x3))]) hC dX4_lookAtGuards_16 hl (by decide) rfl (fun ls hl => ?_)
      refine z_aload hC dX4_lookAtGuards_18 (lv_at hl 0 rfl) ?_
      refine z_ifnull hC dX4_lookAtGuards_20 ?_
      refine z_aload_n hC dX4_lookAtGuards_23 rfl (lv_at hl 1 rfl) ?_
      obtain ⟨r3, hr_r3, hz⟩ := ob_some hz
      have hk_r3 : z_is b0 S r3 6 := hT.at h_x0 hr_r3
      refine z_getR hC zc_4 3 (by decide) kw_159 dX4_lookAtGuards_24 h_x0 rfl hr_r3 ?_
      refine z_aload_n hC dX4_lookAtGuards_27 rfl (lv_at hl 1 rfl) ?_
      obtain ⟨r4, hr_r4, hz⟩ := ob_some hz
      have hk_r4 : z_is b0 S r4 6 := hT.at h_x0 hr_r4
      refine z_getR hC zc_4 2 (by decide) kw_158 dX4_lookAtGuards_28 h_x0 rfl hr_r4 ?_
      refine z_aload hC dX4_lookAtGuards_31 (lv_at hl 0 rfl) ?_
      refine z_getI hC zc_3 3 (by decide) kw_361 dX4_lookAtGuards_33 hk_r2 rfl ?_
      obtain ⟨q5, hq_q5, hz⟩ := ob_some hz
      refine z_callV (As := [.ref (r4), .int (I r2 3)]) hC hT (c_X6_becomeCaught F r3 r4 (I r2 3) hk_r3 hk_r4 hq_q5) zy_X6_becomeCaught zc_6 zv_X6_becomeCaught kw_694 dX4_lookAtGuards_36 hk_r3 rfl rfl hl.1 (Nat.le_of_ble_eq_true rfl) (by decide) (by decide) ?_
      refine z_aload_n hC dX4_lookAtGuards_39 rfl (lv_at hl 1 rfl) ?_
      refine z_aload_n hC dX4_lookAtGuards_40 rfl (lv_at hl 2 rfl) ?_
      refine z_aload hC dX4_lookAtGuards_41 (lv_at hl 0 rfl) ?_
      refine z_getI hC zc_3 2 (by decide) kw_358 dX4_lookAtGuards_43 hk_r2 rfl ?_
      obtain ⟨q6, hq_q6, hz⟩ := ob_some hz
      refine z_callV (As := [.int (q5 r2 2)]) hC hT (c_X5_actAt F x1 (q5 r2 2) h_x1 hq_q6) zy_X5_actAt zc_5 zv_X5_actAt kw_674 dX4_lookAtGuards_46 h_x1 rfl rfl hl.1 (Nat.le_of_ble_eq_true rfl) (by decide) (by decide) ?_
      refine z_aload_n hC dX4_lookAtGuards_49 rfl (lv_at hl 1 rfl) ?_
      refine z_getR hC zc_4 3 (by decide) kw_159 dX4_lookAtGuards_50 h_x0 rfl hr_r3 ?_
      obtain ⟨q7, hq_q7, hz⟩ := ob_some hz
      refine z_callV (As := [va_rf (q6), .ref (r3)]) hC hT (c_X4_meet F x0 q6 r3 h_x0 (tk_X5_actAt hT h_x1 hq_q6) hk_r3 hq_q7) zy_X4_meet zc_4 zv_X4_meet kw_695 dX4_lookAtGuards_53 h_x0 rfl rfl hl.1 (Nat.le_of_ble_eq_true rfl) (by decide) (by decide) ?_
      refine z_istore (lv' := [(5, .int (q7)), (4, .ref (r2)), (0, .ref (x0)), (1, .ref (x1)), (2, .int (x2)), (3, .int (x3))]) hC dX4_lookAtGuards_56 hl (by decide) rfl (fun ls hl => ?_)
      refine z_iload hC dX4_lookAtGuards_58 (lv_at hl 0 rfl) ?_
      refine z_if_eq (tgt := 66) hC dX4_lookAtGuards_60 (by decide) hz (fun hz => ?_) (fun hz => ?_)
      · skip
        refine z_iinc (k0 := 5) (v := x3 + 1) (lv' := [(3, .int (x3 + 1)), (5, .int (q7)), (4, .ref (r2)), (0, .ref (x0)), (1, .ref (x1)), (2, .int (x2))]) hC dX4_lookAtGuards_66 hl rfl rfl (by decide) rfl (fun ls hl => ?_)
        refine z_goto (tgt := 2) hC dX4_lookAtGuards_69 (by decide) ?_
        exact hk2 (x0) (x1) (x2) (x3 + 1) (q5) h_x0 h_x1 hz ls (lv_sub hl [3, 4, 5, 0] rfl)
      · skip
        refine z_iload hC dX4_lookAtGuards_63 (lv_at hl 0 rfl) ?_
        obtain rfl := Option.some.inj hz
        exact z_iret hC hT dX4_lookAtGuards_65 (by decide) (by decide)
set_option maxRecDepth 100000 in
set_option maxHeartbeats 4000000 in
theorem b_X4_lookAtGuards_2 {p : Program} {l : Launch} {e : Env} {s : State} {m : MethodId} {args : Array Value} {below : List Frame} {meth : Method} {c : Code} {D : zD} {b0 : Nat} {F : Nat} {S : zS} {X : Int32 × zI} (hC : z_C p s m args meth c cX4_lookAtGuards RX4 6 (some .int) D) (hT : z_T b0 S)   : ∀ (n : Nat) (x0 : Nat) (x1 : Nat) (x2 : Int32) (x3 : Int32) (I : zI), z_is b0 S x0 4 → z_is b0 S x1 5 → z_X4_lookAtGuards_2 F S  n x0 x1 x2 x3 I = some X → ∀ ls : Array Slot, lv_has ls 6 [(0, .ref (x0)), (1, .ref (x1)), (2, .int (x2)), (3, .int (x3))] → z_W p l e { frames := 4, cells := 0, slots := 0, locals := 89 } s m args below meth c D b0 S I 0 0 (MQ below (z_Q D b0 (some (.int (X.1))) S X.2) args s 0 0 (fun q => b0 ≤ q)) (F0 m 2 ls []) := by
  intro n
  induction n with
  | zero => intro x0 x1 x2 x3 I h_x0 h_x1 hz; cases hz
  | succ n ih =>
    intro x0 x1 x2 x3 I h_x0 h_x1 hz ls hl
    exact bb_X4_lookAtGuards_2 (F := F) hC hT  (z_X4_lookAtGuards_2 F S  n)  ih x0 x1 x2 x3 I h_x0 h_x1 hz ls hl
set_option maxRecDepth 100000 in
set_option maxHeartbeats 4000000 in
theorem c_X4_lookAtGuards {l : Launch} {D : zD} {b0 : Nat} {S : zS} {I : zI} {X : Int32 × zI} (F : Nat) (x0 : Nat) (x1 : Nat) (x2 : Int32) (h_x0 : z_is b0 S x0 4) (h_x1 : z_is b0 S x1 5) (hz : z_X4_lookAtGuards F S I x0 x1 x2 = some X) : z_M l D b0 yX4_lookAtGuards cX4_lookAtGuards 6 (some .int) { frames := 4, cells := 0, slots := 0, locals := 89 } [.ref (x0), .ref (x1), .int (x2)] S I (some (.int (X.1))) S X.2 := by
  refine z_met (by decide) (Nat.le_of_ble_eq_true rfl) ?_
  intro p e s m below meth c hC hnm hT ls hl
  have hl : lv_has ls 6 [(0, .ref (x0)), (1, .ref (x1)), (2, .int (x2))] := hl
  unfold z_X4_lookAtGuards at hz
  refine z_iconst (v := 0) hC dX4_lookAtGuards_0 (by decide) ?_
  refine z_istore_n (lv' := [(3, .int (0)), (0, .ref (x0)), (1, .ref (x1)), (2, .int (x2))]) hC dX4_lookAtGuards_1 rfl hl (by decide) rfl (fun ls hl => ?_)
  exact b_X4_lookAtGuards_2 hC hT   F (x0) (x1) (x2) (0) (I) h_x0 h_x1 hz ls (lv_sub hl [1, 2, 3, 0] rfl)
theorem zy_X4_lookAtTargets : z_y yX4_lookAtTargets cX4_lookAtTargets 8 (some .int) 3 := ⟨kw_703, kw_7, by decide +kernel, by decide +kernel, by decide +kernel⟩
theorem zv_X4_lookAtTargets : Cond.instanceMethod yX4_lookAtTargets ∈ z_tbl ∧ Cond.selects RX4 yX4_lookAtTargets yX4_lookAtTargets ∈ z_tbl := ⟨kw_702, ks_25⟩
def z_X4_lookAtTargets_53 (F : Nat) (S : zS) (I : zI) (k12 : Nat → Nat → Int32 → Int32 → Int32 → Option (Int32)) (x0 : Nat) (x1 : Nat) (x2 : Int32) (x4 : Int32) (x5 : Int32) (x6 : Nat) : Option (Int32) :=
  ob (S.1 x0 2) (fun r1 => ob (z_X4_meet F S I x0 (some x6) r1) (fun q2 => if q2 = 0 then (k12 (x0) (x1) (x2) (x4) (x5 + 1)) else (some (q2))))
def z_X4_lookAtTargets_12B (F : Nat) (S : zS) (I : zI) (k12 : Nat → Nat → Int32 → Int32 → Int32 → Option (Int32)) (x0 : Nat) (x1 : Nat) (x2 : Int32) (x4 : Int32) (x5 : Int32) : Option (Int32) :=
  if x4 < x5 then (some (0)) else (ob (z_X5_actAt F S I x1 x5) (fun q1 => ob2 (q1) (some (5)) (fun r2 => if x2 < x5 then (z_X4_lookAtTargets_53 F S I k12 (x0) (x1) (x2) (x4) (x5) (r2)) else (ob (S.1 x0 2) (fun r3 => ob (z_X6_hasUnmade F S I r3) (fun q4 => if q4 = 0 then (z_X4_lookAtTargets_53 F S I k12 (x0) (x1) (x2) (x4) (x5) (r2)) else (some (6))))))))
def z_X4_lookAtTargets_12 (F : Nat) (S : zS) (I : zI)  : Nat → Nat → Nat → Int32 → Int32 → Int32 → Option (Int32)
  | 0 => fun _ _ _ _ _ => none
  | n + 1 => fun x0 x1 x2 x4 x5 => z_X4_lookAtTargets_12B F S I  (z_X4_lookAtTargets_12 F S I  n) x0 x1 x2 x4 x5
def z_X4_lookAtTargets (F : Nat) (S : zS) (I : zI) (x0 : Nat) (x1 : Nat) (x2 : Int32) (x3 : Nat) : Option (Int32) :=
  ob (z_X0_lastTarget F S I x3) (fun q1 => ob (z_X0_firstTarget F S I x3) (fun q2 => z_X4_lookAtTargets_12 F S I  F (x0) (x1) (x2) (q1) (q2)))
set_option maxRecDepth 100000 in
set_option maxHeartbeats 4000000 in
theorem b_X4_lookAtTargets_53 {p : Program} {l : Launch} {e : Env} {s : State} {m : MethodId} {args : Array Value} {below : List Frame} {meth : Method} {c : Code} {D : zD} {b0 : Nat} {F : Nat} {S : zS} {I : zI} {X : Int32} (hC : z_C p s m args meth c cX4_lookAtTargets RX4 8 (some .int) D) (hT : z_T b0 S) (k12 : Nat → Nat → Int32 → Int32 → Int32 → Option (Int32)) (hk12 : ∀ (x0 : Nat) (x1 : Nat) (x2 : Int32) (x4 : Int32) (x5 : Int32) , z_is b0 S x0 4 → z_is b0 S x1 5 → k12 x0 x1 x2 x4 x5 = some X → ∀ ls : Array Slot, lv_has ls 8 [(0, .ref (x0)), (1, .ref (x1)), (2, .int (x2)), (4, .int (x4)), (5, .int (x5))] → z_W p l e { frames := 4, cells := 0, slots := 0, locals := 89 } s m args below meth c D b0 S I 0 0 (MQ below (z_Q D b0 (some (.int (X))) S I) args s 0 0 (fun q => b0 ≤ q)) (F0 m 12 ls [])) (x0 : Nat) (x1 : Nat) (x2 : Int32) (x4 : Int32) (x5 : Int32) (x6 : Nat) (h_x0 : z_is b0 S x0 4) (h_x1 : z_is b0 S x1 5) (h_x6 : z_is b0 S x6 0) (hz : z_X4_lookAtTargets_53 F S I k12 x0 x1 x2 x4 x5 x6 = some X) (ls : Array Slot) (hl : lv_has ls 8 [(0, .ref (x0)), (1, .ref (x1)), (2, .int (x2)), (4, .int (x4)), (5, .int (x5)), (6, .ref (x6))]) : z_W p l e { frames := 4, cells := 0, slots := 0, locals := 89 } s m args below meth c D b0 S I 0 0 (MQ below (z_Q D b0 (some (.int (X))) S I) args s 0 0 (fun q => b0 ≤ q)) (F0 m 53 ls []) := by
  unfold z_X4_lookAtTargets_53 at hz
  refine z_aload_n hC dX4_lookAtTargets_53 rfl (lv_at hl 0 rfl) ?_
  refine z_aload hC dX4_lookAtTargets_54 (lv_at hl 5 rfl) ?_
  refine z_aload_n hC dX4_lookAtTargets_56 rfl (lv_at hl 0 rfl) ?_
  obtain ⟨r1, hr_r1, hz⟩ := ob_some hz
  have hk_r1 : z_is b0 S r1 6 := hT.at h_x0 hr_r1
  refine z_getR hC zc_4 2 (by decide) kw_158 dX4_lookAtTargets_57 h_x0 rfl hr_r1 ?_
  obtain ⟨q2, hq_q2, hz⟩ := ob_some hz
  refine z_callV (As := [.ref (x6), .ref (r1)]) hC hT (c_X4_meet F x0 (some x6) r1 h_x0 (fun _ h9 => by cases h9; exact h_x6) hk_r1 hq_q2) zy_X4_meet zc_4 zv_X4_meet kw_695 dX4_lookAtTargets_60 h_x0 rfl rfl hl.1 (Nat.le_of_ble_eq_true rfl) (by decide) (by decide) ?_
  refine z_istore (lv' := [(7, .int (q2)), (0, .ref (x0)), (1, .ref (x1)), (2, .int (x2)), (4, .int (x4)), (5, .int (x5)), (6, .ref (x6))]) hC dX4_lookAtTargets_63 hl (by decide) rfl (fun ls hl => ?_)
  refine z_iload hC dX4_lookAtTargets_65 (lv_at hl 0 rfl) ?_
  refine z_if_eq (tgt := 73) hC dX4_lookAtTargets_67 (by decide) hz (fun hz => ?_) (fun hz => ?_)
  · skip
    refine z_iinc (k0 := 5) (v := x5 + 1) (lv' := [(5, .int (x5 + 1)), (7, .int (q2)), (0, .ref (x0)), (1, .ref (x1)), (2, .int (x2)), (4, .int (x4)), (6, .ref (x6))]) hC dX4_lookAtTargets_73 hl rfl rfl (by decide) rfl (fun ls hl => ?_)
    refine z_goto (tgt := 12) hC dX4_lookAtTargets_76 (by decide) ?_
    exact hk12 (x0) (x1) (x2) (x4) (x5 + 1) h_x0 h_x1 hz ls (lv_sub hl [2, 3, 4, 5, 0] rfl)
  · skip
    refine z_iload hC dX4_lookAtTargets_70 (lv_at hl 0 rfl) ?_
    obtain rfl := Option.some.inj hz
    exact z_iret hC hT dX4_lookAtTargets_72 (by decide) (by decide)
set_option maxRecDepth 100000 in
set_option maxHeartbeats 4000000 in
theorem bb_X4_lookAtTargets_12 {p : Program} {l : Launch} {e : Env} {s : State} {m : MethodId} {args : Array Value} {below : List Frame} {meth : Method} {c : Code} {D : zD} {b0 : Nat} {F : Nat} {S : zS} {I : zI} {X : Int32} (hC : z_C p s m args meth c cX4_lookAtTargets RX4 8 (some .int) D) (hT : z_T b0 S) (k12 : Nat → Nat → Int32 → Int32 → Int32 → Option (Int32)) (hk12 : ∀ (x0 : Nat) (x1 : Nat) (x2 : Int32) (x4 : Int32) (x5 : Int32) , z_is b0 S x0 4 → z_is b0 S x1 5 → k12 x0 x1 x2 x4 x5 = some X → ∀ ls : Array Slot, lv_has ls 8 [(0, .ref (x0)), (1, .ref (x1)), (2, .int (x2)), (4, .int (x4)), (5, .int (x5))] → z_W p l e { frames := 4, cells := 0, slots := 0, locals := 89 } s m args below meth c D b0 S I 0 0 (MQ below (z_Q D b0 (some (.int (X))) S I) args s 0 0 (fun q => b0 ≤ q)) (F0 m 12 ls [])) (x0 : Nat) (x1 : Nat) (x2 : Int32) (x4 : Int32) (x5 : Int32) (h_x0 : z_is b0 S x0 4) (h_x1 : z_is b0 S x1 5) (hz : z_X4_lookAtTargets_12B F S I k12 x0 x1 x2 x4 x5 = some X) (ls : Array Slot) (hl : lv_has ls 8 [(0, .ref (x0)), (1, .ref (x1)), (2, .int (x2)), (4, .int (x4)), (5, .int (x5))]) : z_W p l e { frames := 4, cells := 0, slots := 0, locals := 89 } s m args below meth c D b0 S I 0 0 (MQ below (z_Q D b0 (some (.int (X))) S I) args s 0 0 (fun q => b0 ≤ q)) (F0 m 12 ls []) := by
  unfold z_X4_lookAtTargets_12B at hz
  refine z_iload hC dX4_lookAtTargets_12 (lv_at hl 4 rfl) ?_
  refine z_iload hC dX4_lookAtTargets_14 (lv_at hl 3 rfl) ?_
  refine z_icmp_gt (tgt := 79) hC dX4_lookAtTargets_16 (by decide) hz (fun hz => ?_) (fun hz => ?_)
  · skip
    refine z_iconst (v := 0) hC dX4_lookAtTargets_79 (by decide) ?_
    obtain rfl := Option.some.inj hz
    exact z_iret hC hT dX4_lookAtTargets_80 (by decide) (by decide)
  · skip
    refine z_aload_n hC dX4_lookAtTargets_19 rfl (lv_at hl 1 rfl) ?_
    refine z_iload hC dX4_lookAtTargets_20 (lv_at hl 4 rfl) ?_
    obtain ⟨q1, hq_q1, hz⟩ := ob_some hz
    refine z_callV (As := [.int (x5)]) hC hT (c_X5_actAt F x1 x5 h_x1 hq_q1) zy_X5_actAt zc_5 zv_X5_actAt kw_674 dX4_lookAtTargets_22 h_x1 rfl rfl hl.1 (Nat.le_of_ble_eq_true rfl) (by decide) (by decide) ?_
    rcases ob2_some hz with ⟨ho_r2, hz⟩ | ⟨r2, ho_r2, hz⟩
    · try rw [ho_r2]
      try rw [ho_r2] at hl
      refine z_astoreN (lv' := [(6, .null), (0, .ref (x0)), (1, .ref (x1)), (2, .int (x2)), (4, .int (x4)), (5, .int (x5))]) hC dX4_lookAtTargets_25 hl (by decide) rfl (fun ls hl => ?_)
      refine z_aloadN hC dX4_lookAtTargets_27 (lv_at hl 0 rfl) ?_
      refine z_ifnonnullN hC dX4_lookAtTargets_29 ?_
      refine z_iconst (v := 5) hC dX4_lookAtTargets_32 (by decide) ?_
      obtain rfl := Option.some.inj hz
      exact z_iret hC hT dX4_lookAtTargets_33 (by decide) (by decide)
    · have hk_r2 : z_is b0 S r2 0 := (tk_X5_actAt hT h_x1 hq_q1) _ ho_r2
      try rw [ho_r2]
      try rw [ho_r2] at hl
      refine z_astore (lv' := [(6, .ref (r2)), (0, .ref (x0)), (1, .ref (x1)), (2, .int (x2)), (4, .int (x4)), (5, .int (x5))]) hC dX4_lookAtTargets_25 hl (by decide) rfl (fun ls hl => ?_)
      refine z_aload hC dX4_lookAtTargets_27 (lv_at hl 0 rfl) ?_
      refine z_ifnonnull (tgt := 34) hC dX4_lookAtTargets_29 (by decide) ?_
      refine z_iload hC dX4_lookAtTargets_34 (lv_at hl 5 rfl) ?_
      refine z_iload_n hC dX4_lookAtTargets_36 rfl (lv_at hl 3 rfl) ?_
      refine z_icmp_gt (tgt := 53) hC dX4_lookAtTargets_37 (by decide) hz (fun hz => ?_) (fun hz => ?_)
      · skip
        exact b_X4_lookAtTargets_53 hC hT k12 hk12 (x0) (x1) (x2) (x4) (x5) (r2) h_x0 h_x1 hk_r2 hz ls (lv_sub hl [1, 2, 3, 4, 5, 0] rfl)
      · skip
        refine z_aload_n hC dX4_lookAtTargets_40 rfl (lv_at hl 1 rfl) ?_
        obtain ⟨r3, hr_r3, hz⟩ := ob_some hz
        have hk_r3 : z_is b0 S r3 6 := hT.at h_x0 hr_r3
        refine z_getR hC zc_4 2 (by decide) kw_158 dX4_lookAtTargets_41 h_x0 rfl hr_r3 ?_
        obtain ⟨q4, hq_q4, hz⟩ := ob_some hz
        refine z_callV (As := []) hC hT (c_X6_hasUnmade F r3 hk_r3 hq_q4) zy_X6_hasUnmade zc_6 zv_X6_hasUnmade kw_706 dX4_lookAtTargets_44 hk_r3 rfl rfl hl.1 (Nat.le_of_ble_eq_true rfl) (by decide) (by decide) ?_
        refine z_if_eq (tgt := 53) hC dX4_lookAtTargets_47 (by decide) hz (fun hz => ?_) (fun hz => ?_)
        · skip
          exact b_X4_lookAtTargets_53 hC hT k12 hk12 (x0) (x1) (x2) (x4) (x5) (r2) h_x0 h_x1 hk_r2 hz ls (lv_sub hl [1, 2, 3, 4, 5, 0] rfl)
        · skip
          refine z_bipush (v := 6) hC dX4_lookAtTargets_50 (by decide) ?_
          obtain rfl := Option.some.inj hz
          exact z_iret hC hT dX4_lookAtTargets_52 (by decide) (by decide)
set_option maxRecDepth 100000 in
set_option maxHeartbeats 4000000 in
theorem b_X4_lookAtTargets_12 {p : Program} {l : Launch} {e : Env} {s : State} {m : MethodId} {args : Array Value} {below : List Frame} {meth : Method} {c : Code} {D : zD} {b0 : Nat} {F : Nat} {S : zS} {I : zI} {X : Int32} (hC : z_C p s m args meth c cX4_lookAtTargets RX4 8 (some .int) D) (hT : z_T b0 S)   : ∀ (n : Nat) (x0 : Nat) (x1 : Nat) (x2 : Int32) (x4 : Int32) (x5 : Int32), z_is b0 S x0 4 → z_is b0 S x1 5 → z_X4_lookAtTargets_12 F S I  n x0 x1 x2 x4 x5 = some X → ∀ ls : Array Slot, lv_has ls 8 [(0, .ref (x0)), (1, .ref (x1)), (2, .int (x2)), (4, .int (x4)), (5, .int (x5))] → z_W p l e { frames := 4, cells := 0, slots := 0, locals := 89 } s m args below meth c D b0 S I 0 0 (MQ below (z_Q D b0 (some (.int (X))) S I) args s 0 0 (fun q => b0 ≤ q)) (F0 m 12 ls []) := by
  intro n
  induction n with
  | zero => intro x0 x1 x2 x4 x5 h_x0 h_x1 hz; cases hz
  | succ n ih =>
    intro x0 x1 x2 x4 x5 h_x0 h_x1 hz ls hl
    exact bb_X4_lookAtTargets_12 (F := F) hC hT  (z_X4_lookAtTargets_12 F S I  n)  ih x0 x1 x2 x4 x5 h_x0 h_x1 hz ls hl
set_option maxRecDepth 100000 in
set_option maxHeartbeats 4000000 in
theorem c_X4_lookAtTargets {l : Launch} {D : zD} {b0 : Nat} {S : zS} {I : zI} {X : Int32} (F : Nat) (x0 : Nat) (x1 : Nat) (x2 : Int32) (x3 : Nat) (h_x0 : z_is b0 S x0 4) (h_x1 : z_is b0 S x1 5) (h_x3 : z_is b0 S x3 0) (hz : z_X4_lookAtTargets F S I x0 x1 x2 x3 = some X) : z_M l D b0 yX4_lookAtTargets cX4_lookAtTargets 8 (some .int) { frames := 4, cells := 0, slots := 0, locals := 89 } [.ref (x0), .ref (x1), .int (x2), .ref (x3)] S I (some (.int (X))) S I := by
  refine z_met (by decide) (Nat.le_of_ble_eq_true rfl) ?_
  intro p e s m below meth c hC hnm hT ls hl
  have hl : lv_has ls 8 [(0, .ref (x0)), (1, .ref (x1)), (2, .int (x2)), (3, .ref (x3))] := hl
  unfold z_X4_lookAtTargets at hz
  refine z_aload_n hC dX4_lookAtTargets_0 rfl (lv_at hl 3 rfl) ?_
  obtain ⟨q1, hq_q1, hz⟩ := ob_some hz
  refine z_callV (As := []) hC hT (c_X0_lastTarget F x3 h_x3 hq_q1) zy_X0_lastTarget zc_0 zv_X0_lastTarget kw_704 dX4_lookAtTargets_1 h_x3 rfl rfl hl.1 (Nat.le_of_ble_eq_true rfl) (by decide) (by decide) ?_
  refine z_istore (lv' := [(4, .int (q1)), (0, .ref (x0)), (1, .ref (x1)), (2, .int (x2)), (3, .ref (x3))]) hC dX4_lookAtTargets_4 hl (by decide) rfl (fun ls hl => ?_)
  refine z_aload_n hC dX4_lookAtTargets_6 rfl (lv_at hl 4 rfl) ?_
  obtain ⟨q2, hq_q2, hz⟩ := ob_some hz
  refine z_callV (As := []) hC hT (c_X0_firstTarget F x3 h_x3 hq_q2) zy_X0_firstTarget zc_0 zv_X0_firstTarget kw_705 dX4_lookAtTargets_7 h_x3 rfl rfl hl.1 (Nat.le_of_ble_eq_true rfl) (by decide) (by decide) ?_
  refine z_istore (lv' := [(5, .int (q2)), (4, .int (q1)), (0, .ref (x0)), (1, .ref (x1)), (2, .int (x2)), (3, .ref (x3))]) hC dX4_lookAtTargets_10 hl (by decide) rfl (fun ls hl => ?_)
  exact b_X4_lookAtTargets_12 hC hT   F (x0) (x1) (x2) (q1) (q2) h_x0 h_x1 hz ls (lv_sub hl [2, 3, 4, 1, 0] rfl)
theorem zy_X4_lookAt : z_y yX4_lookAt cX4_lookAt 5 (some .int) 2 := ⟨kw_673, kw_7, by decide +kernel, by decide +kernel, by decide +kernel⟩
theorem zv_X4_lookAt : Cond.instanceMethod yX4_lookAt ∈ z_tbl ∧ Cond.selects RX4 yX4_lookAt yX4_lookAt ∈ z_tbl := ⟨kw_672, ks_21⟩
def z_X4_lookAt_67 (F : Nat) (S : zS)  (x0 : Nat) (x3 : Nat) (x4 : Int32) (I : zI) : Option (Int32 × zI) :=
  ob (z_X0_goesToNext F S I x3) (fun q1 => if q1 = 0 ∨ q1 = 1 then (some (x4, z_up I x0 4 q1)) else none)
def z_X4_lookAt_53 (F : Nat) (S : zS)  (x0 : Nat) (x1 : Nat) (x2 : Int32) (x3 : Nat) (x4 : Int32) (I : zI) : Option (Int32 × zI) :=
  if x4 = 0 then (ob (z_X4_lookAtTargets F S I x0 x1 x2 x3) (fun q1 => z_X4_lookAt_67 F S  (x0) (x3) (q1) (I))) else (z_X4_lookAt_67 F S  (x0) (x3) (x4) (I))
def z_X4_lookAt_32 (F : Nat) (S : zS)  (x0 : Nat) (x1 : Nat) (x2 : Int32) (x3 : Nat) (x4 : Int32) (I : zI) : Option (Int32 × zI) :=
  if x4 = 0 then (ob (S.1 x0 1) (fun r1 => ob (S.1 x0 2) (fun r2 => ob (z_X7_perform F S I r1 x1 x2 x3 r2) (fun q3 => z_X4_lookAt_53 F S  (x0) (x1) (x2) (x3) (q3.1) (q3.2))))) else (z_X4_lookAt_53 F S  (x0) (x1) (x2) (x3) (x4) (I))
def z_X4_lookAt (F : Nat) (S : zS) (I : zI) (x0 : Nat) (x1 : Nat) (x2 : Int32) : Option (Int32 × zI) :=
  ob (z_X5_actAt F S I x1 x2) (fun q1 => ob2 (q1) (some (5, I)) (fun r2 => ob (z_X4_takeFrame F S I x0 r2) (fun q3 => if (q3.1) = 0 then (ob (z_X4_lookAtGuards F S (q3.2) x0 x1 x2) (fun q4 => z_X4_lookAt_32 F S  (x0) (x1) (x2) (r2) (q4.1) (q4.2))) else (z_X4_lookAt_32 F S  (x0) (x1) (x2) (r2) (q3.1) (q3.2)))))
set_option maxRecDepth 100000 in
set_option maxHeartbeats 4000000 in
theorem b_X4_lookAt_67 {p : Program} {l : Launch} {e : Env} {s : State} {m : MethodId} {args : Array Value} {below : List Frame} {meth : Method} {c : Code} {D : zD} {b0 : Nat} {F : Nat} {S : zS} {X : Int32 × zI} (hC : z_C p s m args meth c cX4_lookAt RX4 5 (some .int) D) (hT : z_T b0 S)   (x0 : Nat) (x3 : Nat) (x4 : Int32) (I : zI) (h_x0 : z_is b0 S x0 4) (h_x3 : z_is b0 S x3 0) (hz : z_X4_lookAt_67 F S  x0 x3 x4 I = some X) (ls : Array Slot) (hl : lv_has ls 5 [(0, .ref (x0)), (3, .ref (x3)), (4, .int (x4))]) : z_W p l e { frames := 5, cells := 0, slots := 0, locals := 116 } s m args below meth c D b0 S I 0 0 (MQ below (z_Q D b0 (some (.int (X.1))) S X.2) args s 0 0 (fun q => b0 ≤ q)) (F0 m 67 ls []) := by
  unfold z_X4_lookAt_67 at hz
  refine z_aload_n hC dX4_lookAt_67 rfl (lv_at hl 0 rfl) ?_
  refine z_aload_n hC dX4_lookAt_68 rfl (lv_at hl 1 rfl) ?_
  obtain ⟨q1, hq_q1, hz⟩ := ob_some hz
  refine z_callV (As := []) hC hT (c_X0_goesToNext F x3 h_x3 hq_q1) zy_X0_goesToNext zc_0 zv_X0_goesToNext kw_707 dX4_lookAt_69 h_x3 rfl rfl hl.1 (Nat.le_of_ble_eq_true rfl) (by decide) (by decide) ?_
  obtain ⟨hb2, hz⟩ := ifp_some hz
  refine z_putI hC zc_4 4 (by decide) kw_160 dX4_lookAt_72 h_x0 rfl rfl (z_bool hb2) (z_boolf hb2) ?_
  refine z_iload hC dX4_lookAt_75 (lv_at hl 2 rfl) ?_
  obtain rfl := Option.some.inj hz
  exact z_iret hC hT dX4_lookAt_77 (by decide) (by decide)
set_option maxRecDepth 100000 in
set_option maxHeartbeats 4000000 in
theorem b_X4_lookAt_53 {p : Program} {l : Launch} {e : Env} {s : State} {m : MethodId} {args : Array Value} {below : List Frame} {meth : Method} {c : Code} {D : zD} {b0 : Nat} {F : Nat} {S : zS} {X : Int32 × zI} (hC : z_C p s m args meth c cX4_lookAt RX4 5 (some .int) D) (hT : z_T b0 S)   (x0 : Nat) (x1 : Nat) (x2 : Int32) (x3 : Nat) (x4 : Int32) (I : zI) (h_x0 : z_is b0 S x0 4) (h_x1 : z_is b0 S x1 5) (h_x3 : z_is b0 S x3 0) (hz : z_X4_lookAt_53 F S  x0 x1 x2 x3 x4 I = some X) (ls : Array Slot) (hl : lv_has ls 5 [(0, .ref (x0)), (1, .ref (x1)), (2, .int (x2)), (3, .ref (x3)), (4, .int (x4))]) : z_W p l e { frames := 5, cells := 0, slots := 0, locals := 116 } s m args below meth c D b0 S I 0 0 (MQ below (z_Q D b0 (some (.int (X.1))) S X.2) args s 0 0 (fun q => b0 ≤ q)) (F0 m 53 ls []) := by
  unfold z_X4_lookAt_53 at hz
  refine z_iload hC dX4_lookAt_53 (lv_at hl 4 rfl) ?_
  refine z_if_ne (tgt := 67) hC dX4_lookAt_55 (by decide) hz (fun hz => ?_) (fun hz => ?_)
  · skip
    exact b_X4_lookAt_67 hC hT   (x0) (x3) (x4) (I) h_x0 h_x3 hz ls (lv_sub hl [0, 3, 4] rfl)
  · skip
    refine z_aload_n hC dX4_lookAt_58 rfl (lv_at hl 0 rfl) ?_
    refine z_aload_n hC dX4_lookAt_59 rfl (lv_at hl 1 rfl) ?_
    refine z_iload_n hC dX4_lookAt_60 rfl (lv_at hl 2 rfl) ?_
    refine z_aload_n hC dX4_lookAt_61 rfl (lv_at hl 3 rfl) ?_
    obtain ⟨q1, hq_q1, hz⟩ := ob_some hz
    refine z_callV (As := [.ref (x1), .int (x2), .ref (x3)]) hC hT (c_X4_lookAtTargets F x0 x1 x2 x3 h_x0 h_x1 h_x3 hq_q1) zy_X4_lookAtTargets zc_4 zv_X4_lookAtTargets kw_700 dX4_lookAt_62 h_x0 rfl rfl hl.1 (Nat.le_of_ble_eq_true rfl) (by decide) (by decide) ?_
    refine z_istore (lv' := [(4, .int (q1)), (0, .ref (x0)), (1, .ref (x1)), (2, .int (x2)), (3, .ref (x3))]) hC dX4_lookAt_65 hl (by decide) rfl (fun ls hl => ?_)
    exact b_X4_lookAt_67 hC hT   (x0) (x3) (q1) (I) h_x0 h_x3 hz ls (lv_sub hl [1, 4, 0] rfl)
set_option maxRecDepth 100000 in
set_option maxHeartbeats 4000000 in
theorem b_X4_lookAt_32 {p : Program} {l : Launch} {e : Env} {s : State} {m : MethodId} {args : Array Value} {below : List Frame} {meth : Method} {c : Code} {D : zD} {b0 : Nat} {F : Nat} {S : zS} {X : Int32 × zI} (hC : z_C p s m args meth c cX4_lookAt RX4 5 (some .int) D) (hT : z_T b0 S)   (x0 : Nat) (x1 : Nat) (x2 : Int32) (x3 : Nat) (x4 : Int32) (I : zI) (h_x0 : z_is b0 S x0 4) (h_x1 : z_is b0 S x1 5) (h_x3 : z_is b0 S x3 0) (hz : z_X4_lookAt_32 F S  x0 x1 x2 x3 x4 I = some X) (ls : Array Slot) (hl : lv_has ls 5 [(0, .ref (x0)), (1, .ref (x1)), (2, .int (x2)), (3, .ref (x3)), (4, .int (x4))]) : z_W p l e { frames := 5, cells := 0, slots := 0, locals := 116 } s m args below meth c D b0 S I 0 0 (MQ below (z_Q D b0 (some (.int (X.1))) S X.2) args s 0 0 (fun q => b0 ≤ q)) (F0 m 32 ls []) := by
  unfold z_X4_lookAt_32 at hz
  refine z_iload hC dX4_lookAt_32 (lv_at hl 4 rfl) ?_
  refine z_if_ne (tgt := 53) hC dX4_lookAt_34 (by decide) hz (fun hz => ?_) (fun hz => ?_)
  · skip
    exact b_X4_lookAt_53 hC hT   (x0) (x1) (x2) (x3) (x4) (I) h_x0 h_x1 h_x3 hz ls (lv_sub hl [0, 1, 2, 3, 4] rfl)
  · skip
    refine z_aload_n hC dX4_lookAt_37 rfl (lv_at hl 0 rfl) ?_
    obtain ⟨r1, hr_r1, hz⟩ := ob_some hz
    have hk_r1 : z_is b0 S r1 7 := hT.at h_x0 hr_r1
    refine z_getR hC zc_4 1 (by decide) kw_157 dX4_lookAt_38 h_x0 rfl hr_r1 ?_
    refine z_aload_n hC dX4_lookAt_41 rfl (lv_at hl 1 rfl) ?_
    refine z_iload_n hC dX4_lookAt_42 rfl (lv_at hl 2 rfl) ?_
    refine z_aload_n hC dX4_lookAt_43 rfl (lv_at hl 3 rfl) ?_
    refine z_aload_n hC dX4_lookAt_44 rfl (lv_at hl 0 rfl) ?_
    obtain ⟨r2, hr_r2, hz⟩ := ob_some hz
    have hk_r2 : z_is b0 S r2 6 := hT.at h_x0 hr_r2
    refine z_getR hC zc_4 2 (by decide) kw_158 dX4_lookAt_45 h_x0 rfl hr_r2 ?_
    obtain ⟨q3, hq_q3, hz⟩ := ob_some hz
    refine z_callV (As := [.ref (x1), .int (x2), .ref (x3), .ref (r2)]) hC hT (c_X7_perform F r1 x1 x2 x3 r2 hk_r1 h_x1 h_x3 hk_r2 hq_q3) zy_X7_perform zc_7 zv_X7_perform kw_699 dX4_lookAt_48 hk_r1 rfl rfl hl.1 (Nat.le_of_ble_eq_true rfl) (by decide) (by decide) ?_
    refine z_istore (lv' := [(4, .int (q3.1)), (0, .ref (x0)), (1, .ref (x1)), (2, .int (x2)), (3, .ref (x3))]) hC dX4_lookAt_51 hl (by decide) rfl (fun ls hl => ?_)
    exact b_X4_lookAt_53 hC hT   (x0) (x1) (x2) (x3) (q3.1) (q3.2) h_x0 h_x1 h_x3 hz ls (lv_sub hl [1, 2, 3, 4, 0] rfl)
set_option maxRecDepth 100000 in
set_option maxHeartbeats 4000000 in
theorem c_X4_lookAt {l : Launch} {D : zD} {b0 : Nat} {S : zS} {I : zI} {X : Int32 × zI} (F : Nat) (x0 : Nat) (x1 : Nat) (x2 : Int32) (h_x0 : z_is b0 S x0 4) (h_x1 : z_is b0 S x1 5) (hz : z_X4_lookAt F S I x0 x1 x2 = some X) : z_M l D b0 yX4_lookAt cX4_lookAt 5 (some .int) { frames := 5, cells := 0, slots := 0, locals := 116 } [.ref (x0), .ref (x1), .int (x2)] S I (some (.int (X.1))) S X.2 := by
  refine z_met (by decide) (Nat.le_of_ble_eq_true rfl) ?_
  intro p e s m below meth c hC hnm hT ls hl
  have hl : lv_has ls 5 [(0, .ref (x0)), (1, .ref (x1)), (2, .int (x2))] := hl
  unfold z_X4_lookAt at hz
  refine z_aload_n hC dX4_lookAt_0 rfl (lv_at hl 1 rfl) ?_
  refine z_iload_n hC dX4_lookAt_1 rfl (lv_at hl 2 rfl) ?_
  obtain ⟨q1, hq_q1, hz⟩ := ob_some hz
  refine z_callV (As := [.int (x2)]) hC hT (c_X5_actAt F x1 x2 h_x1 hq_q1) zy_X5_actAt zc_5 zv_X5_actAt kw_674 dX4_lookAt_2 h_x1 rfl rfl hl.1 (Nat.le_of_ble_eq_true rfl) (by decide) (by decide) ?_
  rcases ob2_some hz with ⟨ho_r2, hz⟩ | ⟨r2, ho_r2, hz⟩
  · try rw [ho_r2]
    try rw [ho_r2] at hl
    refine z_astore_nN (lv' := [(3, .null), (0, .ref (x0)), (1, .ref (x1)), (2, .int (x2))]) hC dX4_lookAt_5 rfl hl (by decide) rfl (fun ls hl => ?_)
    refine z_aload_nN hC dX4_lookAt_6 rfl (lv_at hl 0 rfl) ?_
    refine z_ifnonnullN hC dX4_lookAt_7 ?_
    refine z_iconst (v := 5) hC dX4_lookAt_10 (by decide) ?_
    obtain rfl := Option.some.inj hz
    exact z_iret hC hT dX4_lookAt_11 (by decide) (by decide)
  · have hk_r2 : z_is b0 S r2 0 := (tk_X5_actAt hT h_x1 hq_q1) _ ho_r2
    try rw [ho_r2]
    try rw [ho_r2] at hl
    refine z_astore_n (lv' := [(3, .ref (r2)), (0, .ref (x0)), (1, .ref (x1)), (2, .int (x2))]) hC dX4_lookAt_5 rfl hl (by decide) rfl (fun ls hl => ?_)
    refine z_aload_n hC dX4_lookAt_6 rfl (lv_at hl 0 rfl) ?_
    refine z_ifnonnull (tgt := 12) hC dX4_lookAt_7 (by decide) ?_
    refine z_aload_n hC dX4_lookAt_12 rfl (lv_at hl 1 rfl) ?_
    refine z_aload_n hC dX4_lookAt_13 rfl (lv_at hl 0 rfl) ?_
    obtain ⟨q3, hq_q3, hz⟩ := ob_some hz
    refine z_callV (As := [.ref (r2)]) hC hT (c_X4_takeFrame F x0 r2 h_x0 hk_r2 hq_q3) zy_X4_takeFrame zc_4 zv_X4_takeFrame kw_675 dX4_lookAt_14 h_x0 rfl rfl hl.1 (Nat.le_of_ble_eq_true rfl) (by decide) (by decide) ?_
    refine z_istore (lv' := [(4, .int (q3.1)), (3, .ref (r2)), (0, .ref (x0)), (1, .ref (x1)), (2, .int (x2))]) hC dX4_lookAt_17 hl (by decide) rfl (fun ls hl => ?_)
    refine z_iload hC dX4_lookAt_19 (lv_at hl 0 rfl) ?_
    refine z_if_ne (tgt := 32) hC dX4_lookAt_21 (by decide) hz (fun hz => ?_) (fun hz => ?_)
    · skip
      exact b_X4_lookAt_32 hC hT   (x0) (x1) (x2) (r2) (q3.1) (q3.2) h_x0 h_x1 hk_r2 hz ls (lv_sub hl [2, 3, 4, 1, 0] rfl)
    · skip
      refine z_aload_n hC dX4_lookAt_24 rfl (lv_at hl 2 rfl) ?_
      refine z_aload_n hC dX4_lookAt_25 rfl (lv_at hl 3 rfl) ?_
      refine z_iload_n hC dX4_lookAt_26 rfl (lv_at hl 4 rfl) ?_
      obtain ⟨q4, hq_q4, hz⟩ := ob_some hz
      refine z_callV (As := [.ref (x1), .int (x2)]) hC hT (c_X4_lookAtGuards F x0 x1 x2 h_x0 h_x1 hq_q4) zy_X4_lookAtGuards zc_4 zv_X4_lookAtGuards kw_689 dX4_lookAt_27 h_x0 rfl rfl hl.1 (Nat.le_of_ble_eq_true rfl) (by decide) (by decide) ?_
      refine z_istore (lv' := [(4, .int (q4.1)), (3, .ref (r2)), (0, .ref (x0)), (1, .ref (x1)), (2, .int (x2))]) hC dX4_lookAt_30 hl (by decide) rfl (fun ls hl => ?_)
      exact b_X4_lookAt_32 hC hT   (x0) (x1) (x2) (r2) (q4.1) (q4.2) h_x0 h_x1 hk_r2 hz ls (lv_sub hl [2, 3, 4, 1, 0] rfl)
theorem zy_X4_run : z_y yX4_run cX4_run 3 (some .int) 1 := ⟨kw_668, kw_7, by decide +kernel, by decide +kernel, by decide +kernel⟩
theorem zv_X4_run : Cond.instanceMethod yX4_run ∈ z_tbl ∧ Cond.selects RX4 yX4_run yX4_run ∈ z_tbl := ⟨kw_666, kw_667⟩
def z_X4_run_64 (F : Nat) (S : zS)  (x0 : Nat) (x1 : Nat) (y0 : Nat) (y1 : Int32) (I : zI) : Option (Int32 × zI) :=
  if ((z_up I y0 5 y1) x0 4) = 0 then (some ((-1), z_up I y0 5 y1)) else (some (((z_up I y0 5 y1) x1 3) - 1, z_up I y0 5 y1))
def z_X4_run_18B (F : Nat) (S : zS) (k18 : Nat → Nat → Int32 → zI → Option (Int32 × zI)) (x0 : Nat) (x1 : Nat) (x2 : Int32) (I : zI) : Option (Int32 × zI) :=
  if x2 < (I x1 3) then (ob (z_X4_lookAt F S I x0 x1 x2) (fun q1 => if ((z_up (q1.2) x0 5 (q1.1)) x0 5) = 0 then (k18 (x0) (x1) (x2 + 1) (z_up (q1.2) x0 5 (q1.1))) else (some (x2, z_up (q1.2) x0 5 (q1.1))))) else (if (I x0 4) = 0 then (z_X4_run_64 F S  (x0) (x1) (x0) (0) (I)) else (z_X4_run_64 F S  (x0) (x1) (x0) (5) (I)))
def z_X4_run_18 (F : Nat) (S : zS)  : Nat → Nat → Nat → Int32 → zI → Option (Int32 × zI)
  | 0 => fun _ _ _ _ => none
  | n + 1 => fun x0 x1 x2 I => z_X4_run_18B F S  (z_X4_run_18 F S  n) x0 x1 x2 I
def z_X4_run (F : Nat) (S : zS) (I : zI) (x0 : Nat) (x1 : Nat) : Option (Int32 × zI) :=
  ob (S.1 x0 2) (fun r1 => ob (S.1 x1 2) (fun r2 => ob (z_X6_become F S I r1 r2) (fun q3 => z_X4_run_18 F S  F (x0) (x1) (0) (z_up q3 x0 4 1))))
set_option maxRecDepth 100000 in
set_option maxHeartbeats 4000000 in
theorem b_X4_run_64 {p : Program} {l : Launch} {e : Env} {s : State} {m : MethodId} {args : Array Value} {below : List Frame} {meth : Method} {c : Code} {D : zD} {b0 : Nat} {F : Nat} {S : zS} {X : Int32 × zI} (hC : z_C p s m args meth c cX4_run RX4 3 (some .int) D) (hT : z_T b0 S)   (x0 : Nat) (x1 : Nat) (y0 : Nat) (y1 : Int32) (I : zI) (h_x0 : z_is b0 S x0 4) (h_x1 : z_is b0 S x1 5) (h_y0 : z_is b0 S y0 4) (hz : z_X4_run_64 F S  x0 x1 y0 y1 I = some X) (ls : Array Slot) (hl : lv_has ls 3 [(0, .ref (x0)), (1, .ref (x1))]) : z_W p l e { frames := 6, cells := 0, slots := 0, locals := 140 } s m args below meth c D b0 S I 0 0 (MQ below (z_Q D b0 (some (.int (X.1))) S X.2) args s 0 0 (fun q => b0 ≤ q)) (F0 m 64 ls [.int (y1), .ref (y0)]) := by
  unfold z_X4_run_64 at hz
  refine z_putI hC zc_4 5 (by decide) kw_161 dX4_run_64 h_y0 rfl rfl rfl rfl ?_
  refine z_aload_n hC dX4_run_67 rfl (lv_at hl 0 rfl) ?_
  refine z_getI hC zc_4 4 (by decide) kw_160 dX4_run_68 h_x0 rfl ?_
  refine z_if_eq (tgt := 83) hC dX4_run_71 (by decide) hz (fun hz => ?_) (fun hz => ?_)
  · skip
    refine z_iconst (v := (-1)) hC dX4_run_83 (by decide) ?_
    obtain rfl := Option.some.inj hz
    exact z_iret hC hT dX4_run_84 (by decide) (by decide)
  · skip
    refine z_aload_n hC dX4_run_74 rfl (lv_at hl 1 rfl) ?_
    refine z_getI hC zc_5 3 (by decide) kw_76 dX4_run_75 h_x1 rfl ?_
    refine z_iconst (v := 1) hC dX4_run_78 (by decide) ?_
    refine z_isub hC dX4_run_79 ?_
    refine z_goto (tgt := 84) hC dX4_run_80 (by decide) ?_
    obtain rfl := Option.some.inj hz
    exact z_iret hC hT dX4_run_84 (by decide) (by decide)
set_option maxRecDepth 100000 in
set_option maxHeartbeats 4000000 in
theorem bb_X4_run_18 {p : Program} {l : Launch} {e : Env} {s : State} {m : MethodId} {args : Array Value} {below : List Frame} {meth : Method} {c : Code} {D : zD} {b0 : Nat} {F : Nat} {S : zS} {X : Int32 × zI} (hC : z_C p s m args meth c cX4_run RX4 3 (some .int) D) (hT : z_T b0 S) (k18 : Nat → Nat → Int32 → zI → Option (Int32 × zI)) (hk18 : ∀ (x0 : Nat) (x1 : Nat) (x2 : Int32) (I : zI) , z_is b0 S x0 4 → z_is b0 S x1 5 → k18 x0 x1 x2 I = some X → ∀ ls : Array Slot, lv_has ls 3 [(0, .ref (x0)), (1, .ref (x1)), (2, .int (x2))] → z_W p l e { frames := 6, cells := 0, slots := 0, locals := 140 } s m args below meth c D b0 S I 0 0 (MQ below (z_Q D b0 (some (.int (X.1))) S X.2) args s 0 0 (fun q => b0 ≤ q)) (F0 m 18 ls [])) (x0 : Nat) (x1 : Nat) (x2 : Int32) (I : zI) (h_x0 : z_is b0 S x0 4) (h_x1 : z_is b0 S x1 5) (hz : z_X4_run_18B F S k18 x0 x1 x2 I = some X) (ls : Array Slot) (hl : lv_has ls 3 [(0, .ref (x0)), (1, .ref (x1)), (2, .int (x2))]) : z_W p l e { frames := 6, cells := 0, slots := 0, locals := 140 } s m args below meth c D b0 S I 0 0 (MQ below (z_Q D b0 (some (.int (X.1))) S X.2) args s 0 0 (fun q => b0 ≤ q)) (F0 m 18 ls []) := by
  unfold z_X4_run_18B at hz
  refine z_iload_n hC dX4_run_18 rfl (lv_at hl 2 rfl) ?_
  refine z_aload_n hC dX4_run_19 rfl (lv_at hl 1 rfl) ?_
  refine z_getI hC zc_5 3 (by decide) kw_76 dX4_run_20 h_x1 rfl ?_
  refine z_icmp_ge (tgt := 51) hC dX4_run_23 (by decide) hz (fun hz => ?_) (fun hz => ?_)
  · skip
    refine z_aload_n hC dX4_run_51 rfl (lv_at hl 0 rfl) ?_
    refine z_aload_n hC dX4_run_52 rfl (lv_at hl 0 rfl) ?_
    refine z_getI hC zc_4 4 (by decide) kw_160 dX4_run_53 h_x0 rfl ?_
    refine z_if_eq (tgt := 63) hC dX4_run_56 (by decide) hz (fun hz => ?_) (fun hz => ?_)
    · skip
      refine z_iconst (v := 0) hC dX4_run_63 (by decide) ?_
      exact b_X4_run_64 hC hT   (x0) (x1) (x0) (0) (I) h_x0 h_x1 h_x0 hz ls (lv_sub hl [0, 1] rfl)
    · skip
      refine z_iconst (v := 5) hC dX4_run_59 (by decide) ?_
      refine z_goto (tgt := 64) hC dX4_run_60 (by decide) ?_
      exact b_X4_run_64 hC hT   (x0) (x1) (x0) (5) (I) h_x0 h_x1 h_x0 hz ls (lv_sub hl [0, 1] rfl)
  · skip
    refine z_aload_n hC dX4_run_26 rfl (lv_at hl 0 rfl) ?_
    refine z_aload_n hC dX4_run_27 rfl (lv_at hl 0 rfl) ?_
    refine z_aload_n hC dX4_run_28 rfl (lv_at hl 1 rfl) ?_
    refine z_iload_n hC dX4_run_29 rfl (lv_at hl 2 rfl) ?_
    obtain ⟨q1, hq_q1, hz⟩ := ob_some hz
    refine z_callV (As := [.ref (x1), .int (x2)]) hC hT (c_X4_lookAt F x0 x1 x2 h_x0 h_x1 hq_q1) zy_X4_lookAt zc_4 zv_X4_lookAt kw_670 dX4_run_30 h_x0 rfl rfl hl.1 (Nat.le_of_ble_eq_true rfl) (by decide) (by decide) ?_
    refine z_putI hC zc_4 5 (by decide) kw_161 dX4_run_33 h_x0 rfl rfl rfl rfl ?_
    refine z_aload_n hC dX4_run_36 rfl (lv_at hl 0 rfl) ?_
    refine z_getI hC zc_4 5 (by decide) kw_161 dX4_run_37 h_x0 rfl ?_
    refine z_if_eq (tgt := 45) hC dX4_run_40 (by decide) hz (fun hz => ?_) (fun hz => ?_)
    · skip
      refine z_iinc (k0 := 2) (v := x2 + 1) (lv' := [(2, .int (x2 + 1)), (0, .ref (x0)), (1, .ref (x1))]) hC dX4_run_45 hl rfl rfl (by decide) rfl (fun ls hl => ?_)
      refine z_goto (tgt := 18) hC dX4_run_48 (by decide) ?_
      exact hk18 (x0) (x1) (x2 + 1) (z_up (q1.2) x0 5 (q1.1)) h_x0 h_x1 hz ls (lv_sub hl [1, 2, 0] rfl)
    · skip
      refine z_iload_n hC dX4_run_43 rfl (lv_at hl 2 rfl) ?_
      obtain rfl := Option.some.inj hz
      exact z_iret hC hT dX4_run_44 (by decide) (by decide)
set_option maxRecDepth 100000 in
set_option maxHeartbeats 4000000 in
theorem b_X4_run_18 {p : Program} {l : Launch} {e : Env} {s : State} {m : MethodId} {args : Array Value} {below : List Frame} {meth : Method} {c : Code} {D : zD} {b0 : Nat} {F : Nat} {S : zS} {X : Int32 × zI} (hC : z_C p s m args meth c cX4_run RX4 3 (some .int) D) (hT : z_T b0 S)   : ∀ (n : Nat) (x0 : Nat) (x1 : Nat) (x2 : Int32) (I : zI), z_is b0 S x0 4 → z_is b0 S x1 5 → z_X4_run_18 F S  n x0 x1 x2 I = some X → ∀ ls : Array Slot, lv_has ls 3 [(0, .ref (x0)), (1, .ref (x1)), (2, .int (x2))] → z_W p l e { frames := 6, cells := 0, slots := 0, locals := 140 } s m args below meth c D b0 S I 0 0 (MQ below (z_Q D b0 (some (.int (X.1))) S X.2) args s 0 0 (fun q => b0 ≤ q)) (F0 m 18 ls []) := by
  intro n
  induction n with
  | zero => intro x0 x1 x2 I h_x0 h_x1 hz; cases hz
  | succ n ih =>
    intro x0 x1 x2 I h_x0 h_x1 hz ls hl
    exact bb_X4_run_18 (F := F) hC hT  (z_X4_run_18 F S  n)  ih x0 x1 x2 I h_x0 h_x1 hz ls hl
set_option maxRecDepth 100000 in
set_option maxHeartbeats 4000000 in
theorem c_X4_run {l : Launch} {D : zD} {b0 : Nat} {S : zS} {I : zI} {X : Int32 × zI} (F : Nat) (x0 : Nat) (x1 : Nat) (h_x0 : z_is b0 S x0 4) (h_x1 : z_is b0 S x1 5) (hz : z_X4_run F S I x0 x1 = some X) : z_M l D b0 yX4_run cX4_run 3 (some .int) { frames := 6, cells := 0, slots := 0, locals := 140 } [.ref (x0), .ref (x1)] S I (some (.int (X.1))) S X.2 := by
  refine z_met (by decide) (Nat.le_of_ble_eq_true rfl) ?_
  intro p e s m below meth c hC hnm hT ls hl
  have hl : lv_has ls 3 [(0, .ref (x0)), (1, .ref (x1))] := hl
  unfold z_X4_run at hz
  refine z_aload_n hC dX4_run_0 rfl (lv_at hl 0 rfl) ?_
  obtain ⟨r1, hr_r1, hz⟩ := ob_some hz
  have hk_r1 : z_is b0 S r1 6 := hT.at h_x0 hr_r1
  refine z_getR hC zc_4 2 (by decide) kw_158 dX4_run_1 h_x0 rfl hr_r1 ?_
  refine z_aload_n hC dX4_run_4 rfl (lv_at hl 1 rfl) ?_
  obtain ⟨r2, hr_r2, hz⟩ := ob_some hz
  have hk_r2 : z_is b0 S r2 6 := hT.at h_x1 hr_r2
  refine z_getR hC zc_5 2 (by decide) kw_72 dX4_run_5 h_x1 rfl hr_r2 ?_
  obtain ⟨q3, hq_q3, hz⟩ := ob_some hz
  refine z_callV (As := [.ref (r2)]) hC hT (c_X6_become F r1 r2 hk_r1 hk_r2 hq_q3) zy_X6_become zc_6 zv_X6_become kw_669 dX4_run_8 hk_r1 rfl rfl hl.1 (Nat.le_of_ble_eq_true rfl) (by decide) (by decide) ?_
  refine z_aload_n hC dX4_run_11 rfl (lv_at hl 0 rfl) ?_
  refine z_iconst (v := 1) hC dX4_run_12 (by decide) ?_
  refine z_putI hC zc_4 4 (by decide) kw_160 dX4_run_13 h_x0 rfl rfl (z_bool (Or.inr rfl)) (z_boolf (Or.inr rfl)) ?_
  refine z_iconst (v := 0) hC dX4_run_16 (by decide) ?_
  refine z_istore_n (lv' := [(2, .int (0)), (0, .ref (x0)), (1, .ref (x1))]) hC dX4_run_17 rfl hl (by decide) rfl (fun ls hl => ?_)
  exact b_X4_run_18 hC hT   F (x0) (x1) (0) (z_up q3 x0 4 1) h_x0 h_x1 hz ls (lv_sub hl [1, 2, 0] rfl)
theorem zy_X6_empty : z_y yX6_empty cX6_empty 2 none 0 := ⟨kw_240, kw_4, by decide +kernel, by decide +kernel, by decide +kernel⟩
theorem zv_X6_empty : Cond.instanceMethod yX6_empty ∈ z_tbl ∧ Cond.selects RX6 yX6_empty yX6_empty ∈ z_tbl := ⟨kw_238, kw_239⟩
def z_X6_empty_2B (F : Nat) (S : zS) (k2 : Nat → Int32 → zI → Option (zI)) (x0 : Nat) (x1 : Int32) (I : zI) : Option (zI) :=
  if x1 < 8 then (ob (S.1 x0 0) (fun r1 => if x1 < 0 ∨ (S.2.1 r1).2 ≤ x1.toNatClampNeg then none else (k2 (x0) (x1 + 1) (z_up I r1 x1.toNatClampNeg 0)))) else (some (z_up I x0 2 0))
def z_X6_empty_2 (F : Nat) (S : zS)  : Nat → Nat → Int32 → zI → Option (zI)
  | 0 => fun _ _ _ => none
  | n + 1 => fun x0 x1 I => z_X6_empty_2B F S  (z_X6_empty_2 F S  n) x0 x1 I
def z_X6_empty (F : Nat) (S : zS) (I : zI) (x0 : Nat) : Option (zI) :=
  z_X6_empty_2 F S  F (x0) (0) (I)
set_option maxRecDepth 100000 in
set_option maxHeartbeats 4000000 in
theorem bb_X6_empty_2 {p : Program} {l : Launch} {e : Env} {s : State} {m : MethodId} {args : Array Value} {below : List Frame} {meth : Method} {c : Code} {D : zD} {b0 : Nat} {F : Nat} {S : zS} {X : zI} (hC : z_C p s m args meth c cX6_empty RX6 2 none D) (hT : z_T b0 S) (k2 : Nat → Int32 → zI → Option (zI)) (hk2 : ∀ (x0 : Nat) (x1 : Int32) (I : zI) , z_is b0 S x0 6 → k2 x0 x1 I = some X → ∀ ls : Array Slot, lv_has ls 2 [(0, .ref (x0)), (1, .int (x1))] → z_W p l e { frames := 0, cells := 0, slots := 0, locals := 0 } s m args below meth c D b0 S I 0 0 (MQ below (z_Q D b0 none S X) args s 0 0 (fun q => b0 ≤ q)) (F0 m 2 ls [])) (x0 : Nat) (x1 : Int32) (I : zI) (h_x0 : z_is b0 S x0 6) (hz : z_X6_empty_2B F S k2 x0 x1 I = some X) (ls : Array Slot) (hl : lv_has ls 2 [(0, .ref (x0)), (1, .int (x1))]) : z_W p l e { frames := 0, cells := 0, slots := 0, locals := 0 } s m args below meth c D b0 S I 0 0 (MQ below (z_Q D b0 none S X) args s 0 0 (fun q => b0 ≤ q)) (F0 m 2 ls []) := by
  unfold z_X6_empty_2B at hz
  refine z_iload_n hC dX6_empty_2 rfl (lv_at hl 1 rfl) ?_
  refine z_bipush (v := 8) hC dX6_empty_3 (by decide) ?_
  refine z_icmp_ge (tgt := 21) hC dX6_empty_5 (by decide) hz (fun hz => ?_) (fun hz => ?_)
  · skip
    refine z_aload_n hC dX6_empty_21 rfl (lv_at hl 0 rfl) ?_
    refine z_iconst (v := 0) hC dX6_empty_22 (by decide) ?_
    refine z_putI hC zc_6 2 (by decide) kw_59 dX6_empty_23 h_x0 rfl rfl rfl rfl ?_
    obtain rfl := Option.some.inj hz
    exact z_vret hC hT dX6_empty_26 (by decide) (by decide)
  · skip
    refine z_aload_n hC dX6_empty_8 rfl (lv_at hl 0 rfl) ?_
    obtain ⟨r1, hr_r1, hz⟩ := ob_some hz
    have hk_r1 : z_is b0 S r1 10 := hT.at h_x0 hr_r1
    refine z_getR hC zc_6 0 (by decide) kw_57 dX6_empty_9 h_x0 rfl hr_r1 ?_
    refine z_iload_n hC dX6_empty_12 rfl (lv_at hl 1 rfl) ?_
    refine z_iconst (v := 0) hC dX6_empty_13 (by decide) ?_
    obtain ⟨hi2, hz⟩ := ifn_some hz
    refine z_iast hC dX6_empty_14 hk_r1 hi2 ?_
    refine z_iinc (k0 := 1) (v := x1 + 1) (lv' := [(1, .int (x1 + 1)), (0, .ref (x0))]) hC dX6_empty_15 hl rfl rfl (by decide) rfl (fun ls hl => ?_)
    refine z_goto (tgt := 2) hC dX6_empty_18 (by decide) ?_
    exact hk2 (x0) (x1 + 1) (z_up I r1 x1.toNatClampNeg 0) h_x0 hz ls (lv_sub hl [1, 0] rfl)
set_option maxRecDepth 100000 in
set_option maxHeartbeats 4000000 in
theorem b_X6_empty_2 {p : Program} {l : Launch} {e : Env} {s : State} {m : MethodId} {args : Array Value} {below : List Frame} {meth : Method} {c : Code} {D : zD} {b0 : Nat} {F : Nat} {S : zS} {X : zI} (hC : z_C p s m args meth c cX6_empty RX6 2 none D) (hT : z_T b0 S)   : ∀ (n : Nat) (x0 : Nat) (x1 : Int32) (I : zI), z_is b0 S x0 6 → z_X6_empty_2 F S  n x0 x1 I = some X → ∀ ls : Array Slot, lv_has ls 2 [(0, .ref (x0)), (1, .int (x1))] → z_W p l e { frames := 0, cells := 0, slots := 0, locals := 0 } s m args below meth c D b0 S I 0 0 (MQ below (z_Q D b0 none S X) args s 0 0 (fun q => b0 ≤ q)) (F0 m 2 ls []) := by
  intro n
  induction n with
  | zero => intro x0 x1 I h_x0 hz; cases hz
  | succ n ih =>
    intro x0 x1 I h_x0 hz ls hl
    exact bb_X6_empty_2 (F := F) hC hT  (z_X6_empty_2 F S  n)  ih x0 x1 I h_x0 hz ls hl
set_option maxRecDepth 100000 in
set_option maxHeartbeats 4000000 in
theorem c_X6_empty {l : Launch} {D : zD} {b0 : Nat} {S : zS} {I : zI} {X : zI} (F : Nat) (x0 : Nat) (h_x0 : z_is b0 S x0 6) (hz : z_X6_empty F S I x0 = some X) : z_M l D b0 yX6_empty cX6_empty 2 none { frames := 0, cells := 0, slots := 0, locals := 0 } [.ref (x0)] S I none S X := by
  refine z_met (by decide) (Nat.le_of_ble_eq_true rfl) ?_
  intro p e s m below meth c hC hnm hT ls hl
  have hl : lv_has ls 2 [(0, .ref (x0))] := hl
  unfold z_X6_empty at hz
  refine z_iconst (v := 0) hC dX6_empty_0 (by decide) ?_
  refine z_istore_n (lv' := [(1, .int (0)), (0, .ref (x0))]) hC dX6_empty_1 rfl hl (by decide) rfl (fun ls hl => ?_)
  exact b_X6_empty_2 hC hT   F (x0) (0) (I) h_x0 hz ls (lv_sub hl [1, 0] rfl)
theorem zy_X5_empty : z_y yX5_empty cX5_empty 2 none 1 := ⟨kw_236, kw_3, by decide +kernel, by decide +kernel, by decide +kernel⟩
theorem zv_X5_empty : Cond.instanceMethod yX5_empty ∈ z_tbl ∧ Cond.selects RX5 yX5_empty yX5_empty ∈ z_tbl := ⟨kw_234, kw_235⟩
def z_X5_empty (F : Nat) (S : zS) (I : zI) (x0 : Nat) (x1 : Int32) : Option (zI) :=
  ob (S.1 x0 2) (fun r1 => ob (z_X6_empty F S I r1) (fun q2 => some (z_up (z_up (z_up (z_up (z_up q2 x0 3 0) x0 4 0) x0 5 x1) x0 6 0) x0 7 0)))
set_option maxRecDepth 100000 in
set_option maxHeartbeats 4000000 in
theorem c_X5_empty {l : Launch} {D : zD} {b0 : Nat} {S : zS} {I : zI} {X : zI} (F : Nat) (x0 : Nat) (x1 : Int32) (h_x0 : z_is b0 S x0 5) (hz : z_X5_empty F S I x0 x1 = some X) : z_M l D b0 yX5_empty cX5_empty 2 none { frames := 1, cells := 0, slots := 0, locals := 21 } [.ref (x0), .int (x1)] S I none S X := by
  refine z_met (by decide) (Nat.le_of_ble_eq_true rfl) ?_
  intro p e s m below meth c hC hnm hT ls hl
  have hl : lv_has ls 2 [(0, .ref (x0)), (1, .int (x1))] := hl
  unfold z_X5_empty at hz
  refine z_aload_n hC dX5_empty_0 rfl (lv_at hl 0 rfl) ?_
  obtain ⟨r1, hr_r1, hz⟩ := ob_some hz
  have hk_r1 : z_is b0 S r1 6 := hT.at h_x0 hr_r1
  refine z_getR hC zc_5 2 (by decide) kw_71 dX5_empty_1 h_x0 rfl hr_r1 ?_
  obtain ⟨q2, hq_q2, hz⟩ := ob_some hz
  refine z_callV (As := []) hC hT (c_X6_empty F r1 hk_r1 hq_q2) zy_X6_empty zc_6 zv_X6_empty kw_237 dX5_empty_4 hk_r1 rfl rfl hl.1 (Nat.le_of_ble_eq_true rfl) (by decide) (by decide) ?_
  refine z_aload_n hC dX5_empty_7 rfl (lv_at hl 0 rfl) ?_
  refine z_iconst (v := 0) hC dX5_empty_8 (by decide) ?_
  refine z_putI hC zc_5 3 (by decide) kw_75 dX5_empty_9 h_x0 rfl rfl rfl rfl ?_
  refine z_aload_n hC dX5_empty_12 rfl (lv_at hl 0 rfl) ?_
  refine z_iconst (v := 0) hC dX5_empty_13 (by decide) ?_
  refine z_putI hC zc_5 4 (by decide) kw_78 dX5_empty_14 h_x0 rfl rfl rfl rfl ?_
  refine z_aload_n hC dX5_empty_17 rfl (lv_at hl 0 rfl) ?_
  refine z_iload_n hC dX5_empty_18 rfl (lv_at hl 1 rfl) ?_
  refine z_putI hC zc_5 5 (by decide) kw_82 dX5_empty_19 h_x0 rfl rfl rfl rfl ?_
  refine z_aload_n hC dX5_empty_22 rfl (lv_at hl 0 rfl) ?_
  refine z_iconst (v := 0) hC dX5_empty_23 (by decide) ?_
  refine z_putI hC zc_5 6 (by decide) kw_84 dX5_empty_24 h_x0 rfl rfl rfl rfl ?_
  refine z_aload_n hC dX5_empty_27 rfl (lv_at hl 0 rfl) ?_
  refine z_iconst (v := 0) hC dX5_empty_28 (by decide) ?_
  refine z_putI hC zc_5 7 (by decide) kw_85 dX5_empty_29 h_x0 rfl rfl (z_bool (Or.inl rfl)) (z_boolf (Or.inl rfl)) ?_
  obtain rfl := Option.some.inj hz
  exact z_vret hC hT dX5_empty_32 (by decide) (by decide)
theorem zy_X5_addArgument : z_y yX5_addArgument cX5_addArgument 4 (some .int) 1 := ⟨kw_252, kw_3, by decide +kernel, by decide +kernel, by decide +kernel⟩
theorem zv_X5_addArgument : Cond.instanceMethod yX5_addArgument ∈ z_tbl ∧ Cond.selects RX5 yX5_addArgument yX5_addArgument ∈ z_tbl := ⟨kw_250, kw_251⟩
def z_X5_addArgument_10 (F : Nat) (S : zS)  (x0 : Nat) (x1 : Int32) (y0 : Int32) (I : zI) : Option (Int32 × zI) :=
  if (I x0 5) < ((I x0 6) + y0) then (some ((-2), I)) else (ob (S.1 x0 2) (fun r1 => ob (z_X6_store F S I r1 (I x0 6) x1) (fun q2 => some (I x0 6, z_up (z_up q2 x0 6 ((q2 x0 6) + y0)) x0 7 0))))
def z_X5_addArgument (F : Nat) (S : zS) (I : zI) (x0 : Nat) (x1 : Int32) : Option (Int32 × zI) :=
  if x1 = 2 then (z_X5_addArgument_10 F S  (x0) (x1) (2) (I)) else (z_X5_addArgument_10 F S  (x0) (x1) (1) (I))
set_option maxRecDepth 100000 in
set_option maxHeartbeats 4000000 in
theorem b_X5_addArgument_10 {p : Program} {l : Launch} {e : Env} {s : State} {m : MethodId} {args : Array Value} {below : List Frame} {meth : Method} {c : Code} {D : zD} {b0 : Nat} {F : Nat} {S : zS} {X : Int32 × zI} (hC : z_C p s m args meth c cX5_addArgument RX5 4 (some .int) D) (hT : z_T b0 S)   (x0 : Nat) (x1 : Int32) (y0 : Int32) (I : zI) (h_x0 : z_is b0 S x0 5) (hz : z_X5_addArgument_10 F S  x0 x1 y0 I = some X) (ls : Array Slot) (hl : lv_has ls 4 [(0, .ref (x0)), (1, .int (x1))]) : z_W p l e { frames := 3, cells := 0, slots := 0, locals := 65 } s m args below meth c D b0 S I 0 0 (MQ below (z_Q D b0 (some (.int (X.1))) S X.2) args s 0 0 (fun q => b0 ≤ q)) (F0 m 10 ls [.int (y0)]) := by
  unfold z_X5_addArgument_10 at hz
  refine z_istore_n (lv' := [(2, .int (y0)), (0, .ref (x0)), (1, .int (x1))]) hC dX5_addArgument_10 rfl hl (by decide) rfl (fun ls hl => ?_)
  refine z_aload_n hC dX5_addArgument_11 rfl (lv_at hl 1 rfl) ?_
  refine z_getI hC zc_5 6 (by decide) kw_84 dX5_addArgument_12 h_x0 rfl ?_
  refine z_iload_n hC dX5_addArgument_15 rfl (lv_at hl 0 rfl) ?_
  refine z_iadd hC dX5_addArgument_16 ?_
  refine z_aload_n hC dX5_addArgument_17 rfl (lv_at hl 1 rfl) ?_
  refine z_getI hC zc_5 5 (by decide) kw_82 dX5_addArgument_18 h_x0 rfl ?_
  refine z_icmp_le (tgt := 27) hC dX5_addArgument_21 (by decide) hz (fun hz => ?_) (fun hz => ?_)
  · skip
    refine z_aload_n hC dX5_addArgument_27 rfl (lv_at hl 1 rfl) ?_
    refine z_getI hC zc_5 6 (by decide) kw_84 dX5_addArgument_28 h_x0 rfl ?_
    refine z_istore_n (lv' := [(3, .int (I x0 6)), (2, .int (y0)), (0, .ref (x0)), (1, .int (x1))]) hC dX5_addArgument_31 rfl hl (by decide) rfl (fun ls hl => ?_)
    refine z_aload_n hC dX5_addArgument_32 rfl (lv_at hl 2 rfl) ?_
    obtain ⟨r1, hr_r1, hz⟩ := ob_some hz
    have hk_r1 : z_is b0 S r1 6 := hT.at h_x0 hr_r1
    refine z_getR hC zc_5 2 (by decide) kw_71 dX5_addArgument_33 h_x0 rfl hr_r1 ?_
    refine z_iload_n hC dX5_addArgument_36 rfl (lv_at hl 0 rfl) ?_
    refine z_iload_n hC dX5_addArgument_37 rfl (lv_at hl 3 rfl) ?_
    obtain ⟨q2, hq_q2, hz⟩ := ob_some hz
    refine z_callV (As := [.int (I x0 6), .int (x1)]) hC hT (c_X6_store F r1 (I x0 6) x1 hk_r1 hq_q2) zy_X6_store zc_6 zv_X6_store kw_253 dX5_addArgument_38 hk_r1 rfl rfl hl.1 (Nat.le_of_ble_eq_true rfl) (by decide) (by decide) ?_
    refine z_aload_n hC dX5_addArgument_41 rfl (lv_at hl 2 rfl) ?_
    refine z_dup hC dX5_addArgument_42 rfl ?_
    refine z_getI hC zc_5 6 (by decide) kw_84 dX5_addArgument_43 h_x0 rfl ?_
    refine z_iload_n hC dX5_addArgument_46 rfl (lv_at hl 1 rfl) ?_
    refine z_iadd hC dX5_addArgument_47 ?_
    refine z_putI hC zc_5 6 (by decide) kw_84 dX5_addArgument_48 h_x0 rfl rfl rfl rfl ?_
    refine z_aload_n hC dX5_addArgument_51 rfl (lv_at hl 2 rfl) ?_
    refine z_iconst (v := 0) hC dX5_addArgument_52 (by decide) ?_
    refine z_putI hC zc_5 7 (by decide) kw_85 dX5_addArgument_53 h_x0 rfl rfl (z_bool (Or.inl rfl)) (z_boolf (Or.inl rfl)) ?_
    refine z_iload_n hC dX5_addArgument_56 rfl (lv_at hl 0 rfl) ?_
    obtain rfl := Option.some.inj hz
    exact z_iret hC hT dX5_addArgument_57 (by decide) (by decide)
  · skip
    refine z_bipush (v := (-2)) hC dX5_addArgument_24 (by decide) ?_
    obtain rfl := Option.some.inj hz
    exact z_iret hC hT dX5_addArgument_26 (by decide) (by decide)
set_option maxRecDepth 100000 in
set_option maxHeartbeats 4000000 in
theorem c_X5_addArgument {l : Launch} {D : zD} {b0 : Nat} {S : zS} {I : zI} {X : Int32 × zI} (F : Nat) (x0 : Nat) (x1 : Int32) (h_x0 : z_is b0 S x0 5) (hz : z_X5_addArgument F S I x0 x1 = some X) : z_M l D b0 yX5_addArgument cX5_addArgument 4 (some .int) { frames := 3, cells := 0, slots := 0, locals := 65 } [.ref (x0), .int (x1)] S I (some (.int (X.1))) S X.2 := by
  refine z_met (by decide) (Nat.le_of_ble_eq_true rfl) ?_
  intro p e s m below meth c hC hnm hT ls hl
  have hl : lv_has ls 4 [(0, .ref (x0)), (1, .int (x1))] := hl
  unfold z_X5_addArgument at hz
  refine z_iload_n hC dX5_addArgument_0 rfl (lv_at hl 1 rfl) ?_
  refine z_iconst (v := 2) hC dX5_addArgument_1 (by decide) ?_
  refine z_icmp_ne (tgt := 9) hC dX5_addArgument_2 (by decide) hz (fun hz => ?_) (fun hz => ?_)
  · skip
    refine z_iconst (v := 1) hC dX5_addArgument_9 (by decide) ?_
    exact b_X5_addArgument_10 hC hT   (x0) (x1) (1) (I) h_x0 hz ls (lv_sub hl [0, 1] rfl)
  · skip
    refine z_iconst (v := 2) hC dX5_addArgument_5 (by decide) ?_
    refine z_goto (tgt := 10) hC dX5_addArgument_6 (by decide) ?_
    exact b_X5_addArgument_10 hC hT   (x0) (x1) (2) (I) h_x0 hz ls (lv_sub hl [0, 1] rfl)
theorem zy_X5_frameCount : z_y yX5_frameCount cX5_frameCount 4 (some .int) 0 := ⟨kw_588, kw_3, by decide +kernel, by decide +kernel, by decide +kernel⟩
theorem zv_X5_frameCount : Cond.instanceMethod yX5_frameCount ∈ z_tbl ∧ Cond.selects RX5 yX5_frameCount yX5_frameCount ∈ z_tbl := ⟨kw_586, kw_587⟩
def z_X5_frameCount_4B (F : Nat) (S : zS) (I : zI) (k4 : Nat → Int32 → Int32 → Option (Int32)) (x0 : Nat) (x1 : Int32) (x2 : Int32) : Option (Int32) :=
  if x2 < (I x0 3) then (ob (z_X5_actAt F S I x0 x2) (fun q1 => ob2 (q1) (k4 (x0) (x1) (x2 + 1)) (fun r2 => if (I r2 5) = 0 then (k4 (x0) (x1) (x2 + 1)) else (k4 (x0) (x1 + 1) (x2 + 1))))) else (some (x1))
def z_X5_frameCount_4 (F : Nat) (S : zS) (I : zI)  : Nat → Nat → Int32 → Int32 → Option (Int32)
  | 0 => fun _ _ _ => none
  | n + 1 => fun x0 x1 x2 => z_X5_frameCount_4B F S I  (z_X5_frameCount_4 F S I  n) x0 x1 x2
def z_X5_frameCount (F : Nat) (S : zS) (I : zI) (x0 : Nat) : Option (Int32) :=
  z_X5_frameCount_4 F S I  F (x0) (0) (0)
set_option maxRecDepth 100000 in
set_option maxHeartbeats 4000000 in
theorem bb_X5_frameCount_4 {p : Program} {l : Launch} {e : Env} {s : State} {m : MethodId} {args : Array Value} {below : List Frame} {meth : Method} {c : Code} {D : zD} {b0 : Nat} {F : Nat} {S : zS} {I : zI} {X : Int32} (hC : z_C p s m args meth c cX5_frameCount RX5 4 (some .int) D) (hT : z_T b0 S) (k4 : Nat → Int32 → Int32 → Option (Int32)) (hk4 : ∀ (x0 : Nat) (x1 : Int32) (x2 : Int32) , z_is b0 S x0 5 → k4 x0 x1 x2 = some X → ∀ ls : Array Slot, lv_has ls 4 [(0, .ref (x0)), (1, .int (x1)), (2, .int (x2))] → z_W p l e { frames := 1, cells := 0, slots := 0, locals := 21 } s m args below meth c D b0 S I 0 0 (MQ below (z_Q D b0 (some (.int (X))) S I) args s 0 0 (fun q => b0 ≤ q)) (F0 m 4 ls [])) (x0 : Nat) (x1 : Int32) (x2 : Int32) (h_x0 : z_is b0 S x0 5) (hz : z_X5_frameCount_4B F S I k4 x0 x1 x2 = some X) (ls : Array Slot) (hl : lv_has ls 4 [(0, .ref (x0)), (1, .int (x1)), (2, .int (x2))]) : z_W p l e { frames := 1, cells := 0, slots := 0, locals := 21 } s m args below meth c D b0 S I 0 0 (MQ below (z_Q D b0 (some (.int (X))) S I) args s 0 0 (fun q => b0 ≤ q)) (F0 m 4 ls []) := by
  unfold z_X5_frameCount_4B at hz
  refine z_iload_n hC dX5_frameCount_4 rfl (lv_at hl 2 rfl) ?_
  refine z_aload_n hC dX5_frameCount_5 rfl (lv_at hl 0 rfl) ?_
  refine z_getI hC zc_5 3 (by decide) kw_75 dX5_frameCount_6 h_x0 rfl ?_
  refine z_icmp_ge (tgt := 38) hC dX5_frameCount_9 (by decide) hz (fun hz => ?_) (fun hz => ?_)
  · skip
    refine z_iload_n hC dX5_frameCount_38 rfl (lv_at hl 1 rfl) ?_
    obtain rfl := Option.some.inj hz
    exact z_iret hC hT dX5_frameCount_39 (by decide) (by decide)
  · skip
    refine z_aload_n hC dX5_frameCount_12 rfl (lv_at hl 0 rfl) ?_
    refine z_iload_n hC dX5_frameCount_13 rfl (lv_at hl 2 rfl) ?_
    obtain ⟨q1, hq_q1, hz⟩ := ob_some hz
    refine z_callV (As := [.int (x2)]) hC hT (c_X5_actAt F x0 x2 h_x0 hq_q1) zy_X5_actAt zc_5 zv_X5_actAt kw_384 dX5_frameCount_14 h_x0 rfl rfl hl.1 (Nat.le_of_ble_eq_true rfl) (by decide) (by decide) ?_
    rcases ob2_some hz with ⟨ho_r2, hz⟩ | ⟨r2, ho_r2, hz⟩
    · try rw [ho_r2]
      try rw [ho_r2] at hl
      refine z_astore_nN (lv' := [(3, .null), (0, .ref (x0)), (1, .int (x1)), (2, .int (x2))]) hC dX5_frameCount_17 rfl hl (by decide) rfl (fun ls hl => ?_)
      refine z_aload_nN hC dX5_frameCount_18 rfl (lv_at hl 0 rfl) ?_
      refine z_ifnullN (tgt := 32) hC dX5_frameCount_19 (by decide) ?_
      refine z_iinc (k0 := 3) (v := x2 + 1) (lv' := [(2, .int (x2 + 1)), (3, .null), (0, .ref (x0)), (1, .int (x1))]) hC dX5_frameCount_32 hl rfl rfl (by decide) rfl (fun ls hl => ?_)
      refine z_goto (tgt := 4) hC dX5_frameCount_35 (by decide) ?_
      exact hk4 (x0) (x1) (x2 + 1) h_x0 hz ls (lv_sub hl [2, 3, 0] rfl)
    · have hk_r2 : z_is b0 S r2 0 := (tk_X5_actAt hT h_x0 hq_q1) _ ho_r2
      try rw [ho_r2]
      try rw [ho_r2] at hl
      refine z_astore_n (lv' := [(3, .ref (r2)), (0, .ref (x0)), (1, .int (x1)), (2, .int (x2))]) hC dX5_frameCount_17 rfl hl (by decide) rfl (fun ls hl => ?_)
      refine z_aload_n hC dX5_frameCount_18 rfl (lv_at hl 0 rfl) ?_
      refine z_ifnull hC dX5_frameCount_19 ?_
      refine z_aload_n hC dX5_frameCount_22 rfl (lv_at hl 0 rfl) ?_
      refine z_getI hC zc_0 5 (by decide) kw_310 dX5_frameCount_23 hk_r2 rfl ?_
      refine z_if_eq (tgt := 32) hC dX5_frameCount_26 (by decide) hz (fun hz => ?_) (fun hz => ?_)
      · skip
        refine z_iinc (k0 := 3) (v := x2 + 1) (lv' := [(2, .int (x2 + 1)), (3, .ref (r2)), (0, .ref (x0)), (1, .int (x1))]) hC dX5_frameCount_32 hl rfl rfl (by decide) rfl (fun ls hl => ?_)
        refine z_goto (tgt := 4) hC dX5_frameCount_35 (by decide) ?_
        exact hk4 (x0) (x1) (x2 + 1) h_x0 hz ls (lv_sub hl [2, 3, 0] rfl)
      · skip
        refine z_iinc (k0 := 2) (v := x1 + 1) (lv' := [(1, .int (x1 + 1)), (3, .ref (r2)), (0, .ref (x0)), (2, .int (x2))]) hC dX5_frameCount_29 hl rfl rfl (by decide) rfl (fun ls hl => ?_)
        refine z_iinc (k0 := 3) (v := x2 + 1) (lv' := [(2, .int (x2 + 1)), (1, .int (x1 + 1)), (3, .ref (r2)), (0, .ref (x0))]) hC dX5_frameCount_32 hl rfl rfl (by decide) rfl (fun ls hl => ?_)
        refine z_goto (tgt := 4) hC dX5_frameCount_35 (by decide) ?_
        exact hk4 (x0) (x1 + 1) (x2 + 1) h_x0 hz ls (lv_sub hl [3, 1, 0] rfl)
set_option maxRecDepth 100000 in
set_option maxHeartbeats 4000000 in
theorem b_X5_frameCount_4 {p : Program} {l : Launch} {e : Env} {s : State} {m : MethodId} {args : Array Value} {below : List Frame} {meth : Method} {c : Code} {D : zD} {b0 : Nat} {F : Nat} {S : zS} {I : zI} {X : Int32} (hC : z_C p s m args meth c cX5_frameCount RX5 4 (some .int) D) (hT : z_T b0 S)   : ∀ (n : Nat) (x0 : Nat) (x1 : Int32) (x2 : Int32), z_is b0 S x0 5 → z_X5_frameCount_4 F S I  n x0 x1 x2 = some X → ∀ ls : Array Slot, lv_has ls 4 [(0, .ref (x0)), (1, .int (x1)), (2, .int (x2))] → z_W p l e { frames := 1, cells := 0, slots := 0, locals := 21 } s m args below meth c D b0 S I 0 0 (MQ below (z_Q D b0 (some (.int (X))) S I) args s 0 0 (fun q => b0 ≤ q)) (F0 m 4 ls []) := by
  intro n
  induction n with
  | zero => intro x0 x1 x2 h_x0 hz; cases hz
  | succ n ih =>
    intro x0 x1 x2 h_x0 hz ls hl
    exact bb_X5_frameCount_4 (F := F) hC hT  (z_X5_frameCount_4 F S I  n)  ih x0 x1 x2 h_x0 hz ls hl
set_option maxRecDepth 100000 in
set_option maxHeartbeats 4000000 in
theorem c_X5_frameCount {l : Launch} {D : zD} {b0 : Nat} {S : zS} {I : zI} {X : Int32} (F : Nat) (x0 : Nat) (h_x0 : z_is b0 S x0 5) (hz : z_X5_frameCount F S I x0 = some X) : z_M l D b0 yX5_frameCount cX5_frameCount 4 (some .int) { frames := 1, cells := 0, slots := 0, locals := 21 } [.ref (x0)] S I (some (.int (X))) S I := by
  refine z_met (by decide) (Nat.le_of_ble_eq_true rfl) ?_
  intro p e s m below meth c hC hnm hT ls hl
  have hl : lv_has ls 4 [(0, .ref (x0))] := hl
  unfold z_X5_frameCount at hz
  refine z_iconst (v := 0) hC dX5_frameCount_0 (by decide) ?_
  refine z_istore_n (lv' := [(1, .int (0)), (0, .ref (x0))]) hC dX5_frameCount_1 rfl hl (by decide) rfl (fun ls hl => ?_)
  refine z_iconst (v := 0) hC dX5_frameCount_2 (by decide) ?_
  refine z_istore_n (lv' := [(2, .int (0)), (1, .int (0)), (0, .ref (x0))]) hC dX5_frameCount_3 rfl hl (by decide) rfl (fun ls hl => ?_)
  exact b_X5_frameCount_4 hC hT   F (x0) (0) (0) h_x0 hz ls (lv_sub hl [2, 1, 0] rfl)
theorem zy_X5_actOfFrame : z_y yX5_actOfFrame cX5_actOfFrame 5 (some .int) 1 := ⟨kw_614, kw_3, by decide +kernel, by decide +kernel, by decide +kernel⟩
theorem zv_X5_actOfFrame : Cond.instanceMethod yX5_actOfFrame ∈ z_tbl ∧ Cond.selects RX5 yX5_actOfFrame yX5_actOfFrame ∈ z_tbl := ⟨kw_612, kw_613⟩
def z_X5_actOfFrame_4B (F : Nat) (S : zS) (I : zI) (k4 : Nat → Int32 → Int32 → Int32 → Option (Int32)) (x0 : Nat) (x1 : Int32) (x2 : Int32) (x3 : Int32) : Option (Int32) :=
  if x3 < (I x0 3) then (ob (z_X5_actAt F S I x0 x3) (fun q1 => ob2 (q1) (k4 (x0) (x1) (x2) (x3 + 1)) (fun r2 => if (I r2 5) = 0 then (k4 (x0) (x1) (x2) (x3 + 1)) else (if x2 = x1 then (some (x3)) else (k4 (x0) (x1) (x2 + 1) (x3 + 1)))))) else (some ((-1)))
def z_X5_actOfFrame_4 (F : Nat) (S : zS) (I : zI)  : Nat → Nat → Int32 → Int32 → Int32 → Option (Int32)
  | 0 => fun _ _ _ _ => none
  | n + 1 => fun x0 x1 x2 x3 => z_X5_actOfFrame_4B F S I  (z_X5_actOfFrame_4 F S I  n) x0 x1 x2 x3
def z_X5_actOfFrame (F : Nat) (S : zS) (I : zI) (x0 : Nat) (x1 : Int32) : Option (Int32) :=
  z_X5_actOfFrame_4 F S I  F (x0) (x1) (0) (0)
set_option maxRecDepth 100000 in
set_option maxHeartbeats 4000000 in
theorem bb_X5_actOfFrame_4 {p : Program} {l : Launch} {e : Env} {s : State} {m : MethodId} {args : Array Value} {below : List Frame} {meth : Method} {c : Code} {D : zD} {b0 : Nat} {F : Nat} {S : zS} {I : zI} {X : Int32} (hC : z_C p s m args meth c cX5_actOfFrame RX5 5 (some .int) D) (hT : z_T b0 S) (k4 : Nat → Int32 → Int32 → Int32 → Option (Int32)) (hk4 : ∀ (x0 : Nat) (x1 : Int32) (x2 : Int32) (x3 : Int32) , z_is b0 S x0 5 → k4 x0 x1 x2 x3 = some X → ∀ ls : Array Slot, lv_has ls 5 [(0, .ref (x0)), (1, .int (x1)), (2, .int (x2)), (3, .int (x3))] → z_W p l e { frames := 1, cells := 0, slots := 0, locals := 21 } s m args below meth c D b0 S I 0 0 (MQ below (z_Q D b0 (some (.int (X))) S I) args s 0 0 (fun q => b0 ≤ q)) (F0 m 4 ls [])) (x0 : Nat) (x1 : Int32) (x2 : Int32) (x3 : Int32) (h_x0 : z_is b0 S x0 5) (hz : z_X5_actOfFrame_4B F S I k4 x0 x1 x2 x3 = some X) (ls : Array Slot) (hl : lv_has ls 5 [(0, .ref (x0)), (1, .int (x1)), (2, .int (x2)), (3, .int (x3))]) : z_W p l e { frames := 1, cells := 0, slots := 0, locals := 21 } s m args below meth c D b0 S I 0 0 (MQ below (z_Q D b0 (some (.int (X))) S I) args s 0 0 (fun q => b0 ≤ q)) (F0 m 4 ls []) := by
  unfold z_X5_actOfFrame_4B at hz
  refine z_iload_n hC dX5_actOfFrame_4 rfl (lv_at hl 3 rfl) ?_
  refine z_aload_n hC dX5_actOfFrame_5 rfl (lv_at hl 0 rfl) ?_
  refine z_getI hC zc_5 3 (by decide) kw_75 dX5_actOfFrame_6 h_x0 rfl ?_
  refine z_icmp_ge (tgt := 48) hC dX5_actOfFrame_9 (by decide) hz (fun hz => ?_) (fun hz => ?_)
  · skip
    refine z_iconst (v := (-1)) hC dX5_actOfFrame_48 (by decide) ?_
    obtain rfl := Option.some.inj hz
    exact z_iret hC hT dX5_actOfFrame_49 (by decide) (by decide)
  · skip
    refine z_aload_n hC dX5_actOfFrame_12 rfl (lv_at hl 0 rfl) ?_
    refine z_iload_n hC dX5_actOfFrame_13 rfl (lv_at hl 3 rfl) ?_
    obtain ⟨q1, hq_q1, hz⟩ := ob_some hz
    refine z_callV (As := [.int (x3)]) hC hT (c_X5_actAt F x0 x3 h_x0 hq_q1) zy_X5_actAt zc_5 zv_X5_actAt kw_384 dX5_actOfFrame_14 h_x0 rfl rfl hl.1 (Nat.le_of_ble_eq_true rfl) (by decide) (by decide) ?_
    rcases ob2_some hz with ⟨ho_r2, hz⟩ | ⟨r2, ho_r2, hz⟩
    · try rw [ho_r2]
      try rw [ho_r2] at hl
      refine z_astoreN (lv' := [(4, .null), (0, .ref (x0)), (1, .int (x1)), (2, .int (x2)), (3, .int (x3))]) hC dX5_actOfFrame_17 hl (by decide) rfl (fun ls hl => ?_)
      refine z_aloadN hC dX5_actOfFrame_19 (lv_at hl 0 rfl) ?_
      refine z_ifnullN (tgt := 42) hC dX5_actOfFrame_21 (by decide) ?_
      refine z_iinc (k0 := 4) (v := x3 + 1) (lv' := [(3, .int (x3 + 1)), (4, .null), (0, .ref (x0)), (1, .int (x1)), (2, .int (x2))]) hC dX5_actOfFrame_42 hl rfl rfl (by decide) rfl (fun ls hl => ?_)
      refine z_goto (tgt := 4) hC dX5_actOfFrame_45 (by decide) ?_
      exact hk4 (x0) (x1) (x2) (x3 + 1) h_x0 hz ls (lv_sub hl [2, 3, 4, 0] rfl)
    · have hk_r2 : z_is b0 S r2 0 := (tk_X5_actAt hT h_x0 hq_q1) _ ho_r2
      try rw [ho_r2]
      try rw [ho_r2] at hl
      refine z_astore (lv' := [(4, .ref (r2)), (0, .ref (x0)), (1, .int (x1)), (2, .int (x2)), (3, .int (x3))]) hC dX5_actOfFrame_17 hl (by decide) rfl (fun ls hl => ?_)
      refine z_aload hC dX5_actOfFrame_19 (lv_at hl 0 rfl) ?_
      refine z_ifnull hC dX5_actOfFrame_21 ?_
      refine z_aload hC dX5_actOfFrame_24 (lv_at hl 0 rfl) ?_
      refine z_getI hC zc_0 5 (by decide) kw_310 dX5_actOfFrame_26 hk_r2 rfl ?_
      refine z_if_eq (tgt := 42) hC dX5_actOfFrame_29 (by decide) hz (fun hz => ?_) (fun hz => ?_)
      · skip
        refine z_iinc (k0 := 4) (v := x3 + 1) (lv' := [(3, .int (x3 + 1)), (4, .ref (r2)), (0, .ref (x0)), (1, .int (x1)), (2, .int (x2))]) hC dX5_actOfFrame_42 hl rfl rfl (by decide) rfl (fun ls hl => ?_)
        refine z_goto (tgt := 4) hC dX5_actOfFrame_45 (by decide) ?_
        exact hk4 (x0) (x1) (x2) (x3 + 1) h_x0 hz ls (lv_sub hl [2, 3, 4, 0] rfl)
      · skip
        refine z_iload_n hC dX5_actOfFrame_32 rfl (lv_at hl 3 rfl) ?_
        refine z_iload_n hC dX5_actOfFrame_33 rfl (lv_at hl 2 rfl) ?_
        refine z_icmp_ne (tgt := 39) hC dX5_actOfFrame_34 (by decide) hz (fun hz => ?_) (fun hz => ?_)
        · skip
          refine z_iinc (k0 := 3) (v := x2 + 1) (lv' := [(2, .int (x2 + 1)), (4, .ref (r2)), (0, .ref (x0)), (1, .int (x1)), (3, .int (x3))]) hC dX5_actOfFrame_39 hl rfl rfl (by decide) rfl (fun ls hl => ?_)
          refine z_iinc (k0 := 4) (v := x3 + 1) (lv' := [(3, .int (x3 + 1)), (2, .int (x2 + 1)), (4, .ref (r2)), (0, .ref (x0)), (1, .int (x1))]) hC dX5_actOfFrame_42 hl rfl rfl (by decide) rfl (fun ls hl => ?_)
          refine z_goto (tgt := 4) hC dX5_actOfFrame_45 (by decide) ?_
          exact hk4 (x0) (x1) (x2 + 1) (x3 + 1) h_x0 hz ls (lv_sub hl [3, 4, 1, 0] rfl)
        · skip
          refine z_iload_n hC dX5_actOfFrame_37 rfl (lv_at hl 4 rfl) ?_
          obtain rfl := Option.some.inj hz
          exact z_iret hC hT dX5_actOfFrame_38 (by decide) (by decide)
set_option maxRecDepth 100000 in
set_option maxHeartbeats 4000000 in
theorem b_X5_actOfFrame_4 {p : Program} {l : Launch} {e : Env} {s : State} {m : MethodId} {args : Array Value} {below : List Frame} {meth : Method} {c : Code} {D : zD} {b0 : Nat} {F : Nat} {S : zS} {I : zI} {X : Int32} (hC : z_C p s m args meth c cX5_actOfFrame RX5 5 (some .int) D) (hT : z_T b0 S)   : ∀ (n : Nat) (x0 : Nat) (x1 : Int32) (x2 : Int32) (x3 : Int32), z_is b0 S x0 5 → z_X5_actOfFrame_4 F S I  n x0 x1 x2 x3 = some X → ∀ ls : Array Slot, lv_has ls 5 [(0, .ref (x0)), (1, .int (x1)), (2, .int (x2)), (3, .int (x3))] → z_W p l e { frames := 1, cells := 0, slots := 0, locals := 21 } s m args below meth c D b0 S I 0 0 (MQ below (z_Q D b0 (some (.int (X))) S I) args s 0 0 (fun q => b0 ≤ q)) (F0 m 4 ls []) := by
  intro n
  induction n with
  | zero => intro x0 x1 x2 x3 h_x0 hz; cases hz
  | succ n ih =>
    intro x0 x1 x2 x3 h_x0 hz ls hl
    exact bb_X5_actOfFrame_4 (F := F) hC hT  (z_X5_actOfFrame_4 F S I  n)  ih x0 x1 x2 x3 h_x0 hz ls hl
set_option maxRecDepth 100000 in
set_option maxHeartbeats 4000000 in
theorem c_X5_actOfFrame {l : Launch} {D : zD} {b0 : Nat} {S : zS} {I : zI} {X : Int32} (F : Nat) (x0 : Nat) (x1 : Int32) (h_x0 : z_is b0 S x0 5) (hz : z_X5_actOfFrame F S I x0 x1 = some X) : z_M l D b0 yX5_actOfFrame cX5_actOfFrame 5 (some .int) { frames := 1, cells := 0, slots := 0, locals := 21 } [.ref (x0), .int (x1)] S I (some (.int (X))) S I := by
  refine z_met (by decide) (Nat.le_of_ble_eq_true rfl) ?_
  intro p e s m below meth c hC hnm hT ls hl
  have hl : lv_has ls 5 [(0, .ref (x0)), (1, .int (x1))] := hl
  unfold z_X5_actOfFrame at hz
  refine z_iconst (v := 0) hC dX5_actOfFrame_0 (by decide) ?_
  refine z_istore_n (lv' := [(2, .int (0)), (0, .ref (x0)), (1, .int (x1))]) hC dX5_actOfFrame_1 rfl hl (by decide) rfl (fun ls hl => ?_)
  refine z_iconst (v := 0) hC dX5_actOfFrame_2 (by decide) ?_
  refine z_istore_n (lv' := [(3, .int (0)), (2, .int (0)), (0, .ref (x0)), (1, .int (x1))]) hC dX5_actOfFrame_3 rfl hl (by decide) rfl (fun ls hl => ?_)
  exact b_X5_actOfFrame_4 hC hT   F (x0) (x1) (0) (0) h_x0 hz ls (lv_sub hl [2, 3, 1, 0] rfl)
theorem zy_X8_isPlace : z_y yX8_isPlace cX8_isPlace 1 (some .boolean) 1 := ⟨kw_279, kw_1, by decide +kernel, by decide +kernel, by decide +kernel⟩
def z_X8_isPlace (F : Nat) (S : zS) (I : zI) (x0 : Int32) : Option (Int32) :=
  if x0 < 0 then (some (0)) else (if x0 < 8 then (some (1)) else (some (0)))
set_option maxRecDepth 100000 in
set_option maxHeartbeats 4000000 in
theorem c_X8_isPlace {l : Launch} {D : zD} {b0 : Nat} {S : zS} {I : zI} {X : Int32} (F : Nat) (x0 : Int32)  (hz : z_X8_isPlace F S I x0 = some X) : z_M l D b0 yX8_isPlace cX8_isPlace 1 (some .boolean) { frames := 0, cells := 0, slots := 0, locals := 0 } [.int (x0)] S I (some (.int (X))) S I := by
  refine z_met (by decide) (Nat.le_of_ble_eq_true rfl) ?_
  intro p e s m below meth c hC hnm hT ls hl
  have hl : lv_has ls 1 [(0, .int (x0))] := hl
  unfold z_X8_isPlace at hz
  refine z_iload_n hC dX8_isPlace_0 rfl (lv_at hl 0 rfl) ?_
  refine z_if_lt (tgt := 14) hC dX8_isPlace_1 (by decide) hz (fun hz => ?_) (fun hz => ?_)
  · skip
    refine z_iconst (v := 0) hC dX8_isPlace_14 (by decide) ?_
    obtain rfl := Option.some.inj hz
    exact z_zret hC hT dX8_isPlace_15 (Or.inl rfl) (by decide) (by decide)
  · skip
    refine z_iload_n hC dX8_isPlace_4 rfl (lv_at hl 0 rfl) ?_
    refine z_bipush (v := 8) hC dX8_isPlace_5 (by decide) ?_
    refine z_icmp_ge (tgt := 14) hC dX8_isPlace_7 (by decide) hz (fun hz => ?_) (fun hz => ?_)
    · skip
      refine z_iconst (v := 0) hC dX8_isPlace_14 (by decide) ?_
      obtain rfl := Option.some.inj hz
      exact z_zret hC hT dX8_isPlace_15 (Or.inl rfl) (by decide) (by decide)
    · skip
      refine z_iconst (v := 1) hC dX8_isPlace_10 (by decide) ?_
      refine z_goto (tgt := 15) hC dX8_isPlace_11 (by decide) ?_
      obtain rfl := Option.some.inj hz
      exact z_zret hC hT dX8_isPlace_15 (Or.inr rfl) (by decide) (by decide)
theorem zy_X8_isOnStack : z_y yX8_isOnStack cX8_isOnStack 1 (some .boolean) 1 := ⟨kw_600, kw_1, by decide +kernel, by decide +kernel, by decide +kernel⟩
def z_X8_isOnStack (F : Nat) (S : zS) (I : zI) (x0 : Int32) : Option (Int32) :=
  if x0 < 100 then (some (0)) else (if x0 < 110 then (some (1)) else (some (0)))
set_option maxRecDepth 100000 in
set_option maxHeartbeats 4000000 in
theorem c_X8_isOnStack {l : Launch} {D : zD} {b0 : Nat} {S : zS} {I : zI} {X : Int32} (F : Nat) (x0 : Int32)  (hz : z_X8_isOnStack F S I x0 = some X) : z_M l D b0 yX8_isOnStack cX8_isOnStack 1 (some .boolean) { frames := 0, cells := 0, slots := 0, locals := 0 } [.int (x0)] S I (some (.int (X))) S I := by
  refine z_met (by decide) (Nat.le_of_ble_eq_true rfl) ?_
  intro p e s m below meth c hC hnm hT ls hl
  have hl : lv_has ls 1 [(0, .int (x0))] := hl
  unfold z_X8_isOnStack at hz
  refine z_iload_n hC dX8_isOnStack_0 rfl (lv_at hl 0 rfl) ?_
  refine z_bipush (v := 100) hC dX8_isOnStack_1 (by decide) ?_
  refine z_icmp_lt (tgt := 16) hC dX8_isOnStack_3 (by decide) hz (fun hz => ?_) (fun hz => ?_)
  · skip
    refine z_iconst (v := 0) hC dX8_isOnStack_16 (by decide) ?_
    obtain rfl := Option.some.inj hz
    exact z_zret hC hT dX8_isOnStack_17 (Or.inl rfl) (by decide) (by decide)
  · skip
    refine z_iload_n hC dX8_isOnStack_6 rfl (lv_at hl 0 rfl) ?_
    refine z_bipush (v := 110) hC dX8_isOnStack_7 (by decide) ?_
    refine z_icmp_ge (tgt := 16) hC dX8_isOnStack_9 (by decide) hz (fun hz => ?_) (fun hz => ?_)
    · skip
      refine z_iconst (v := 0) hC dX8_isOnStack_16 (by decide) ?_
      obtain rfl := Option.some.inj hz
      exact z_zret hC hT dX8_isOnStack_17 (Or.inl rfl) (by decide) (by decide)
    · skip
      refine z_iconst (v := 1) hC dX8_isOnStack_12 (by decide) ?_
      refine z_goto (tgt := 17) hC dX8_isOnStack_13 (by decide) ?_
      obtain rfl := Option.some.inj hz
      exact z_zret hC hT dX8_isOnStack_17 (Or.inr rfl) (by decide) (by decide)
theorem zy_X6_answer : z_y yX6_answer cX6_answer 3 (some .int) 1 := ⟨kw_604, kw_4, by decide +kernel, by decide +kernel, by decide +kernel⟩
theorem zv_X6_answer : Cond.instanceMethod yX6_answer ∈ z_tbl ∧ Cond.selects RX6 yX6_answer yX6_answer ∈ z_tbl := ⟨kw_602, kw_603⟩
def z_X6_answer_43 (F : Nat) (S : zS) (I : zI)  (y0 : Int32) : Option (Int32) :=
  if y0 = (-1) then (some ((-1))) else (some (y0))
def z_X6_answer (F : Nat) (S : zS) (I : zI) (x0 : Nat) (x1 : Int32) : Option (Int32) :=
  ob (z_X8_isPlace F S I x1) (fun q1 => if q1 = 0 then (if x1 = 99 then (some (I x0 2)) else (ob (z_X8_isOnStack F S I x1) (fun q2 => if q2 = 0 then (z_X6_answer_43 F S I  ((-1))) else (ob (z_X6_onStack F S I x0 (x1 - 100)) (fun q3 => z_X6_answer_43 F S I  (q3)))))) else (ob (z_X6_inPlace F S I x0 x1) (fun q4 => some (q4))))
set_option maxRecDepth 100000 in
set_option maxHeartbeats 4000000 in
theorem b_X6_answer_43 {p : Program} {l : Launch} {e : Env} {s : State} {m : MethodId} {args : Array Value} {below : List Frame} {meth : Method} {c : Code} {D : zD} {b0 : Nat} {F : Nat} {S : zS} {I : zI} {X : Int32} (hC : z_C p s m args meth c cX6_answer RX6 3 (some .int) D) (hT : z_T b0 S)   (y0 : Int32)  (hz : z_X6_answer_43 F S I  y0 = some X) (ls : Array Slot) (hl : lv_has ls 3 []) : z_W p l e { frames := 1, cells := 0, slots := 0, locals := 21 } s m args below meth c D b0 S I 0 0 (MQ below (z_Q D b0 (some (.int (X))) S I) args s 0 0 (fun q => b0 ≤ q)) (F0 m 43 ls [.int (y0)]) := by
  unfold z_X6_answer_43 at hz
  refine z_istore_n (lv' := [(2, .int (y0))]) hC dX6_answer_43 rfl hl (by decide) rfl (fun ls hl => ?_)
  refine z_iload_n hC dX6_answer_44 rfl (lv_at hl 0 rfl) ?_
  refine z_iconst (v := (-1)) hC dX6_answer_45 (by decide) ?_
  refine z_icmp_ne (tgt := 53) hC dX6_answer_46 (by decide) hz (fun hz => ?_) (fun hz => ?_)
  · skip
    refine z_iload_n hC dX6_answer_53 rfl (lv_at hl 0 rfl) ?_
    obtain rfl := Option.some.inj hz
    exact z_iret hC hT dX6_answer_54 (by decide) (by decide)
  · skip
    refine z_iconst (v := (-1)) hC dX6_answer_49 (by decide) ?_
    refine z_goto (tgt := 54) hC dX6_answer_50 (by decide) ?_
    obtain rfl := Option.some.inj hz
    exact z_iret hC hT dX6_answer_54 (by decide) (by decide)
set_option maxRecDepth 100000 in
set_option maxHeartbeats 4000000 in
theorem c_X6_answer {l : Launch} {D : zD} {b0 : Nat} {S : zS} {I : zI} {X : Int32} (F : Nat) (x0 : Nat) (x1 : Int32) (h_x0 : z_is b0 S x0 6) (hz : z_X6_answer F S I x0 x1 = some X) : z_M l D b0 yX6_answer cX6_answer 3 (some .int) { frames := 1, cells := 0, slots := 0, locals := 21 } [.ref (x0), .int (x1)] S I (some (.int (X))) S I := by
  refine z_met (by decide) (Nat.le_of_ble_eq_true rfl) ?_
  intro p e s m below meth c hC hnm hT ls hl
  have hl : lv_has ls 3 [(0, .ref (x0)), (1, .int (x1))] := hl
  unfold z_X6_answer at hz
  refine z_iload_n hC dX6_answer_0 rfl (lv_at hl 1 rfl) ?_
  obtain ⟨q1, hq_q1, hz⟩ := ob_some hz
  refine z_callSN (As := [.int (x1)]) hC hT (c_X8_isPlace F x1  hq_q1) zy_X8_isPlace kw_278 kn_7 dX6_answer_1 rfl rfl hl.1 (Nat.le_of_ble_eq_true rfl) (by decide) (by decide) ?_
  refine z_if_eq (tgt := 13) hC dX6_answer_4 (by decide) hz (fun hz => ?_) (fun hz => ?_)
  · skip
    refine z_iload_n hC dX6_answer_13 rfl (lv_at hl 1 rfl) ?_
    refine z_bipush (v := 99) hC dX6_answer_14 (by decide) ?_
    refine z_icmp_ne (tgt := 24) hC dX6_answer_16 (by decide) hz (fun hz => ?_) (fun hz => ?_)
    · skip
      refine z_iload_n hC dX6_answer_24 rfl (lv_at hl 1 rfl) ?_
      obtain ⟨q2, hq_q2, hz⟩ := ob_some hz
      refine z_callSN (As := [.int (x1)]) hC hT (c_X8_isOnStack F x1  hq_q2) zy_X8_isOnStack kw_599 kn_8 dX6_answer_25 rfl rfl hl.1 (Nat.le_of_ble_eq_true rfl) (by decide) (by decide) ?_
      refine z_if_eq (tgt := 42) hC dX6_answer_28 (by decide) hz (fun hz => ?_) (fun hz => ?_)
      · skip
        refine z_iconst (v := (-1)) hC dX6_answer_42 (by decide) ?_
        exact b_X6_answer_43 hC hT   ((-1)) hz ls (lv_sub hl [] rfl)
      · skip
        refine z_aload_n hC dX6_answer_31 rfl (lv_at hl 0 rfl) ?_
        refine z_iload_n hC dX6_answer_32 rfl (lv_at hl 1 rfl) ?_
        refine z_bipush (v := 100) hC dX6_answer_33 (by decide) ?_
        refine z_isub hC dX6_answer_35 ?_
        obtain ⟨q3, hq_q3, hz⟩ := ob_some hz
        refine z_callV (As := [.int (x1 - 100)]) hC hT (c_X6_onStack F x0 (x1 - 100) h_x0 hq_q3) zy_X6_onStack zc_6 zv_X6_onStack kw_401 dX6_answer_36 h_x0 rfl rfl hl.1 (Nat.le_of_ble_eq_true rfl) (by decide) (by decide) ?_
        refine z_goto (tgt := 43) hC dX6_answer_39 (by decide) ?_
        exact b_X6_answer_43 hC hT   (q3) hz ls (lv_sub hl [] rfl)
    · skip
      refine z_aload_n hC dX6_answer_19 rfl (lv_at hl 0 rfl) ?_
      refine z_getI hC zc_6 2 (by decide) kw_59 dX6_answer_20 h_x0 rfl ?_
      obtain rfl := Option.some.inj hz
      exact z_iret hC hT dX6_answer_23 (by decide) (by decide)
  · skip
    refine z_aload_n hC dX6_answer_7 rfl (lv_at hl 0 rfl) ?_
    refine z_iload_n hC dX6_answer_8 rfl (lv_at hl 1 rfl) ?_
    obtain ⟨q4, hq_q4, hz⟩ := ob_some hz
    refine z_callV (As := [.int (x1)]) hC hT (c_X6_inPlace F x0 x1 h_x0 hq_q4) zy_X6_inPlace zc_6 zv_X6_inPlace kw_261 dX6_answer_9 h_x0 rfl rfl hl.1 (Nat.le_of_ble_eq_true rfl) (by decide) (by decide) ?_
    obtain rfl := Option.some.inj hz
    exact z_iret hC hT dX6_answer_12 (by decide) (by decide)
theorem zy_X6_end : z_y yX6_end cX6_end 3 (some .int) 0 := ⟨kw_626, kw_4, by decide +kernel, by decide +kernel, by decide +kernel⟩
theorem zv_X6_end : Cond.instanceMethod yX6_end ∈ z_tbl ∧ Cond.selects RX6 yX6_end yX6_end ∈ z_tbl := ⟨kw_625, ks_18⟩
def z_X6_end_4B (F : Nat) (S : zS) (I : zI) (k4 : Nat → Int32 → Int32 → Option (Int32)) (x0 : Nat) (x1 : Int32) (x2 : Int32) : Option (Int32) :=
  if x2 < 8 then (ob (z_X6_inPlace F S I x0 x2) (fun q1 => if q1 = 0 then (k4 (x0) (x1) (x2 + 1)) else (k4 (x0) (x2 + 1) (x2 + 1)))) else (some (x1))
def z_X6_end_4 (F : Nat) (S : zS) (I : zI)  : Nat → Nat → Int32 → Int32 → Option (Int32)
  | 0 => fun _ _ _ => none
  | n + 1 => fun x0 x1 x2 => z_X6_end_4B F S I  (z_X6_end_4 F S I  n) x0 x1 x2
def z_X6_end (F : Nat) (S : zS) (I : zI) (x0 : Nat) : Option (Int32) :=
  z_X6_end_4 F S I  F (x0) (0) (0)
set_option maxRecDepth 100000 in
set_option maxHeartbeats 4000000 in
theorem bb_X6_end_4 {p : Program} {l : Launch} {e : Env} {s : State} {m : MethodId} {args : Array Value} {below : List Frame} {meth : Method} {c : Code} {D : zD} {b0 : Nat} {F : Nat} {S : zS} {I : zI} {X : Int32} (hC : z_C p s m args meth c cX6_end RX6 3 (some .int) D) (hT : z_T b0 S) (k4 : Nat → Int32 → Int32 → Option (Int32)) (hk4 : ∀ (x0 : Nat) (x1 : Int32) (x2 : Int32) , z_is b0 S x0 6 → k4 x0 x1 x2 = some X → ∀ ls : Array Slot, lv_has ls 3 [(0, .ref (x0)), (1, .int (x1)), (2, .int (x2))] → z_W p l e { frames := 1, cells := 0, slots := 0, locals := 21 } s m args below meth c D b0 S I 0 0 (MQ below (z_Q D b0 (some (.int (X))) S I) args s 0 0 (fun q => b0 ≤ q)) (F0 m 4 ls [])) (x0 : Nat) (x1 : Int32) (x2 : Int32) (h_x0 : z_is b0 S x0 6) (hz : z_X6_end_4B F S I k4 x0 x1 x2 = some X) (ls : Array Slot) (hl : lv_has ls 3 [(0, .ref (x0)), (1, .int (x1)), (2, .int (x2))]) : z_W p l e { frames := 1, cells := 0, slots := 0, locals := 21 } s m args below meth c D b0 S I 0 0 (MQ below (z_Q D b0 (some (.int (X))) S I) args s 0 0 (fun q => b0 ≤ q)) (F0 m 4 ls []) := by
  unfold z_X6_end_4B at hz
  refine z_iload_n hC dX6_end_4 rfl (lv_at hl 2 rfl) ?_
  refine z_bipush (v := 8) hC dX6_end_5 (by decide) ?_
  refine z_icmp_ge (tgt := 28) hC dX6_end_7 (by decide) hz (fun hz => ?_) (fun hz => ?_)
  · skip
    refine z_iload_n hC dX6_end_28 rfl (lv_at hl 1 rfl) ?_
    obtain rfl := Option.some.inj hz
    exact z_iret hC hT dX6_end_29 (by decide) (by decide)
  · skip
    refine z_aload_n hC dX6_end_10 rfl (lv_at hl 0 rfl) ?_
    refine z_iload_n hC dX6_end_11 rfl (lv_at hl 2 rfl) ?_
    obtain ⟨q1, hq_q1, hz⟩ := ob_some hz
    refine z_callV (As := [.int (x2)]) hC hT (c_X6_inPlace F x0 x2 h_x0 hq_q1) zy_X6_inPlace zc_6 zv_X6_inPlace kw_261 dX6_end_12 h_x0 rfl rfl hl.1 (Nat.le_of_ble_eq_true rfl) (by decide) (by decide) ?_
    refine z_if_eq (tgt := 22) hC dX6_end_15 (by decide) hz (fun hz => ?_) (fun hz => ?_)
    · skip
      refine z_iinc (k0 := 2) (v := x2 + 1) (lv' := [(2, .int (x2 + 1)), (0, .ref (x0)), (1, .int (x1))]) hC dX6_end_22 hl rfl rfl (by decide) rfl (fun ls hl => ?_)
      refine z_goto (tgt := 4) hC dX6_end_25 (by decide) ?_
      exact hk4 (x0) (x1) (x2 + 1) h_x0 hz ls (lv_sub hl [1, 2, 0] rfl)
    · skip
      refine z_iload_n hC dX6_end_18 rfl (lv_at hl 2 rfl) ?_
      refine z_iconst (v := 1) hC dX6_end_19 (by decide) ?_
      refine z_iadd hC dX6_end_20 ?_
      refine z_istore_n (lv' := [(1, .int (x2 + 1)), (0, .ref (x0)), (2, .int (x2))]) hC dX6_end_21 rfl hl (by decide) rfl (fun ls hl => ?_)
      refine z_iinc (k0 := 2) (v := x2 + 1) (lv' := [(2, .int (x2 + 1)), (1, .int (x2 + 1)), (0, .ref (x0))]) hC dX6_end_22 hl rfl rfl (by decide) rfl (fun ls hl => ?_)
      refine z_goto (tgt := 4) hC dX6_end_25 (by decide) ?_
      exact hk4 (x0) (x2 + 1) (x2 + 1) h_x0 hz ls (lv_sub hl [2, 1, 0] rfl)
set_option maxRecDepth 100000 in
set_option maxHeartbeats 4000000 in
theorem b_X6_end_4 {p : Program} {l : Launch} {e : Env} {s : State} {m : MethodId} {args : Array Value} {below : List Frame} {meth : Method} {c : Code} {D : zD} {b0 : Nat} {F : Nat} {S : zS} {I : zI} {X : Int32} (hC : z_C p s m args meth c cX6_end RX6 3 (some .int) D) (hT : z_T b0 S)   : ∀ (n : Nat) (x0 : Nat) (x1 : Int32) (x2 : Int32), z_is b0 S x0 6 → z_X6_end_4 F S I  n x0 x1 x2 = some X → ∀ ls : Array Slot, lv_has ls 3 [(0, .ref (x0)), (1, .int (x1)), (2, .int (x2))] → z_W p l e { frames := 1, cells := 0, slots := 0, locals := 21 } s m args below meth c D b0 S I 0 0 (MQ below (z_Q D b0 (some (.int (X))) S I) args s 0 0 (fun q => b0 ≤ q)) (F0 m 4 ls []) := by
  intro n
  induction n with
  | zero => intro x0 x1 x2 h_x0 hz; cases hz
  | succ n ih =>
    intro x0 x1 x2 h_x0 hz ls hl
    exact bb_X6_end_4 (F := F) hC hT  (z_X6_end_4 F S I  n)  ih x0 x1 x2 h_x0 hz ls hl
set_option maxRecDepth 100000 in
set_option maxHeartbeats 4000000 in
theorem c_X6_end {l : Launch} {D : zD} {b0 : Nat} {S : zS} {I : zI} {X : Int32} (F : Nat) (x0 : Nat) (h_x0 : z_is b0 S x0 6) (hz : z_X6_end F S I x0 = some X) : z_M l D b0 yX6_end cX6_end 3 (some .int) { frames := 1, cells := 0, slots := 0, locals := 21 } [.ref (x0)] S I (some (.int (X))) S I := by
  refine z_met (by decide) (Nat.le_of_ble_eq_true rfl) ?_
  intro p e s m below meth c hC hnm hT ls hl
  have hl : lv_has ls 3 [(0, .ref (x0))] := hl
  unfold z_X6_end at hz
  refine z_iconst (v := 0) hC dX6_end_0 (by decide) ?_
  refine z_istore_n (lv' := [(1, .int (0)), (0, .ref (x0))]) hC dX6_end_1 rfl hl (by decide) rfl (fun ls hl => ?_)
  refine z_iconst (v := 0) hC dX6_end_2 (by decide) ?_
  refine z_istore_n (lv' := [(2, .int (0)), (1, .int (0)), (0, .ref (x0))]) hC dX6_end_3 rfl hl (by decide) rfl (fun ls hl => ?_)
  exact b_X6_end_4 hC hT   F (x0) (0) (0) h_x0 hz ls (lv_sub hl [2, 1, 0] rfl)
theorem zy_X6_isLikeUpTo : z_y yX6_isLikeUpTo cX6_isLikeUpTo 4 (some .boolean) 2 := ⟨kw_633, kw_4, by decide +kernel, by decide +kernel, by decide +kernel⟩
theorem zv_X6_isLikeUpTo : Cond.instanceMethod yX6_isLikeUpTo ∈ z_tbl ∧ Cond.selects RX6 yX6_isLikeUpTo yX6_isLikeUpTo ∈ z_tbl := ⟨kw_632, ks_19⟩
def z_X6_isLikeUpTo_2B (F : Nat) (S : zS) (I : zI) (k2 : Nat → Nat → Int32 → Int32 → Option (Int32)) (x0 : Nat) (x1 : Nat) (x2 : Int32) (x3 : Int32) : Option (Int32) :=
  if x3 < x2 then (ob (z_X6_inPlace F S I x0 x3) (fun q1 => ob (z_X6_inPlace F S I x1 x3) (fun q2 => if q1 = q2 then (k2 (x0) (x1) (x2) (x3 + 1)) else (some (0))))) else (some (1))
def z_X6_isLikeUpTo_2 (F : Nat) (S : zS) (I : zI)  : Nat → Nat → Nat → Int32 → Int32 → Option (Int32)
  | 0 => fun _ _ _ _ => none
  | n + 1 => fun x0 x1 x2 x3 => z_X6_isLikeUpTo_2B F S I  (z_X6_isLikeUpTo_2 F S I  n) x0 x1 x2 x3
def z_X6_isLikeUpTo (F : Nat) (S : zS) (I : zI) (x0 : Nat) (x1 : Nat) (x2 : Int32) : Option (Int32) :=
  z_X6_isLikeUpTo_2 F S I  F (x0) (x1) (x2) (0)
set_option maxRecDepth 100000 in
set_option maxHeartbeats 4000000 in
theorem bb_X6_isLikeUpTo_2 {p : Program} {l : Launch} {e : Env} {s : State} {m : MethodId} {args : Array Value} {below : List Frame} {meth : Method} {c : Code} {D : zD} {b0 : Nat} {F : Nat} {S : zS} {I : zI} {X : Int32} (hC : z_C p s m args meth c cX6_isLikeUpTo RX6 4 (some .boolean) D) (hT : z_T b0 S) (k2 : Nat → Nat → Int32 → Int32 → Option (Int32)) (hk2 : ∀ (x0 : Nat) (x1 : Nat) (x2 : Int32) (x3 : Int32) , z_is b0 S x0 6 → z_is b0 S x1 6 → k2 x0 x1 x2 x3 = some X → ∀ ls : Array Slot, lv_has ls 4 [(0, .ref (x0)), (1, .ref (x1)), (2, .int (x2)), (3, .int (x3))] → z_W p l e { frames := 1, cells := 0, slots := 0, locals := 21 } s m args below meth c D b0 S I 0 0 (MQ below (z_Q D b0 (some (.int (X))) S I) args s 0 0 (fun q => b0 ≤ q)) (F0 m 2 ls [])) (x0 : Nat) (x1 : Nat) (x2 : Int32) (x3 : Int32) (h_x0 : z_is b0 S x0 6) (h_x1 : z_is b0 S x1 6) (hz : z_X6_isLikeUpTo_2B F S I k2 x0 x1 x2 x3 = some X) (ls : Array Slot) (hl : lv_has ls 4 [(0, .ref (x0)), (1, .ref (x1)), (2, .int (x2)), (3, .int (x3))]) : z_W p l e { frames := 1, cells := 0, slots := 0, locals := 21 } s m args below meth c D b0 S I 0 0 (MQ below (z_Q D b0 (some (.int (X))) S I) args s 0 0 (fun q => b0 ≤ q)) (F0 m 2 ls []) := by
  unfold z_X6_isLikeUpTo_2B at hz
  refine z_iload_n hC dX6_isLikeUpTo_2 rfl (lv_at hl 3 rfl) ?_
  refine z_iload_n hC dX6_isLikeUpTo_3 rfl (lv_at hl 2 rfl) ?_
  refine z_icmp_ge (tgt := 28) hC dX6_isLikeUpTo_4 (by decide) hz (fun hz => ?_) (fun hz => ?_)
  · skip
    refine z_iconst (v := 1) hC dX6_isLikeUpTo_28 (by decide) ?_
    obtain rfl := Option.some.inj hz
    exact z_zret hC hT dX6_isLikeUpTo_29 (Or.inr rfl) (by decide) (by decide)
  · skip
    refine z_aload_n hC dX6_isLikeUpTo_7 rfl (lv_at hl 0 rfl) ?_
    refine z_iload_n hC dX6_isLikeUpTo_8 rfl (lv_at hl 3 rfl) ?_
    obtain ⟨q1, hq_q1, hz⟩ := ob_some hz
    refine z_callV (As := [.int (x3)]) hC hT (c_X6_inPlace F x0 x3 h_x0 hq_q1) zy_X6_inPlace zc_6 zv_X6_inPlace kw_261 dX6_isLikeUpTo_9 h_x0 rfl rfl hl.1 (Nat.le_of_ble_eq_true rfl) (by decide) (by decide) ?_
    refine z_aload_n hC dX6_isLikeUpTo_12 rfl (lv_at hl 1 rfl) ?_
    refine z_iload_n hC dX6_isLikeUpTo_13 rfl (lv_at hl 3 rfl) ?_
    obtain ⟨q2, hq_q2, hz⟩ := ob_some hz
    refine z_callV (As := [.int (x3)]) hC hT (c_X6_inPlace F x1 x3 h_x1 hq_q2) zy_X6_inPlace zc_6 zv_X6_inPlace kw_261 dX6_isLikeUpTo_14 h_x1 rfl rfl hl.1 (Nat.le_of_ble_eq_true rfl) (by decide) (by decide) ?_
    refine z_icmp_eq (tgt := 22) hC dX6_isLikeUpTo_17 (by decide) hz (fun hz => ?_) (fun hz => ?_)
    · skip
      refine z_iinc (k0 := 3) (v := x3 + 1) (lv' := [(3, .int (x3 + 1)), (0, .ref (x0)), (1, .ref (x1)), (2, .int (x2))]) hC dX6_isLikeUpTo_22 hl rfl rfl (by decide) rfl (fun ls hl => ?_)
      refine z_goto (tgt := 2) hC dX6_isLikeUpTo_25 (by decide) ?_
      exact hk2 (x0) (x1) (x2) (x3 + 1) h_x0 h_x1 hz ls (lv_sub hl [1, 2, 3, 0] rfl)
    · skip
      refine z_iconst (v := 0) hC dX6_isLikeUpTo_20 (by decide) ?_
      obtain rfl := Option.some.inj hz
      exact z_zret hC hT dX6_isLikeUpTo_21 (Or.inl rfl) (by decide) (by decide)
set_option maxRecDepth 100000 in
set_option maxHeartbeats 4000000 in
theorem b_X6_isLikeUpTo_2 {p : Program} {l : Launch} {e : Env} {s : State} {m : MethodId} {args : Array Value} {below : List Frame} {meth : Method} {c : Code} {D : zD} {b0 : Nat} {F : Nat} {S : zS} {I : zI} {X : Int32} (hC : z_C p s m args meth c cX6_isLikeUpTo RX6 4 (some .boolean) D) (hT : z_T b0 S)   : ∀ (n : Nat) (x0 : Nat) (x1 : Nat) (x2 : Int32) (x3 : Int32), z_is b0 S x0 6 → z_is b0 S x1 6 → z_X6_isLikeUpTo_2 F S I  n x0 x1 x2 x3 = some X → ∀ ls : Array Slot, lv_has ls 4 [(0, .ref (x0)), (1, .ref (x1)), (2, .int (x2)), (3, .int (x3))] → z_W p l e { frames := 1, cells := 0, slots := 0, locals := 21 } s m args below meth c D b0 S I 0 0 (MQ below (z_Q D b0 (some (.int (X))) S I) args s 0 0 (fun q => b0 ≤ q)) (F0 m 2 ls []) := by
  intro n
  induction n with
  | zero => intro x0 x1 x2 x3 h_x0 h_x1 hz; cases hz
  | succ n ih =>
    intro x0 x1 x2 x3 h_x0 h_x1 hz ls hl
    exact bb_X6_isLikeUpTo_2 (F := F) hC hT  (z_X6_isLikeUpTo_2 F S I  n)  ih x0 x1 x2 x3 h_x0 h_x1 hz ls hl
set_option maxRecDepth 100000 in
set_option maxHeartbeats 4000000 in
theorem c_X6_isLikeUpTo {l : Launch} {D : zD} {b0 : Nat} {S : zS} {I : zI} {X : Int32} (F : Nat) (x0 : Nat) (x1 : Nat) (x2 : Int32) (h_x0 : z_is b0 S x0 6) (h_x1 : z_is b0 S x1 6) (hz : z_X6_isLikeUpTo F S I x0 x1 x2 = some X) : z_M l D b0 yX6_isLikeUpTo cX6_isLikeUpTo 4 (some .boolean) { frames := 1, cells := 0, slots := 0, locals := 21 } [.ref (x0), .ref (x1), .int (x2)] S I (some (.int (X))) S I := by
  refine z_met (by decide) (Nat.le_of_ble_eq_true rfl) ?_
  intro p e s m below meth c hC hnm hT ls hl
  have hl : lv_has ls 4 [(0, .ref (x0)), (1, .ref (x1)), (2, .int (x2))] := hl
  unfold z_X6_isLikeUpTo at hz
  refine z_iconst (v := 0) hC dX6_isLikeUpTo_0 (by decide) ?_
  refine z_istore_n (lv' := [(3, .int (0)), (0, .ref (x0)), (1, .ref (x1)), (2, .int (x2))]) hC dX6_isLikeUpTo_1 rfl hl (by decide) rfl (fun ls hl => ?_)
  exact b_X6_isLikeUpTo_2 hC hT   F (x0) (x1) (x2) (0) h_x0 h_x1 hz ls (lv_sub hl [1, 2, 3, 0] rfl)
theorem zy_X6_countTold : z_y yX6_countTold cX6_countTold 5 (some .int) 2 := ⟨kw_637, kw_4, by decide +kernel, by decide +kernel, by decide +kernel⟩
theorem zv_X6_countTold : Cond.instanceMethod yX6_countTold ∈ z_tbl ∧ Cond.selects RX6 yX6_countTold yX6_countTold ∈ z_tbl := ⟨kw_636, ks_20⟩
def z_X6_countTold_5B (F : Nat) (S : zS) (I : zI) (k5 : Nat → Int32 → Int32 → Int32 → Option (Int32)) (x0 : Nat) (x2 : Int32) (x3 : Int32) (x4 : Int32) : Option (Int32) :=
  if x4 < x2 then (ob (z_X6_inPlace F S I x0 x4) (fun q1 => if q1 = 3 then (k5 (x0) (x2) (x3) (x4 + 1)) else (k5 (x0) (x2) (x3 + 1) (x4 + 1)))) else (some (x3))
def z_X6_countTold_5 (F : Nat) (S : zS) (I : zI)  : Nat → Nat → Int32 → Int32 → Int32 → Option (Int32)
  | 0 => fun _ _ _ _ => none
  | n + 1 => fun x0 x2 x3 x4 => z_X6_countTold_5B F S I  (z_X6_countTold_5 F S I  n) x0 x2 x3 x4
def z_X6_countTold (F : Nat) (S : zS) (I : zI) (x0 : Nat) (x1 : Int32) (x2 : Int32) : Option (Int32) :=
  z_X6_countTold_5 F S I  F (x0) (x2) (0) (x1)
set_option maxRecDepth 100000 in
set_option maxHeartbeats 4000000 in
theorem bb_X6_countTold_5 {p : Program} {l : Launch} {e : Env} {s : State} {m : MethodId} {args : Array Value} {below : List Frame} {meth : Method} {c : Code} {D : zD} {b0 : Nat} {F : Nat} {S : zS} {I : zI} {X : Int32} (hC : z_C p s m args meth c cX6_countTold RX6 5 (some .int) D) (hT : z_T b0 S) (k5 : Nat → Int32 → Int32 → Int32 → Option (Int32)) (hk5 : ∀ (x0 : Nat) (x2 : Int32) (x3 : Int32) (x4 : Int32) , z_is b0 S x0 6 → k5 x0 x2 x3 x4 = some X → ∀ ls : Array Slot, lv_has ls 5 [(0, .ref (x0)), (2, .int (x2)), (3, .int (x3)), (4, .int (x4))] → z_W p l e { frames := 1, cells := 0, slots := 0, locals := 21 } s m args below meth c D b0 S I 0 0 (MQ below (z_Q D b0 (some (.int (X))) S I) args s 0 0 (fun q => b0 ≤ q)) (F0 m 5 ls [])) (x0 : Nat) (x2 : Int32) (x3 : Int32) (x4 : Int32) (h_x0 : z_is b0 S x0 6) (hz : z_X6_countTold_5B F S I k5 x0 x2 x3 x4 = some X) (ls : Array Slot) (hl : lv_has ls 5 [(0, .ref (x0)), (2, .int (x2)), (3, .int (x3)), (4, .int (x4))]) : z_W p l e { frames := 1, cells := 0, slots := 0, locals := 21 } s m args below meth c D b0 S I 0 0 (MQ below (z_Q D b0 (some (.int (X))) S I) args s 0 0 (fun q => b0 ≤ q)) (F0 m 5 ls []) := by
  unfold z_X6_countTold_5B at hz
  refine z_iload hC dX6_countTold_5 (lv_at hl 3 rfl) ?_
  refine z_iload_n hC dX6_countTold_7 rfl (lv_at hl 1 rfl) ?_
  refine z_icmp_ge (tgt := 30) hC dX6_countTold_8 (by decide) hz (fun hz => ?_) (fun hz => ?_)
  · skip
    refine z_iload_n hC dX6_countTold_30 rfl (lv_at hl 2 rfl) ?_
    obtain rfl := Option.some.inj hz
    exact z_iret hC hT dX6_countTold_31 (by decide) (by decide)
  · skip
    refine z_aload_n hC dX6_countTold_11 rfl (lv_at hl 0 rfl) ?_
    refine z_iload hC dX6_countTold_12 (lv_at hl 3 rfl) ?_
    obtain ⟨q1, hq_q1, hz⟩ := ob_some hz
    refine z_callV (As := [.int (x4)]) hC hT (c_X6_inPlace F x0 x4 h_x0 hq_q1) zy_X6_inPlace zc_6 zv_X6_inPlace kw_261 dX6_countTold_14 h_x0 rfl rfl hl.1 (Nat.le_of_ble_eq_true rfl) (by decide) (by decide) ?_
    refine z_iconst (v := 3) hC dX6_countTold_17 (by decide) ?_
    refine z_icmp_eq (tgt := 24) hC dX6_countTold_18 (by decide) hz (fun hz => ?_) (fun hz => ?_)
    · skip
      refine z_iinc (k0 := 3) (v := x4 + 1) (lv' := [(4, .int (x4 + 1)), (0, .ref (x0)), (2, .int (x2)), (3, .int (x3))]) hC dX6_countTold_24 hl rfl rfl (by decide) rfl (fun ls hl => ?_)
      refine z_goto (tgt := 5) hC dX6_countTold_27 (by decide) ?_
      exact hk5 (x0) (x2) (x3) (x4 + 1) h_x0 hz ls (lv_sub hl [1, 2, 3, 0] rfl)
    · skip
      refine z_iinc (k0 := 2) (v := x3 + 1) (lv' := [(3, .int (x3 + 1)), (0, .ref (x0)), (2, .int (x2)), (4, .int (x4))]) hC dX6_countTold_21 hl rfl rfl (by decide) rfl (fun ls hl => ?_)
      refine z_iinc (k0 := 3) (v := x4 + 1) (lv' := [(4, .int (x4 + 1)), (3, .int (x3 + 1)), (0, .ref (x0)), (2, .int (x2))]) hC dX6_countTold_24 hl rfl rfl (by decide) rfl (fun ls hl => ?_)
      refine z_goto (tgt := 5) hC dX6_countTold_27 (by decide) ?_
      exact hk5 (x0) (x2) (x3 + 1) (x4 + 1) h_x0 hz ls (lv_sub hl [2, 3, 1, 0] rfl)
set_option maxRecDepth 100000 in
set_option maxHeartbeats 4000000 in
theorem b_X6_countTold_5 {p : Program} {l : Launch} {e : Env} {s : State} {m : MethodId} {args : Array Value} {below : List Frame} {meth : Method} {c : Code} {D : zD} {b0 : Nat} {F : Nat} {S : zS} {I : zI} {X : Int32} (hC : z_C p s m args meth c cX6_countTold RX6 5 (some .int) D) (hT : z_T b0 S)   : ∀ (n : Nat) (x0 : Nat) (x2 : Int32) (x3 : Int32) (x4 : Int32), z_is b0 S x0 6 → z_X6_countTold_5 F S I  n x0 x2 x3 x4 = some X → ∀ ls : Array Slot, lv_has ls 5 [(0, .ref (x0)), (2, .int (x2)), (3, .int (x3)), (4, .int (x4))] → z_W p l e { frames := 1, cells := 0, slots := 0, locals := 21 } s m args below meth c D b0 S I 0 0 (MQ below (z_Q D b0 (some (.int (X))) S I) args s 0 0 (fun q => b0 ≤ q)) (F0 m 5 ls []) := by
  intro n
  induction n with
  | zero => intro x0 x2 x3 x4 h_x0 hz; cases hz
  | succ n ih =>
    intro x0 x2 x3 x4 h_x0 hz ls hl
    exact bb_X6_countTold_5 (F := F) hC hT  (z_X6_countTold_5 F S I  n)  ih x0 x2 x3 x4 h_x0 hz ls hl
set_option maxRecDepth 100000 in
set_option maxHeartbeats 4000000 in
theorem c_X6_countTold {l : Launch} {D : zD} {b0 : Nat} {S : zS} {I : zI} {X : Int32} (F : Nat) (x0 : Nat) (x1 : Int32) (x2 : Int32) (h_x0 : z_is b0 S x0 6) (hz : z_X6_countTold F S I x0 x1 x2 = some X) : z_M l D b0 yX6_countTold cX6_countTold 5 (some .int) { frames := 1, cells := 0, slots := 0, locals := 21 } [.ref (x0), .int (x1), .int (x2)] S I (some (.int (X))) S I := by
  refine z_met (by decide) (Nat.le_of_ble_eq_true rfl) ?_
  intro p e s m below meth c hC hnm hT ls hl
  have hl : lv_has ls 5 [(0, .ref (x0)), (1, .int (x1)), (2, .int (x2))] := hl
  unfold z_X6_countTold at hz
  refine z_iconst (v := 0) hC dX6_countTold_0 (by decide) ?_
  refine z_istore_n (lv' := [(3, .int (0)), (0, .ref (x0)), (1, .int (x1)), (2, .int (x2))]) hC dX6_countTold_1 rfl hl (by decide) rfl (fun ls hl => ?_)
  refine z_iload_n hC dX6_countTold_2 rfl (lv_at hl 2 rfl) ?_
  refine z_istore (lv' := [(4, .int (x1)), (3, .int (0)), (0, .ref (x0)), (1, .int (x1)), (2, .int (x2))]) hC dX6_countTold_3 hl (by decide) rfl (fun ls hl => ?_)
  exact b_X6_countTold_5 hC hT   F (x0) (x2) (0) (x1) h_x0 hz ls (lv_sub hl [2, 4, 1, 0] rfl)
theorem zy_X6_formAgainst : z_y yX6_formAgainst cX6_formAgainst 6 (some .int) 1 := ⟨kw_622, kw_4, by decide +kernel, by decide +kernel, by decide +kernel⟩
theorem zv_X6_formAgainst : Cond.instanceMethod yX6_formAgainst ∈ z_tbl ∧ Cond.selects RX6 yX6_formAgainst yX6_formAgainst ∈ z_tbl := ⟨kw_620, kw_621⟩
def z_X6_formAgainst_90 (F : Nat) (S : zS) (I : zI)  (x4 : Int32) (y0 : Int32) : Option (Int32) :=
  if 3 < y0 then (some (40)) else (if x4 = 0 then (some (30 + y0)) else (some (20 + y0)))
def z_X6_formAgainst_68 (F : Nat) (S : zS) (I : zI)  (x0 : Nat) (x1 : Nat) (x2 : Int32) (x3 : Int32) (y0 : Int32) : Option (Int32) :=
  if y0 = 0 then (ob (z_X6_countTold F S I x0 x3 x2) (fun q1 => z_X6_formAgainst_90 F S I  (y0) (q1))) else (ob (z_X6_countTold F S I x1 x2 x3) (fun q2 => z_X6_formAgainst_90 F S I  (y0) (q2)))
def z_X6_formAgainst_41 (F : Nat) (S : zS) (I : zI)  (x0 : Nat) (x1 : Nat) (x2 : Int32) (x3 : Int32) : Option (Int32) :=
  if (I x0 2) = 0 then (if x2 = x3 then (some (0)) else (if x2 < x3 then (z_X6_formAgainst_68 F S I  (x0) (x1) (x2) (x3) (1)) else (z_X6_formAgainst_68 F S I  (x0) (x1) (x2) (x3) (0)))) else (some (40))
def z_X6_formAgainst (F : Nat) (S : zS) (I : zI) (x0 : Nat) (x1 : Nat) : Option (Int32) :=
  ob (z_X6_end F S I x0) (fun q1 => ob (z_X6_end F S I x1) (fun q2 => ob (z_X6_isLikeUpTo F S I x0 x1 (if q2 < q1 then q2 else q1)) (fun q3 => if q3 = 0 then (some (40)) else (if q1 = q2 then (if (I x0 2) = 1 then (some (1)) else (z_X6_formAgainst_41 F S I  (x0) (x1) (q1) (q2))) else (z_X6_formAgainst_41 F S I  (x0) (x1) (q1) (q2))))))
set_option maxRecDepth 100000 in
set_option maxHeartbeats 4000000 in
theorem b_X6_formAgainst_90 {p : Program} {l : Launch} {e : Env} {s : State} {m : MethodId} {args : Array Value} {below : List Frame} {meth : Method} {c : Code} {D : zD} {b0 : Nat} {F : Nat} {S : zS} {I : zI} {X : Int32} (hC : z_C p s m args meth c cX6_formAgainst RX6 6 (some .int) D) (hT : z_T b0 S)   (x4 : Int32) (y0 : Int32)  (hz : z_X6_formAgainst_90 F S I  x4 y0 = some X) (ls : Array Slot) (hl : lv_has ls 6 [(4, .int (x4))]) : z_W p l e { frames := 2, cells := 0, slots := 0, locals := 45 } s m args below meth c D b0 S I 0 0 (MQ below (z_Q D b0 (some (.int (X))) S I) args s 0 0 (fun q => b0 ≤ q)) (F0 m 90 ls [.int (y0)]) := by
  unfold z_X6_formAgainst_90 at hz
  refine z_istore (lv' := [(5, .int (y0)), (4, .int (x4))]) hC dX6_formAgainst_90 hl (by decide) rfl (fun ls hl => ?_)
  refine z_iload hC dX6_formAgainst_92 (lv_at hl 0 rfl) ?_
  refine z_iconst (v := 3) hC dX6_formAgainst_94 (by decide) ?_
  refine z_icmp_le (tgt := 101) hC dX6_formAgainst_95 (by decide) hz (fun hz => ?_) (fun hz => ?_)
  · skip
    refine z_iload hC dX6_formAgainst_101 (lv_at hl 1 rfl) ?_
    refine z_if_eq (tgt := 111) hC dX6_formAgainst_103 (by decide) hz (fun hz => ?_) (fun hz => ?_)
    · skip
      refine z_bipush (v := 30) hC dX6_formAgainst_111 (by decide) ?_
      refine z_iload hC dX6_formAgainst_113 (lv_at hl 0 rfl) ?_
      refine z_iadd hC dX6_formAgainst_115 ?_
      obtain rfl := Option.some.inj hz
      exact z_iret hC hT dX6_formAgainst_116 (by decide) (by decide)
    · skip
      refine z_bipush (v := 20) hC dX6_formAgainst_106 (by decide) ?_
      refine z_goto (tgt := 113) hC dX6_formAgainst_108 (by decide) ?_
      refine z_iload hC dX6_formAgainst_113 (lv_at hl 0 rfl) ?_
      refine z_iadd hC dX6_formAgainst_115 ?_
      obtain rfl := Option.some.inj hz
      exact z_iret hC hT dX6_formAgainst_116 (by decide) (by decide)
  · skip
    refine z_bipush (v := 40) hC dX6_formAgainst_98 (by decide) ?_
    obtain rfl := Option.some.inj hz
    exact z_iret hC hT dX6_formAgainst_100 (by decide) (by decide)
set_option maxRecDepth 100000 in
set_option maxHeartbeats 4000000 in
theorem b_X6_formAgainst_68 {p : Program} {l : Launch} {e : Env} {s : State} {m : MethodId} {args : Array Value} {below : List Frame} {meth : Method} {c : Code} {D : zD} {b0 : Nat} {F : Nat} {S : zS} {I : zI} {X : Int32} (hC : z_C p s m args meth c cX6_formAgainst RX6 6 (some .int) D) (hT : z_T b0 S)   (x0 : Nat) (x1 : Nat) (x2 : Int32) (x3 : Int32) (y0 : Int32) (h_x0 : z_is b0 S x0 6) (h_x1 : z_is b0 S x1 6) (hz : z_X6_formAgainst_68 F S I  x0 x1 x2 x3 y0 = some X) (ls : Array Slot) (hl : lv_has ls 6 [(0, .ref (x0)), (1, .ref (x1)), (2, .int (x2)), (3, .int (x3))]) : z_W p l e { frames := 2, cells := 0, slots := 0, locals := 45 } s m args below meth c D b0 S I 0 0 (MQ below (z_Q D b0 (some (.int (X))) S I) args s 0 0 (fun q => b0 ≤ q)) (F0 m 68 ls [.int (y0)]) := by
  unfold z_X6_formAgainst_68 at hz
  refine z_istore (lv' := [(4, .int (y0)), (0, .ref (x0)), (1, .ref (x1)), (2, .int (x2)), (3, .int (x3))]) hC dX6_formAgainst_68 hl (by decide) rfl (fun ls hl => ?_)
  refine z_iload hC dX6_formAgainst_70 (lv_at hl 0 rfl) ?_
  refine z_if_eq (tgt := 84) hC dX6_formAgainst_72 (by decide) hz (fun hz => ?_) (fun hz => ?_)
  · skip
    refine z_aload_n hC dX6_formAgainst_84 rfl (lv_at hl 1 rfl) ?_
    refine z_iload_n hC dX6_formAgainst_85 rfl (lv_at hl 4 rfl) ?_
    refine z_iload_n hC dX6_formAgainst_86 rfl (lv_at hl 3 rfl) ?_
    obtain ⟨q1, hq_q1, hz⟩ := ob_some hz
    refine z_callV (As := [.int (x3), .int (x2)]) hC hT (c_X6_countTold F x0 x3 x2 h_x0 hq_q1) zy_X6_countTold zc_6 zv_X6_countTold kw_634 dX6_formAgainst_87 h_x0 rfl rfl hl.1 (Nat.le_of_ble_eq_true rfl) (by decide) (by decide) ?_
    exact b_X6_formAgainst_90 hC hT   (y0) (q1) hz ls (lv_sub hl [0] rfl)
  · skip
    refine z_aload_n hC dX6_formAgainst_75 rfl (lv_at hl 2 rfl) ?_
    refine z_iload_n hC dX6_formAgainst_76 rfl (lv_at hl 3 rfl) ?_
    refine z_iload_n hC dX6_formAgainst_77 rfl (lv_at hl 4 rfl) ?_
    obtain ⟨q2, hq_q2, hz⟩ := ob_some hz
    refine z_callV (As := [.int (x2), .int (x3)]) hC hT (c_X6_countTold F x1 x2 x3 h_x1 hq_q2) zy_X6_countTold zc_6 zv_X6_countTold kw_634 dX6_formAgainst_78 h_x1 rfl rfl hl.1 (Nat.le_of_ble_eq_true rfl) (by decide) (by decide) ?_
    refine z_goto (tgt := 90) hC dX6_formAgainst_81 (by decide) ?_
    exact b_X6_formAgainst_90 hC hT   (y0) (q2) hz ls (lv_sub hl [0] rfl)
set_option maxRecDepth 100000 in
set_option maxHeartbeats 4000000 in
theorem b_X6_formAgainst_41 {p : Program} {l : Launch} {e : Env} {s : State} {m : MethodId} {args : Array Value} {below : List Frame} {meth : Method} {c : Code} {D : zD} {b0 : Nat} {F : Nat} {S : zS} {I : zI} {X : Int32} (hC : z_C p s m args meth c cX6_formAgainst RX6 6 (some .int) D) (hT : z_T b0 S)   (x0 : Nat) (x1 : Nat) (x2 : Int32) (x3 : Int32) (h_x0 : z_is b0 S x0 6) (h_x1 : z_is b0 S x1 6) (hz : z_X6_formAgainst_41 F S I  x0 x1 x2 x3 = some X) (ls : Array Slot) (hl : lv_has ls 6 [(0, .ref (x0)), (1, .ref (x1)), (2, .int (x2)), (3, .int (x3))]) : z_W p l e { frames := 2, cells := 0, slots := 0, locals := 45 } s m args below meth c D b0 S I 0 0 (MQ below (z_Q D b0 (some (.int (X))) S I) args s 0 0 (fun q => b0 ≤ q)) (F0 m 41 ls []) := by
  unfold z_X6_formAgainst_41 at hz
  refine z_aload_n hC dX6_formAgainst_41 rfl (lv_at hl 0 rfl) ?_
  refine z_getI hC zc_6 2 (by decide) kw_59 dX6_formAgainst_42 h_x0 rfl ?_
  refine z_if_eq (tgt := 51) hC dX6_formAgainst_45 (by decide) hz (fun hz => ?_) (fun hz => ?_)
  · skip
    refine z_iload_n hC dX6_formAgainst_51 rfl (lv_at hl 2 rfl) ?_
    refine z_iload_n hC dX6_formAgainst_52 rfl (lv_at hl 3 rfl) ?_
    refine z_icmp_ne (tgt := 58) hC dX6_formAgainst_53 (by decide) hz (fun hz => ?_) (fun hz => ?_)
    · skip
      refine z_iload_n hC dX6_formAgainst_58 rfl (lv_at hl 2 rfl) ?_
      refine z_iload_n hC dX6_formAgainst_59 rfl (lv_at hl 3 rfl) ?_
      refine z_icmp_ge (tgt := 67) hC dX6_formAgainst_60 (by decide) hz (fun hz => ?_) (fun hz => ?_)
      · skip
        refine z_iconst (v := 0) hC dX6_formAgainst_67 (by decide) ?_
        exact b_X6_formAgainst_68 hC hT   (x0) (x1) (x2) (x3) (0) h_x0 h_x1 hz ls (lv_sub hl [0, 1, 2, 3] rfl)
      · skip
        refine z_iconst (v := 1) hC dX6_formAgainst_63 (by decide) ?_
        refine z_goto (tgt := 68) hC dX6_formAgainst_64 (by decide) ?_
        exact b_X6_formAgainst_68 hC hT   (x0) (x1) (x2) (x3) (1) h_x0 h_x1 hz ls (lv_sub hl [0, 1, 2, 3] rfl)
    · skip
      refine z_iconst (v := 0) hC dX6_formAgainst_56 (by decide) ?_
      obtain rfl := Option.some.inj hz
      exact z_iret hC hT dX6_formAgainst_57 (by decide) (by decide)
  · skip
    refine z_bipush (v := 40) hC dX6_formAgainst_48 (by decide) ?_
    obtain rfl := Option.some.inj hz
    exact z_iret hC hT dX6_formAgainst_50 (by decide) (by decide)
set_option maxRecDepth 100000 in
set_option maxHeartbeats 4000000 in
theorem c_X6_formAgainst {l : Launch} {D : zD} {b0 : Nat} {S : zS} {I : zI} {X : Int32} (F : Nat) (x0 : Nat) (x1 : Nat) (h_x0 : z_is b0 S x0 6) (h_x1 : z_is b0 S x1 6) (hz : z_X6_formAgainst F S I x0 x1 = some X) : z_M l D b0 yX6_formAgainst cX6_formAgainst 6 (some .int) { frames := 2, cells := 0, slots := 0, locals := 45 } [.ref (x0), .ref (x1)] S I (some (.int (X))) S I := by
  refine z_met (by decide) (Nat.le_of_ble_eq_true rfl) ?_
  intro p e s m below meth c hC hnm hT ls hl
  have hl : lv_has ls 6 [(0, .ref (x0)), (1, .ref (x1))] := hl
  unfold z_X6_formAgainst at hz
  refine z_aload_n hC dX6_formAgainst_0 rfl (lv_at hl 0 rfl) ?_
  obtain ⟨q1, hq_q1, hz⟩ := ob_some hz
  refine z_callV (As := []) hC hT (c_X6_end F x0 h_x0 hq_q1) zy_X6_end zc_6 zv_X6_end kw_623 dX6_formAgainst_1 h_x0 rfl rfl hl.1 (Nat.le_of_ble_eq_true rfl) (by decide) (by decide) ?_
  refine z_istore_n (lv' := [(2, .int (q1)), (0, .ref (x0)), (1, .ref (x1))]) hC dX6_formAgainst_4 rfl hl (by decide) rfl (fun ls hl => ?_)
  refine z_aload_n hC dX6_formAgainst_5 rfl (lv_at hl 2 rfl) ?_
  obtain ⟨q2, hq_q2, hz⟩ := ob_some hz
  refine z_callV (As := []) hC hT (c_X6_end F x1 h_x1 hq_q2) zy_X6_end zc_6 zv_X6_end kw_623 dX6_formAgainst_6 h_x1 rfl rfl hl.1 (Nat.le_of_ble_eq_true rfl) (by decide) (by decide) ?_
  refine z_istore_n (lv' := [(3, .int (q2)), (2, .int (q1)), (0, .ref (x0)), (1, .ref (x1))]) hC dX6_formAgainst_9 rfl hl (by decide) rfl (fun ls hl => ?_)
  refine z_aload_n hC dX6_formAgainst_10 rfl (lv_at hl 2 rfl) ?_
  refine z_aload_n hC dX6_formAgainst_11 rfl (lv_at hl 3 rfl) ?_
  refine z_iload_n hC dX6_formAgainst_12 rfl (lv_at hl 1 rfl) ?_
  refine z_iload_n hC dX6_formAgainst_13 rfl (lv_at hl 0 rfl) ?_
  refine z_mmin hC kw_627 kw_628 kw_12 kw_629 dX6_formAgainst_14 hl.1 (by decide) (Nat.le_of_ble_eq_true rfl) (by decide) (by decide) ?_
  obtain ⟨q3, hq_q3, hz⟩ := ob_some hz
  refine z_callV (As := [.ref (x1), .int ((if q2 < q1 then q2 else q1))]) hC hT (c_X6_isLikeUpTo F x0 x1 (if q2 < q1 then q2 else q1) h_x0 h_x1 hq_q3) zy_X6_isLikeUpTo zc_6 zv_X6_isLikeUpTo kw_630 dX6_formAgainst_17 h_x0 rfl rfl hl.1 (Nat.le_of_ble_eq_true rfl) (by decide) (by decide) ?_
  refine z_if_ne (tgt := 26) hC dX6_formAgainst_20 (by decide) hz (fun hz => ?_) (fun hz => ?_)
  · skip
    refine z_iload_n hC dX6_formAgainst_26 rfl (lv_at hl 1 rfl) ?_
    refine z_iload_n hC dX6_formAgainst_27 rfl (lv_at hl 0 rfl) ?_
    refine z_icmp_ne (tgt := 41) hC dX6_formAgainst_28 (by decide) hz (fun hz => ?_) (fun hz => ?_)
    · skip
      exact b_X6_formAgainst_41 hC hT   (x0) (x1) (q1) (q2) h_x0 h_x1 hz ls (lv_sub hl [2, 3, 1, 0] rfl)
    · skip
      refine z_aload_n hC dX6_formAgainst_31 rfl (lv_at hl 2 rfl) ?_
      refine z_getI hC zc_6 2 (by decide) kw_59 dX6_formAgainst_32 h_x0 rfl ?_
      refine z_iconst (v := 1) hC dX6_formAgainst_35 (by decide) ?_
      refine z_icmp_ne (tgt := 41) hC dX6_formAgainst_36 (by decide) hz (fun hz => ?_) (fun hz => ?_)
      · skip
        exact b_X6_formAgainst_41 hC hT   (x0) (x1) (q1) (q2) h_x0 h_x1 hz ls (lv_sub hl [2, 3, 1, 0] rfl)
      · skip
        refine z_iconst (v := 1) hC dX6_formAgainst_39 (by decide) ?_
        obtain rfl := Option.some.inj hz
        exact z_iret hC hT dX6_formAgainst_40 (by decide) (by decide)
  · skip
    refine z_bipush (v := 40) hC dX6_formAgainst_23 (by decide) ?_
    obtain rfl := Option.some.inj hz
    exact z_iret hC hT dX6_formAgainst_25 (by decide) (by decide)
theorem zy_X8_cls : z_y yX8_cls cX8_cls 3 (some .int) 2 := ⟨kw_195, kw_1, by decide +kernel, by decide +kernel, by decide +kernel⟩
theorem zv_X8_cls : Cond.instanceMethod yX8_cls ∈ z_tbl ∧ Cond.selects RX8 yX8_cls yX8_cls ∈ z_tbl := ⟨kw_193, kw_194⟩
def z_X8_cls_32 (F : Nat) (S : zS)  (x0 : Nat) (x1 : Int32) (x2 : Int32) (I : zI) : Option (Int32 × zI) :=
  ob (S.1 x0 0) (fun r1 => ob (z_X1_add F S I r1 x1 x2) (fun q2 => some (q2.1, q2.2)))
def z_X8_cls (F : Nat) (S : zS) (I : zI) (x0 : Nat) (x1 : Int32) (x2 : Int32) : Option (Int32 × zI) :=
  ob (S.1 x0 0) (fun r1 => ob (z_X1_has F S I r1 x1) (fun q2 => if q2 = 0 then (some ((-1), I)) else (ob (z_X1_isFace F S I r1 x1) (fun q3 => if q3 = 0 then (if x2 = 0 then (z_X8_cls_32 F S  (x0) (x1) (x2) (I)) else (if x1 = 0 then (z_X8_cls_32 F S  (x0) (x1) (x2) (I)) else (some ((-1), I)))) else (some ((-1), I))))))
set_option maxRecDepth 100000 in
set_option maxHeartbeats 4000000 in
theorem b_X8_cls_32 {p : Program} {l : Launch} {e : Env} {s : State} {m : MethodId} {args : Array Value} {below : List Frame} {meth : Method} {c : Code} {D : zD} {b0 : Nat} {F : Nat} {S : zS} {X : Int32 × zI} (hC : z_C p s m args meth c cX8_cls RX8 3 (some .int) D) (hT : z_T b0 S)   (x0 : Nat) (x1 : Int32) (x2 : Int32) (I : zI) (h_x0 : z_is b0 S x0 8) (hz : z_X8_cls_32 F S  x0 x1 x2 I = some X) (ls : Array Slot) (hl : lv_has ls 3 [(0, .ref (x0)), (1, .int (x1)), (2, .int (x2))]) : z_W p l e { frames := 2, cells := 0, slots := 0, locals := 43 } s m args below meth c D b0 S I 0 0 (MQ below (z_Q D b0 (some (.int (X.1))) S X.2) args s 0 0 (fun q => b0 ≤ q)) (F0 m 32 ls []) := by
  unfold z_X8_cls_32 at hz
  refine z_aload_n hC dX8_cls_32 rfl (lv_at hl 0 rfl) ?_
  obtain ⟨r1, hr_r1, hz⟩ := ob_some hz
  have hk_r1 : z_is b0 S r1 1 := hT.at h_x0 hr_r1
  refine z_getR hC zc_8 0 (by decide) kw_176 dX8_cls_33 h_x0 rfl hr_r1 ?_
  refine z_iload_n hC dX8_cls_36 rfl (lv_at hl 1 rfl) ?_
  refine z_iload_n hC dX8_cls_37 rfl (lv_at hl 2 rfl) ?_
  obtain ⟨q2, hq_q2, hz⟩ := ob_some hz
  refine z_callV (As := [.int (x1), .int (x2)]) hC hT (c_X1_add F r1 x1 x2 hk_r1 hq_q2) zy_X1_add zc_1 zv_X1_add kw_205 dX8_cls_38 hk_r1 rfl rfl hl.1 (Nat.le_of_ble_eq_true rfl) (by decide) (by decide) ?_
  obtain rfl := Option.some.inj hz
  exact z_iret hC hT dX8_cls_41 (by decide) (by decide)
set_option maxRecDepth 100000 in
set_option maxHeartbeats 4000000 in
theorem c_X8_cls {l : Launch} {D : zD} {b0 : Nat} {S : zS} {I : zI} {X : Int32 × zI} (F : Nat) (x0 : Nat) (x1 : Int32) (x2 : Int32) (h_x0 : z_is b0 S x0 8) (hz : z_X8_cls F S I x0 x1 x2 = some X) : z_M l D b0 yX8_cls cX8_cls 3 (some .int) { frames := 2, cells := 0, slots := 0, locals := 43 } [.ref (x0), .int (x1), .int (x2)] S I (some (.int (X.1))) S X.2 := by
  refine z_met (by decide) (Nat.le_of_ble_eq_true rfl) ?_
  intro p e s m below meth c hC hnm hT ls hl
  have hl : lv_has ls 3 [(0, .ref (x0)), (1, .int (x1)), (2, .int (x2))] := hl
  unfold z_X8_cls at hz
  refine z_aload_n hC dX8_cls_0 rfl (lv_at hl 0 rfl) ?_
  obtain ⟨r1, hr_r1, hz⟩ := ob_some hz
  have hk_r1 : z_is b0 S r1 1 := hT.at h_x0 hr_r1
  refine z_getR hC zc_8 0 (by decide) kw_176 dX8_cls_1 h_x0 rfl hr_r1 ?_
  refine z_iload_n hC dX8_cls_4 rfl (lv_at hl 1 rfl) ?_
  obtain ⟨q2, hq_q2, hz⟩ := ob_some hz
  refine z_callV (As := [.int (x1)]) hC hT (c_X1_has F r1 x1 hk_r1 hq_q2) zy_X1_has zc_1 zv_X1_has kw_196 dX8_cls_5 hk_r1 rfl rfl hl.1 (Nat.le_of_ble_eq_true rfl) (by decide) (by decide) ?_
  refine z_if_eq (tgt := 30) hC dX8_cls_8 (by decide) hz (fun hz => ?_) (fun hz => ?_)
  · skip
    refine z_iconst (v := (-1)) hC dX8_cls_30 (by decide) ?_
    obtain rfl := Option.some.inj hz
    exact z_iret hC hT dX8_cls_31 (by decide) (by decide)
  · skip
    refine z_aload_n hC dX8_cls_11 rfl (lv_at hl 0 rfl) ?_
    refine z_getR hC zc_8 0 (by decide) kw_176 dX8_cls_12 h_x0 rfl hr_r1 ?_
    refine z_iload_n hC dX8_cls_15 rfl (lv_at hl 1 rfl) ?_
    obtain ⟨q3, hq_q3, hz⟩ := ob_some hz
    refine z_callV (As := [.int (x1)]) hC hT (c_X1_isFace F r1 x1 hk_r1 hq_q3) zy_X1_isFace zc_1 zv_X1_isFace kw_200 dX8_cls_16 hk_r1 rfl rfl hl.1 (Nat.le_of_ble_eq_true rfl) (by decide) (by decide) ?_
    refine z_if_ne (tgt := 30) hC dX8_cls_19 (by decide) hz (fun hz => ?_) (fun hz => ?_)
    · skip
      refine z_iconst (v := (-1)) hC dX8_cls_30 (by decide) ?_
      obtain rfl := Option.some.inj hz
      exact z_iret hC hT dX8_cls_31 (by decide) (by decide)
    · skip
      refine z_iload_n hC dX8_cls_22 rfl (lv_at hl 2 rfl) ?_
      refine z_if_eq (tgt := 32) hC dX8_cls_23 (by decide) hz (fun hz => ?_) (fun hz => ?_)
      · skip
        exact b_X8_cls_32 hC hT   (x0) (x1) (x2) (I) h_x0 hz ls (lv_sub hl [0, 1, 2] rfl)
      · skip
        refine z_iload_n hC dX8_cls_26 rfl (lv_at hl 1 rfl) ?_
        refine z_if_eq (tgt := 32) hC dX8_cls_27 (by decide) hz (fun hz => ?_) (fun hz => ?_)
        · skip
          exact b_X8_cls_32 hC hT   (x0) (x1) (x2) (I) h_x0 hz ls (lv_sub hl [0, 1, 2] rfl)
        · skip
          refine z_iconst (v := (-1)) hC dX8_cls_30 (by decide) ?_
          obtain rfl := Option.some.inj hz
          exact z_iret hC hT dX8_cls_31 (by decide) (by decide)
