theorem zy_X9_hasUnmade : z_y yX9_hasUnmade cX9_hasUnmade 4 (some .boolean) 1 := ⟨kw_915, kw_8, by decide +kernel, by decide +kernel, by decide +kernel⟩
theorem zv_X9_hasUnmade : Cond.instanceMethod yX9_hasUnmade ∈ z_tbl ∧ Cond.selects RX9 yX9_hasUnmade yX9_hasUnmade ∈ z_tbl := ⟨kw_914, ks_40⟩
def z_X9_hasUnmade_36 (F : Nat) (S : zS) (I : zI) (k4 : Nat → Int32 → Int32 → Option (Int32)) (x1 : Nat) (x3 : Int32) (y0 : Int32) (y1 : Int32) : Option (Int32) :=
  k4 (x1) (y0 ||| y1) (x3 + 1)
def z_X9_hasUnmade_4B (F : Nat) (S : zS) (I : zI) (k4 : Nat → Int32 → Int32 → Option (Int32)) (x1 : Nat) (x2 : Int32) (x3 : Int32) : Option (Int32) :=
  if (8 : Int32) < 0 ∨ (S.2.1 x1).2 ≤ (8 : Int32).toNatClampNeg then none else (if x3 < (9 + (I x1 (8 : Int32).toNatClampNeg)) then (if x3 = 8 then (z_X9_hasUnmade_36 F S I k4 (x1) (x3) (x2) (0)) else (if x3 < 0 ∨ (S.2.1 x1).2 ≤ x3.toNatClampNeg then none else (ob (z_X9_isUnmade F S I (I x1 x3.toNatClampNeg)) (fun q4 => if q4 = 0 then (z_X9_hasUnmade_36 F S I k4 (x1) (x3) (x2) (0)) else (z_X9_hasUnmade_36 F S I k4 (x1) (x3) (x2) (1)))))) else (if x2 = 0 ∨ x2 = 1 then (some (x2)) else none))
def z_X9_hasUnmade_4 (F : Nat) (S : zS) (I : zI)  : Nat → Nat → Int32 → Int32 → Option (Int32)
  | 0 => fun _ _ _ => none
  | n + 1 => fun x1 x2 x3 => z_X9_hasUnmade_4B F S I  (z_X9_hasUnmade_4 F S I  n) x1 x2 x3
def z_X9_hasUnmade (F : Nat) (S : zS) (I : zI) (x0 : Nat) (x1 : Nat) : Option (Int32) :=
  z_X9_hasUnmade_4 F S I  F (x1) (0) (0)
set_option maxRecDepth 100000 in
set_option maxHeartbeats 4000000 in
theorem b_X9_hasUnmade_36 {p : Program} {l : Launch} {e : Env} {s : State} {m : MethodId} {args : Array Value} {below : List Frame} {meth : Method} {c : Code} {D : zD} {b0 : Nat} {F : Nat} {S : zS} {I : zI} {X : Int32} (hC : z_C p s m args meth c cX9_hasUnmade RX9 4 (some .boolean) D) (hT : z_T b0 S) (k4 : Nat → Int32 → Int32 → Option (Int32)) (hk4 : ∀ (x1 : Nat) (x2 : Int32) (x3 : Int32) , z_is b0 S x1 10 → k4 x1 x2 x3 = some X → ∀ ls : Array Slot, lv_has ls 4 [(1, .ref (x1)), (2, .int (x2)), (3, .int (x3))] → z_W p l e { frames := 1, cells := 0, slots := 0, locals := 20 } s m args below meth c D b0 S I 0 0 (MQ below (z_Q D b0 (some (.int (X))) S I) args s 0 0 (fun q => b0 ≤ q)) (F0 m 4 ls [])) (x1 : Nat) (x3 : Int32) (y0 : Int32) (y1 : Int32) (h_x1 : z_is b0 S x1 10) (hz : z_X9_hasUnmade_36 F S I k4 x1 x3 y0 y1 = some X) (ls : Array Slot) (hl : lv_has ls 4 [(1, .ref (x1)), (3, .int (x3))]) : z_W p l e { frames := 1, cells := 0, slots := 0, locals := 20 } s m args below meth c D b0 S I 0 0 (MQ below (z_Q D b0 (some (.int (X))) S I) args s 0 0 (fun q => b0 ≤ q)) (F0 m 36 ls [.int (y1), .int (y0)]) := by
  unfold z_X9_hasUnmade_36 at hz
  refine z_ior hC dX9_hasUnmade_36 ?_
  refine z_istore_n (lv' := [(2, .int (y0 ||| y1)), (1, .ref (x1)), (3, .int (x3))]) hC dX9_hasUnmade_37 rfl hl (by decide) rfl (fun ls hl => ?_)
  refine z_iinc (k0 := 2) (v := x3 + 1) (lv' := [(3, .int (x3 + 1)), (2, .int (y0 ||| y1)), (1, .ref (x1))]) hC dX9_hasUnmade_38 hl rfl rfl (by decide) rfl (fun ls hl => ?_)
  refine z_goto (tgt := 4) hC dX9_hasUnmade_41 (by decide) ?_
  exact hk4 (x1) (y0 ||| y1) (x3 + 1) h_x1 hz ls (lv_sub hl [2, 1, 0] rfl)
set_option maxRecDepth 100000 in
set_option maxHeartbeats 4000000 in
theorem bb_X9_hasUnmade_4 {p : Program} {l : Launch} {e : Env} {s : State} {m : MethodId} {args : Array Value} {below : List Frame} {meth : Method} {c : Code} {D : zD} {b0 : Nat} {F : Nat} {S : zS} {I : zI} {X : Int32} (hC : z_C p s m args meth c cX9_hasUnmade RX9 4 (some .boolean) D) (hT : z_T b0 S) (k4 : Nat → Int32 → Int32 → Option (Int32)) (hk4 : ∀ (x1 : Nat) (x2 : Int32) (x3 : Int32) , z_is b0 S x1 10 → k4 x1 x2 x3 = some X → ∀ ls : Array Slot, lv_has ls 4 [(1, .ref (x1)), (2, .int (x2)), (3, .int (x3))] → z_W p l e { frames := 1, cells := 0, slots := 0, locals := 20 } s m args below meth c D b0 S I 0 0 (MQ below (z_Q D b0 (some (.int (X))) S I) args s 0 0 (fun q => b0 ≤ q)) (F0 m 4 ls [])) (x1 : Nat) (x2 : Int32) (x3 : Int32) (h_x1 : z_is b0 S x1 10) (hz : z_X9_hasUnmade_4B F S I k4 x1 x2 x3 = some X) (ls : Array Slot) (hl : lv_has ls 4 [(1, .ref (x1)), (2, .int (x2)), (3, .int (x3))]) : z_W p l e { frames := 1, cells := 0, slots := 0, locals := 20 } s m args below meth c D b0 S I 0 0 (MQ below (z_Q D b0 (some (.int (X))) S I) args s 0 0 (fun q => b0 ≤ q)) (F0 m 4 ls []) := by
  unfold z_X9_hasUnmade_4B at hz
  refine z_iload_n hC dX9_hasUnmade_4 rfl (lv_at hl 2 rfl) ?_
  refine z_bipush (v := 9) hC dX9_hasUnmade_5 (by decide) ?_
  refine z_aload_n hC dX9_hasUnmade_7 rfl (lv_at hl 0 rfl) ?_
  refine z_bipush (v := 8) hC dX9_hasUnmade_8 (by decide) ?_
  obtain ⟨hi1, hz⟩ := ifn_some hz
  refine z_iald hC dX9_hasUnmade_10 h_x1 hi1 ?_
  refine z_iadd hC dX9_hasUnmade_11 ?_
  refine z_icmp_ge (tgt := 44) hC dX9_hasUnmade_12 (by decide) hz (fun hz => ?_) (fun hz => ?_)
  · skip
    refine z_iload_n hC dX9_hasUnmade_44 rfl (lv_at hl 1 rfl) ?_
    obtain ⟨hb2, hz⟩ := ifp_some hz
    obtain rfl := Option.some.inj hz
    exact z_zret hC hT dX9_hasUnmade_45 hb2 (by decide) (by decide)
  · skip
    refine z_iload_n hC dX9_hasUnmade_15 rfl (lv_at hl 1 rfl) ?_
    refine z_iload_n hC dX9_hasUnmade_16 rfl (lv_at hl 2 rfl) ?_
    refine z_bipush (v := 8) hC dX9_hasUnmade_17 (by decide) ?_
    refine z_icmp_eq (tgt := 35) hC dX9_hasUnmade_19 (by decide) hz (fun hz => ?_) (fun hz => ?_)
    · skip
      refine z_iconst (v := 0) hC dX9_hasUnmade_35 (by decide) ?_
      exact b_X9_hasUnmade_36 hC hT k4 hk4 (x1) (x3) (x2) (0) h_x1 hz ls (lv_sub hl [0, 2] rfl)
    · skip
      refine z_aload_n hC dX9_hasUnmade_22 rfl (lv_at hl 0 rfl) ?_
      refine z_iload_n hC dX9_hasUnmade_23 rfl (lv_at hl 2 rfl) ?_
      obtain ⟨hi3, hz⟩ := ifn_some hz
      refine z_iald hC dX9_hasUnmade_24 h_x1 hi3 ?_
      obtain ⟨q4, hq_q4, hz⟩ := ob_some hz
      refine z_callS (As := [.int (I x1 x3.toNatClampNeg)]) hC hT (c_X9_isUnmade F (I x1 x3.toNatClampNeg)  hq_q4) zy_X9_isUnmade kw_902 kw_901 dX9_hasUnmade_25 rfl rfl hl.1 (Nat.le_of_ble_eq_true rfl) (by decide) (by decide) ?_
      refine z_if_eq (tgt := 35) hC dX9_hasUnmade_28 (by decide) hz (fun hz => ?_) (fun hz => ?_)
      · skip
        refine z_iconst (v := 0) hC dX9_hasUnmade_35 (by decide) ?_
        exact b_X9_hasUnmade_36 hC hT k4 hk4 (x1) (x3) (x2) (0) h_x1 hz ls (lv_sub hl [0, 2] rfl)
      · skip
        refine z_iconst (v := 1) hC dX9_hasUnmade_31 (by decide) ?_
        refine z_goto (tgt := 36) hC dX9_hasUnmade_32 (by decide) ?_
        exact b_X9_hasUnmade_36 hC hT k4 hk4 (x1) (x3) (x2) (1) h_x1 hz ls (lv_sub hl [0, 2] rfl)
set_option maxRecDepth 100000 in
set_option maxHeartbeats 4000000 in
theorem b_X9_hasUnmade_4 {p : Program} {l : Launch} {e : Env} {s : State} {m : MethodId} {args : Array Value} {below : List Frame} {meth : Method} {c : Code} {D : zD} {b0 : Nat} {F : Nat} {S : zS} {I : zI} {X : Int32} (hC : z_C p s m args meth c cX9_hasUnmade RX9 4 (some .boolean) D) (hT : z_T b0 S)   : ∀ (n : Nat) (x1 : Nat) (x2 : Int32) (x3 : Int32), z_is b0 S x1 10 → z_X9_hasUnmade_4 F S I  n x1 x2 x3 = some X → ∀ ls : Array Slot, lv_has ls 4 [(1, .ref (x1)), (2, .int (x2)), (3, .int (x3))] → z_W p l e { frames := 1, cells := 0, slots := 0, locals := 20 } s m args below meth c D b0 S I 0 0 (MQ below (z_Q D b0 (some (.int (X))) S I) args s 0 0 (fun q => b0 ≤ q)) (F0 m 4 ls []) := by
  intro n
  induction n with
  | zero => intro x1 x2 x3 h_x1 hz; cases hz
  | succ n ih =>
    intro x1 x2 x3 h_x1 hz ls hl
    exact bb_X9_hasUnmade_4 (F := F) hC hT  (z_X9_hasUnmade_4 F S I  n)  ih x1 x2 x3 h_x1 hz ls hl
set_option maxRecDepth 100000 in
set_option maxHeartbeats 4000000 in
theorem c_X9_hasUnmade {l : Launch} {D : zD} {b0 : Nat} {S : zS} {I : zI} {X : Int32} (F : Nat) (x0 : Nat) (x1 : Nat) (h_x0 : z_is b0 S x0 9) (h_x1 : z_is b0 S x1 10) (hz : z_X9_hasUnmade F S I x0 x1 = some X) : z_M l D b0 yX9_hasUnmade cX9_hasUnmade 4 (some .boolean) { frames := 1, cells := 0, slots := 0, locals := 20 } [.ref (x0), .ref (x1)] S I (some (.int (X))) S I := by
  refine z_met (by decide) (Nat.le_of_ble_eq_true rfl) ?_
  intro p e s m below meth c hC hnm hT ls hl
  have hl : lv_has ls 4 [(0, .ref (x0)), (1, .ref (x1))] := hl
  unfold z_X9_hasUnmade at hz
  refine z_iconst (v := 0) hC dX9_hasUnmade_0 (by decide) ?_
  refine z_istore_n (lv' := [(2, .int (0)), (0, .ref (x0)), (1, .ref (x1))]) hC dX9_hasUnmade_1 rfl hl (by decide) rfl (fun ls hl => ?_)
  refine z_iconst (v := 0) hC dX9_hasUnmade_2 (by decide) ?_
  refine z_istore_n (lv' := [(3, .int (0)), (2, .int (0)), (0, .ref (x0)), (1, .ref (x1))]) hC dX9_hasUnmade_3 rfl hl (by decide) rfl (fun ls hl => ?_)
  exact b_X9_hasUnmade_4 hC hT   F (x1) (0) (0) h_x1 hz ls (lv_sub hl [3, 1, 0] rfl)
theorem zy_X9_beginning : z_y yX9_beginning cX9_beginning 3 none 1 := ⟨kw_885, kw_8, by decide +kernel, by decide +kernel, by decide +kernel⟩
theorem zv_X9_beginning : Cond.instanceMethod yX9_beginning ∈ z_tbl ∧ Cond.selects RX9 yX9_beginning yX9_beginning ∈ z_tbl := ⟨kw_884, ks_34⟩
def z_X9_beginning_41 (F : Nat) (S : zS) (k2 : Nat → Nat → Int32 → zI → Option (zI)) (x0 : Nat) (x1 : Nat) (x2 : Int32) (y0 : Nat) (y1 : Int32) (y2 : Int32) (I : zI) : Option (zI) :=
  if y1 < 0 ∨ (S.2.1 y0).2 ≤ y1.toNatClampNeg then none else (k2 (x0) (x1) (x2 + 1) (z_up I y0 y1.toNatClampNeg y2))
def z_X9_beginning_2B (F : Nat) (S : zS) (k2 : Nat → Nat → Int32 → zI → Option (zI)) (x0 : Nat) (x1 : Nat) (x2 : Int32) (I : zI) : Option (zI) :=
  if x2 < 20 then (ob (S.1 x0 4) (fun r1 => if (I x0 21) < 0 ∨ (S.2.1 r1).2 ≤ (I x0 21).toNatClampNeg then none else (if x2 < (I r1 (I x0 21).toNatClampNeg) then (ob (S.1 x0 5) (fun r3 => if ((8 * (I x0 21)) + x2) < 0 ∨ (S.2.1 r3).2 ≤ ((8 * (I x0 21)) + x2).toNatClampNeg then none else (z_X9_beginning_41 F S k2 (x0) (x1) (x2) (x1) (x2) (I r3 ((8 * (I x0 21)) + x2).toNatClampNeg) (I)))) else (z_X9_beginning_41 F S k2 (x0) (x1) (x2) (x1) (x2) (0) (I))))) else (some (I))
def z_X9_beginning_2 (F : Nat) (S : zS)  : Nat → Nat → Nat → Int32 → zI → Option (zI)
  | 0 => fun _ _ _ _ => none
  | n + 1 => fun x0 x1 x2 I => z_X9_beginning_2B F S  (z_X9_beginning_2 F S  n) x0 x1 x2 I
def z_X9_beginning (F : Nat) (S : zS) (I : zI) (x0 : Nat) (x1 : Nat) : Option (zI) :=
  z_X9_beginning_2 F S  F (x0) (x1) (0) (I)
set_option maxRecDepth 100000 in
set_option maxHeartbeats 4000000 in
theorem b_X9_beginning_41 {p : Program} {l : Launch} {e : Env} {s : State} {m : MethodId} {args : Array Value} {below : List Frame} {meth : Method} {c : Code} {D : zD} {b0 : Nat} {F : Nat} {S : zS} {X : zI} (hC : z_C p s m args meth c cX9_beginning RX9 3 none D) (hT : z_T b0 S) (k2 : Nat → Nat → Int32 → zI → Option (zI)) (hk2 : ∀ (x0 : Nat) (x1 : Nat) (x2 : Int32) (I : zI) , z_is b0 S x0 9 → z_is b0 S x1 10 → k2 x0 x1 x2 I = some X → ∀ ls : Array Slot, lv_has ls 3 [(0, .ref (x0)), (1, .ref (x1)), (2, .int (x2))] → z_W p l e { frames := 0, cells := 0, slots := 0, locals := 0 } s m args below meth c D b0 S I 0 0 (MQ below (z_Q D b0 none S X) args s 0 0 (fun q => b0 ≤ q)) (F0 m 2 ls [])) (x0 : Nat) (x1 : Nat) (x2 : Int32) (y0 : Nat) (y1 : Int32) (y2 : Int32) (I : zI) (h_x0 : z_is b0 S x0 9) (h_x1 : z_is b0 S x1 10) (h_y0 : z_is b0 S y0 10) (hz : z_X9_beginning_41 F S k2 x0 x1 x2 y0 y1 y2 I = some X) (ls : Array Slot) (hl : lv_has ls 3 [(0, .ref (x0)), (1, .ref (x1)), (2, .int (x2))]) : z_W p l e { frames := 0, cells := 0, slots := 0, locals := 0 } s m args below meth c D b0 S I 0 0 (MQ below (z_Q D b0 none S X) args s 0 0 (fun q => b0 ≤ q)) (F0 m 41 ls [.int (y2), .int (y1), .ref (y0)]) := by
  unfold z_X9_beginning_41 at hz
  obtain ⟨hi1, hz⟩ := ifn_some hz
  refine z_iast hC dX9_beginning_41 h_y0 hi1 ?_
  refine z_iinc (k0 := 2) (v := x2 + 1) (lv' := [(2, .int (x2 + 1)), (0, .ref (x0)), (1, .ref (x1))]) hC dX9_beginning_42 hl rfl rfl (by decide) rfl (fun ls hl => ?_)
  refine z_goto (tgt := 2) hC dX9_beginning_45 (by decide) ?_
  exact hk2 (x0) (x1) (x2 + 1) (z_up I y0 y1.toNatClampNeg y2) h_x0 h_x1 hz ls (lv_sub hl [1, 2, 0] rfl)
set_option maxRecDepth 100000 in
set_option maxHeartbeats 4000000 in
theorem bb_X9_beginning_2 {p : Program} {l : Launch} {e : Env} {s : State} {m : MethodId} {args : Array Value} {below : List Frame} {meth : Method} {c : Code} {D : zD} {b0 : Nat} {F : Nat} {S : zS} {X : zI} (hC : z_C p s m args meth c cX9_beginning RX9 3 none D) (hT : z_T b0 S) (k2 : Nat → Nat → Int32 → zI → Option (zI)) (hk2 : ∀ (x0 : Nat) (x1 : Nat) (x2 : Int32) (I : zI) , z_is b0 S x0 9 → z_is b0 S x1 10 → k2 x0 x1 x2 I = some X → ∀ ls : Array Slot, lv_has ls 3 [(0, .ref (x0)), (1, .ref (x1)), (2, .int (x2))] → z_W p l e { frames := 0, cells := 0, slots := 0, locals := 0 } s m args below meth c D b0 S I 0 0 (MQ below (z_Q D b0 none S X) args s 0 0 (fun q => b0 ≤ q)) (F0 m 2 ls [])) (x0 : Nat) (x1 : Nat) (x2 : Int32) (I : zI) (h_x0 : z_is b0 S x0 9) (h_x1 : z_is b0 S x1 10) (hz : z_X9_beginning_2B F S k2 x0 x1 x2 I = some X) (ls : Array Slot) (hl : lv_has ls 3 [(0, .ref (x0)), (1, .ref (x1)), (2, .int (x2))]) : z_W p l e { frames := 0, cells := 0, slots := 0, locals := 0 } s m args below meth c D b0 S I 0 0 (MQ below (z_Q D b0 none S X) args s 0 0 (fun q => b0 ≤ q)) (F0 m 2 ls []) := by
  unfold z_X9_beginning_2B at hz
  refine z_iload_n hC dX9_beginning_2 rfl (lv_at hl 2 rfl) ?_
  refine z_bipush (v := 20) hC dX9_beginning_3 (by decide) ?_
  refine z_icmp_ge (tgt := 48) hC dX9_beginning_5 (by decide) hz (fun hz => ?_) (fun hz => ?_)
  · skip
    obtain rfl := Option.some.inj hz
    exact z_vret hC hT dX9_beginning_48 (by decide) (by decide)
  · skip
    refine z_aload_n hC dX9_beginning_8 rfl (lv_at hl 1 rfl) ?_
    refine z_iload_n hC dX9_beginning_9 rfl (lv_at hl 2 rfl) ?_
    refine z_iload_n hC dX9_beginning_10 rfl (lv_at hl 2 rfl) ?_
    refine z_aload_n hC dX9_beginning_11 rfl (lv_at hl 0 rfl) ?_
    obtain ⟨r1, hr_r1, hz⟩ := ob_some hz
    have hk_r1 : z_is b0 S r1 10 := hT.at h_x0 hr_r1
    refine z_getR hC zc_9 4 (by decide) kw_741 dX9_beginning_12 h_x0 rfl hr_r1 ?_
    refine z_aload_n hC dX9_beginning_15 rfl (lv_at hl 0 rfl) ?_
    refine z_getI hC zc_9 21 (by decide) kw_758 dX9_beginning_16 h_x0 rfl ?_
    obtain ⟨hi2, hz⟩ := ifn_some hz
    refine z_iald hC dX9_beginning_19 hk_r1 hi2 ?_
    refine z_icmp_ge (tgt := 40) hC dX9_beginning_20 (by decide) hz (fun hz => ?_) (fun hz => ?_)
    · skip
      refine z_iconst (v := 0) hC dX9_beginning_40 (by decide) ?_
      exact b_X9_beginning_41 hC hT k2 hk2 (x0) (x1) (x2) (x1) (x2) (0) (I) h_x0 h_x1 h_x1 hz ls (lv_sub hl [0, 1, 2] rfl)
    · skip
      refine z_aload_n hC dX9_beginning_23 rfl (lv_at hl 0 rfl) ?_
      obtain ⟨r3, hr_r3, hz⟩ := ob_some hz
      have hk_r3 : z_is b0 S r3 10 := hT.at h_x0 hr_r3
      refine z_getR hC zc_9 5 (by decide) kw_742 dX9_beginning_24 h_x0 rfl hr_r3 ?_
      refine z_bipush (v := 8) hC dX9_beginning_27 (by decide) ?_
      refine z_aload_n hC dX9_beginning_29 rfl (lv_at hl 0 rfl) ?_
      refine z_getI hC zc_9 21 (by decide) kw_758 dX9_beginning_30 h_x0 rfl ?_
      refine z_imul hC dX9_beginning_33 ?_
      refine z_iload_n hC dX9_beginning_34 rfl (lv_at hl 2 rfl) ?_
      refine z_iadd hC dX9_beginning_35 ?_
      obtain ⟨hi4, hz⟩ := ifn_some hz
      refine z_iald hC dX9_beginning_36 hk_r3 hi4 ?_
      refine z_goto (tgt := 41) hC dX9_beginning_37 (by decide) ?_
      exact b_X9_beginning_41 hC hT k2 hk2 (x0) (x1) (x2) (x1) (x2) (I r3 ((8 * (I x0 21)) + x2).toNatClampNeg) (I) h_x0 h_x1 h_x1 hz ls (lv_sub hl [0, 1, 2] rfl)
set_option maxRecDepth 100000 in
set_option maxHeartbeats 4000000 in
theorem b_X9_beginning_2 {p : Program} {l : Launch} {e : Env} {s : State} {m : MethodId} {args : Array Value} {below : List Frame} {meth : Method} {c : Code} {D : zD} {b0 : Nat} {F : Nat} {S : zS} {X : zI} (hC : z_C p s m args meth c cX9_beginning RX9 3 none D) (hT : z_T b0 S)   : ∀ (n : Nat) (x0 : Nat) (x1 : Nat) (x2 : Int32) (I : zI), z_is b0 S x0 9 → z_is b0 S x1 10 → z_X9_beginning_2 F S  n x0 x1 x2 I = some X → ∀ ls : Array Slot, lv_has ls 3 [(0, .ref (x0)), (1, .ref (x1)), (2, .int (x2))] → z_W p l e { frames := 0, cells := 0, slots := 0, locals := 0 } s m args below meth c D b0 S I 0 0 (MQ below (z_Q D b0 none S X) args s 0 0 (fun q => b0 ≤ q)) (F0 m 2 ls []) := by
  intro n
  induction n with
  | zero => intro x0 x1 x2 I h_x0 h_x1 hz; cases hz
  | succ n ih =>
    intro x0 x1 x2 I h_x0 h_x1 hz ls hl
    exact bb_X9_beginning_2 (F := F) hC hT  (z_X9_beginning_2 F S  n)  ih x0 x1 x2 I h_x0 h_x1 hz ls hl
set_option maxRecDepth 100000 in
set_option maxHeartbeats 4000000 in
theorem c_X9_beginning {l : Launch} {D : zD} {b0 : Nat} {S : zS} {I : zI} {X : zI} (F : Nat) (x0 : Nat) (x1 : Nat) (h_x0 : z_is b0 S x0 9) (h_x1 : z_is b0 S x1 10) (hz : z_X9_beginning F S I x0 x1 = some X) : z_M l D b0 yX9_beginning cX9_beginning 3 none { frames := 0, cells := 0, slots := 0, locals := 0 } [.ref (x0), .ref (x1)] S I none S X := by
  refine z_met (by decide) (Nat.le_of_ble_eq_true rfl) ?_
  intro p e s m below meth c hC hnm hT ls hl
  have hl : lv_has ls 3 [(0, .ref (x0)), (1, .ref (x1))] := hl
  unfold z_X9_beginning at hz
  refine z_iconst (v := 0) hC dX9_beginning_0 (by decide) ?_
  refine z_istore_n (lv' := [(2, .int (0)), (0, .ref (x0)), (1, .ref (x1))]) hC dX9_beginning_1 rfl hl (by decide) rfl (fun ls hl => ?_)
  exact b_X9_beginning_2 hC hT   F (x0) (x1) (0) (I) h_x0 h_x1 hz ls (lv_sub hl [1, 2, 0] rfl)
theorem zy_X9_comes : z_y yX9_comes cX9_comes 8 none 3 := ⟨kw_907, kw_8, by decide +kernel, by decide +kernel, by decide +kernel⟩
theorem zv_X9_comes : Cond.instanceMethod yX9_comes ∈ z_tbl ∧ Cond.selects RX9 yX9_comes yX9_comes ∈ z_tbl := ⟨kw_906, ks_38⟩
def z_X9_comes_226 (F : Nat) (S : zS) (k135 : Nat → Int32 → Int32 → Int32 → Int32 → zI → Option (zI)) (x0 : Nat) (x1 : Int32) (x4 : Int32) (x6 : Int32) (x7 : Int32) (y0 : Int32) (y1 : Int32) (I : zI) : Option (zI) :=
  ob (S.1 x0 26) (fun r1 => if x6 < 0 ∨ (S.2.1 r1).2 ≤ x6.toNatClampNeg then none else (k135 (x0) (x1) (x4) (y0 ||| y1) (x6 + 1) (z_up I r1 x6.toNatClampNeg x7)))
def z_X9_comes_201 (F : Nat) (S : zS) (k135 : Nat → Int32 → Int32 → Int32 → Int32 → zI → Option (zI)) (x0 : Nat) (x1 : Int32) (x4 : Int32) (x5 : Int32) (x6 : Int32) (x7 : Int32) (I : zI) : Option (zI) :=
  ob (S.1 x0 17) (fun r1 => if ((20 * x4) + x6) < 0 ∨ (S.2.1 r1).2 ≤ ((20 * x4) + x6).toNatClampNeg then none else (if x7 = (I r1 ((20 * x4) + x6).toNatClampNeg) then (z_X9_comes_226 F S k135 (x0) (x1) (x4) (x6) (x7) (x5) (0) (I)) else (z_X9_comes_226 F S k135 (x0) (x1) (x4) (x6) (x7) (x5) (1) (I))))
def z_X9_comes_298 (F : Nat) (S : zS) (k247 : Nat → Int32 → Int32 → Int32 → Int32 → zI → Option (zI)) (x0 : Nat) (x1 : Int32) (x4 : Int32) (x5 : Int32) (x6 : Int32) (y0 : Nat) (y1 : Int32) (y2 : Int32) (I : zI) : Option (zI) :=
  if y1 < 0 ∨ (S.2.1 y0).2 ≤ y1.toNatClampNeg then none else (k247 (x0) (x1) (x4) (x5) (x6 + 1) (z_up I y0 y1.toNatClampNeg y2))
def z_X9_comes_247B (F : Nat) (S : zS) (k247 : Nat → Int32 → Int32 → Int32 → Int32 → zI → Option (zI)) (x0 : Nat) (x1 : Int32) (x4 : Int32) (x5 : Int32) (x6 : Int32) (I : zI) : Option (zI) :=
  ob (S.1 x0 23) (fun r1 => if (8 : Int32) < 0 ∨ (S.2.1 r1).2 ≤ (8 : Int32).toNatClampNeg then none else (if x6 < (9 + (I r1 (8 : Int32).toNatClampNeg)) then (ob (S.1 x0 17) (fun r7 => if x6 = 8 then (if (8 : Int32) < 0 ∨ (S.2.1 r1).2 ≤ (8 : Int32).toNatClampNeg then none else (z_X9_comes_298 F S k247 (x0) (x1) (x4) (x5) (x6) (r7) ((20 * x4) + x6) (I r1 (8 : Int32).toNatClampNeg) (I))) else (ob (S.1 x0 26) (fun r8 => if x6 < 0 ∨ (S.2.1 r8).2 ≤ x6.toNatClampNeg then none else (z_X9_comes_298 F S k247 (x0) (x1) (x4) (x5) (x6) (r7) ((20 * x4) + x6) (I r8 x6.toNatClampNeg) (I)))))) else (ob (S.1 x0 25) (fun r3 => if x1 < 0 ∨ (S.2.1 r3).2 ≤ x1.toNatClampNeg then none else (if x1 < 0 ∨ (S.2.1 r3).2 ≤ x1.toNatClampNeg then none else (if ((I r3 x1.toNatClampNeg) ||| x5) = 0 ∨ ((I r3 x1.toNatClampNeg) ||| x5) = 1 then (some (z_up I r3 x1.toNatClampNeg ((I r3 x1.toNatClampNeg) ||| x5))) else none))))))
def z_X9_comes_247 (F : Nat) (S : zS)  : Nat → Nat → Int32 → Int32 → Int32 → Int32 → zI → Option (zI)
  | 0 => fun _ _ _ _ _ _ => none
  | n + 1 => fun x0 x1 x4 x5 x6 I => z_X9_comes_247B F S  (z_X9_comes_247 F S  n) x0 x1 x4 x5 x6 I
def z_X9_comes_135B (F : Nat) (S : zS) (k135 : Nat → Int32 → Int32 → Int32 → Int32 → zI → Option (zI)) (x0 : Nat) (x1 : Int32) (x4 : Int32) (x5 : Int32) (x6 : Int32) (I : zI) : Option (zI) :=
  ob (S.1 x0 23) (fun r1 => if (8 : Int32) < 0 ∨ (S.2.1 r1).2 ≤ (8 : Int32).toNatClampNeg then none else (if x6 < (9 + (I r1 (8 : Int32).toNatClampNeg)) then (if x6 = 8 then (k135 (x0) (x1) (x4) (x5) (x6 + 1) (I)) else (ob (S.1 x0 17) (fun r3 => if ((20 * x4) + x6) < 0 ∨ (S.2.1 r3).2 ≤ ((20 * x4) + x6).toNatClampNeg then none else (if x6 < 0 ∨ (S.2.1 r1).2 ≤ x6.toNatClampNeg then none else (ob (z_X9_joinTypes F S I x0 (I r3 ((20 * x4) + x6).toNatClampNeg) (I r1 x6.toNatClampNeg)) (fun q6 => if x6 < 9 then (z_X9_comes_201 F S k135 (x0) (x1) (x4) (x5) (x6) (q6) (I)) else (if q6 = 0 then (ob (z_X9_fails F S I x0 2) (fun q7 => some (q7))) else (z_X9_comes_201 F S k135 (x0) (x1) (x4) (x5) (x6) (q6) (I))))))))) else (z_X9_comes_247 F S  F (x0) (x1) (x4) (x5) (0) (I))))
def z_X9_comes_135 (F : Nat) (S : zS)  : Nat → Nat → Int32 → Int32 → Int32 → Int32 → zI → Option (zI)
  | 0 => fun _ _ _ _ _ _ => none
  | n + 1 => fun x0 x1 x4 x5 x6 I => z_X9_comes_135B F S  (z_X9_comes_135 F S  n) x0 x1 x4 x5 x6 I
def z_X9_comes_46 (F : Nat) (S : zS)  (x0 : Nat) (x1 : Int32) (I : zI) : Option (zI) :=
  ob (S.1 x0 16) (fun r1 => if ((40 * (I x0 21)) + x1) < 0 ∨ (S.2.1 r1).2 ≤ ((40 * (I x0 21)) + x1).toNatClampNeg then none else (if (I r1 ((40 * (I x0 21)) + x1).toNatClampNeg) = 0 then (if ((40 * (I x0 21)) + x1) < 0 ∨ (S.2.1 r1).2 ≤ ((40 * (I x0 21)) + x1).toNatClampNeg then none else (ob (S.1 x0 23) (fun r9 => ob (S.1 x0 17) (fun r10 => ob (z_X9_copy F S (z_up I r1 ((40 * (I x0 21)) + x1).toNatClampNeg 1) r9 0 r10 (20 * ((40 * (I x0 21)) + x1))) (fun q11 => ob (S.1 x0 25) (fun r12 => if x1 < 0 ∨ (S.2.1 r12).2 ≤ x1.toNatClampNeg then none else (some (z_up q11 r12 x1.toNatClampNeg 1)))))))) else (ob (S.1 x0 17) (fun r3 => if ((20 * ((40 * (I x0 21)) + x1)) + 8) < 0 ∨ (S.2.1 r3).2 ≤ ((20 * ((40 * (I x0 21)) + x1)) + 8).toNatClampNeg then none else (ob (S.1 x0 23) (fun r5 => if (8 : Int32) < 0 ∨ (S.2.1 r5).2 ≤ (8 : Int32).toNatClampNeg then none else (if (I r3 ((20 * ((40 * (I x0 21)) + x1)) + 8).toNatClampNeg) = (I r5 (8 : Int32).toNatClampNeg) then (z_X9_comes_135 F S  F (x0) (x1) ((40 * (I x0 21)) + x1) (0) (0) (I)) else (ob (z_X9_fails F S I x0 4) (fun q7 => some (q7))))))))))
def z_X9_comes (F : Nat) (S : zS) (I : zI) (x0 : Nat) (x1 : Int32) (x2 : Int32) (x3 : Int32) : Option (zI) :=
  ob (S.1 x0 6) (fun r1 => if (I x0 21) < 0 ∨ (S.2.1 r1).2 ≤ (I x0 21).toNatClampNeg then none else (if x1 < (I r1 (I x0 21).toNatClampNeg) then (if x3 = 0 then (if x2 < x1 then (z_X9_comes_46 F S  (x0) (x1) (I)) else (ob (S.1 x0 23) (fun r3 => ob (z_X9_hasUnmade F S I x0 r3) (fun q4 => if q4 = 0 then (z_X9_comes_46 F S  (x0) (x1) (I)) else (ob (z_X9_fails F S I x0 6) (fun q5 => some (q5))))))) else (z_X9_comes_46 F S  (x0) (x1) (I))) else (ob (z_X9_fails F S I x0 5) (fun q6 => some (q6)))))
set_option maxRecDepth 100000 in
set_option maxHeartbeats 4000000 in
theorem b_X9_comes_226 {p : Program} {l : Launch} {e : Env} {s : State} {m : MethodId} {args : Array Value} {below : List Frame} {meth : Method} {c : Code} {D : zD} {b0 : Nat} {F : Nat} {S : zS} {X : zI} (hC : z_C p s m args meth c cX9_comes RX9 8 none D) (hT : z_T b0 S) (k135 : Nat → Int32 → Int32 → Int32 → Int32 → zI → Option (zI)) (hk135 : ∀ (x0 : Nat) (x1 : Int32) (x4 : Int32) (x5 : Int32) (x6 : Int32) (I : zI) , z_is b0 S x0 9 → k135 x0 x1 x4 x5 x6 I = some X → ∀ ls : Array Slot, lv_has ls 8 [(0, .ref (x0)), (1, .int (x1)), (4, .int (x4)), (5, .int (x5)), (6, .int (x6))] → z_W p l e { frames := 3, cells := 0, slots := 0, locals := 68 } s m args below meth c D b0 S I 0 0 (MQ below (z_Q D b0 none S X) args s 0 0 (fun q => b0 ≤ q)) (F0 m 135 ls [])) (x0 : Nat) (x1 : Int32) (x4 : Int32) (x6 : Int32) (x7 : Int32) (y0 : Int32) (y1 : Int32) (I : zI) (h_x0 : z_is b0 S x0 9) (hz : z_X9_comes_226 F S k135 x0 x1 x4 x6 x7 y0 y1 I = some X) (ls : Array Slot) (hl : lv_has ls 8 [(0, .ref (x0)), (1, .int (x1)), (4, .int (x4)), (6, .int (x6)), (7, .int (x7))]) : z_W p l e { frames := 3, cells := 0, slots := 0, locals := 68 } s m args below meth c D b0 S I 0 0 (MQ below (z_Q D b0 none S X) args s 0 0 (fun q => b0 ≤ q)) (F0 m 226 ls [.int (y1), .int (y0)]) := by
  unfold z_X9_comes_226 at hz
  refine z_ior hC dX9_comes_226 ?_
  refine z_istore (lv' := [(5, .int (y0 ||| y1)), (0, .ref (x0)), (1, .int (x1)), (4, .int (x4)), (6, .int (x6)), (7, .int (x7))]) hC dX9_comes_227 hl (by decide) rfl (fun ls hl => ?_)
  refine z_aload_n hC dX9_comes_229 rfl (lv_at hl 1 rfl) ?_
  obtain ⟨r1, hr_r1, hz⟩ := ob_some hz
  have hk_r1 : z_is b0 S r1 10 := hT.at h_x0 hr_r1
  refine z_getR hC zc_9 26 (by decide) kw_763 dX9_comes_230 h_x0 rfl hr_r1 ?_
  refine z_iload hC dX9_comes_233 (lv_at hl 4 rfl) ?_
  refine z_iload hC dX9_comes_235 (lv_at hl 5 rfl) ?_
  obtain ⟨hi2, hz⟩ := ifn_some hz
  refine z_iast hC dX9_comes_237 hk_r1 hi2 ?_
  refine z_iinc (k0 := 4) (v := x6 + 1) (lv' := [(6, .int (x6 + 1)), (5, .int (y0 ||| y1)), (0, .ref (x0)), (1, .int (x1)), (4, .int (x4)), (7, .int (x7))]) hC dX9_comes_238 hl rfl rfl (by decide) rfl (fun ls hl => ?_)
  refine z_goto (tgt := 135) hC dX9_comes_241 (by decide) ?_
  exact hk135 (x0) (x1) (x4) (y0 ||| y1) (x6 + 1) (z_up I r1 x6.toNatClampNeg x7) h_x0 hz ls (lv_sub hl [2, 3, 4, 1, 0] rfl)
set_option maxRecDepth 100000 in
set_option maxHeartbeats 4000000 in
theorem b_X9_comes_201 {p : Program} {l : Launch} {e : Env} {s : State} {m : MethodId} {args : Array Value} {below : List Frame} {meth : Method} {c : Code} {D : zD} {b0 : Nat} {F : Nat} {S : zS} {X : zI} (hC : z_C p s m args meth c cX9_comes RX9 8 none D) (hT : z_T b0 S) (k135 : Nat → Int32 → Int32 → Int32 → Int32 → zI → Option (zI)) (hk135 : ∀ (x0 : Nat) (x1 : Int32) (x4 : Int32) (x5 : Int32) (x6 : Int32) (I : zI) , z_is b0 S x0 9 → k135 x0 x1 x4 x5 x6 I = some X → ∀ ls : Array Slot, lv_has ls 8 [(0, .ref (x0)), (1, .int (x1)), (4, .int (x4)), (5, .int (x5)), (6, .int (x6))] → z_W p l e { frames := 3, cells := 0, slots := 0, locals := 68 } s m args below meth c D b0 S I 0 0 (MQ below (z_Q D b0 none S X) args s 0 0 (fun q => b0 ≤ q)) (F0 m 135 ls [])) (x0 : Nat) (x1 : Int32) (x4 : Int32) (x5 : Int32) (x6 : Int32) (x7 : Int32) (I : zI) (h_x0 : z_is b0 S x0 9) (hz : z_X9_comes_201 F S k135 x0 x1 x4 x5 x6 x7 I = some X) (ls : Array Slot) (hl : lv_has ls 8 [(0, .ref (x0)), (1, .int (x1)), (4, .int (x4)), (5, .int (x5)), (6, .int (x6)), (7, .int (x7))]) : z_W p l e { frames := 3, cells := 0, slots := 0, locals := 68 } s m args below meth c D b0 S I 0 0 (MQ below (z_Q D b0 none S X) args s 0 0 (fun q => b0 ≤ q)) (F0 m 201 ls []) := by
  unfold z_X9_comes_201 at hz
  refine z_iload hC dX9_comes_201 (lv_at hl 3 rfl) ?_
  refine z_iload hC dX9_comes_203 (lv_at hl 5 rfl) ?_
  refine z_aload_n hC dX9_comes_205 rfl (lv_at hl 0 rfl) ?_
  obtain ⟨r1, hr_r1, hz⟩ := ob_some hz
  have hk_r1 : z_is b0 S r1 10 := hT.at h_x0 hr_r1
  refine z_getR hC zc_9 17 (by decide) kw_754 dX9_comes_206 h_x0 rfl hr_r1 ?_
  refine z_bipush (v := 20) hC dX9_comes_209 (by decide) ?_
  refine z_iload hC dX9_comes_211 (lv_at hl 2 rfl) ?_
  refine z_imul hC dX9_comes_213 ?_
  refine z_iload hC dX9_comes_214 (lv_at hl 4 rfl) ?_
  refine z_iadd hC dX9_comes_216 ?_
  obtain ⟨hi2, hz⟩ := ifn_some hz
  refine z_iald hC dX9_comes_217 hk_r1 hi2 ?_
  refine z_icmp_eq (tgt := 225) hC dX9_comes_218 (by decide) hz (fun hz => ?_) (fun hz => ?_)
  · skip
    refine z_iconst (v := 0) hC dX9_comes_225 (by decide) ?_
    exact b_X9_comes_226 hC hT k135 hk135 (x0) (x1) (x4) (x6) (x7) (x5) (0) (I) h_x0 hz ls (lv_sub hl [0, 1, 2, 4, 5] rfl)
  · skip
    refine z_iconst (v := 1) hC dX9_comes_221 (by decide) ?_
    refine z_goto (tgt := 226) hC dX9_comes_222 (by decide) ?_
    exact b_X9_comes_226 hC hT k135 hk135 (x0) (x1) (x4) (x6) (x7) (x5) (1) (I) h_x0 hz ls (lv_sub hl [0, 1, 2, 4, 5] rfl)
set_option maxRecDepth 100000 in
set_option maxHeartbeats 4000000 in
theorem b_X9_comes_298 {p : Program} {l : Launch} {e : Env} {s : State} {m : MethodId} {args : Array Value} {below : List Frame} {meth : Method} {c : Code} {D : zD} {b0 : Nat} {F : Nat} {S : zS} {X : zI} (hC : z_C p s m args meth c cX9_comes RX9 8 none D) (hT : z_T b0 S) (k247 : Nat → Int32 → Int32 → Int32 → Int32 → zI → Option (zI)) (hk247 : ∀ (x0 : Nat) (x1 : Int32) (x4 : Int32) (x5 : Int32) (x6 : Int32) (I : zI) , z_is b0 S x0 9 → k247 x0 x1 x4 x5 x6 I = some X → ∀ ls : Array Slot, lv_has ls 8 [(0, .ref (x0)), (1, .int (x1)), (4, .int (x4)), (5, .int (x5)), (6, .int (x6))] → z_W p l e { frames := 3, cells := 0, slots := 0, locals := 68 } s m args below meth c D b0 S I 0 0 (MQ below (z_Q D b0 none S X) args s 0 0 (fun q => b0 ≤ q)) (F0 m 247 ls [])) (x0 : Nat) (x1 : Int32) (x4 : Int32) (x5 : Int32) (x6 : Int32) (y0 : Nat) (y1 : Int32) (y2 : Int32) (I : zI) (h_x0 : z_is b0 S x0 9) (h_y0 : z_is b0 S y0 10) (hz : z_X9_comes_298 F S k247 x0 x1 x4 x5 x6 y0 y1 y2 I = some X) (ls : Array Slot) (hl : lv_has ls 8 [(0, .ref (x0)), (1, .int (x1)), (4, .int (x4)), (5, .int (x5)), (6, .int (x6))]) : z_W p l e { frames := 3, cells := 0, slots := 0, locals := 68 } s m args below meth c D b0 S I 0 0 (MQ below (z_Q D b0 none S X) args s 0 0 (fun q => b0 ≤ q)) (F0 m 298 ls [.int (y2), .int (y1), .ref (y0)]) := by
  unfold z_X9_comes_298 at hz
  obtain ⟨hi1, hz⟩ := ifn_some hz
  refine z_iast hC dX9_comes_298 h_y0 hi1 ?_
  refine z_iinc (k0 := 4) (v := x6 + 1) (lv' := [(6, .int (x6 + 1)), (0, .ref (x0)), (1, .int (x1)), (4, .int (x4)), (5, .int (x5))]) hC dX9_comes_299 hl rfl rfl (by decide) rfl (fun ls hl => ?_)
  refine z_goto (tgt := 247) hC dX9_comes_302 (by decide) ?_
  exact hk247 (x0) (x1) (x4) (x5) (x6 + 1) (z_up I y0 y1.toNatClampNeg y2) h_x0 hz ls (lv_sub hl [1, 2, 3, 4, 0] rfl)
set_option maxRecDepth 100000 in
set_option maxHeartbeats 4000000 in
theorem bb_X9_comes_247 {p : Program} {l : Launch} {e : Env} {s : State} {m : MethodId} {args : Array Value} {below : List Frame} {meth : Method} {c : Code} {D : zD} {b0 : Nat} {F : Nat} {S : zS} {X : zI} (hC : z_C p s m args meth c cX9_comes RX9 8 none D) (hT : z_T b0 S) (k247 : Nat → Int32 → Int32 → Int32 → Int32 → zI → Option (zI)) (hk247 : ∀ (x0 : Nat) (x1 : Int32) (x4 : Int32) (x5 : Int32) (x6 : Int32) (I : zI) , z_is b0 S x0 9 → k247 x0 x1 x4 x5 x6 I = some X → ∀ ls : Array Slot, lv_has ls 8 [(0, .ref (x0)), (1, .int (x1)), (4, .int (x4)), (5, .int (x5)), (6, .int (x6))] → z_W p l e { frames := 3, cells := 0, slots := 0, locals := 68 } s m args below meth c D b0 S I 0 0 (MQ below (z_Q D b0 none S X) args s 0 0 (fun q => b0 ≤ q)) (F0 m 247 ls [])) (x0 : Nat) (x1 : Int32) (x4 : Int32) (x5 : Int32) (x6 : Int32) (I : zI) (h_x0 : z_is b0 S x0 9) (hz : z_X9_comes_247B F S k247 x0 x1 x4 x5 x6 I = some X) (ls : Array Slot) (hl : lv_has ls 8 [(0, .ref (x0)), (1, .int (x1)), (4, .int (x4)), (5, .int (x5)), (6, .int (x6))]) : z_W p l e { frames := 3, cells := 0, slots := 0, locals := 68 } s m args below meth c D b0 S I 0 0 (MQ below (z_Q D b0 none S X) args s 0 0 (fun q => b0 ≤ q)) (F0 m 247 ls []) := by
  unfold z_X9_comes_247B at hz
  refine z_iload hC dX9_comes_247 (lv_at hl 4 rfl) ?_
  refine z_bipush (v := 9) hC dX9_comes_249 (by decide) ?_
  refine z_aload_n hC dX9_comes_251 rfl (lv_at hl 0 rfl) ?_
  obtain ⟨r1, hr_r1, hz⟩ := ob_some hz
  have hk_r1 : z_is b0 S r1 10 := hT.at h_x0 hr_r1
  refine z_getR hC zc_9 23 (by decide) kw_760 dX9_comes_252 h_x0 rfl hr_r1 ?_
  refine z_bipush (v := 8) hC dX9_comes_255 (by decide) ?_
  obtain ⟨hi2, hz⟩ := ifn_some hz
  refine z_iald hC dX9_comes_257 hk_r1 hi2 ?_
  refine z_iadd hC dX9_comes_258 ?_
  refine z_icmp_ge (tgt := 305) hC dX9_comes_259 (by decide) hz (fun hz => ?_) (fun hz => ?_)
  · skip
    refine z_aload_n hC dX9_comes_305 rfl (lv_at hl 0 rfl) ?_
    obtain ⟨r3, hr_r3, hz⟩ := ob_some hz
    have hk_r3 : z_is b0 S r3 11 := hT.at h_x0 hr_r3
    refine z_getR hC zc_9 25 (by decide) kw_762 dX9_comes_306 h_x0 rfl hr_r3 ?_
    refine z_iload_n hC dX9_comes_309 rfl (lv_at hl 1 rfl) ?_
    refine z_dup2 hC dX9_comes_310 rfl rfl ?_
    obtain ⟨hi4, hz⟩ := ifn_some hz
    refine z_zald hC dX9_comes_311 hk_r3 hi4 ?_
    refine z_iload hC dX9_comes_312 (lv_at hl 3 rfl) ?_
    refine z_ior hC dX9_comes_314 ?_
    obtain ⟨hi5, hz⟩ := ifn_some hz
    obtain ⟨hb6, hz⟩ := ifp_some hz
    refine z_zast hC dX9_comes_315 hk_r3 hi5 (z_bool hb6) ?_
    obtain rfl := Option.some.inj hz
    exact z_vret hC hT dX9_comes_316 (by decide) (by decide)
  · skip
    refine z_aload_n hC dX9_comes_262 rfl (lv_at hl 0 rfl) ?_
    obtain ⟨r7, hr_r7, hz⟩ := ob_some hz
    have hk_r7 : z_is b0 S r7 10 := hT.at h_x0 hr_r7
    refine z_getR hC zc_9 17 (by decide) kw_754 dX9_comes_263 h_x0 rfl hr_r7 ?_
    refine z_bipush (v := 20) hC dX9_comes_266 (by decide) ?_
    refine z_iload hC dX9_comes_268 (lv_at hl 2 rfl) ?_
    refine z_imul hC dX9_comes_270 ?_
    refine z_iload hC dX9_comes_271 (lv_at hl 4 rfl) ?_
    refine z_iadd hC dX9_comes_273 ?_
    refine z_iload hC dX9_comes_274 (lv_at hl 4 rfl) ?_
    refine z_bipush (v := 8) hC dX9_comes_276 (by decide) ?_
    refine z_icmp_ne (tgt := 291) hC dX9_comes_278 (by decide) hz (fun hz => ?_) (fun hz => ?_)
    · skip
      refine z_aload_n hC dX9_comes_291 rfl (lv_at hl 0 rfl) ?_
      obtain ⟨r8, hr_r8, hz⟩ := ob_some hz
      have hk_r8 : z_is b0 S r8 10 := hT.at h_x0 hr_r8
      refine z_getR hC zc_9 26 (by decide) kw_763 dX9_comes_292 h_x0 rfl hr_r8 ?_
      refine z_iload hC dX9_comes_295 (lv_at hl 4 rfl) ?_
      obtain ⟨hi9, hz⟩ := ifn_some hz
      refine z_iald hC dX9_comes_297 hk_r8 hi9 ?_
      exact b_X9_comes_298 hC hT k247 hk247 (x0) (x1) (x4) (x5) (x6) (r7) ((20 * x4) + x6) (I r8 x6.toNatClampNeg) (I) h_x0 hk_r7 hz ls (lv_sub hl [0, 1, 2, 3, 4] rfl)
    · skip
      refine z_aload_n hC dX9_comes_281 rfl (lv_at hl 0 rfl) ?_
      refine z_getR hC zc_9 23 (by decide) kw_760 dX9_comes_282 h_x0 rfl hr_r1 ?_
      refine z_bipush (v := 8) hC dX9_comes_285 (by decide) ?_
      obtain ⟨hi10, hz⟩ := ifn_some hz
      refine z_iald hC dX9_comes_287 hk_r1 hi10 ?_
      refine z_goto (tgt := 298) hC dX9_comes_288 (by decide) ?_
      exact b_X9_comes_298 hC hT k247 hk247 (x0) (x1) (x4) (x5) (x6) (r7) ((20 * x4) + x6) (I r1 (8 : Int32).toNatClampNeg) (I) h_x0 hk_r7 hz ls (lv_sub hl [0, 1, 2, 3, 4] rfl)
set_option maxRecDepth 100000 in
set_option maxHeartbeats 4000000 in
theorem b_X9_comes_247 {p : Program} {l : Launch} {e : Env} {s : State} {m : MethodId} {args : Array Value} {below : List Frame} {meth : Method} {c : Code} {D : zD} {b0 : Nat} {F : Nat} {S : zS} {X : zI} (hC : z_C p s m args meth c cX9_comes RX9 8 none D) (hT : z_T b0 S)   : ∀ (n : Nat) (x0 : Nat) (x1 : Int32) (x4 : Int32) (x5 : Int32) (x6 : Int32) (I : zI), z_is b0 S x0 9 → z_X9_comes_247 F S  n x0 x1 x4 x5 x6 I = some X → ∀ ls : Array Slot, lv_has ls 8 [(0, .ref (x0)), (1, .int (x1)), (4, .int (x4)), (5, .int (x5)), (6, .int (x6))] → z_W p l e { frames := 3, cells := 0, slots := 0, locals := 68 } s m args below meth c D b0 S I 0 0 (MQ below (z_Q D b0 none S X) args s 0 0 (fun q => b0 ≤ q)) (F0 m 247 ls []) := by
  intro n
  induction n with
  | zero => intro x0 x1 x4 x5 x6 I h_x0 hz; cases hz
  | succ n ih =>
    intro x0 x1 x4 x5 x6 I h_x0 hz ls hl
    exact bb_X9_comes_247 (F := F) hC hT  (z_X9_comes_247 F S  n)  ih x0 x1 x4 x5 x6 I h_x0 hz ls hl
set_option maxRecDepth 100000 in
set_option maxHeartbeats 4000000 in
theorem bb_X9_comes_135 {p : Program} {l : Launch} {e : Env} {s : State} {m : MethodId} {args : Array Value} {below : List Frame} {meth : Method} {c : Code} {D : zD} {b0 : Nat} {F : Nat} {S : zS} {X : zI} (hC : z_C p s m args meth c cX9_comes RX9 8 none D) (hT : z_T b0 S) (k135 : Nat → Int32 → Int32 → Int32 → Int32 → zI → Option (zI)) (hk135 : ∀ (x0 : Nat) (x1 : Int32) (x4 : Int32) (x5 : Int32) (x6 : Int32) (I : zI) , z_is b0 S x0 9 → k135 x0 x1 x4 x5 x6 I = some X → ∀ ls : Array Slot, lv_has ls 8 [(0, .ref (x0)), (1, .int (x1)), (4, .int (x4)), (5, .int (x5)), (6, .int (x6))] → z_W p l e { frames := 3, cells := 0, slots := 0, locals := 68 } s m args below meth c D b0 S I 0 0 (MQ below (z_Q D b0 none S X) args s 0 0 (fun q => b0 ≤ q)) (F0 m 135 ls [])) (x0 : Nat) (x1 : Int32) (x4 : Int32) (x5 : Int32) (x6 : Int32) (I : zI) (h_x0 : z_is b0 S x0 9) (hz : z_X9_comes_135B F S k135 x0 x1 x4 x5 x6 I = some X) (ls : Array Slot) (hl : lv_has ls 8 [(0, .ref (x0)), (1, .int (x1)), (4, .int (x4)), (5, .int (x5)), (6, .int (x6))]) : z_W p l e { frames := 3, cells := 0, slots := 0, locals := 68 } s m args below meth c D b0 S I 0 0 (MQ below (z_Q D b0 none S X) args s 0 0 (fun q => b0 ≤ q)) (F0 m 135 ls []) := by
  unfold z_X9_comes_135B at hz
  refine z_iload hC dX9_comes_135 (lv_at hl 4 rfl) ?_
  refine z_bipush (v := 9) hC dX9_comes_137 (by decide) ?_
  refine z_aload_n hC dX9_comes_139 rfl (lv_at hl 0 rfl) ?_
  obtain ⟨r1, hr_r1, hz⟩ := ob_some hz
  have hk_r1 : z_is b0 S r1 10 := hT.at h_x0 hr_r1
  refine z_getR hC zc_9 23 (by decide) kw_760 dX9_comes_140 h_x0 rfl hr_r1 ?_
  refine z_bipush (v := 8) hC dX9_comes_143 (by decide) ?_
  obtain ⟨hi2, hz⟩ := ifn_some hz
  refine z_iald hC dX9_comes_145 hk_r1 hi2 ?_
  refine z_iadd hC dX9_comes_146 ?_
  refine z_icmp_ge (tgt := 244) hC dX9_comes_147 (by decide) hz (fun hz => ?_) (fun hz => ?_)
  · skip
    refine z_iconst (v := 0) hC dX9_comes_244 (by decide) ?_
    refine z_istore (lv' := [(6, .int (0)), (0, .ref (x0)), (1, .int (x1)), (4, .int (x4)), (5, .int (x5))]) hC dX9_comes_245 hl (by decide) rfl (fun ls hl => ?_)
    exact b_X9_comes_247 hC hT   F (x0) (x1) (x4) (x5) (0) (I) h_x0 hz ls (lv_sub hl [1, 2, 3, 4, 0] rfl)
  · skip
    refine z_iload hC dX9_comes_150 (lv_at hl 4 rfl) ?_
    refine z_bipush (v := 8) hC dX9_comes_152 (by decide) ?_
    refine z_icmp_eq (tgt := 238) hC dX9_comes_154 (by decide) hz (fun hz => ?_) (fun hz => ?_)
    · skip
      refine z_iinc (k0 := 4) (v := x6 + 1) (lv' := [(6, .int (x6 + 1)), (0, .ref (x0)), (1, .int (x1)), (4, .int (x4)), (5, .int (x5))]) hC dX9_comes_238 hl rfl rfl (by decide) rfl (fun ls hl => ?_)
      refine z_goto (tgt := 135) hC dX9_comes_241 (by decide) ?_
      exact hk135 (x0) (x1) (x4) (x5) (x6 + 1) (I) h_x0 hz ls (lv_sub hl [1, 2, 3, 4, 0] rfl)
    · skip
      refine z_aload_n hC dX9_comes_157 rfl (lv_at hl 0 rfl) ?_
      refine z_aload_n hC dX9_comes_158 rfl (lv_at hl 0 rfl) ?_
      obtain ⟨r3, hr_r3, hz⟩ := ob_some hz
      have hk_r3 : z_is b0 S r3 10 := hT.at h_x0 hr_r3
      refine z_getR hC zc_9 17 (by decide) kw_754 dX9_comes_159 h_x0 rfl hr_r3 ?_
      refine z_bipush (v := 20) hC dX9_comes_162 (by decide) ?_
      refine z_iload hC dX9_comes_164 (lv_at hl 2 rfl) ?_
      refine z_imul hC dX9_comes_166 ?_
      refine z_iload hC dX9_comes_167 (lv_at hl 4 rfl) ?_
      refine z_iadd hC dX9_comes_169 ?_
      obtain ⟨hi4, hz⟩ := ifn_some hz
      refine z_iald hC dX9_comes_170 hk_r3 hi4 ?_
      refine z_aload_n hC dX9_comes_171 rfl (lv_at hl 0 rfl) ?_
      refine z_getR hC zc_9 23 (by decide) kw_760 dX9_comes_172 h_x0 rfl hr_r1 ?_
      refine z_iload hC dX9_comes_175 (lv_at hl 4 rfl) ?_
      obtain ⟨hi5, hz⟩ := ifn_some hz
      refine z_iald hC dX9_comes_177 hk_r1 hi5 ?_
      obtain ⟨q6, hq_q6, hz⟩ := ob_some hz
      refine z_callV (As := [.int (I r3 ((20 * x4) + x6).toNatClampNeg), .int (I r1 x6.toNatClampNeg)]) hC hT (c_X9_joinTypes F x0 (I r3 ((20 * x4) + x6).toNatClampNeg) (I r1 x6.toNatClampNeg) h_x0 hq_q6) zy_X9_joinTypes zc_9 zv_X9_joinTypes kw_916 dX9_comes_178 h_x0 rfl rfl hl.1 (Nat.le_of_ble_eq_true rfl) (by decide) (by decide) ?_
      refine z_istore (lv' := [(7, .int (q6)), (0, .ref (x0)), (1, .int (x1)), (4, .int (x4)), (5, .int (x5)), (6, .int (x6))]) hC dX9_comes_181 hl (by decide) rfl (fun ls hl => ?_)
      refine z_iload hC dX9_comes_183 (lv_at hl 5 rfl) ?_
      refine z_bipush (v := 9) hC dX9_comes_185 (by decide) ?_
      refine z_icmp_lt (tgt := 201) hC dX9_comes_187 (by decide) hz (fun hz => ?_) (fun hz => ?_)
      · skip
        exact b_X9_comes_201 hC hT k135 hk135 (x0) (x1) (x4) (x5) (x6) (q6) (I) h_x0 hz ls (lv_sub hl [1, 2, 3, 4, 5, 0] rfl)
      · skip
        refine z_iload hC dX9_comes_190 (lv_at hl 0 rfl) ?_
        refine z_if_ne (tgt := 201) hC dX9_comes_192 (by decide) hz (fun hz => ?_) (fun hz => ?_)
        · skip
          exact b_X9_comes_201 hC hT k135 hk135 (x0) (x1) (x4) (x5) (x6) (q6) (I) h_x0 hz ls (lv_sub hl [1, 2, 3, 4, 5, 0] rfl)
        · skip
          refine z_aload_n hC dX9_comes_195 rfl (lv_at hl 1 rfl) ?_
          refine z_iconst (v := 2) hC dX9_comes_196 (by decide) ?_
          obtain ⟨q7, hq_q7, hz⟩ := ob_some hz
          refine z_callV (As := [.int (2)]) hC hT (c_X9_fails F x0 2 h_x0 hq_q7) zy_X9_fails zc_9 zv_X9_fails kw_908 dX9_comes_197 h_x0 rfl rfl hl.1 (Nat.le_of_ble_eq_true rfl) (by decide) (by decide) ?_
          obtain rfl := Option.some.inj hz
          exact z_vret hC hT dX9_comes_200 (by decide) (by decide)
set_option maxRecDepth 100000 in
set_option maxHeartbeats 4000000 in
theorem b_X9_comes_135 {p : Program} {l : Launch} {e : Env} {s : State} {m : MethodId} {args : Array Value} {below : List Frame} {meth : Method} {c : Code} {D : zD} {b0 : Nat} {F : Nat} {S : zS} {X : zI} (hC : z_C p s m args meth c cX9_comes RX9 8 none D) (hT : z_T b0 S)   : ∀ (n : Nat) (x0 : Nat) (x1 : Int32) (x4 : Int32) (x5 : Int32) (x6 : Int32) (I : zI), z_is b0 S x0 9 → z_X9_comes_135 F S  n x0 x1 x4 x5 x6 I = some X → ∀ ls : Array Slot, lv_has ls 8 [(0, .ref (x0)), (1, .int (x1)), (4, .int (x4)), (5, .int (x5)), (6, .int (x6))] → z_W p l e { frames := 3, cells := 0, slots := 0, locals := 68 } s m args below meth c D b0 S I 0 0 (MQ below (z_Q D b0 none S X) args s 0 0 (fun q => b0 ≤ q)) (F0 m 135 ls []) := by
  intro n
  induction n with
  | zero => intro x0 x1 x4 x5 x6 I h_x0 hz; cases hz
  | succ n ih =>
    intro x0 x1 x4 x5 x6 I h_x0 hz ls hl
    exact bb_X9_comes_135 (F := F) hC hT  (z_X9_comes_135 F S  n)  ih x0 x1 x4 x5 x6 I h_x0 hz ls hl
set_option maxRecDepth 100000 in
set_option maxHeartbeats 4000000 in
theorem b_X9_comes_46 {p : Program} {l : Launch} {e : Env} {s : State} {m : MethodId} {args : Array Value} {below : List Frame} {meth : Method} {c : Code} {D : zD} {b0 : Nat} {F : Nat} {S : zS} {X : zI} (hC : z_C p s m args meth c cX9_comes RX9 8 none D) (hT : z_T b0 S)   (x0 : Nat) (x1 : Int32) (I : zI) (h_x0 : z_is b0 S x0 9) (hz : z_X9_comes_46 F S  x0 x1 I = some X) (ls : Array Slot) (hl : lv_has ls 8 [(0, .ref (x0)), (1, .int (x1))]) : z_W p l e { frames := 3, cells := 0, slots := 0, locals := 68 } s m args below meth c D b0 S I 0 0 (MQ below (z_Q D b0 none S X) args s 0 0 (fun q => b0 ≤ q)) (F0 m 46 ls []) := by
  unfold z_X9_comes_46 at hz
  refine z_bipush (v := 40) hC dX9_comes_46 (by decide) ?_
  refine z_aload_n hC dX9_comes_48 rfl (lv_at hl 0 rfl) ?_
  refine z_getI hC zc_9 21 (by decide) kw_758 dX9_comes_49 h_x0 rfl ?_
  refine z_imul hC dX9_comes_52 ?_
  refine z_iload_n hC dX9_comes_53 rfl (lv_at hl 1 rfl) ?_
  refine z_iadd hC dX9_comes_54 ?_
  refine z_istore (lv' := [(4, .int ((40 * (I x0 21)) + x1)), (0, .ref (x0)), (1, .int (x1))]) hC dX9_comes_55 hl (by decide) rfl (fun ls hl => ?_)
  refine z_aload_n hC dX9_comes_57 rfl (lv_at hl 1 rfl) ?_
  obtain ⟨r1, hr_r1, hz⟩ := ob_some hz
  have hk_r1 : z_is b0 S r1 11 := hT.at h_x0 hr_r1
  refine z_getR hC zc_9 16 (by decide) kw_753 dX9_comes_58 h_x0 rfl hr_r1 ?_
  refine z_iload hC dX9_comes_61 (lv_at hl 0 rfl) ?_
  obtain ⟨hi2, hz⟩ := ifn_some hz
  refine z_zald hC dX9_comes_63 hk_r1 hi2 ?_
  refine z_if_ne (tgt := 100) hC dX9_comes_64 (by decide) hz (fun hz => ?_) (fun hz => ?_)
  · skip
    refine z_aload_n hC dX9_comes_100 rfl (lv_at hl 1 rfl) ?_
    obtain ⟨r3, hr_r3, hz⟩ := ob_some hz
    have hk_r3 : z_is b0 S r3 10 := hT.at h_x0 hr_r3
    refine z_getR hC zc_9 17 (by decide) kw_754 dX9_comes_101 h_x0 rfl hr_r3 ?_
    refine z_bipush (v := 20) hC dX9_comes_104 (by decide) ?_
    refine z_iload hC dX9_comes_106 (lv_at hl 0 rfl) ?_
    refine z_imul hC dX9_comes_108 ?_
    refine z_bipush (v := 8) hC dX9_comes_109 (by decide) ?_
    refine z_iadd hC dX9_comes_111 ?_
    obtain ⟨hi4, hz⟩ := ifn_some hz
    refine z_iald hC dX9_comes_112 hk_r3 hi4 ?_
    refine z_aload_n hC dX9_comes_113 rfl (lv_at hl 1 rfl) ?_
    obtain ⟨r5, hr_r5, hz⟩ := ob_some hz
    have hk_r5 : z_is b0 S r5 10 := hT.at h_x0 hr_r5
    refine z_getR hC zc_9 23 (by decide) kw_760 dX9_comes_114 h_x0 rfl hr_r5 ?_
    refine z_bipush (v := 8) hC dX9_comes_117 (by decide) ?_
    obtain ⟨hi6, hz⟩ := ifn_some hz
    refine z_iald hC dX9_comes_119 hk_r5 hi6 ?_
    refine z_icmp_eq (tgt := 129) hC dX9_comes_120 (by decide) hz (fun hz => ?_) (fun hz => ?_)
    · skip
      refine z_iconst (v := 0) hC dX9_comes_129 (by decide) ?_
      refine z_istore (lv' := [(5, .int (0)), (4, .int ((40 * (I x0 21)) + x1)), (0, .ref (x0)), (1, .int (x1))]) hC dX9_comes_130 hl (by decide) rfl (fun ls hl => ?_)
      refine z_iconst (v := 0) hC dX9_comes_132 (by decide) ?_
      refine z_istore (lv' := [(6, .int (0)), (5, .int (0)), (4, .int ((40 * (I x0 21)) + x1)), (0, .ref (x0)), (1, .int (x1))]) hC dX9_comes_133 hl (by decide) rfl (fun ls hl => ?_)
      exact b_X9_comes_135 hC hT   F (x0) (x1) ((40 * (I x0 21)) + x1) (0) (0) (I) h_x0 hz ls (lv_sub hl [3, 4, 2, 1, 0] rfl)
    · skip
      refine z_aload_n hC dX9_comes_123 rfl (lv_at hl 1 rfl) ?_
      refine z_iconst (v := 4) hC dX9_comes_124 (by decide) ?_
      obtain ⟨q7, hq_q7, hz⟩ := ob_some hz
      refine z_callV (As := [.int (4)]) hC hT (c_X9_fails F x0 4 h_x0 hq_q7) zy_X9_fails zc_9 zv_X9_fails kw_908 dX9_comes_125 h_x0 rfl rfl hl.1 (Nat.le_of_ble_eq_true rfl) (by decide) (by decide) ?_
      obtain rfl := Option.some.inj hz
      exact z_vret hC hT dX9_comes_128 (by decide) (by decide)
  · skip
    refine z_aload_n hC dX9_comes_67 rfl (lv_at hl 1 rfl) ?_
    refine z_getR hC zc_9 16 (by decide) kw_753 dX9_comes_68 h_x0 rfl hr_r1 ?_
    refine z_iload hC dX9_comes_71 (lv_at hl 0 rfl) ?_
    refine z_iconst (v := 1) hC dX9_comes_73 (by decide) ?_
    obtain ⟨hi8, hz⟩ := ifn_some hz
    refine z_zast hC dX9_comes_74 hk_r1 hi8 (z_bool (Or.inr rfl)) ?_
    refine z_aload_n hC dX9_comes_75 rfl (lv_at hl 1 rfl) ?_
    obtain ⟨r9, hr_r9, hz⟩ := ob_some hz
    have hk_r9 : z_is b0 S r9 10 := hT.at h_x0 hr_r9
    refine z_getR hC zc_9 23 (by decide) kw_760 dX9_comes_76 h_x0 rfl hr_r9 ?_
    refine z_iconst (v := 0) hC dX9_comes_79 (by decide) ?_
    refine z_aload_n hC dX9_comes_80 rfl (lv_at hl 1 rfl) ?_
    obtain ⟨r10, hr_r10, hz⟩ := ob_some hz
    have hk_r10 : z_is b0 S r10 10 := hT.at h_x0 hr_r10
    refine z_getR hC zc_9 17 (by decide) kw_754 dX9_comes_81 h_x0 rfl hr_r10 ?_
    refine z_bipush (v := 20) hC dX9_comes_84 (by decide) ?_
    refine z_iload hC dX9_comes_86 (lv_at hl 0 rfl) ?_
    refine z_imul hC dX9_comes_88 ?_
    obtain ⟨q11, hq_q11, hz⟩ := ob_some hz
    refine z_callS (As := [.ref (r9), .int (0), .ref (r10), .int (20 * ((40 * (I x0 21)) + x1))]) hC hT (c_X9_copy F r9 0 r10 (20 * ((40 * (I x0 21)) + x1)) hk_r9 hk_r10 hq_q11) zy_X9_copy kw_887 kw_886 dX9_comes_89 rfl rfl hl.1 (Nat.le_of_ble_eq_true rfl) (by decide) (by decide) ?_
    refine z_aload_n hC dX9_comes_92 rfl (lv_at hl 1 rfl) ?_
    obtain ⟨r12, hr_r12, hz⟩ := ob_some hz
    have hk_r12 : z_is b0 S r12 11 := hT.at h_x0 hr_r12
    refine z_getR hC zc_9 25 (by decide) kw_762 dX9_comes_93 h_x0 rfl hr_r12 ?_
    refine z_iload_n hC dX9_comes_96 rfl (lv_at hl 2 rfl) ?_
    refine z_iconst (v := 1) hC dX9_comes_97 (by decide) ?_
    obtain ⟨hi13, hz⟩ := ifn_some hz
    refine z_zast hC dX9_comes_98 hk_r12 hi13 (z_bool (Or.inr rfl)) ?_
    obtain rfl := Option.some.inj hz
    exact z_vret hC hT dX9_comes_99 (by decide) (by decide)
set_option maxRecDepth 100000 in
set_option maxHeartbeats 4000000 in
theorem c_X9_comes {l : Launch} {D : zD} {b0 : Nat} {S : zS} {I : zI} {X : zI} (F : Nat) (x0 : Nat) (x1 : Int32) (x2 : Int32) (x3 : Int32) (h_x0 : z_is b0 S x0 9) (hz : z_X9_comes F S I x0 x1 x2 x3 = some X) : z_M l D b0 yX9_comes cX9_comes 8 none { frames := 3, cells := 0, slots := 0, locals := 68 } [.ref (x0), .int (x1), .int (x2), .int (x3)] S I none S X := by
  refine z_met (by decide) (Nat.le_of_ble_eq_true rfl) ?_
  intro p e s m below meth c hC hnm hT ls hl
  have hl : lv_has ls 8 [(0, .ref (x0)), (1, .int (x1)), (2, .int (x2)), (3, .int (x3))] := hl
  unfold z_X9_comes at hz
  refine z_iload_n hC dX9_comes_0 rfl (lv_at hl 1 rfl) ?_
  refine z_aload_n hC dX9_comes_1 rfl (lv_at hl 0 rfl) ?_
  obtain ⟨r1, hr_r1, hz⟩ := ob_some hz
  have hk_r1 : z_is b0 S r1 10 := hT.at h_x0 hr_r1
  refine z_getR hC zc_9 6 (by decide) kw_743 dX9_comes_2 h_x0 rfl hr_r1 ?_
  refine z_aload_n hC dX9_comes_5 rfl (lv_at hl 0 rfl) ?_
  refine z_getI hC zc_9 21 (by decide) kw_758 dX9_comes_6 h_x0 rfl ?_
  obtain ⟨hi2, hz⟩ := ifn_some hz
  refine z_iald hC dX9_comes_9 hk_r1 hi2 ?_
  refine z_icmp_lt (tgt := 19) hC dX9_comes_10 (by decide) hz (fun hz => ?_) (fun hz => ?_)
  · skip
    refine z_iload_n hC dX9_comes_19 rfl (lv_at hl 3 rfl) ?_
    refine z_if_ne (tgt := 46) hC dX9_comes_20 (by decide) hz (fun hz => ?_) (fun hz => ?_)
    · skip
      exact b_X9_comes_46 hC hT   (x0) (x1) (I) h_x0 hz ls (lv_sub hl [0, 1] rfl)
    · skip
      refine z_iload_n hC dX9_comes_23 rfl (lv_at hl 1 rfl) ?_
      refine z_iload_n hC dX9_comes_24 rfl (lv_at hl 2 rfl) ?_
      refine z_icmp_gt (tgt := 46) hC dX9_comes_25 (by decide) hz (fun hz => ?_) (fun hz => ?_)
      · skip
        exact b_X9_comes_46 hC hT   (x0) (x1) (I) h_x0 hz ls (lv_sub hl [0, 1] rfl)
      · skip
        refine z_aload_n hC dX9_comes_28 rfl (lv_at hl 0 rfl) ?_
        refine z_aload_n hC dX9_comes_29 rfl (lv_at hl 0 rfl) ?_
        obtain ⟨r3, hr_r3, hz⟩ := ob_some hz
        have hk_r3 : z_is b0 S r3 10 := hT.at h_x0 hr_r3
        refine z_getR hC zc_9 23 (by decide) kw_760 dX9_comes_30 h_x0 rfl hr_r3 ?_
        obtain ⟨q4, hq_q4, hz⟩ := ob_some hz
        refine z_callV (As := [.ref (r3)]) hC hT (c_X9_hasUnmade F x0 r3 h_x0 hk_r3 hq_q4) zy_X9_hasUnmade zc_9 zv_X9_hasUnmade kw_912 dX9_comes_33 h_x0 rfl rfl hl.1 (Nat.le_of_ble_eq_true rfl) (by decide) (by decide) ?_
        refine z_if_eq (tgt := 46) hC dX9_comes_36 (by decide) hz (fun hz => ?_) (fun hz => ?_)
        · skip
          exact b_X9_comes_46 hC hT   (x0) (x1) (I) h_x0 hz ls (lv_sub hl [0, 1] rfl)
        · skip
          refine z_aload_n hC dX9_comes_39 rfl (lv_at hl 0 rfl) ?_
          refine z_bipush (v := 6) hC dX9_comes_40 (by decide) ?_
          obtain ⟨q5, hq_q5, hz⟩ := ob_some hz
          refine z_callV (As := [.int (6)]) hC hT (c_X9_fails F x0 6 h_x0 hq_q5) zy_X9_fails zc_9 zv_X9_fails kw_908 dX9_comes_42 h_x0 rfl rfl hl.1 (Nat.le_of_ble_eq_true rfl) (by decide) (by decide) ?_
          obtain rfl := Option.some.inj hz
          exact z_vret hC hT dX9_comes_45 (by decide) (by decide)
  · skip
    refine z_aload_n hC dX9_comes_13 rfl (lv_at hl 0 rfl) ?_
    refine z_iconst (v := 5) hC dX9_comes_14 (by decide) ?_
    obtain ⟨q6, hq_q6, hz⟩ := ob_some hz
    refine z_callV (As := [.int (5)]) hC hT (c_X9_fails F x0 5 h_x0 hq_q6) zy_X9_fails zc_9 zv_X9_fails kw_908 dX9_comes_15 h_x0 rfl rfl hl.1 (Nat.le_of_ble_eq_true rfl) (by decide) (by decide) ?_
    obtain rfl := Option.some.inj hz
    exact z_vret hC hT dX9_comes_18 (by decide) (by decide)
theorem zy_X9_leastDue : z_y yX9_leastDue cX9_leastDue 2 (some .int) 0 := ⟨kw_972, kw_8, by decide +kernel, by decide +kernel, by decide +kernel⟩
theorem zv_X9_leastDue : Cond.instanceMethod yX9_leastDue ∈ z_tbl ∧ Cond.selects RX9 yX9_leastDue yX9_leastDue ∈ z_tbl := ⟨kw_971, ks_52⟩
def z_X9_leastDue_2B (F : Nat) (S : zS) (I : zI) (k2 : Nat → Int32 → Option (Int32)) (x0 : Nat) (x1 : Int32) : Option (Int32) :=
  ob (S.1 x0 6) (fun r1 => if (I x0 21) < 0 ∨ (S.2.1 r1).2 ≤ (I x0 21).toNatClampNeg then none else (if x1 < (I r1 (I x0 21).toNatClampNeg) then (ob (S.1 x0 25) (fun r3 => if x1 < 0 ∨ (S.2.1 r3).2 ≤ x1.toNatClampNeg then none else (if (I r3 x1.toNatClampNeg) = 0 then (k2 (x0) (x1 + 1)) else (some (x1))))) else (some ((-1)))))
def z_X9_leastDue_2 (F : Nat) (S : zS) (I : zI)  : Nat → Nat → Int32 → Option (Int32)
  | 0 => fun _ _ => none
  | n + 1 => fun x0 x1 => z_X9_leastDue_2B F S I  (z_X9_leastDue_2 F S I  n) x0 x1
def z_X9_leastDue (F : Nat) (S : zS) (I : zI) (x0 : Nat) : Option (Int32) :=
  z_X9_leastDue_2 F S I  F (x0) (0)
set_option maxRecDepth 100000 in
set_option maxHeartbeats 4000000 in
theorem bb_X9_leastDue_2 {p : Program} {l : Launch} {e : Env} {s : State} {m : MethodId} {args : Array Value} {below : List Frame} {meth : Method} {c : Code} {D : zD} {b0 : Nat} {F : Nat} {S : zS} {I : zI} {X : Int32} (hC : z_C p s m args meth c cX9_leastDue RX9 2 (some .int) D) (hT : z_T b0 S) (k2 : Nat → Int32 → Option (Int32)) (hk2 : ∀ (x0 : Nat) (x1 : Int32) , z_is b0 S x0 9 → k2 x0 x1 = some X → ∀ ls : Array Slot, lv_has ls 2 [(0, .ref (x0)), (1, .int (x1))] → z_W p l e { frames := 0, cells := 0, slots := 0, locals := 0 } s m args below meth c D b0 S I 0 0 (MQ below (z_Q D b0 (some (.int (X))) S I) args s 0 0 (fun q => b0 ≤ q)) (F0 m 2 ls [])) (x0 : Nat) (x1 : Int32) (h_x0 : z_is b0 S x0 9) (hz : z_X9_leastDue_2B F S I k2 x0 x1 = some X) (ls : Array Slot) (hl : lv_has ls 2 [(0, .ref (x0)), (1, .int (x1))]) : z_W p l e { frames := 0, cells := 0, slots := 0, locals := 0 } s m args below meth c D b0 S I 0 0 (MQ below (z_Q D b0 (some (.int (X))) S I) args s 0 0 (fun q => b0 ≤ q)) (F0 m 2 ls []) := by
  unfold z_X9_leastDue_2B at hz
  refine z_iload_n hC dX9_leastDue_2 rfl (lv_at hl 1 rfl) ?_
  refine z_aload_n hC dX9_leastDue_3 rfl (lv_at hl 0 rfl) ?_
  obtain ⟨r1, hr_r1, hz⟩ := ob_some hz
  have hk_r1 : z_is b0 S r1 10 := hT.at h_x0 hr_r1
  refine z_getR hC zc_9 6 (by decide) kw_743 dX9_leastDue_4 h_x0 rfl hr_r1 ?_
  refine z_aload_n hC dX9_leastDue_7 rfl (lv_at hl 0 rfl) ?_
  refine z_getI hC zc_9 21 (by decide) kw_758 dX9_leastDue_8 h_x0 rfl ?_
  obtain ⟨hi2, hz⟩ := ifn_some hz
  refine z_iald hC dX9_leastDue_11 hk_r1 hi2 ?_
  refine z_icmp_ge (tgt := 32) hC dX9_leastDue_12 (by decide) hz (fun hz => ?_) (fun hz => ?_)
  · skip
    refine z_iconst (v := (-1)) hC dX9_leastDue_32 (by decide) ?_
    obtain rfl := Option.some.inj hz
    exact z_iret hC hT dX9_leastDue_33 (by decide) (by decide)
  · skip
    refine z_aload_n hC dX9_leastDue_15 rfl (lv_at hl 0 rfl) ?_
    obtain ⟨r3, hr_r3, hz⟩ := ob_some hz
    have hk_r3 : z_is b0 S r3 11 := hT.at h_x0 hr_r3
    refine z_getR hC zc_9 25 (by decide) kw_762 dX9_leastDue_16 h_x0 rfl hr_r3 ?_
    refine z_iload_n hC dX9_leastDue_19 rfl (lv_at hl 1 rfl) ?_
    obtain ⟨hi4, hz⟩ := ifn_some hz
    refine z_zald hC dX9_leastDue_20 hk_r3 hi4 ?_
    refine z_if_eq (tgt := 26) hC dX9_leastDue_21 (by decide) hz (fun hz => ?_) (fun hz => ?_)
    · skip
      refine z_iinc (k0 := 1) (v := x1 + 1) (lv' := [(1, .int (x1 + 1)), (0, .ref (x0))]) hC dX9_leastDue_26 hl rfl rfl (by decide) rfl (fun ls hl => ?_)
      refine z_goto (tgt := 2) hC dX9_leastDue_29 (by decide) ?_
      exact hk2 (x0) (x1 + 1) h_x0 hz ls (lv_sub hl [1, 0] rfl)
    · skip
      refine z_iload_n hC dX9_leastDue_24 rfl (lv_at hl 1 rfl) ?_
      obtain rfl := Option.some.inj hz
      exact z_iret hC hT dX9_leastDue_25 (by decide) (by decide)
set_option maxRecDepth 100000 in
set_option maxHeartbeats 4000000 in
theorem b_X9_leastDue_2 {p : Program} {l : Launch} {e : Env} {s : State} {m : MethodId} {args : Array Value} {below : List Frame} {meth : Method} {c : Code} {D : zD} {b0 : Nat} {F : Nat} {S : zS} {I : zI} {X : Int32} (hC : z_C p s m args meth c cX9_leastDue RX9 2 (some .int) D) (hT : z_T b0 S)   : ∀ (n : Nat) (x0 : Nat) (x1 : Int32), z_is b0 S x0 9 → z_X9_leastDue_2 F S I  n x0 x1 = some X → ∀ ls : Array Slot, lv_has ls 2 [(0, .ref (x0)), (1, .int (x1))] → z_W p l e { frames := 0, cells := 0, slots := 0, locals := 0 } s m args below meth c D b0 S I 0 0 (MQ below (z_Q D b0 (some (.int (X))) S I) args s 0 0 (fun q => b0 ≤ q)) (F0 m 2 ls []) := by
  intro n
  induction n with
  | zero => intro x0 x1 h_x0 hz; cases hz
  | succ n ih =>
    intro x0 x1 h_x0 hz ls hl
    exact bb_X9_leastDue_2 (F := F) hC hT  (z_X9_leastDue_2 F S I  n)  ih x0 x1 h_x0 hz ls hl
set_option maxRecDepth 100000 in
set_option maxHeartbeats 4000000 in
theorem c_X9_leastDue {l : Launch} {D : zD} {b0 : Nat} {S : zS} {I : zI} {X : Int32} (F : Nat) (x0 : Nat) (h_x0 : z_is b0 S x0 9) (hz : z_X9_leastDue F S I x0 = some X) : z_M l D b0 yX9_leastDue cX9_leastDue 2 (some .int) { frames := 0, cells := 0, slots := 0, locals := 0 } [.ref (x0)] S I (some (.int (X))) S I := by
  refine z_met (by decide) (Nat.le_of_ble_eq_true rfl) ?_
  intro p e s m below meth c hC hnm hT ls hl
  have hl : lv_has ls 2 [(0, .ref (x0))] := hl
  unfold z_X9_leastDue at hz
  refine z_iconst (v := 0) hC dX9_leastDue_0 (by decide) ?_
  refine z_istore_n (lv' := [(1, .int (0)), (0, .ref (x0))]) hC dX9_leastDue_1 rfl hl (by decide) rfl (fun ls hl => ?_)
  exact b_X9_leastDue_2 hC hT   F (x0) (0) h_x0 hz ls (lv_sub hl [1, 0] rfl)
theorem zy_X9_holds : z_y yX9_holds cX9_holds 3 (some .boolean) 2 := ⟨kw_896, kw_8, by decide +kernel, by decide +kernel, by decide +kernel⟩
theorem zv_X9_holds : Cond.instanceMethod yX9_holds ∈ z_tbl ∧ Cond.selects RX9 yX9_holds yX9_holds ∈ z_tbl := ⟨kw_895, ks_36⟩
def z_X9_holds (F : Nat) (S : zS) (I : zI) (x0 : Nat) (x1 : Int32) (x2 : Int32) : Option (Int32) :=
  ob (S.1 x0 11) (fun r1 => if x1 < 0 ∨ (S.2.1 r1).2 ≤ x1.toNatClampNeg then none else (if x2 < (I r1 x1.toNatClampNeg) then (some (0)) else (ob (S.1 x0 12) (fun r3 => if x1 < 0 ∨ (S.2.1 r3).2 ≤ x1.toNatClampNeg then none else (if x2 < (I r3 x1.toNatClampNeg) then (some (1)) else (some (0)))))))
set_option maxRecDepth 100000 in
set_option maxHeartbeats 4000000 in
theorem c_X9_holds {l : Launch} {D : zD} {b0 : Nat} {S : zS} {I : zI} {X : Int32} (F : Nat) (x0 : Nat) (x1 : Int32) (x2 : Int32) (h_x0 : z_is b0 S x0 9) (hz : z_X9_holds F S I x0 x1 x2 = some X) : z_M l D b0 yX9_holds cX9_holds 3 (some .boolean) { frames := 0, cells := 0, slots := 0, locals := 0 } [.ref (x0), .int (x1), .int (x2)] S I (some (.int (X))) S I := by
  refine z_met (by decide) (Nat.le_of_ble_eq_true rfl) ?_
  intro p e s m below meth c hC hnm hT ls hl
  have hl : lv_has ls 3 [(0, .ref (x0)), (1, .int (x1)), (2, .int (x2))] := hl
  unfold z_X9_holds at hz
  refine z_iload_n hC dX9_holds_0 rfl (lv_at hl 2 rfl) ?_
  refine z_aload_n hC dX9_holds_1 rfl (lv_at hl 0 rfl) ?_
  obtain ⟨r1, hr_r1, hz⟩ := ob_some hz
  have hk_r1 : z_is b0 S r1 10 := hT.at h_x0 hr_r1
  refine z_getR hC zc_9 11 (by decide) kw_748 dX9_holds_2 h_x0 rfl hr_r1 ?_
  refine z_iload_n hC dX9_holds_5 rfl (lv_at hl 1 rfl) ?_
  obtain ⟨hi2, hz⟩ := ifn_some hz
  refine z_iald hC dX9_holds_6 hk_r1 hi2 ?_
  refine z_icmp_lt (tgt := 24) hC dX9_holds_7 (by decide) hz (fun hz => ?_) (fun hz => ?_)
  · skip
    refine z_iconst (v := 0) hC dX9_holds_24 (by decide) ?_
    obtain rfl := Option.some.inj hz
    exact z_zret hC hT dX9_holds_25 (Or.inl rfl) (by decide) (by decide)
  · skip
    refine z_iload_n hC dX9_holds_10 rfl (lv_at hl 2 rfl) ?_
    refine z_aload_n hC dX9_holds_11 rfl (lv_at hl 0 rfl) ?_
    obtain ⟨r3, hr_r3, hz⟩ := ob_some hz
    have hk_r3 : z_is b0 S r3 10 := hT.at h_x0 hr_r3
    refine z_getR hC zc_9 12 (by decide) kw_749 dX9_holds_12 h_x0 rfl hr_r3 ?_
    refine z_iload_n hC dX9_holds_15 rfl (lv_at hl 1 rfl) ?_
    obtain ⟨hi4, hz⟩ := ifn_some hz
    refine z_iald hC dX9_holds_16 hk_r3 hi4 ?_
    refine z_icmp_ge (tgt := 24) hC dX9_holds_17 (by decide) hz (fun hz => ?_) (fun hz => ?_)
    · skip
      refine z_iconst (v := 0) hC dX9_holds_24 (by decide) ?_
      obtain rfl := Option.some.inj hz
      exact z_zret hC hT dX9_holds_25 (Or.inl rfl) (by decide) (by decide)
    · skip
      refine z_iconst (v := 1) hC dX9_holds_20 (by decide) ?_
      refine z_goto (tgt := 25) hC dX9_holds_21 (by decide) ?_
      obtain rfl := Option.some.inj hz
      exact z_zret hC hT dX9_holds_25 (Or.inr rfl) (by decide) (by decide)
theorem zy_X9_works : z_y yX9_works cX9_works 4 none 1 := ⟨kw_892, kw_8, by decide +kernel, by decide +kernel, by decide +kernel⟩
theorem zv_X9_works : Cond.instanceMethod yX9_works ∈ z_tbl ∧ Cond.selects RX9 yX9_works yX9_works ∈ z_tbl := ⟨kw_891, ks_35⟩
def z_X9_works_158B (F : Nat) (S : zS) (k158 : Nat → Int32 → Int32 → Int32 → zI → Option (zI)) (x0 : Nat) (x1 : Int32) (x2 : Int32) (x3 : Int32) (I : zI) : Option (zI) :=
  ob (S.1 x0 7) (fun r1 => if x2 < 0 ∨ (S.2.1 r1).2 ≤ x2.toNatClampNeg then none else (ob (z_X9_jumps F S I (I r1 x2.toNatClampNeg)) (fun q3 => if q3 = 0 then (some (I)) else (ob (S.1 x0 9) (fun r4 => if x2 < 0 ∨ (S.2.1 r4).2 ≤ x2.toNatClampNeg then none else (if (I r4 x2.toNatClampNeg) < x3 then (some (I)) else (if (I x0 24) = 0 then (ob (z_X9_comes F S I x0 x3 x1 0) (fun q6 => k158 (x0) (x1) (x2) (x3 + 1) (q6))) else (some (I)))))))))
def z_X9_works_158 (F : Nat) (S : zS)  : Nat → Nat → Int32 → Int32 → Int32 → zI → Option (zI)
  | 0 => fun _ _ _ _ _ => none
  | n + 1 => fun x0 x1 x2 x3 I => z_X9_works_158B F S  (z_X9_works_158 F S  n) x0 x1 x2 x3 I
def z_X9_works_151 (F : Nat) (S : zS)  (x0 : Nat) (x1 : Int32) (x2 : Int32) (I : zI) : Option (zI) :=
  ob (S.1 x0 8) (fun r1 => if x2 < 0 ∨ (S.2.1 r1).2 ≤ x2.toNatClampNeg then none else (z_X9_works_158 F S  F (x0) (x1) (x2) (I r1 x2.toNatClampNeg) (I)))
def z_X9_works_97 (F : Nat) (S : zS)  (x0 : Nat) (x1 : Int32) (x2 : Int32) (I : zI) : Option (zI) :=
  if 0 < (I x0 24) then (some (I)) else (ob (z_X9_does F S I x0 x1) (fun q1 => if (q1 x0 24) = 0 then (ob (S.1 x0 22) (fun r2 => ob (S.1 x0 23) (fun r3 => ob (z_X9_copy F S q1 r2 0 r3 0) (fun q4 => ob (S.1 x0 7) (fun r5 => if x2 < 0 ∨ (S.2.1 r5).2 ≤ x2.toNatClampNeg then none else (ob (z_X9_goesOn F S q4 (q4 r5 x2.toNatClampNeg)) (fun q7 => if q7 = 0 then (z_X9_works_151 F S  (x0) (x1) (x2) (q4)) else (ob (z_X9_comes F S q4 x0 (x1 + 1) x1 0) (fun q8 => z_X9_works_151 F S  (x0) (x1) (x2) (q8)))))))))) else (some (q1))))
def z_X9_works_38B (F : Nat) (S : zS) (k38 : Nat → Int32 → Int32 → Int32 → zI → Option (zI)) (x0 : Nat) (x1 : Int32) (x2 : Int32) (x3 : Int32) (I : zI) : Option (zI) :=
  ob (S.1 x0 10) (fun r1 => if (I x0 21) < 0 ∨ (S.2.1 r1).2 ≤ (I x0 21).toNatClampNeg then none else (if x3 < ((4 * (I x0 21)) + (I r1 (I x0 21).toNatClampNeg)) then (if (I x0 24) = 0 then (ob (z_X9_holds F S I x0 x3 x1) (fun q3 => if q3 = 0 then (k38 (x0) (x1) (x2) (x3 + 1) (I)) else (ob (z_X9_caughtState F S I x0 x3) (fun q4 => ob (S.1 x0 13) (fun r5 => if x3 < 0 ∨ (S.2.1 r5).2 ≤ x3.toNatClampNeg then none else (ob (z_X9_comes F S q4 x0 (q4 r5 x3.toNatClampNeg) x1 1) (fun q7 => k38 (x0) (x1) (x2) (x3 + 1) (q7)))))))) else (z_X9_works_97 F S  (x0) (x1) (x2) (I))) else (z_X9_works_97 F S  (x0) (x1) (x2) (I))))
def z_X9_works_38 (F : Nat) (S : zS)  : Nat → Nat → Int32 → Int32 → Int32 → zI → Option (zI)
  | 0 => fun _ _ _ _ _ => none
  | n + 1 => fun x0 x1 x2 x3 I => z_X9_works_38B F S  (z_X9_works_38 F S  n) x0 x1 x2 x3 I
def z_X9_works (F : Nat) (S : zS) (I : zI) (x0 : Nat) (x1 : Int32) : Option (zI) :=
  ob (S.1 x0 17) (fun r1 => ob (S.1 x0 22) (fun r2 => ob (z_X9_copy F S I r1 (20 * ((40 * (I x0 21)) + x1)) r2 0) (fun q3 => z_X9_works_38 F S  F (x0) (x1) ((40 * (I x0 21)) + x1) (4 * ((z_up q3 x0 24 0) x0 21)) (z_up q3 x0 24 0))))
set_option maxRecDepth 100000 in
set_option maxHeartbeats 4000000 in
theorem bb_X9_works_158 {p : Program} {l : Launch} {e : Env} {s : State} {m : MethodId} {args : Array Value} {below : List Frame} {meth : Method} {c : Code} {D : zD} {b0 : Nat} {F : Nat} {S : zS} {X : zI} (hC : z_C p s m args meth c cX9_works RX9 4 none D) (hT : z_T b0 S) (k158 : Nat → Int32 → Int32 → Int32 → zI → Option (zI)) (hk158 : ∀ (x0 : Nat) (x1 : Int32) (x2 : Int32) (x3 : Int32) (I : zI) , z_is b0 S x0 9 → k158 x0 x1 x2 x3 I = some X → ∀ ls : Array Slot, lv_has ls 4 [(0, .ref (x0)), (1, .int (x1)), (2, .int (x2)), (3, .int (x3))] → z_W p l e { frames := 5, cells := 0, slots := 0, locals := 115 } s m args below meth c D b0 S I 0 0 (MQ below (z_Q D b0 none S X) args s 0 0 (fun q => b0 ≤ q)) (F0 m 158 ls [])) (x0 : Nat) (x1 : Int32) (x2 : Int32) (x3 : Int32) (I : zI) (h_x0 : z_is b0 S x0 9) (hz : z_X9_works_158B F S k158 x0 x1 x2 x3 I = some X) (ls : Array Slot) (hl : lv_has ls 4 [(0, .ref (x0)), (1, .int (x1)), (2, .int (x2)), (3, .int (x3))]) : z_W p l e { frames := 5, cells := 0, slots := 0, locals := 115 } s m args below meth c D b0 S I 0 0 (MQ below (z_Q D b0 none S X) args s 0 0 (fun q => b0 ≤ q)) (F0 m 158 ls []) := by
  unfold z_X9_works_158B at hz
  refine z_aload_n hC dX9_works_158 rfl (lv_at hl 0 rfl) ?_
  obtain ⟨r1, hr_r1, hz⟩ := ob_some hz
  have hk_r1 : z_is b0 S r1 10 := hT.at h_x0 hr_r1
  refine z_getR hC zc_9 7 (by decide) kw_744 dX9_works_159 h_x0 rfl hr_r1 ?_
  refine z_iload_n hC dX9_works_162 rfl (lv_at hl 2 rfl) ?_
  obtain ⟨hi2, hz⟩ := ifn_some hz
  refine z_iald hC dX9_works_163 hk_r1 hi2 ?_
  obtain ⟨q3, hq_q3, hz⟩ := ob_some hz
  refine z_callS (As := [.int (I r1 x2.toNatClampNeg)]) hC hT (c_X9_jumps F (I r1 x2.toNatClampNeg)  hq_q3) zy_X9_jumps kw_967 kw_966 dX9_works_164 rfl rfl hl.1 (Nat.le_of_ble_eq_true rfl) (by decide) (by decide) ?_
  refine z_if_eq (tgt := 200) hC dX9_works_167 (by decide) hz (fun hz => ?_) (fun hz => ?_)
  · skip
    obtain rfl := Option.some.inj hz
    exact z_vret hC hT dX9_works_200 (by decide) (by decide)
  · skip
    refine z_iload_n hC dX9_works_170 rfl (lv_at hl 3 rfl) ?_
    refine z_aload_n hC dX9_works_171 rfl (lv_at hl 0 rfl) ?_
    obtain ⟨r4, hr_r4, hz⟩ := ob_some hz
    have hk_r4 : z_is b0 S r4 10 := hT.at h_x0 hr_r4
    refine z_getR hC zc_9 9 (by decide) kw_746 dX9_works_172 h_x0 rfl hr_r4 ?_
    refine z_iload_n hC dX9_works_175 rfl (lv_at hl 2 rfl) ?_
    obtain ⟨hi5, hz⟩ := ifn_some hz
    refine z_iald hC dX9_works_176 hk_r4 hi5 ?_
    refine z_icmp_gt (tgt := 200) hC dX9_works_177 (by decide) hz (fun hz => ?_) (fun hz => ?_)
    · skip
      obtain rfl := Option.some.inj hz
      exact z_vret hC hT dX9_works_200 (by decide) (by decide)
    · skip
      refine z_aload_n hC dX9_works_180 rfl (lv_at hl 0 rfl) ?_
      refine z_getI hC zc_9 24 (by decide) kw_761 dX9_works_181 h_x0 rfl ?_
      refine z_if_ne (tgt := 200) hC dX9_works_184 (by decide) hz (fun hz => ?_) (fun hz => ?_)
      · skip
        obtain rfl := Option.some.inj hz
        exact z_vret hC hT dX9_works_200 (by decide) (by decide)
      · skip
        refine z_aload_n hC dX9_works_187 rfl (lv_at hl 0 rfl) ?_
        refine z_iload_n hC dX9_works_188 rfl (lv_at hl 3 rfl) ?_
        refine z_iload_n hC dX9_works_189 rfl (lv_at hl 1 rfl) ?_
        refine z_iconst (v := 0) hC dX9_works_190 (by decide) ?_
        obtain ⟨q6, hq_q6, hz⟩ := ob_some hz
        refine z_callV (As := [.int (x3), .int (x1), .int (0)]) hC hT (c_X9_comes F x0 x3 x1 0 h_x0 hq_q6) zy_X9_comes zc_9 zv_X9_comes kw_904 dX9_works_191 h_x0 rfl rfl hl.1 (Nat.le_of_ble_eq_true rfl) (by decide) (by decide) ?_
        refine z_iinc (k0 := 3) (v := x3 + 1) (lv' := [(3, .int (x3 + 1)), (0, .ref (x0)), (1, .int (x1)), (2, .int (x2))]) hC dX9_works_194 hl rfl rfl (by decide) rfl (fun ls hl => ?_)
        refine z_goto (tgt := 158) hC dX9_works_197 (by decide) ?_
        exact hk158 (x0) (x1) (x2) (x3 + 1) (q6) h_x0 hz ls (lv_sub hl [1, 2, 3, 0] rfl)
set_option maxRecDepth 100000 in
set_option maxHeartbeats 4000000 in
theorem b_X9_works_158 {p : Program} {l : Launch} {e : Env} {s : State} {m : MethodId} {args : Array Value} {below : List Frame} {meth : Method} {c : Code} {D : zD} {b0 : Nat} {F : Nat} {S : zS} {X : zI} (hC : z_C p s m args meth c cX9_works RX9 4 none D) (hT : z_T b0 S)   : ∀ (n : Nat) (x0 : Nat) (x1 : Int32) (x2 : Int32) (x3 : Int32) (I : zI), z_is b0 S x0 9 → z_X9_works_158 F S  n x0 x1 x2 x3 I = some X → ∀ ls : Array Slot, lv_has ls 4 [(0, .ref (x0)), (1, .int (x1)), (2, .int (x2)), (3, .int (x3))] → z_W p l e { frames := 5, cells := 0, slots := 0, locals := 115 } s m args below meth c D b0 S I 0 0 (MQ below (z_Q D b0 none S X) args s 0 0 (fun q => b0 ≤ q)) (F0 m 158 ls []) := by
  intro n
  induction n with
  | zero => intro x0 x1 x2 x3 I h_x0 hz; cases hz
  | succ n ih =>
    intro x0 x1 x2 x3 I h_x0 hz ls hl
    exact bb_X9_works_158 (F := F) hC hT  (z_X9_works_158 F S  n)  ih x0 x1 x2 x3 I h_x0 hz ls hl
set_option maxRecDepth 100000 in
set_option maxHeartbeats 4000000 in
theorem b_X9_works_151 {p : Program} {l : Launch} {e : Env} {s : State} {m : MethodId} {args : Array Value} {below : List Frame} {meth : Method} {c : Code} {D : zD} {b0 : Nat} {F : Nat} {S : zS} {X : zI} (hC : z_C p s m args meth c cX9_works RX9 4 none D) (hT : z_T b0 S)   (x0 : Nat) (x1 : Int32) (x2 : Int32) (I : zI) (h_x0 : z_is b0 S x0 9) (hz : z_X9_works_151 F S  x0 x1 x2 I = some X) (ls : Array Slot) (hl : lv_has ls 4 [(0, .ref (x0)), (1, .int (x1)), (2, .int (x2))]) : z_W p l e { frames := 5, cells := 0, slots := 0, locals := 115 } s m args below meth c D b0 S I 0 0 (MQ below (z_Q D b0 none S X) args s 0 0 (fun q => b0 ≤ q)) (F0 m 151 ls []) := by
  unfold z_X9_works_151 at hz
  refine z_aload_n hC dX9_works_151 rfl (lv_at hl 0 rfl) ?_
  obtain ⟨r1, hr_r1, hz⟩ := ob_some hz
  have hk_r1 : z_is b0 S r1 10 := hT.at h_x0 hr_r1
  refine z_getR hC zc_9 8 (by decide) kw_745 dX9_works_152 h_x0 rfl hr_r1 ?_
  refine z_iload_n hC dX9_works_155 rfl (lv_at hl 2 rfl) ?_
  obtain ⟨hi2, hz⟩ := ifn_some hz
  refine z_iald hC dX9_works_156 hk_r1 hi2 ?_
  refine z_istore_n (lv' := [(3, .int (I r1 x2.toNatClampNeg)), (0, .ref (x0)), (1, .int (x1)), (2, .int (x2))]) hC dX9_works_157 rfl hl (by decide) rfl (fun ls hl => ?_)
  exact b_X9_works_158 hC hT   F (x0) (x1) (x2) (I r1 x2.toNatClampNeg) (I) h_x0 hz ls (lv_sub hl [1, 2, 3, 0] rfl)
set_option maxRecDepth 100000 in
set_option maxHeartbeats 4000000 in
theorem b_X9_works_97 {p : Program} {l : Launch} {e : Env} {s : State} {m : MethodId} {args : Array Value} {below : List Frame} {meth : Method} {c : Code} {D : zD} {b0 : Nat} {F : Nat} {S : zS} {X : zI} (hC : z_C p s m args meth c cX9_works RX9 4 none D) (hT : z_T b0 S)   (x0 : Nat) (x1 : Int32) (x2 : Int32) (I : zI) (h_x0 : z_is b0 S x0 9) (hz : z_X9_works_97 F S  x0 x1 x2 I = some X) (ls : Array Slot) (hl : lv_has ls 4 [(0, .ref (x0)), (1, .int (x1)), (2, .int (x2))]) : z_W p l e { frames := 5, cells := 0, slots := 0, locals := 115 } s m args below meth c D b0 S I 0 0 (MQ below (z_Q D b0 none S X) args s 0 0 (fun q => b0 ≤ q)) (F0 m 97 ls []) := by
  unfold z_X9_works_97 at hz
  refine z_aload_n hC dX9_works_97 rfl (lv_at hl 0 rfl) ?_
  refine z_getI hC zc_9 24 (by decide) kw_761 dX9_works_98 h_x0 rfl ?_
  refine z_if_le (tgt := 105) hC dX9_works_101 (by decide) hz (fun hz => ?_) (fun hz => ?_)
  · skip
    refine z_aload_n hC dX9_works_105 rfl (lv_at hl 0 rfl) ?_
    refine z_iload_n hC dX9_works_106 rfl (lv_at hl 1 rfl) ?_
    obtain ⟨q1, hq_q1, hz⟩ := ob_some hz
    refine z_callV (As := [.int (x1)]) hC hT (c_X9_does F x0 x1 h_x0 hq_q1) zy_X9_does zc_9 zv_X9_does kw_920 dX9_works_107 h_x0 rfl rfl hl.1 (Nat.le_of_ble_eq_true rfl) (by decide) (by decide) ?_
    refine z_aload_n hC dX9_works_110 rfl (lv_at hl 0 rfl) ?_
    refine z_getI hC zc_9 24 (by decide) kw_761 dX9_works_111 h_x0 rfl ?_
    refine z_if_ne (tgt := 200) hC dX9_works_114 (by decide) hz (fun hz => ?_) (fun hz => ?_)
    · skip
      obtain rfl := Option.some.inj hz
      exact z_vret hC hT dX9_works_200 (by decide) (by decide)
    · skip
      refine z_aload_n hC dX9_works_117 rfl (lv_at hl 0 rfl) ?_
      obtain ⟨r2, hr_r2, hz⟩ := ob_some hz
      have hk_r2 : z_is b0 S r2 10 := hT.at h_x0 hr_r2
      refine z_getR hC zc_9 22 (by decide) kw_759 dX9_works_118 h_x0 rfl hr_r2 ?_
      refine z_iconst (v := 0) hC dX9_works_121 (by decide) ?_
      refine z_aload_n hC dX9_works_122 rfl (lv_at hl 0 rfl) ?_
      obtain ⟨r3, hr_r3, hz⟩ := ob_some hz
      have hk_r3 : z_is b0 S r3 10 := hT.at h_x0 hr_r3
      refine z_getR hC zc_9 23 (by decide) kw_760 dX9_works_123 h_x0 rfl hr_r3 ?_
      refine z_iconst (v := 0) hC dX9_works_126 (by decide) ?_
      obtain ⟨q4, hq_q4, hz⟩ := ob_some hz
      refine z_callS (As := [.ref (r2), .int (0), .ref (r3), .int (0)]) hC hT (c_X9_copy F r2 0 r3 0 hk_r2 hk_r3 hq_q4) zy_X9_copy kw_887 kw_886 dX9_works_127 rfl rfl hl.1 (Nat.le_of_ble_eq_true rfl) (by decide) (by decide) ?_
      refine z_aload_n hC dX9_works_130 rfl (lv_at hl 0 rfl) ?_
      obtain ⟨r5, hr_r5, hz⟩ := ob_some hz
      have hk_r5 : z_is b0 S r5 10 := hT.at h_x0 hr_r5
      refine z_getR hC zc_9 7 (by decide) kw_744 dX9_works_131 h_x0 rfl hr_r5 ?_
      refine z_iload_n hC dX9_works_134 rfl (lv_at hl 2 rfl) ?_
      obtain ⟨hi6, hz⟩ := ifn_some hz
      refine z_iald hC dX9_works_135 hk_r5 hi6 ?_
      obtain ⟨q7, hq_q7, hz⟩ := ob_some hz
      refine z_callS (As := [.int (q4 r5 x2.toNatClampNeg)]) hC hT (c_X9_goesOn F (q4 r5 x2.toNatClampNeg)  hq_q7) zy_X9_goesOn kw_964 kw_963 dX9_works_136 rfl rfl hl.1 (Nat.le_of_ble_eq_true rfl) (by decide) (by decide) ?_
      refine z_if_eq (tgt := 151) hC dX9_works_139 (by decide) hz (fun hz => ?_) (fun hz => ?_)
      · skip
        exact b_X9_works_151 hC hT   (x0) (x1) (x2) (q4) h_x0 hz ls (lv_sub hl [0, 1, 2] rfl)
      · skip
        refine z_aload_n hC dX9_works_142 rfl (lv_at hl 0 rfl) ?_
        refine z_iload_n hC dX9_works_143 rfl (lv_at hl 1 rfl) ?_
        refine z_iconst (v := 1) hC dX9_works_144 (by decide) ?_
        refine z_iadd hC dX9_works_145 ?_
        refine z_iload_n hC dX9_works_146 rfl (lv_at hl 1 rfl) ?_
        refine z_iconst (v := 0) hC dX9_works_147 (by decide) ?_
        obtain ⟨q8, hq_q8, hz⟩ := ob_some hz
        refine z_callV (As := [.int (x1 + 1), .int (x1), .int (0)]) hC hT (c_X9_comes F x0 (x1 + 1) x1 0 h_x0 hq_q8) zy_X9_comes zc_9 zv_X9_comes kw_904 dX9_works_148 h_x0 rfl rfl hl.1 (Nat.le_of_ble_eq_true rfl) (by decide) (by decide) ?_
        exact b_X9_works_151 hC hT   (x0) (x1) (x2) (q8) h_x0 hz ls (lv_sub hl [0, 1, 2] rfl)
  · skip
    obtain rfl := Option.some.inj hz
    exact z_vret hC hT dX9_works_104 (by decide) (by decide)
set_option maxRecDepth 100000 in
set_option maxHeartbeats 4000000 in
theorem bb_X9_works_38 {p : Program} {l : Launch} {e : Env} {s : State} {m : MethodId} {args : Array Value} {below : List Frame} {meth : Method} {c : Code} {D : zD} {b0 : Nat} {F : Nat} {S : zS} {X : zI} (hC : z_C p s m args meth c cX9_works RX9 4 none D) (hT : z_T b0 S) (k38 : Nat → Int32 → Int32 → Int32 → zI → Option (zI)) (hk38 : ∀ (x0 : Nat) (x1 : Int32) (x2 : Int32) (x3 : Int32) (I : zI) , z_is b0 S x0 9 → k38 x0 x1 x2 x3 I = some X → ∀ ls : Array Slot, lv_has ls 4 [(0, .ref (x0)), (1, .int (x1)), (2, .int (x2)), (3, .int (x3))] → z_W p l e { frames := 5, cells := 0, slots := 0, locals := 115 } s m args below meth c D b0 S I 0 0 (MQ below (z_Q D b0 none S X) args s 0 0 (fun q => b0 ≤ q)) (F0 m 38 ls [])) (x0 : Nat) (x1 : Int32) (x2 : Int32) (x3 : Int32) (I : zI) (h_x0 : z_is b0 S x0 9) (hz : z_X9_works_38B F S k38 x0 x1 x2 x3 I = some X) (ls : Array Slot) (hl : lv_has ls 4 [(0, .ref (x0)), (1, .int (x1)), (2, .int (x2)), (3, .int (x3))]) : z_W p l e { frames := 5, cells := 0, slots := 0, locals := 115 } s m args below meth c D b0 S I 0 0 (MQ below (z_Q D b0 none S X) args s 0 0 (fun q => b0 ≤ q)) (F0 m 38 ls []) := by
  unfold z_X9_works_38B at hz
  refine z_iload_n hC dX9_works_38 rfl (lv_at hl 3 rfl) ?_
  refine z_iconst (v := 4) hC dX9_works_39 (by decide) ?_
  refine z_aload_n hC dX9_works_40 rfl (lv_at hl 0 rfl) ?_
  refine z_getI hC zc_9 21 (by decide) kw_758 dX9_works_41 h_x0 rfl ?_
  refine z_imul hC dX9_works_44 ?_
  refine z_aload_n hC dX9_works_45 rfl (lv_at hl 0 rfl) ?_
  obtain ⟨r1, hr_r1, hz⟩ := ob_some hz
  have hk_r1 : z_is b0 S r1 10 := hT.at h_x0 hr_r1
  refine z_getR hC zc_9 10 (by decide) kw_747 dX9_works_46 h_x0 rfl hr_r1 ?_
  refine z_aload_n hC dX9_works_49 rfl (lv_at hl 0 rfl) ?_
  refine z_getI hC zc_9 21 (by decide) kw_758 dX9_works_50 h_x0 rfl ?_
  obtain ⟨hi2, hz⟩ := ifn_some hz
  refine z_iald hC dX9_works_53 hk_r1 hi2 ?_
  refine z_iadd hC dX9_works_54 ?_
  refine z_icmp_ge (tgt := 97) hC dX9_works_55 (by decide) hz (fun hz => ?_) (fun hz => ?_)
  · skip
    exact b_X9_works_97 hC hT   (x0) (x1) (x2) (I) h_x0 hz ls (lv_sub hl [0, 1, 2] rfl)
  · skip
    refine z_aload_n hC dX9_works_58 rfl (lv_at hl 0 rfl) ?_
    refine z_getI hC zc_9 24 (by decide) kw_761 dX9_works_59 h_x0 rfl ?_
    refine z_if_ne (tgt := 97) hC dX9_works_62 (by decide) hz (fun hz => ?_) (fun hz => ?_)
    · skip
      exact b_X9_works_97 hC hT   (x0) (x1) (x2) (I) h_x0 hz ls (lv_sub hl [0, 1, 2] rfl)
    · skip
      refine z_aload_n hC dX9_works_65 rfl (lv_at hl 0 rfl) ?_
      refine z_iload_n hC dX9_works_66 rfl (lv_at hl 3 rfl) ?_
      refine z_iload_n hC dX9_works_67 rfl (lv_at hl 1 rfl) ?_
      obtain ⟨q3, hq_q3, hz⟩ := ob_some hz
      refine z_callV (As := [.int (x3), .int (x1)]) hC hT (c_X9_holds F x0 x3 x1 h_x0 hq_q3) zy_X9_holds zc_9 zv_X9_holds kw_893 dX9_works_68 h_x0 rfl rfl hl.1 (Nat.le_of_ble_eq_true rfl) (by decide) (by decide) ?_
      refine z_if_eq (tgt := 91) hC dX9_works_71 (by decide) hz (fun hz => ?_) (fun hz => ?_)
      · skip
        refine z_iinc (k0 := 3) (v := x3 + 1) (lv' := [(3, .int (x3 + 1)), (0, .ref (x0)), (1, .int (x1)), (2, .int (x2))]) hC dX9_works_91 hl rfl rfl (by decide) rfl (fun ls hl => ?_)
        refine z_goto (tgt := 38) hC dX9_works_94 (by decide) ?_
        exact hk38 (x0) (x1) (x2) (x3 + 1) (I) h_x0 hz ls (lv_sub hl [1, 2, 3, 0] rfl)
      · skip
        refine z_aload_n hC dX9_works_74 rfl (lv_at hl 0 rfl) ?_
        refine z_iload_n hC dX9_works_75 rfl (lv_at hl 3 rfl) ?_
        obtain ⟨q4, hq_q4, hz⟩ := ob_some hz
        refine z_callV (As := [.int (x3)]) hC hT (c_X9_caughtState F x0 x3 h_x0 hq_q4) zy_X9_caughtState zc_9 zv_X9_caughtState kw_897 dX9_works_76 h_x0 rfl rfl hl.1 (Nat.le_of_ble_eq_true rfl) (by decide) (by decide) ?_
        refine z_aload_n hC dX9_works_79 rfl (lv_at hl 0 rfl) ?_
        refine z_aload_n hC dX9_works_80 rfl (lv_at hl 0 rfl) ?_
        obtain ⟨r5, hr_r5, hz⟩ := ob_some hz
        have hk_r5 : z_is b0 S r5 10 := hT.at h_x0 hr_r5
        refine z_getR hC zc_9 13 (by decide) kw_750 dX9_works_81 h_x0 rfl hr_r5 ?_
        refine z_iload_n hC dX9_works_84 rfl (lv_at hl 3 rfl) ?_
        obtain ⟨hi6, hz⟩ := ifn_some hz
        refine z_iald hC dX9_works_85 hk_r5 hi6 ?_
        refine z_iload_n hC dX9_works_86 rfl (lv_at hl 1 rfl) ?_
        refine z_iconst (v := 1) hC dX9_works_87 (by decide) ?_
        obtain ⟨q7, hq_q7, hz⟩ := ob_some hz
        refine z_callV (As := [.int (q4 r5 x3.toNatClampNeg), .int (x1), .int (1)]) hC hT (c_X9_comes F x0 (q4 r5 x3.toNatClampNeg) x1 1 h_x0 hq_q7) zy_X9_comes zc_9 zv_X9_comes kw_904 dX9_works_88 h_x0 rfl rfl hl.1 (Nat.le_of_ble_eq_true rfl) (by decide) (by decide) ?_
        refine z_iinc (k0 := 3) (v := x3 + 1) (lv' := [(3, .int (x3 + 1)), (0, .ref (x0)), (1, .int (x1)), (2, .int (x2))]) hC dX9_works_91 hl rfl rfl (by decide) rfl (fun ls hl => ?_)
        refine z_goto (tgt := 38) hC dX9_works_94 (by decide) ?_
        exact hk38 (x0) (x1) (x2) (x3 + 1) (q7) h_x0 hz ls (lv_sub hl [1, 2, 3, 0] rfl)
set_option maxRecDepth 100000 in
set_option maxHeartbeats 4000000 in
theorem b_X9_works_38 {p : Program} {l : Launch} {e : Env} {s : State} {m : MethodId} {args : Array Value} {below : List Frame} {meth : Method} {c : Code} {D : zD} {b0 : Nat} {F : Nat} {S : zS} {X : zI} (hC : z_C p s m args meth c cX9_works RX9 4 none D) (hT : z_T b0 S)   : ∀ (n : Nat) (x0 : Nat) (x1 : Int32) (x2 : Int32) (x3 : Int32) (I : zI), z_is b0 S x0 9 → z_X9_works_38 F S  n x0 x1 x2 x3 I = some X → ∀ ls : Array Slot, lv_has ls 4 [(0, .ref (x0)), (1, .int (x1)), (2, .int (x2)), (3, .int (x3))] → z_W p l e { frames := 5, cells := 0, slots := 0, locals := 115 } s m args below meth c D b0 S I 0 0 (MQ below (z_Q D b0 none S X) args s 0 0 (fun q => b0 ≤ q)) (F0 m 38 ls []) := by
  intro n
  induction n with
  | zero => intro x0 x1 x2 x3 I h_x0 hz; cases hz
  | succ n ih =>
    intro x0 x1 x2 x3 I h_x0 hz ls hl
    exact bb_X9_works_38 (F := F) hC hT  (z_X9_works_38 F S  n)  ih x0 x1 x2 x3 I h_x0 hz ls hl
set_option maxRecDepth 100000 in
set_option maxHeartbeats 4000000 in
theorem c_X9_works {l : Launch} {D : zD} {b0 : Nat} {S : zS} {I : zI} {X : zI} (F : Nat) (x0 : Nat) (x1 : Int32) (h_x0 : z_is b0 S x0 9) (hz : z_X9_works F S I x0 x1 = some X) : z_M l D b0 yX9_works cX9_works 4 none { frames := 5, cells := 0, slots := 0, locals := 115 } [.ref (x0), .int (x1)] S I none S X := by
  refine z_met (by decide) (Nat.le_of_ble_eq_true rfl) ?_
  intro p e s m below meth c hC hnm hT ls hl
  have hl : lv_has ls 4 [(0, .ref (x0)), (1, .int (x1))] := hl
  unfold z_X9_works at hz
  refine z_bipush (v := 40) hC dX9_works_0 (by decide) ?_
  refine z_aload_n hC dX9_works_2 rfl (lv_at hl 0 rfl) ?_
  refine z_getI hC zc_9 21 (by decide) kw_758 dX9_works_3 h_x0 rfl ?_
  refine z_imul hC dX9_works_6 ?_
  refine z_iload_n hC dX9_works_7 rfl (lv_at hl 1 rfl) ?_
  refine z_iadd hC dX9_works_8 ?_
  refine z_istore_n (lv' := [(2, .int ((40 * (I x0 21)) + x1)), (0, .ref (x0)), (1, .int (x1))]) hC dX9_works_9 rfl hl (by decide) rfl (fun ls hl => ?_)
  refine z_aload_n hC dX9_works_10 rfl (lv_at hl 1 rfl) ?_
  obtain ⟨r1, hr_r1, hz⟩ := ob_some hz
  have hk_r1 : z_is b0 S r1 10 := hT.at h_x0 hr_r1
  refine z_getR hC zc_9 17 (by decide) kw_754 dX9_works_11 h_x0 rfl hr_r1 ?_
  refine z_bipush (v := 20) hC dX9_works_14 (by decide) ?_
  refine z_iload_n hC dX9_works_16 rfl (lv_at hl 0 rfl) ?_
  refine z_imul hC dX9_works_17 ?_
  refine z_aload_n hC dX9_works_18 rfl (lv_at hl 1 rfl) ?_
  obtain ⟨r2, hr_r2, hz⟩ := ob_some hz
  have hk_r2 : z_is b0 S r2 10 := hT.at h_x0 hr_r2
  refine z_getR hC zc_9 22 (by decide) kw_759 dX9_works_19 h_x0 rfl hr_r2 ?_
  refine z_iconst (v := 0) hC dX9_works_22 (by decide) ?_
  obtain ⟨q3, hq_q3, hz⟩ := ob_some hz
  refine z_callS (As := [.ref (r1), .int (20 * ((40 * (I x0 21)) + x1)), .ref (r2), .int (0)]) hC hT (c_X9_copy F r1 (20 * ((40 * (I x0 21)) + x1)) r2 0 hk_r1 hk_r2 hq_q3) zy_X9_copy kw_887 kw_886 dX9_works_23 rfl rfl hl.1 (Nat.le_of_ble_eq_true rfl) (by decide) (by decide) ?_
  refine z_aload_n hC dX9_works_26 rfl (lv_at hl 1 rfl) ?_
  refine z_iconst (v := 0) hC dX9_works_27 (by decide) ?_
  refine z_putI hC zc_9 24 (by decide) kw_761 dX9_works_28 h_x0 rfl rfl rfl rfl ?_
  refine z_iconst (v := 4) hC dX9_works_31 (by decide) ?_
  refine z_aload_n hC dX9_works_32 rfl (lv_at hl 1 rfl) ?_
  refine z_getI hC zc_9 21 (by decide) kw_758 dX9_works_33 h_x0 rfl ?_
  refine z_imul hC dX9_works_36 ?_
  refine z_istore_n (lv' := [(3, .int (4 * ((z_up q3 x0 24 0) x0 21))), (2, .int ((40 * (I x0 21)) + x1)), (0, .ref (x0)), (1, .int (x1))]) hC dX9_works_37 rfl hl (by decide) rfl (fun ls hl => ?_)
  exact b_X9_works_38 hC hT   F (x0) (x1) ((40 * (I x0 21)) + x1) (4 * ((z_up q3 x0 24 0) x0 21)) (z_up q3 x0 24 0) h_x0 hz ls (lv_sub hl [2, 3, 1, 0] rfl)
theorem zy_X9_layFrames : z_y yX9_layFrames cX9_layFrames 5 (some .int) 1 := ⟨kw_976, kw_8, by decide +kernel, by decide +kernel, by decide +kernel⟩
theorem zv_X9_layFrames : Cond.instanceMethod yX9_layFrames ∈ z_tbl ∧ Cond.selects RX9 yX9_layFrames yX9_layFrames ∈ z_tbl := ⟨kw_975, ks_53⟩
def z_X9_layFrames_83B (F : Nat) (S : zS) (k2 : Nat → Int32 → Int32 → zI → Option (Int32 × zI)) (k83 : Nat → Int32 → Int32 → Int32 → zI → Option (Int32 × zI)) (x0 : Nat) (x1 : Int32) (x2 : Int32) (x4 : Int32) (I : zI) : Option (Int32 × zI) :=
  ob (S.1 x0 10) (fun r1 => if x1 < 0 ∨ (S.2.1 r1).2 ≤ x1.toNatClampNeg then none else (if x4 < ((4 * x1) + (I r1 x1.toNatClampNeg)) then (ob (z_X9_holds F S I x0 x4 x2) (fun q3 => if q3 = 0 then (k83 (x0) (x1) (x2) (x4 + 1) (I)) else (ob (S.1 x0 18) (fun r4 => ob (S.1 x0 13) (fun r5 => if x4 < 0 ∨ (S.2.1 r5).2 ≤ x4.toNatClampNeg then none else (if ((40 * x1) + (I r5 x4.toNatClampNeg)) < 0 ∨ (S.2.1 r4).2 ≤ ((40 * x1) + (I r5 x4.toNatClampNeg)).toNatClampNeg then none else (k83 (x0) (x1) (x2) (x4 + 1) (z_up I r4 ((40 * x1) + (I r5 x4.toNatClampNeg)).toNatClampNeg 1)))))))) else (k2 (x0) (x1) (x2 + 1) (I))))
def z_X9_layFrames_83 (F : Nat) (S : zS) (k2 : Nat → Int32 → Int32 → zI → Option (Int32 × zI)) : Nat → Nat → Int32 → Int32 → Int32 → zI → Option (Int32 × zI)
  | 0 => fun _ _ _ _ _ => none
  | n + 1 => fun x0 x1 x2 x4 I => z_X9_layFrames_83B F S k2 (z_X9_layFrames_83 F S k2 n) x0 x1 x2 x4 I
def z_X9_layFrames_78 (F : Nat) (S : zS) (k2 : Nat → Int32 → Int32 → zI → Option (Int32 × zI)) (x0 : Nat) (x1 : Int32) (x2 : Int32) (I : zI) : Option (Int32 × zI) :=
  z_X9_layFrames_83 F S k2 F (x0) (x1) (x2) (4 * x1) (I)
def z_X9_layFrames_36B (F : Nat) (S : zS) (k2 : Nat → Int32 → Int32 → zI → Option (Int32 × zI)) (k36 : Nat → Int32 → Int32 → Int32 → Int32 → zI → Option (Int32 × zI)) (x0 : Nat) (x1 : Int32) (x2 : Int32) (x3 : Int32) (x4 : Int32) (I : zI) : Option (Int32 × zI) :=
  ob (S.1 x0 7) (fun r1 => if x3 < 0 ∨ (S.2.1 r1).2 ≤ x3.toNatClampNeg then none else (ob (z_X9_jumps F S I (I r1 x3.toNatClampNeg)) (fun q3 => if q3 = 0 then (z_X9_layFrames_78 F S k2 (x0) (x1) (x2) (I)) else (ob (S.1 x0 9) (fun r4 => if x3 < 0 ∨ (S.2.1 r4).2 ≤ x3.toNatClampNeg then none else (if (I r4 x3.toNatClampNeg) < x4 then (z_X9_layFrames_78 F S k2 (x0) (x1) (x2) (I)) else (ob (S.1 x0 18) (fun r6 => if ((40 * x1) + x4) < 0 ∨ (S.2.1 r6).2 ≤ ((40 * x1) + x4).toNatClampNeg then none else (k36 (x0) (x1) (x2) (x3) (x4 + 1) (z_up I r6 ((40 * x1) + x4).toNatClampNeg 1))))))))))
def z_X9_layFrames_36 (F : Nat) (S : zS) (k2 : Nat → Int32 → Int32 → zI → Option (Int32 × zI)) : Nat → Nat → Int32 → Int32 → Int32 → Int32 → zI → Option (Int32 × zI)
  | 0 => fun _ _ _ _ _ _ => none
  | n + 1 => fun x0 x1 x2 x3 x4 I => z_X9_layFrames_36B F S k2 (z_X9_layFrames_36 F S k2 n) x0 x1 x2 x3 x4 I
def z_X9_layFrames_142B (F : Nat) (S : zS) (k142 : Nat → Int32 → Int32 → Int32 → zI → Option (Int32 × zI)) (x0 : Nat) (x1 : Int32) (x2 : Int32) (x3 : Int32) (I : zI) : Option (Int32 × zI) :=
  ob (S.1 x0 6) (fun r1 => if x1 < 0 ∨ (S.2.1 r1).2 ≤ x1.toNatClampNeg then none else (if x3 < (I r1 x1.toNatClampNeg) then (ob (S.1 x0 18) (fun r3 => if ((40 * x1) + x3) < 0 ∨ (S.2.1 r3).2 ≤ ((40 * x1) + x3).toNatClampNeg then none else (if (I r3 ((40 * x1) + x3).toNatClampNeg) = 0 then (k142 (x0) (x1) (x2) (x3 + 1) (I)) else (ob (S.1 x0 17) (fun r5 => ob (S.1 x0 19) (fun r6 => ob (z_X9_copy F S I r5 (20 * ((40 * x1) + x3)) r6 (20 * ((40 * x1) + x3))) (fun q7 => k142 (x0) (x1) (x2 + 1) (x3 + 1) (q7)))))))) else (some (x2, I))))
def z_X9_layFrames_142 (F : Nat) (S : zS)  : Nat → Nat → Int32 → Int32 → Int32 → zI → Option (Int32 × zI)
  | 0 => fun _ _ _ _ _ => none
  | n + 1 => fun x0 x1 x2 x3 I => z_X9_layFrames_142B F S  (z_X9_layFrames_142 F S  n) x0 x1 x2 x3 I
def z_X9_layFrames_2B (F : Nat) (S : zS) (k2 : Nat → Int32 → Int32 → zI → Option (Int32 × zI)) (x0 : Nat) (x1 : Int32) (x2 : Int32) (I : zI) : Option (Int32 × zI) :=
  ob (S.1 x0 6) (fun r1 => if x1 < 0 ∨ (S.2.1 r1).2 ≤ x1.toNatClampNeg then none else (if x2 < (I r1 x1.toNatClampNeg) then (ob (S.1 x0 16) (fun r3 => if ((40 * x1) + x2) < 0 ∨ (S.2.1 r3).2 ≤ ((40 * x1) + x2).toNatClampNeg then none else (if (I r3 ((40 * x1) + x2).toNatClampNeg) = 0 then (k2 (x0) (x1) (x2 + 1) (I)) else (ob (S.1 x0 8) (fun r5 => if ((40 * x1) + x2) < 0 ∨ (S.2.1 r5).2 ≤ ((40 * x1) + x2).toNatClampNeg then none else (z_X9_layFrames_36 F S k2 F (x0) (x1) (x2) ((40 * x1) + x2) (I r5 ((40 * x1) + x2).toNatClampNeg) (I))))))) else (z_X9_layFrames_142 F S  F (x0) (x1) (0) (0) (I))))
def z_X9_layFrames_2 (F : Nat) (S : zS)  : Nat → Nat → Int32 → Int32 → zI → Option (Int32 × zI)
  | 0 => fun _ _ _ _ => none
  | n + 1 => fun x0 x1 x2 I => z_X9_layFrames_2B F S  (z_X9_layFrames_2 F S  n) x0 x1 x2 I
def z_X9_layFrames (F : Nat) (S : zS) (I : zI) (x0 : Nat) (x1 : Int32) : Option (Int32 × zI) :=
  z_X9_layFrames_2 F S  F (x0) (x1) (0) (I)
set_option maxRecDepth 100000 in
set_option maxHeartbeats 4000000 in
theorem bb_X9_layFrames_83 {p : Program} {l : Launch} {e : Env} {s : State} {m : MethodId} {args : Array Value} {below : List Frame} {meth : Method} {c : Code} {D : zD} {b0 : Nat} {F : Nat} {S : zS} {X : Int32 × zI} (hC : z_C p s m args meth c cX9_layFrames RX9 5 (some .int) D) (hT : z_T b0 S) (k2 : Nat → Int32 → Int32 → zI → Option (Int32 × zI)) (k83 : Nat → Int32 → Int32 → Int32 → zI → Option (Int32 × zI)) (hk2 : ∀ (x0 : Nat) (x1 : Int32) (x2 : Int32) (I : zI) , z_is b0 S x0 9 → k2 x0 x1 x2 I = some X → ∀ ls : Array Slot, lv_has ls 5 [(0, .ref (x0)), (1, .int (x1)), (2, .int (x2))] → z_W p l e { frames := 2, cells := 0, slots := 0, locals := 42 } s m args below meth c D b0 S I 0 0 (MQ below (z_Q D b0 (some (.int (X.1))) S X.2) args s 0 0 (fun q => b0 ≤ q)) (F0 m 2 ls [])) (hk83 : ∀ (x0 : Nat) (x1 : Int32) (x2 : Int32) (x4 : Int32) (I : zI) , z_is b0 S x0 9 → k83 x0 x1 x2 x4 I = some X → ∀ ls : Array Slot, lv_has ls 5 [(0, .ref (x0)), (1, .int (x1)), (2, .int (x2)), (4, .int (x4))] → z_W p l e { frames := 2, cells := 0, slots := 0, locals := 42 } s m args below meth c D b0 S I 0 0 (MQ below (z_Q D b0 (some (.int (X.1))) S X.2) args s 0 0 (fun q => b0 ≤ q)) (F0 m 83 ls [])) (x0 : Nat) (x1 : Int32) (x2 : Int32) (x4 : Int32) (I : zI) (h_x0 : z_is b0 S x0 9) (hz : z_X9_layFrames_83B F S k2 k83 x0 x1 x2 x4 I = some X) (ls : Array Slot) (hl : lv_has ls 5 [(0, .ref (x0)), (1, .int (x1)), (2, .int (x2)), (4, .int (x4))]) : z_W p l e { frames := 2, cells := 0, slots := 0, locals := 42 } s m args below meth c D b0 S I 0 0 (MQ below (z_Q D b0 (some (.int (X.1))) S X.2) args s 0 0 (fun q => b0 ≤ q)) (F0 m 83 ls []) := by
  unfold z_X9_layFrames_83B at hz
  refine z_iload hC dX9_layFrames_83 (lv_at hl 3 rfl) ?_
  refine z_iconst (v := 4) hC dX9_layFrames_85 (by decide) ?_
  refine z_iload_n hC dX9_layFrames_86 rfl (lv_at hl 1 rfl) ?_
  refine z_imul hC dX9_layFrames_87 ?_
  refine z_aload_n hC dX9_layFrames_88 rfl (lv_at hl 0 rfl) ?_
  obtain ⟨r1, hr_r1, hz⟩ := ob_some hz
  have hk_r1 : z_is b0 S r1 10 := hT.at h_x0 hr_r1
  refine z_getR hC zc_9 10 (by decide) kw_747 dX9_layFrames_89 h_x0 rfl hr_r1 ?_
  refine z_iload_n hC dX9_layFrames_92 rfl (lv_at hl 1 rfl) ?_
  obtain ⟨hi2, hz⟩ := ifn_some hz
  refine z_iald hC dX9_layFrames_93 hk_r1 hi2 ?_
  refine z_iadd hC dX9_layFrames_94 ?_
  refine z_icmp_ge (tgt := 132) hC dX9_layFrames_95 (by decide) hz (fun hz => ?_) (fun hz => ?_)
  · skip
    refine z_iinc (k0 := 2) (v := x2 + 1) (lv' := [(2, .int (x2 + 1)), (0, .ref (x0)), (1, .int (x1)), (4, .int (x4))]) hC dX9_layFrames_132 hl rfl rfl (by decide) rfl (fun ls hl => ?_)
    refine z_goto (tgt := 2) hC dX9_layFrames_135 (by decide) ?_
    exact hk2 (x0) (x1) (x2 + 1) (I) h_x0 hz ls (lv_sub hl [1, 2, 0] rfl)
  · skip
    refine z_aload_n hC dX9_layFrames_98 rfl (lv_at hl 0 rfl) ?_
    refine z_iload hC dX9_layFrames_99 (lv_at hl 3 rfl) ?_
    refine z_iload_n hC dX9_layFrames_101 rfl (lv_at hl 2 rfl) ?_
    obtain ⟨q3, hq_q3, hz⟩ := ob_some hz
    refine z_callV (As := [.int (x4), .int (x2)]) hC hT (c_X9_holds F x0 x4 x2 h_x0 hq_q3) zy_X9_holds zc_9 zv_X9_holds kw_893 dX9_layFrames_102 h_x0 rfl rfl hl.1 (Nat.le_of_ble_eq_true rfl) (by decide) (by decide) ?_
    refine z_if_eq (tgt := 126) hC dX9_layFrames_105 (by decide) hz (fun hz => ?_) (fun hz => ?_)
    · skip
      refine z_iinc (k0 := 3) (v := x4 + 1) (lv' := [(4, .int (x4 + 1)), (0, .ref (x0)), (1, .int (x1)), (2, .int (x2))]) hC dX9_layFrames_126 hl rfl rfl (by decide) rfl (fun ls hl => ?_)
      refine z_goto (tgt := 83) hC dX9_layFrames_129 (by decide) ?_
      exact hk83 (x0) (x1) (x2) (x4 + 1) (I) h_x0 hz ls (lv_sub hl [1, 2, 3, 0] rfl)
    · skip
      refine z_aload_n hC dX9_layFrames_108 rfl (lv_at hl 0 rfl) ?_
      obtain ⟨r4, hr_r4, hz⟩ := ob_some hz
      have hk_r4 : z_is b0 S r4 11 := hT.at h_x0 hr_r4
      refine z_getR hC zc_9 18 (by decide) kw_755 dX9_layFrames_109 h_x0 rfl hr_r4 ?_
      refine z_bipush (v := 40) hC dX9_layFrames_112 (by decide) ?_
      refine z_iload_n hC dX9_layFrames_114 rfl (lv_at hl 1 rfl) ?_
      refine z_imul hC dX9_layFrames_115 ?_
      refine z_aload_n hC dX9_layFrames_116 rfl (lv_at hl 0 rfl) ?_
      obtain ⟨r5, hr_r5, hz⟩ := ob_some hz
      have hk_r5 : z_is b0 S r5 10 := hT.at h_x0 hr_r5
      refine z_getR hC zc_9 13 (by decide) kw_750 dX9_layFrames_117 h_x0 rfl hr_r5 ?_
      refine z_iload hC dX9_layFrames_120 (lv_at hl 3 rfl) ?_
      obtain ⟨hi6, hz⟩ := ifn_some hz
      refine z_iald hC dX9_layFrames_122 hk_r5 hi6 ?_
      refine z_iadd hC dX9_layFrames_123 ?_
      refine z_iconst (v := 1) hC dX9_layFrames_124 (by decide) ?_
      obtain ⟨hi7, hz⟩ := ifn_some hz
      refine z_zast hC dX9_layFrames_125 hk_r4 hi7 (z_bool (Or.inr rfl)) ?_
      refine z_iinc (k0 := 3) (v := x4 + 1) (lv' := [(4, .int (x4 + 1)), (0, .ref (x0)), (1, .int (x1)), (2, .int (x2))]) hC dX9_layFrames_126 hl rfl rfl (by decide) rfl (fun ls hl => ?_)
      refine z_goto (tgt := 83) hC dX9_layFrames_129 (by decide) ?_
      exact hk83 (x0) (x1) (x2) (x4 + 1) (z_up I r4 ((40 * x1) + (I r5 x4.toNatClampNeg)).toNatClampNeg 1) h_x0 hz ls (lv_sub hl [1, 2, 3, 0] rfl)
set_option maxRecDepth 100000 in
set_option maxHeartbeats 4000000 in
theorem b_X9_layFrames_83 {p : Program} {l : Launch} {e : Env} {s : State} {m : MethodId} {args : Array Value} {below : List Frame} {meth : Method} {c : Code} {D : zD} {b0 : Nat} {F : Nat} {S : zS} {X : Int32 × zI} (hC : z_C p s m args meth c cX9_layFrames RX9 5 (some .int) D) (hT : z_T b0 S) (k2 : Nat → Int32 → Int32 → zI → Option (Int32 × zI)) (hk2 : ∀ (x0 : Nat) (x1 : Int32) (x2 : Int32) (I : zI) , z_is b0 S x0 9 → k2 x0 x1 x2 I = some X → ∀ ls : Array Slot, lv_has ls 5 [(0, .ref (x0)), (1, .int (x1)), (2, .int (x2))] → z_W p l e { frames := 2, cells := 0, slots := 0, locals := 42 } s m args below meth c D b0 S I 0 0 (MQ below (z_Q D b0 (some (.int (X.1))) S X.2) args s 0 0 (fun q => b0 ≤ q)) (F0 m 2 ls [])) : ∀ (n : Nat) (x0 : Nat) (x1 : Int32) (x2 : Int32) (x4 : Int32) (I : zI), z_is b0 S x0 9 → z_X9_layFrames_83 F S k2 n x0 x1 x2 x4 I = some X → ∀ ls : Array Slot, lv_has ls 5 [(0, .ref (x0)), (1, .int (x1)), (2, .int (x2)), (4, .int (x4))] → z_W p l e { frames := 2, cells := 0, slots := 0, locals := 42 } s m args below meth c D b0 S I 0 0 (MQ below (z_Q D b0 (some (.int (X.1))) S X.2) args s 0 0 (fun q => b0 ≤ q)) (F0 m 83 ls []) := by
  intro n
  induction n with
  | zero => intro x0 x1 x2 x4 I h_x0 hz; cases hz
  | succ n ih =>
    intro x0 x1 x2 x4 I h_x0 hz ls hl
    exact bb_X9_layFrames_83 (F := F) hC hT k2 (z_X9_layFrames_83 F S k2 n) hk2 ih x0 x1 x2 x4 I h_x0 hz ls hl
set_option maxRecDepth 100000 in
set_option maxHeartbeats 4000000 in
theorem b_X9_layFrames_78 {p : Program} {l : Launch} {e : Env} {s : State} {m : MethodId} {args : Array Value} {below : List Frame} {meth : Method} {c : Code} {D : zD} {b0 : Nat} {F : Nat} {S : zS} {X : Int32 × zI} (hC : z_C p s m args meth c cX9_layFrames RX9 5 (some .int) D) (hT : z_T b0 S) (k2 : Nat → Int32 → Int32 → zI → Option (Int32 × zI)) (hk2 : ∀ (x0 : Nat) (x1 : Int32) (x2 : Int32) (I : zI) , z_is b0 S x0 9 → k2 x0 x1 x2 I = some X → ∀ ls : Array Slot, lv_has ls 5 [(0, .ref (x0)), (1, .int (x1)), (2, .int (x2))] → z_W p l e { frames := 2, cells := 0, slots := 0, locals := 42 } s m args below meth c D b0 S I 0 0 (MQ below (z_Q D b0 (some (.int (X.1))) S X.2) args s 0 0 (fun q => b0 ≤ q)) (F0 m 2 ls [])) (x0 : Nat) (x1 : Int32) (x2 : Int32) (I : zI) (h_x0 : z_is b0 S x0 9) (hz : z_X9_layFrames_78 F S k2 x0 x1 x2 I = some X) (ls : Array Slot) (hl : lv_has ls 5 [(0, .ref (x0)), (1, .int (x1)), (2, .int (x2))]) : z_W p l e { frames := 2, cells := 0, slots := 0, locals := 42 } s m args below meth c D b0 S I 0 0 (MQ below (z_Q D b0 (some (.int (X.1))) S X.2) args s 0 0 (fun q => b0 ≤ q)) (F0 m 78 ls []) := by
  unfold z_X9_layFrames_78 at hz
  refine z_iconst (v := 4) hC dX9_layFrames_78 (by decide) ?_
  refine z_iload_n hC dX9_layFrames_79 rfl (lv_at hl 1 rfl) ?_
  refine z_imul hC dX9_layFrames_80 ?_
  refine z_istore (lv' := [(4, .int (4 * x1)), (0, .ref (x0)), (1, .int (x1)), (2, .int (x2))]) hC dX9_layFrames_81 hl (by decide) rfl (fun ls hl => ?_)
  exact b_X9_layFrames_83 hC hT k2 hk2 F (x0) (x1) (x2) (4 * x1) (I) h_x0 hz ls (lv_sub hl [1, 2, 3, 0] rfl)
set_option maxRecDepth 100000 in
set_option maxHeartbeats 4000000 in
theorem bb_X9_layFrames_36 {p : Program} {l : Launch} {e : Env} {s : State} {m : MethodId} {args : Array Value} {below : List Frame} {meth : Method} {c : Code} {D : zD} {b0 : Nat} {F : Nat} {S : zS} {X : Int32 × zI} (hC : z_C p s m args meth c cX9_layFrames RX9 5 (some .int) D) (hT : z_T b0 S) (k2 : Nat → Int32 → Int32 → zI → Option (Int32 × zI)) (k36 : Nat → Int32 → Int32 → Int32 → Int32 → zI → Option (Int32 × zI)) (hk2 : ∀ (x0 : Nat) (x1 : Int32) (x2 : Int32) (I : zI) , z_is b0 S x0 9 → k2 x0 x1 x2 I = some X → ∀ ls : Array Slot, lv_has ls 5 [(0, .ref (x0)), (1, .int (x1)), (2, .int (x2))] → z_W p l e { frames := 2, cells := 0, slots := 0, locals := 42 } s m args below meth c D b0 S I 0 0 (MQ below (z_Q D b0 (some (.int (X.1))) S X.2) args s 0 0 (fun q => b0 ≤ q)) (F0 m 2 ls [])) (hk36 : ∀ (x0 : Nat) (x1 : Int32) (x2 : Int32) (x3 : Int32) (x4 : Int32) (I : zI) , z_is b0 S x0 9 → k36 x0 x1 x2 x3 x4 I = some X → ∀ ls : Array Slot, lv_has ls 5 [(0, .ref (x0)), (1, .int (x1)), (2, .int (x2)), (3, .int (x3)), (4, .int (x4))] → z_W p l e { frames := 2, cells := 0, slots := 0, locals := 42 } s m args below meth c D b0 S I 0 0 (MQ below (z_Q D b0 (some (.int (X.1))) S X.2) args s 0 0 (fun q => b0 ≤ q)) (F0 m 36 ls [])) (x0 : Nat) (x1 : Int32) (x2 : Int32) (x3 : Int32) (x4 : Int32) (I : zI) (h_x0 : z_is b0 S x0 9) (hz : z_X9_layFrames_36B F S k2 k36 x0 x1 x2 x3 x4 I = some X) (ls : Array Slot) (hl : lv_has ls 5 [(0, .ref (x0)), (1, .int (x1)), (2, .int (x2)), (3, .int (x3)), (4, .int (x4))]) : z_W p l e { frames := 2, cells := 0, slots := 0, locals := 42 } s m args below meth c D b0 S I 0 0 (MQ below (z_Q D b0 (some (.int (X.1))) S X.2) args s 0 0 (fun q => b0 ≤ q)) (F0 m 36 ls []) := by
  unfold z_X9_layFrames_36B at hz
  refine z_aload_n hC dX9_layFrames_36 rfl (lv_at hl 0 rfl) ?_
  obtain ⟨r1, hr_r1, hz⟩ := ob_some hz
  have hk_r1 : z_is b0 S r1 10 := hT.at h_x0 hr_r1
  refine z_getR hC zc_9 7 (by decide) kw_744 dX9_layFrames_37 h_x0 rfl hr_r1 ?_
  refine z_iload_n hC dX9_layFrames_40 rfl (lv_at hl 3 rfl) ?_
  obtain ⟨hi2, hz⟩ := ifn_some hz
  refine z_iald hC dX9_layFrames_41 hk_r1 hi2 ?_
  obtain ⟨q3, hq_q3, hz⟩ := ob_some hz
  refine z_callS (As := [.int (I r1 x3.toNatClampNeg)]) hC hT (c_X9_jumps F (I r1 x3.toNatClampNeg)  hq_q3) zy_X9_jumps kw_967 kw_966 dX9_layFrames_42 rfl rfl hl.1 (Nat.le_of_ble_eq_true rfl) (by decide) (by decide) ?_
  refine z_if_eq (tgt := 78) hC dX9_layFrames_45 (by decide) hz (fun hz => ?_) (fun hz => ?_)
  · skip
    exact b_X9_layFrames_78 hC hT k2 hk2 (x0) (x1) (x2) (I) h_x0 hz ls (lv_sub hl [0, 1, 2] rfl)
  · skip
    refine z_iload hC dX9_layFrames_48 (lv_at hl 4 rfl) ?_
    refine z_aload_n hC dX9_layFrames_50 rfl (lv_at hl 0 rfl) ?_
    obtain ⟨r4, hr_r4, hz⟩ := ob_some hz
    have hk_r4 : z_is b0 S r4 10 := hT.at h_x0 hr_r4
    refine z_getR hC zc_9 9 (by decide) kw_746 dX9_layFrames_51 h_x0 rfl hr_r4 ?_
    refine z_iload_n hC dX9_layFrames_54 rfl (lv_at hl 3 rfl) ?_
    obtain ⟨hi5, hz⟩ := ifn_some hz
    refine z_iald hC dX9_layFrames_55 hk_r4 hi5 ?_
    refine z_icmp_gt (tgt := 78) hC dX9_layFrames_56 (by decide) hz (fun hz => ?_) (fun hz => ?_)
    · skip
      exact b_X9_layFrames_78 hC hT k2 hk2 (x0) (x1) (x2) (I) h_x0 hz ls (lv_sub hl [0, 1, 2] rfl)
    · skip
      refine z_aload_n hC dX9_layFrames_59 rfl (lv_at hl 0 rfl) ?_
      obtain ⟨r6, hr_r6, hz⟩ := ob_some hz
      have hk_r6 : z_is b0 S r6 11 := hT.at h_x0 hr_r6
      refine z_getR hC zc_9 18 (by decide) kw_755 dX9_layFrames_60 h_x0 rfl hr_r6 ?_
      refine z_bipush (v := 40) hC dX9_layFrames_63 (by decide) ?_
      refine z_iload_n hC dX9_layFrames_65 rfl (lv_at hl 1 rfl) ?_
      refine z_imul hC dX9_layFrames_66 ?_
      refine z_iload hC dX9_layFrames_67 (lv_at hl 4 rfl) ?_
      refine z_iadd hC dX9_layFrames_69 ?_
      refine z_iconst (v := 1) hC dX9_layFrames_70 (by decide) ?_
      obtain ⟨hi7, hz⟩ := ifn_some hz
      refine z_zast hC dX9_layFrames_71 hk_r6 hi7 (z_bool (Or.inr rfl)) ?_
      refine z_iinc (k0 := 4) (v := x4 + 1) (lv' := [(4, .int (x4 + 1)), (0, .ref (x0)), (1, .int (x1)), (2, .int (x2)), (3, .int (x3))]) hC dX9_layFrames_72 hl rfl rfl (by decide) rfl (fun ls hl => ?_)
      refine z_goto (tgt := 36) hC dX9_layFrames_75 (by decide) ?_
      exact hk36 (x0) (x1) (x2) (x3) (x4 + 1) (z_up I r6 ((40 * x1) + x4).toNatClampNeg 1) h_x0 hz ls (lv_sub hl [1, 2, 3, 4, 0] rfl)
set_option maxRecDepth 100000 in
set_option maxHeartbeats 4000000 in
theorem b_X9_layFrames_36 {p : Program} {l : Launch} {e : Env} {s : State} {m : MethodId} {args : Array Value} {below : List Frame} {meth : Method} {c : Code} {D : zD} {b0 : Nat} {F : Nat} {S : zS} {X : Int32 × zI} (hC : z_C p s m args meth c cX9_layFrames RX9 5 (some .int) D) (hT : z_T b0 S) (k2 : Nat → Int32 → Int32 → zI → Option (Int32 × zI)) (hk2 : ∀ (x0 : Nat) (x1 : Int32) (x2 : Int32) (I : zI) , z_is b0 S x0 9 → k2 x0 x1 x2 I = some X → ∀ ls : Array Slot, lv_has ls 5 [(0, .ref (x0)), (1, .int (x1)), (2, .int (x2))] → z_W p l e { frames := 2, cells := 0, slots := 0, locals := 42 } s m args below meth c D b0 S I 0 0 (MQ below (z_Q D b0 (some (.int (X.1))) S X.2) args s 0 0 (fun q => b0 ≤ q)) (F0 m 2 ls [])) : ∀ (n : Nat) (x0 : Nat) (x1 : Int32) (x2 : Int32) (x3 : Int32) (x4 : Int32) (I : zI), z_is b0 S x0 9 → z_X9_layFrames_36 F S k2 n x0 x1 x2 x3 x4 I = some X → ∀ ls : Array Slot, lv_has ls 5 [(0, .ref (x0)), (1, .int (x1)), (2, .int (x2)), (3, .int (x3)), (4, .int (x4))] → z_W p l e { frames := 2, cells := 0, slots := 0, locals := 42 } s m args below meth c D b0 S I 0 0 (MQ below (z_Q D b0 (some (.int (X.1))) S X.2) args s 0 0 (fun q => b0 ≤ q)) (F0 m 36 ls []) := by
  intro n
  induction n with
  | zero => intro x0 x1 x2 x3 x4 I h_x0 hz; cases hz
  | succ n ih =>
    intro x0 x1 x2 x3 x4 I h_x0 hz ls hl
    exact bb_X9_layFrames_36 (F := F) hC hT k2 (z_X9_layFrames_36 F S k2 n) hk2 ih x0 x1 x2 x3 x4 I h_x0 hz ls hl
set_option maxRecDepth 100000 in
set_option maxHeartbeats 4000000 in
theorem bb_X9_layFrames_142 {p : Program} {l : Launch} {e : Env} {s : State} {m : MethodId} {args : Array Value} {below : List Frame} {meth : Method} {c : Code} {D : zD} {b0 : Nat} {F : Nat} {S : zS} {X : Int32 × zI} (hC : z_C p s m args meth c cX9_layFrames RX9 5 (some .int) D) (hT : z_T b0 S) (k142 : Nat → Int32 → Int32 → Int32 → zI → Option (Int32 × zI)) (hk142 : ∀ (x0 : Nat) (x1 : Int32) (x2 : Int32) (x3 : Int32) (I : zI) , z_is b0 S x0 9 → k142 x0 x1 x2 x3 I = some X → ∀ ls : Array Slot, lv_has ls 5 [(0, .ref (x0)), (1, .int (x1)), (2, .int (x2)), (3, .int (x3))] → z_W p l e { frames := 2, cells := 0, slots := 0, locals := 42 } s m args below meth c D b0 S I 0 0 (MQ below (z_Q D b0 (some (.int (X.1))) S X.2) args s 0 0 (fun q => b0 ≤ q)) (F0 m 142 ls [])) (x0 : Nat) (x1 : Int32) (x2 : Int32) (x3 : Int32) (I : zI) (h_x0 : z_is b0 S x0 9) (hz : z_X9_layFrames_142B F S k142 x0 x1 x2 x3 I = some X) (ls : Array Slot) (hl : lv_has ls 5 [(0, .ref (x0)), (1, .int (x1)), (2, .int (x2)), (3, .int (x3))]) : z_W p l e { frames := 2, cells := 0, slots := 0, locals := 42 } s m args below meth c D b0 S I 0 0 (MQ below (z_Q D b0 (some (.int (X.1))) S X.2) args s 0 0 (fun q => b0 ≤ q)) (F0 m 142 ls []) := by
  unfold z_X9_layFrames_142B at hz
  refine z_iload_n hC dX9_layFrames_142 rfl (lv_at hl 3 rfl) ?_
  refine z_aload_n hC dX9_layFrames_143 rfl (lv_at hl 0 rfl) ?_
  obtain ⟨r1, hr_r1, hz⟩ := ob_some hz
  have hk_r1 : z_is b0 S r1 10 := hT.at h_x0 hr_r1
  refine z_getR hC zc_9 6 (by decide) kw_743 dX9_layFrames_144 h_x0 rfl hr_r1 ?_
  refine z_iload_n hC dX9_layFrames_147 rfl (lv_at hl 1 rfl) ?_
  obtain ⟨hi2, hz⟩ := ifn_some hz
  refine z_iald hC dX9_layFrames_148 hk_r1 hi2 ?_
  refine z_icmp_ge (tgt := 204) hC dX9_layFrames_149 (by decide) hz (fun hz => ?_) (fun hz => ?_)
  · skip
    refine z_iload_n hC dX9_layFrames_204 rfl (lv_at hl 2 rfl) ?_
    obtain rfl := Option.some.inj hz
    exact z_iret hC hT dX9_layFrames_205 (by decide) (by decide)
  · skip
    refine z_aload_n hC dX9_layFrames_152 rfl (lv_at hl 0 rfl) ?_
    obtain ⟨r3, hr_r3, hz⟩ := ob_some hz
    have hk_r3 : z_is b0 S r3 11 := hT.at h_x0 hr_r3
    refine z_getR hC zc_9 18 (by decide) kw_755 dX9_layFrames_153 h_x0 rfl hr_r3 ?_
    refine z_bipush (v := 40) hC dX9_layFrames_156 (by decide) ?_
    refine z_iload_n hC dX9_layFrames_158 rfl (lv_at hl 1 rfl) ?_
    refine z_imul hC dX9_layFrames_159 ?_
    refine z_iload_n hC dX9_layFrames_160 rfl (lv_at hl 3 rfl) ?_
    refine z_iadd hC dX9_layFrames_161 ?_
    obtain ⟨hi4, hz⟩ := ifn_some hz
    refine z_zald hC dX9_layFrames_162 hk_r3 hi4 ?_
    refine z_if_eq (tgt := 198) hC dX9_layFrames_163 (by decide) hz (fun hz => ?_) (fun hz => ?_)
    · skip
      refine z_iinc (k0 := 3) (v := x3 + 1) (lv' := [(3, .int (x3 + 1)), (0, .ref (x0)), (1, .int (x1)), (2, .int (x2))]) hC dX9_layFrames_198 hl rfl rfl (by decide) rfl (fun ls hl => ?_)
      refine z_goto (tgt := 142) hC dX9_layFrames_201 (by decide) ?_
      exact hk142 (x0) (x1) (x2) (x3 + 1) (I) h_x0 hz ls (lv_sub hl [1, 2, 3, 0] rfl)
    · skip
      refine z_aload_n hC dX9_layFrames_166 rfl (lv_at hl 0 rfl) ?_
      obtain ⟨r5, hr_r5, hz⟩ := ob_some hz
      have hk_r5 : z_is b0 S r5 10 := hT.at h_x0 hr_r5
      refine z_getR hC zc_9 17 (by decide) kw_754 dX9_layFrames_167 h_x0 rfl hr_r5 ?_
      refine z_bipush (v := 20) hC dX9_layFrames_170 (by decide) ?_
      refine z_bipush (v := 40) hC dX9_layFrames_172 (by decide) ?_
      refine z_iload_n hC dX9_layFrames_174 rfl (lv_at hl 1 rfl) ?_
      refine z_imul hC dX9_layFrames_175 ?_
      refine z_iload_n hC dX9_layFrames_176 rfl (lv_at hl 3 rfl) ?_
      refine z_iadd hC dX9_layFrames_177 ?_
      refine z_imul hC dX9_layFrames_178 ?_
      refine z_aload_n hC dX9_layFrames_179 rfl (lv_at hl 0 rfl) ?_
      obtain ⟨r6, hr_r6, hz⟩ := ob_some hz
      have hk_r6 : z_is b0 S r6 10 := hT.at h_x0 hr_r6
      refine z_getR hC zc_9 19 (by decide) kw_756 dX9_layFrames_180 h_x0 rfl hr_r6 ?_
      refine z_bipush (v := 20) hC dX9_layFrames_183 (by decide) ?_
      refine z_bipush (v := 40) hC dX9_layFrames_185 (by decide) ?_
      refine z_iload_n hC dX9_layFrames_187 rfl (lv_at hl 1 rfl) ?_
      refine z_imul hC dX9_layFrames_188 ?_
      refine z_iload_n hC dX9_layFrames_189 rfl (lv_at hl 3 rfl) ?_
      refine z_iadd hC dX9_layFrames_190 ?_
      refine z_imul hC dX9_layFrames_191 ?_
      obtain ⟨q7, hq_q7, hz⟩ := ob_some hz
      refine z_callS (As := [.ref (r5), .int (20 * ((40 * x1) + x3)), .ref (r6), .int (20 * ((40 * x1) + x3))]) hC hT (c_X9_copy F r5 (20 * ((40 * x1) + x3)) r6 (20 * ((40 * x1) + x3)) hk_r5 hk_r6 hq_q7) zy_X9_copy kw_887 kw_886 dX9_layFrames_192 rfl rfl hl.1 (Nat.le_of_ble_eq_true rfl) (by decide) (by decide) ?_
      refine z_iinc (k0 := 2) (v := x2 + 1) (lv' := [(2, .int (x2 + 1)), (0, .ref (x0)), (1, .int (x1)), (3, .int (x3))]) hC dX9_layFrames_195 hl rfl rfl (by decide) rfl (fun ls hl => ?_)
      refine z_iinc (k0 := 3) (v := x3 + 1) (lv' := [(3, .int (x3 + 1)), (2, .int (x2 + 1)), (0, .ref (x0)), (1, .int (x1))]) hC dX9_layFrames_198 hl rfl rfl (by decide) rfl (fun ls hl => ?_)
      refine z_goto (tgt := 142) hC dX9_layFrames_201 (by decide) ?_
      exact hk142 (x0) (x1) (x2 + 1) (x3 + 1) (q7) h_x0 hz ls (lv_sub hl [2, 3, 1, 0] rfl)
set_option maxRecDepth 100000 in
set_option maxHeartbeats 4000000 in
theorem b_X9_layFrames_142 {p : Program} {l : Launch} {e : Env} {s : State} {m : MethodId} {args : Array Value} {below : List Frame} {meth : Method} {c : Code} {D : zD} {b0 : Nat} {F : Nat} {S : zS} {X : Int32 × zI} (hC : z_C p s m args meth c cX9_layFrames RX9 5 (some .int) D) (hT : z_T b0 S)   : ∀ (n : Nat) (x0 : Nat) (x1 : Int32) (x2 : Int32) (x3 : Int32) (I : zI), z_is b0 S x0 9 → z_X9_layFrames_142 F S  n x0 x1 x2 x3 I = some X → ∀ ls : Array Slot, lv_has ls 5 [(0, .ref (x0)), (1, .int (x1)), (2, .int (x2)), (3, .int (x3))] → z_W p l e { frames := 2, cells := 0, slots := 0, locals := 42 } s m args below meth c D b0 S I 0 0 (MQ below (z_Q D b0 (some (.int (X.1))) S X.2) args s 0 0 (fun q => b0 ≤ q)) (F0 m 142 ls []) := by
  intro n
  induction n with
  | zero => intro x0 x1 x2 x3 I h_x0 hz; cases hz
  | succ n ih =>
    intro x0 x1 x2 x3 I h_x0 hz ls hl
    exact bb_X9_layFrames_142 (F := F) hC hT  (z_X9_layFrames_142 F S  n)  ih x0 x1 x2 x3 I h_x0 hz ls hl
set_option maxRecDepth 100000 in
set_option maxHeartbeats 4000000 in
theorem bb_X9_layFrames_2 {p : Program} {l : Launch} {e : Env} {s : State} {m : MethodId} {args : Array Value} {below : List Frame} {meth : Method} {c : Code} {D : zD} {b0 : Nat} {F : Nat} {S : zS} {X : Int32 × zI} (hC : z_C p s m args meth c cX9_layFrames RX9 5 (some .int) D) (hT : z_T b0 S) (k2 : Nat → Int32 → Int32 → zI → Option (Int32 × zI)) (hk2 : ∀ (x0 : Nat) (x1 : Int32) (x2 : Int32) (I : zI) , z_is b0 S x0 9 → k2 x0 x1 x2 I = some X → ∀ ls : Array Slot, lv_has ls 5 [(0, .ref (x0)), (1, .int (x1)), (2, .int (x2))] → z_W p l e { frames := 2, cells := 0, slots := 0, locals := 42 } s m args below meth c D b0 S I 0 0 (MQ below (z_Q D b0 (some (.int (X.1))) S X.2) args s 0 0 (fun q => b0 ≤ q)) (F0 m 2 ls [])) (x0 : Nat) (x1 : Int32) (x2 : Int32) (I : zI) (h_x0 : z_is b0 S x0 9) (hz : z_X9_layFrames_2B F S k2 x0 x1 x2 I = some X) (ls : Array Slot) (hl : lv_has ls 5 [(0, .ref (x0)), (1, .int (x1)), (2, .int (x2))]) : z_W p l e { frames := 2, cells := 0, slots := 0, locals := 42 } s m args below meth c D b0 S I 0 0 (MQ below (z_Q D b0 (some (.int (X.1))) S X.2) args s 0 0 (fun q => b0 ≤ q)) (F0 m 2 ls []) := by
  unfold z_X9_layFrames_2B at hz
  refine z_iload_n hC dX9_layFrames_2 rfl (lv_at hl 2 rfl) ?_
  refine z_aload_n hC dX9_layFrames_3 rfl (lv_at hl 0 rfl) ?_
  obtain ⟨r1, hr_r1, hz⟩ := ob_some hz
  have hk_r1 : z_is b0 S r1 10 := hT.at h_x0 hr_r1
  refine z_getR hC zc_9 6 (by decide) kw_743 dX9_layFrames_4 h_x0 rfl hr_r1 ?_
  refine z_iload_n hC dX9_layFrames_7 rfl (lv_at hl 1 rfl) ?_
  obtain ⟨hi2, hz⟩ := ifn_some hz
  refine z_iald hC dX9_layFrames_8 hk_r1 hi2 ?_
  refine z_icmp_ge (tgt := 138) hC dX9_layFrames_9 (by decide) hz (fun hz => ?_) (fun hz => ?_)
  · skip
    refine z_iconst (v := 0) hC dX9_layFrames_138 (by decide) ?_
    refine z_istore_n (lv' := [(2, .int (0)), (0, .ref (x0)), (1, .int (x1))]) hC dX9_layFrames_139 rfl hl (by decide) rfl (fun ls hl => ?_)
    refine z_iconst (v := 0) hC dX9_layFrames_140 (by decide) ?_
    refine z_istore_n (lv' := [(3, .int (0)), (2, .int (0)), (0, .ref (x0)), (1, .int (x1))]) hC dX9_layFrames_141 rfl hl (by decide) rfl (fun ls hl => ?_)
    exact b_X9_layFrames_142 hC hT   F (x0) (x1) (0) (0) (I) h_x0 hz ls (lv_sub hl [2, 3, 1, 0] rfl)
  · skip
    refine z_bipush (v := 40) hC dX9_layFrames_12 (by decide) ?_
    refine z_iload_n hC dX9_layFrames_14 rfl (lv_at hl 1 rfl) ?_
    refine z_imul hC dX9_layFrames_15 ?_
    refine z_iload_n hC dX9_layFrames_16 rfl (lv_at hl 2 rfl) ?_
    refine z_iadd hC dX9_layFrames_17 ?_
    refine z_istore_n (lv' := [(3, .int ((40 * x1) + x2)), (0, .ref (x0)), (1, .int (x1)), (2, .int (x2))]) hC dX9_layFrames_18 rfl hl (by decide) rfl (fun ls hl => ?_)
    refine z_aload_n hC dX9_layFrames_19 rfl (lv_at hl 1 rfl) ?_
    obtain ⟨r3, hr_r3, hz⟩ := ob_some hz
    have hk_r3 : z_is b0 S r3 11 := hT.at h_x0 hr_r3
    refine z_getR hC zc_9 16 (by decide) kw_753 dX9_layFrames_20 h_x0 rfl hr_r3 ?_
    refine z_iload_n hC dX9_layFrames_23 rfl (lv_at hl 0 rfl) ?_
    obtain ⟨hi4, hz⟩ := ifn_some hz
    refine z_zald hC dX9_layFrames_24 hk_r3 hi4 ?_
    refine z_if_eq (tgt := 132) hC dX9_layFrames_25 (by decide) hz (fun hz => ?_) (fun hz => ?_)
    · skip
      refine z_iinc (k0 := 3) (v := x2 + 1) (lv' := [(2, .int (x2 + 1)), (3, .int ((40 * x1) + x2)), (0, .ref (x0)), (1, .int (x1))]) hC dX9_layFrames_132 hl rfl rfl (by decide) rfl (fun ls hl => ?_)
      refine z_goto (tgt := 2) hC dX9_layFrames_135 (by decide) ?_
      exact hk2 (x0) (x1) (x2 + 1) (I) h_x0 hz ls (lv_sub hl [2, 3, 0] rfl)
    · skip
      refine z_aload_n hC dX9_layFrames_28 rfl (lv_at hl 1 rfl) ?_
      obtain ⟨r5, hr_r5, hz⟩ := ob_some hz
      have hk_r5 : z_is b0 S r5 10 := hT.at h_x0 hr_r5
      refine z_getR hC zc_9 8 (by decide) kw_745 dX9_layFrames_29 h_x0 rfl hr_r5 ?_
      refine z_iload_n hC dX9_layFrames_32 rfl (lv_at hl 0 rfl) ?_
      obtain ⟨hi6, hz⟩ := ifn_some hz
      refine z_iald hC dX9_layFrames_33 hk_r5 hi6 ?_
      refine z_istore (lv' := [(4, .int (I r5 ((40 * x1) + x2).toNatClampNeg)), (3, .int ((40 * x1) + x2)), (0, .ref (x0)), (1, .int (x1)), (2, .int (x2))]) hC dX9_layFrames_34 hl (by decide) rfl (fun ls hl => ?_)
      exact b_X9_layFrames_36 hC hT k2 hk2 F (x0) (x1) (x2) ((40 * x1) + x2) (I r5 ((40 * x1) + x2).toNatClampNeg) (I) h_x0 hz ls (lv_sub hl [2, 3, 4, 1, 0] rfl)
set_option maxRecDepth 100000 in
set_option maxHeartbeats 4000000 in
theorem b_X9_layFrames_2 {p : Program} {l : Launch} {e : Env} {s : State} {m : MethodId} {args : Array Value} {below : List Frame} {meth : Method} {c : Code} {D : zD} {b0 : Nat} {F : Nat} {S : zS} {X : Int32 × zI} (hC : z_C p s m args meth c cX9_layFrames RX9 5 (some .int) D) (hT : z_T b0 S)   : ∀ (n : Nat) (x0 : Nat) (x1 : Int32) (x2 : Int32) (I : zI), z_is b0 S x0 9 → z_X9_layFrames_2 F S  n x0 x1 x2 I = some X → ∀ ls : Array Slot, lv_has ls 5 [(0, .ref (x0)), (1, .int (x1)), (2, .int (x2))] → z_W p l e { frames := 2, cells := 0, slots := 0, locals := 42 } s m args below meth c D b0 S I 0 0 (MQ below (z_Q D b0 (some (.int (X.1))) S X.2) args s 0 0 (fun q => b0 ≤ q)) (F0 m 2 ls []) := by
  intro n
  induction n with
  | zero => intro x0 x1 x2 I h_x0 hz; cases hz
  | succ n ih =>
    intro x0 x1 x2 I h_x0 hz ls hl
    exact bb_X9_layFrames_2 (F := F) hC hT  (z_X9_layFrames_2 F S  n)  ih x0 x1 x2 I h_x0 hz ls hl
set_option maxRecDepth 100000 in
set_option maxHeartbeats 4000000 in
theorem c_X9_layFrames {l : Launch} {D : zD} {b0 : Nat} {S : zS} {I : zI} {X : Int32 × zI} (F : Nat) (x0 : Nat) (x1 : Int32) (h_x0 : z_is b0 S x0 9) (hz : z_X9_layFrames F S I x0 x1 = some X) : z_M l D b0 yX9_layFrames cX9_layFrames 5 (some .int) { frames := 2, cells := 0, slots := 0, locals := 42 } [.ref (x0), .int (x1)] S I (some (.int (X.1))) S X.2 := by
  refine z_met (by decide) (Nat.le_of_ble_eq_true rfl) ?_
  intro p e s m below meth c hC hnm hT ls hl
  have hl : lv_has ls 5 [(0, .ref (x0)), (1, .int (x1))] := hl
  unfold z_X9_layFrames at hz
  refine z_iconst (v := 0) hC dX9_layFrames_0 (by decide) ?_
  refine z_istore_n (lv' := [(2, .int (0)), (0, .ref (x0)), (1, .int (x1))]) hC dX9_layFrames_1 rfl hl (by decide) rfl (fun ls hl => ?_)
  exact b_X9_layFrames_2 hC hT   F (x0) (x1) (0) (I) h_x0 hz ls (lv_sub hl [1, 2, 0] rfl)
