theorem zy_X9_looksAt : z_y yX9_looksAt cX9_looksAt 5 none 2 := ⟨kw_1026, kw_8, by decide +kernel, by decide +kernel, by decide +kernel⟩
theorem zv_X9_looksAt : Cond.instanceMethod yX9_looksAt ∈ z_tbl ∧ Cond.selects RX9 yX9_looksAt yX9_looksAt ∈ z_tbl := ⟨kw_1025, ks_56⟩
def z_X9_looksAt_210B (F : Nat) (S : zS) (k210 : Nat → Int32 → Int32 → Int32 → zI → Option (zI)) (x0 : Nat) (x1 : Int32) (x3 : Int32) (x4 : Int32) (I : zI) : Option (zI) :=
  ob (S.1 x0 7) (fun r1 => if x3 < 0 ∨ (S.2.1 r1).2 ≤ x3.toNatClampNeg then none else (ob (z_X9_jumps F S I (I r1 x3.toNatClampNeg)) (fun q3 => if q3 = 0 then (some (I)) else (ob (S.1 x0 9) (fun r4 => if x3 < 0 ∨ (S.2.1 r4).2 ≤ x3.toNatClampNeg then none else (if (I r4 x3.toNatClampNeg) < x4 then (some (I)) else (if (I x0 24) = 0 then (ob (S.1 x0 22) (fun r6 => ob (z_X9_looks F S I x0 r6 x4 x1 0) (fun q7 => k210 (x0) (x1) (x3) (x4 + 1) (q7)))) else (some (I)))))))))
def z_X9_looksAt_210 (F : Nat) (S : zS)  : Nat → Nat → Int32 → Int32 → Int32 → zI → Option (zI)
  | 0 => fun _ _ _ _ _ => none
  | n + 1 => fun x0 x1 x3 x4 I => z_X9_looksAt_210B F S  (z_X9_looksAt_210 F S  n) x0 x1 x3 x4 I
def z_X9_looksAt_202 (F : Nat) (S : zS)  (x0 : Nat) (x1 : Int32) (x3 : Int32) (I : zI) : Option (zI) :=
  ob (S.1 x0 8) (fun r1 => if x3 < 0 ∨ (S.2.1 r1).2 ≤ x3.toNatClampNeg then none else (z_X9_looksAt_210 F S  F (x0) (x1) (x3) (I r1 x3.toNatClampNeg) (I)))
def z_X9_looksAt_150 (F : Nat) (S : zS)  (x0 : Nat) (x1 : Int32) (x3 : Int32) (I : zI) : Option (zI) :=
  if 0 < (I x0 24) then (some (I)) else (ob (z_X9_does F S I x0 x1) (fun q1 => if (q1 x0 24) = 0 then (ob (S.1 x0 7) (fun r2 => if x3 < 0 ∨ (S.2.1 r2).2 ≤ x3.toNatClampNeg then none else (ob (z_X9_goesOn F S q1 (q1 r2 x3.toNatClampNeg)) (fun q4 => if q4 = 0 then (z_X9_looksAt_202 F S  (x0) (x1) (x3) (q1)) else (ob (S.1 x0 6) (fun r5 => if (q1 x0 21) < 0 ∨ (S.2.1 r5).2 ≤ (q1 x0 21).toNatClampNeg then none else (if (x1 + 1) = (q1 r5 (q1 x0 21).toNatClampNeg) then (ob (z_X9_fails F S q1 x0 5) (fun q7 => z_X9_looksAt_202 F S  (x0) (x1) (x3) (q7))) else (z_X9_looksAt_202 F S  (x0) (x1) (x3) (q1))))))))) else (z_X9_looksAt_202 F S  (x0) (x1) (x3) (q1))))
def z_X9_looksAt_83B (F : Nat) (S : zS) (k83 : Nat → Int32 → Int32 → Int32 → zI → Option (zI)) (x0 : Nat) (x1 : Int32) (x3 : Int32) (x4 : Int32) (I : zI) : Option (zI) :=
  ob (S.1 x0 10) (fun r1 => if (I x0 21) < 0 ∨ (S.2.1 r1).2 ≤ (I x0 21).toNatClampNeg then none else (if x4 < ((4 * (I x0 21)) + (I r1 (I x0 21).toNatClampNeg)) then (if (I x0 24) = 0 then (ob (z_X9_holds F S I x0 x4 x1) (fun q3 => if q3 = 0 then (k83 (x0) (x1) (x3) (x4 + 1) (I)) else (ob (z_X9_caughtState F S I x0 x4) (fun q4 => ob (S.1 x0 23) (fun r5 => ob (S.1 x0 13) (fun r6 => if x4 < 0 ∨ (S.2.1 r6).2 ≤ x4.toNatClampNeg then none else (ob (z_X9_looks F S q4 x0 r5 (q4 r6 x4.toNatClampNeg) x1 1) (fun q8 => k83 (x0) (x1) (x3) (x4 + 1) (q8))))))))) else (z_X9_looksAt_150 F S  (x0) (x1) (x3) (I))) else (z_X9_looksAt_150 F S  (x0) (x1) (x3) (I))))
def z_X9_looksAt_83 (F : Nat) (S : zS)  : Nat → Nat → Int32 → Int32 → Int32 → zI → Option (zI)
  | 0 => fun _ _ _ _ _ => none
  | n + 1 => fun x0 x1 x3 x4 I => z_X9_looksAt_83B F S  (z_X9_looksAt_83 F S  n) x0 x1 x3 x4 I
def z_X9_looksAt_75 (F : Nat) (S : zS)  (x0 : Nat) (x1 : Int32) (x3 : Int32) (I : zI) : Option (zI) :=
  z_X9_looksAt_83 F S  F (x0) (x1) (x3) (4 * (I x0 21)) (I)
def z_X9_looksAt_46 (F : Nat) (S : zS)  (x0 : Nat) (x1 : Int32) (x3 : Int32) (I : zI) : Option (zI) :=
  ob (S.1 x0 19) (fun r1 => ob (S.1 x0 22) (fun r2 => ob (z_X9_copy F S I r1 (20 * x3) r2 0) (fun q3 => z_X9_looksAt_75 F S  (x0) (x1) (x3) (q3))))
def z_X9_looksAt (F : Nat) (S : zS) (I : zI) (x0 : Nat) (x1 : Int32) (x2 : Int32) : Option (zI) :=
  ob (S.1 x0 18) (fun r1 => if ((40 * (I x0 21)) + x1) < 0 ∨ (S.2.1 r1).2 ≤ ((40 * (I x0 21)) + x1).toNatClampNeg then none else (if ((z_up I x0 24 0) r1 ((40 * (I x0 21)) + x1).toNatClampNeg) = 0 then (if x2 = 0 then (ob (z_X9_fails F S (z_up I x0 24 0) x0 8) (fun q3 => z_X9_looksAt_75 F S  (x0) (x1) ((40 * (I x0 21)) + x1) (q3))) else (z_X9_looksAt_75 F S  (x0) (x1) ((40 * (I x0 21)) + x1) (z_up I x0 24 0))) else (if x2 = 0 then (z_X9_looksAt_46 F S  (x0) (x1) ((40 * (I x0 21)) + x1) (z_up I x0 24 0)) else (ob (S.1 x0 22) (fun r4 => ob (z_X9_allFit F S (z_up I x0 24 0) x0 r4 ((40 * (I x0 21)) + x1)) (fun q5 => if q5 = 0 then (ob (z_X9_fails F S (z_up I x0 24 0) x0 9) (fun q6 => z_X9_looksAt_46 F S  (x0) (x1) ((40 * (I x0 21)) + x1) (q6))) else (z_X9_looksAt_46 F S  (x0) (x1) ((40 * (I x0 21)) + x1) (z_up I x0 24 0))))))))
set_option maxRecDepth 100000 in
set_option maxHeartbeats 4000000 in
theorem bb_X9_looksAt_210 {p : Program} {l : Launch} {e : Env} {s : State} {m : MethodId} {args : Array Value} {below : List Frame} {meth : Method} {c : Code} {D : zD} {b0 : Nat} {F : Nat} {S : zS} {X : zI} (hC : z_C p s m args meth c cX9_looksAt RX9 5 none D) (hT : z_T b0 S) (k210 : Nat → Int32 → Int32 → Int32 → zI → Option (zI)) (hk210 : ∀ (x0 : Nat) (x1 : Int32) (x3 : Int32) (x4 : Int32) (I : zI) , z_is b0 S x0 9 → k210 x0 x1 x3 x4 I = some X → ∀ ls : Array Slot, lv_has ls 5 [(0, .ref (x0)), (1, .int (x1)), (3, .int (x3)), (4, .int (x4))] → z_W p l e { frames := 5, cells := 0, slots := 0, locals := 115 } s m args below meth c D b0 S I 0 0 (MQ below (z_Q D b0 none S X) args s 0 0 (fun q => b0 ≤ q)) (F0 m 210 ls [])) (x0 : Nat) (x1 : Int32) (x3 : Int32) (x4 : Int32) (I : zI) (h_x0 : z_is b0 S x0 9) (hz : z_X9_looksAt_210B F S k210 x0 x1 x3 x4 I = some X) (ls : Array Slot) (hl : lv_has ls 5 [(0, .ref (x0)), (1, .int (x1)), (3, .int (x3)), (4, .int (x4))]) : z_W p l e { frames := 5, cells := 0, slots := 0, locals := 115 } s m args below meth c D b0 S I 0 0 (MQ below (z_Q D b0 none S X) args s 0 0 (fun q => b0 ≤ q)) (F0 m 210 ls []) := by
  unfold z_X9_looksAt_210B at hz
  refine z_aload_n hC dX9_looksAt_210 rfl (lv_at hl 0 rfl) ?_
  obtain ⟨r1, hr_r1, hz⟩ := ob_some hz
  have hk_r1 : z_is b0 S r1 10 := hT.at h_x0 hr_r1
  refine z_getR hC zc_9 7 (by decide) kw_744 dX9_looksAt_211 h_x0 rfl hr_r1 ?_
  refine z_iload_n hC dX9_looksAt_214 rfl (lv_at hl 2 rfl) ?_
  obtain ⟨hi2, hz⟩ := ifn_some hz
  refine z_iald hC dX9_looksAt_215 hk_r1 hi2 ?_
  obtain ⟨q3, hq_q3, hz⟩ := ob_some hz
  refine z_callS (As := [.int (I r1 x3.toNatClampNeg)]) hC hT (c_X9_jumps F (I r1 x3.toNatClampNeg)  hq_q3) zy_X9_jumps kw_967 kw_966 dX9_looksAt_216 rfl rfl hl.1 (Nat.le_of_ble_eq_true rfl) (by decide) (by decide) ?_
  refine z_if_eq (tgt := 258) hC dX9_looksAt_219 (by decide) hz (fun hz => ?_) (fun hz => ?_)
  · skip
    obtain rfl := Option.some.inj hz
    exact z_vret hC hT dX9_looksAt_258 (by decide) (by decide)
  · skip
    refine z_iload hC dX9_looksAt_222 (lv_at hl 3 rfl) ?_
    refine z_aload_n hC dX9_looksAt_224 rfl (lv_at hl 0 rfl) ?_
    obtain ⟨r4, hr_r4, hz⟩ := ob_some hz
    have hk_r4 : z_is b0 S r4 10 := hT.at h_x0 hr_r4
    refine z_getR hC zc_9 9 (by decide) kw_746 dX9_looksAt_225 h_x0 rfl hr_r4 ?_
    refine z_iload_n hC dX9_looksAt_228 rfl (lv_at hl 2 rfl) ?_
    obtain ⟨hi5, hz⟩ := ifn_some hz
    refine z_iald hC dX9_looksAt_229 hk_r4 hi5 ?_
    refine z_icmp_gt (tgt := 258) hC dX9_looksAt_230 (by decide) hz (fun hz => ?_) (fun hz => ?_)
    · skip
      obtain rfl := Option.some.inj hz
      exact z_vret hC hT dX9_looksAt_258 (by decide) (by decide)
    · skip
      refine z_aload_n hC dX9_looksAt_233 rfl (lv_at hl 0 rfl) ?_
      refine z_getI hC zc_9 24 (by decide) kw_761 dX9_looksAt_234 h_x0 rfl ?_
      refine z_if_ne (tgt := 258) hC dX9_looksAt_237 (by decide) hz (fun hz => ?_) (fun hz => ?_)
      · skip
        obtain rfl := Option.some.inj hz
        exact z_vret hC hT dX9_looksAt_258 (by decide) (by decide)
      · skip
        refine z_aload_n hC dX9_looksAt_240 rfl (lv_at hl 0 rfl) ?_
        refine z_aload_n hC dX9_looksAt_241 rfl (lv_at hl 0 rfl) ?_
        obtain ⟨r6, hr_r6, hz⟩ := ob_some hz
        have hk_r6 : z_is b0 S r6 10 := hT.at h_x0 hr_r6
        refine z_getR hC zc_9 22 (by decide) kw_759 dX9_looksAt_242 h_x0 rfl hr_r6 ?_
        refine z_iload hC dX9_looksAt_245 (lv_at hl 3 rfl) ?_
        refine z_iload_n hC dX9_looksAt_247 rfl (lv_at hl 1 rfl) ?_
        refine z_iconst (v := 0) hC dX9_looksAt_248 (by decide) ?_
        obtain ⟨q7, hq_q7, hz⟩ := ob_some hz
        refine z_callV (As := [.ref (r6), .int (x4), .int (x1), .int (0)]) hC hT (c_X9_looks F x0 r6 x4 x1 0 h_x0 hk_r6 hq_q7) zy_X9_looks zc_9 zv_X9_looks kw_1035 dX9_looksAt_249 h_x0 rfl rfl hl.1 (Nat.le_of_ble_eq_true rfl) (by decide) (by decide) ?_
        refine z_iinc (k0 := 3) (v := x4 + 1) (lv' := [(4, .int (x4 + 1)), (0, .ref (x0)), (1, .int (x1)), (3, .int (x3))]) hC dX9_looksAt_252 hl rfl rfl (by decide) rfl (fun ls hl => ?_)
        refine z_goto (tgt := 210) hC dX9_looksAt_255 (by decide) ?_
        exact hk210 (x0) (x1) (x3) (x4 + 1) (q7) h_x0 hz ls (lv_sub hl [1, 2, 3, 0] rfl)
set_option maxRecDepth 100000 in
set_option maxHeartbeats 4000000 in
theorem b_X9_looksAt_210 {p : Program} {l : Launch} {e : Env} {s : State} {m : MethodId} {args : Array Value} {below : List Frame} {meth : Method} {c : Code} {D : zD} {b0 : Nat} {F : Nat} {S : zS} {X : zI} (hC : z_C p s m args meth c cX9_looksAt RX9 5 none D) (hT : z_T b0 S)   : ∀ (n : Nat) (x0 : Nat) (x1 : Int32) (x3 : Int32) (x4 : Int32) (I : zI), z_is b0 S x0 9 → z_X9_looksAt_210 F S  n x0 x1 x3 x4 I = some X → ∀ ls : Array Slot, lv_has ls 5 [(0, .ref (x0)), (1, .int (x1)), (3, .int (x3)), (4, .int (x4))] → z_W p l e { frames := 5, cells := 0, slots := 0, locals := 115 } s m args below meth c D b0 S I 0 0 (MQ below (z_Q D b0 none S X) args s 0 0 (fun q => b0 ≤ q)) (F0 m 210 ls []) := by
  intro n
  induction n with
  | zero => intro x0 x1 x3 x4 I h_x0 hz; cases hz
  | succ n ih =>
    intro x0 x1 x3 x4 I h_x0 hz ls hl
    exact bb_X9_looksAt_210 (F := F) hC hT  (z_X9_looksAt_210 F S  n)  ih x0 x1 x3 x4 I h_x0 hz ls hl
set_option maxRecDepth 100000 in
set_option maxHeartbeats 4000000 in
theorem b_X9_looksAt_202 {p : Program} {l : Launch} {e : Env} {s : State} {m : MethodId} {args : Array Value} {below : List Frame} {meth : Method} {c : Code} {D : zD} {b0 : Nat} {F : Nat} {S : zS} {X : zI} (hC : z_C p s m args meth c cX9_looksAt RX9 5 none D) (hT : z_T b0 S)   (x0 : Nat) (x1 : Int32) (x3 : Int32) (I : zI) (h_x0 : z_is b0 S x0 9) (hz : z_X9_looksAt_202 F S  x0 x1 x3 I = some X) (ls : Array Slot) (hl : lv_has ls 5 [(0, .ref (x0)), (1, .int (x1)), (3, .int (x3))]) : z_W p l e { frames := 5, cells := 0, slots := 0, locals := 115 } s m args below meth c D b0 S I 0 0 (MQ below (z_Q D b0 none S X) args s 0 0 (fun q => b0 ≤ q)) (F0 m 202 ls []) := by
  unfold z_X9_looksAt_202 at hz
  refine z_aload_n hC dX9_looksAt_202 rfl (lv_at hl 0 rfl) ?_
  obtain ⟨r1, hr_r1, hz⟩ := ob_some hz
  have hk_r1 : z_is b0 S r1 10 := hT.at h_x0 hr_r1
  refine z_getR hC zc_9 8 (by decide) kw_745 dX9_looksAt_203 h_x0 rfl hr_r1 ?_
  refine z_iload_n hC dX9_looksAt_206 rfl (lv_at hl 2 rfl) ?_
  obtain ⟨hi2, hz⟩ := ifn_some hz
  refine z_iald hC dX9_looksAt_207 hk_r1 hi2 ?_
  refine z_istore (lv' := [(4, .int (I r1 x3.toNatClampNeg)), (0, .ref (x0)), (1, .int (x1)), (3, .int (x3))]) hC dX9_looksAt_208 hl (by decide) rfl (fun ls hl => ?_)
  exact b_X9_looksAt_210 hC hT   F (x0) (x1) (x3) (I r1 x3.toNatClampNeg) (I) h_x0 hz ls (lv_sub hl [1, 2, 3, 0] rfl)
set_option maxRecDepth 100000 in
set_option maxHeartbeats 4000000 in
theorem b_X9_looksAt_150 {p : Program} {l : Launch} {e : Env} {s : State} {m : MethodId} {args : Array Value} {below : List Frame} {meth : Method} {c : Code} {D : zD} {b0 : Nat} {F : Nat} {S : zS} {X : zI} (hC : z_C p s m args meth c cX9_looksAt RX9 5 none D) (hT : z_T b0 S)   (x0 : Nat) (x1 : Int32) (x3 : Int32) (I : zI) (h_x0 : z_is b0 S x0 9) (hz : z_X9_looksAt_150 F S  x0 x1 x3 I = some X) (ls : Array Slot) (hl : lv_has ls 5 [(0, .ref (x0)), (1, .int (x1)), (3, .int (x3))]) : z_W p l e { frames := 5, cells := 0, slots := 0, locals := 115 } s m args below meth c D b0 S I 0 0 (MQ below (z_Q D b0 none S X) args s 0 0 (fun q => b0 ≤ q)) (F0 m 150 ls []) := by
  unfold z_X9_looksAt_150 at hz
  refine z_aload_n hC dX9_looksAt_150 rfl (lv_at hl 0 rfl) ?_
  refine z_getI hC zc_9 24 (by decide) kw_761 dX9_looksAt_151 h_x0 rfl ?_
  refine z_if_le (tgt := 158) hC dX9_looksAt_154 (by decide) hz (fun hz => ?_) (fun hz => ?_)
  · skip
    refine z_aload_n hC dX9_looksAt_158 rfl (lv_at hl 0 rfl) ?_
    refine z_iload_n hC dX9_looksAt_159 rfl (lv_at hl 1 rfl) ?_
    obtain ⟨q1, hq_q1, hz⟩ := ob_some hz
    refine z_callV (As := [.int (x1)]) hC hT (c_X9_does F x0 x1 h_x0 hq_q1) zy_X9_does zc_9 zv_X9_does kw_920 dX9_looksAt_160 h_x0 rfl rfl hl.1 (Nat.le_of_ble_eq_true rfl) (by decide) (by decide) ?_
    refine z_aload_n hC dX9_looksAt_163 rfl (lv_at hl 0 rfl) ?_
    refine z_getI hC zc_9 24 (by decide) kw_761 dX9_looksAt_164 h_x0 rfl ?_
    refine z_if_ne (tgt := 202) hC dX9_looksAt_167 (by decide) hz (fun hz => ?_) (fun hz => ?_)
    · skip
      exact b_X9_looksAt_202 hC hT   (x0) (x1) (x3) (q1) h_x0 hz ls (lv_sub hl [0, 1, 2] rfl)
    · skip
      refine z_aload_n hC dX9_looksAt_170 rfl (lv_at hl 0 rfl) ?_
      obtain ⟨r2, hr_r2, hz⟩ := ob_some hz
      have hk_r2 : z_is b0 S r2 10 := hT.at h_x0 hr_r2
      refine z_getR hC zc_9 7 (by decide) kw_744 dX9_looksAt_171 h_x0 rfl hr_r2 ?_
      refine z_iload_n hC dX9_looksAt_174 rfl (lv_at hl 2 rfl) ?_
      obtain ⟨hi3, hz⟩ := ifn_some hz
      refine z_iald hC dX9_looksAt_175 hk_r2 hi3 ?_
      obtain ⟨q4, hq_q4, hz⟩ := ob_some hz
      refine z_callS (As := [.int (q1 r2 x3.toNatClampNeg)]) hC hT (c_X9_goesOn F (q1 r2 x3.toNatClampNeg)  hq_q4) zy_X9_goesOn kw_964 kw_963 dX9_looksAt_176 rfl rfl hl.1 (Nat.le_of_ble_eq_true rfl) (by decide) (by decide) ?_
      refine z_if_eq (tgt := 202) hC dX9_looksAt_179 (by decide) hz (fun hz => ?_) (fun hz => ?_)
      · skip
        exact b_X9_looksAt_202 hC hT   (x0) (x1) (x3) (q1) h_x0 hz ls (lv_sub hl [0, 1, 2] rfl)
      · skip
        refine z_iload_n hC dX9_looksAt_182 rfl (lv_at hl 1 rfl) ?_
        refine z_iconst (v := 1) hC dX9_looksAt_183 (by decide) ?_
        refine z_iadd hC dX9_looksAt_184 ?_
        refine z_aload_n hC dX9_looksAt_185 rfl (lv_at hl 0 rfl) ?_
        obtain ⟨r5, hr_r5, hz⟩ := ob_some hz
        have hk_r5 : z_is b0 S r5 10 := hT.at h_x0 hr_r5
        refine z_getR hC zc_9 6 (by decide) kw_743 dX9_looksAt_186 h_x0 rfl hr_r5 ?_
        refine z_aload_n hC dX9_looksAt_189 rfl (lv_at hl 0 rfl) ?_
        refine z_getI hC zc_9 21 (by decide) kw_758 dX9_looksAt_190 h_x0 rfl ?_
        obtain ⟨hi6, hz⟩ := ifn_some hz
        refine z_iald hC dX9_looksAt_193 hk_r5 hi6 ?_
        refine z_icmp_ne (tgt := 202) hC dX9_looksAt_194 (by decide) hz (fun hz => ?_) (fun hz => ?_)
        · skip
          exact b_X9_looksAt_202 hC hT   (x0) (x1) (x3) (q1) h_x0 hz ls (lv_sub hl [0, 1, 2] rfl)
        · skip
          refine z_aload_n hC dX9_looksAt_197 rfl (lv_at hl 0 rfl) ?_
          refine z_iconst (v := 5) hC dX9_looksAt_198 (by decide) ?_
          obtain ⟨q7, hq_q7, hz⟩ := ob_some hz
          refine z_callV (As := [.int (5)]) hC hT (c_X9_fails F x0 5 h_x0 hq_q7) zy_X9_fails zc_9 zv_X9_fails kw_908 dX9_looksAt_199 h_x0 rfl rfl hl.1 (Nat.le_of_ble_eq_true rfl) (by decide) (by decide) ?_
          exact b_X9_looksAt_202 hC hT   (x0) (x1) (x3) (q7) h_x0 hz ls (lv_sub hl [0, 1, 2] rfl)
  · skip
    obtain rfl := Option.some.inj hz
    exact z_vret hC hT dX9_looksAt_157 (by decide) (by decide)
set_option maxRecDepth 100000 in
set_option maxHeartbeats 4000000 in
theorem bb_X9_looksAt_83 {p : Program} {l : Launch} {e : Env} {s : State} {m : MethodId} {args : Array Value} {below : List Frame} {meth : Method} {c : Code} {D : zD} {b0 : Nat} {F : Nat} {S : zS} {X : zI} (hC : z_C p s m args meth c cX9_looksAt RX9 5 none D) (hT : z_T b0 S) (k83 : Nat → Int32 → Int32 → Int32 → zI → Option (zI)) (hk83 : ∀ (x0 : Nat) (x1 : Int32) (x3 : Int32) (x4 : Int32) (I : zI) , z_is b0 S x0 9 → k83 x0 x1 x3 x4 I = some X → ∀ ls : Array Slot, lv_has ls 5 [(0, .ref (x0)), (1, .int (x1)), (3, .int (x3)), (4, .int (x4))] → z_W p l e { frames := 5, cells := 0, slots := 0, locals := 115 } s m args below meth c D b0 S I 0 0 (MQ below (z_Q D b0 none S X) args s 0 0 (fun q => b0 ≤ q)) (F0 m 83 ls [])) (x0 : Nat) (x1 : Int32) (x3 : Int32) (x4 : Int32) (I : zI) (h_x0 : z_is b0 S x0 9) (hz : z_X9_looksAt_83B F S k83 x0 x1 x3 x4 I = some X) (ls : Array Slot) (hl : lv_has ls 5 [(0, .ref (x0)), (1, .int (x1)), (3, .int (x3)), (4, .int (x4))]) : z_W p l e { frames := 5, cells := 0, slots := 0, locals := 115 } s m args below meth c D b0 S I 0 0 (MQ below (z_Q D b0 none S X) args s 0 0 (fun q => b0 ≤ q)) (F0 m 83 ls []) := by
  unfold z_X9_looksAt_83B at hz
  refine z_iload hC dX9_looksAt_83 (lv_at hl 3 rfl) ?_
  refine z_iconst (v := 4) hC dX9_looksAt_85 (by decide) ?_
  refine z_aload_n hC dX9_looksAt_86 rfl (lv_at hl 0 rfl) ?_
  refine z_getI hC zc_9 21 (by decide) kw_758 dX9_looksAt_87 h_x0 rfl ?_
  refine z_imul hC dX9_looksAt_90 ?_
  refine z_aload_n hC dX9_looksAt_91 rfl (lv_at hl 0 rfl) ?_
  obtain ⟨r1, hr_r1, hz⟩ := ob_some hz
  have hk_r1 : z_is b0 S r1 10 := hT.at h_x0 hr_r1
  refine z_getR hC zc_9 10 (by decide) kw_747 dX9_looksAt_92 h_x0 rfl hr_r1 ?_
  refine z_aload_n hC dX9_looksAt_95 rfl (lv_at hl 0 rfl) ?_
  refine z_getI hC zc_9 21 (by decide) kw_758 dX9_looksAt_96 h_x0 rfl ?_
  obtain ⟨hi2, hz⟩ := ifn_some hz
  refine z_iald hC dX9_looksAt_99 hk_r1 hi2 ?_
  refine z_iadd hC dX9_looksAt_100 ?_
  refine z_icmp_ge (tgt := 150) hC dX9_looksAt_101 (by decide) hz (fun hz => ?_) (fun hz => ?_)
  · skip
    exact b_X9_looksAt_150 hC hT   (x0) (x1) (x3) (I) h_x0 hz ls (lv_sub hl [0, 1, 2] rfl)
  · skip
    refine z_aload_n hC dX9_looksAt_104 rfl (lv_at hl 0 rfl) ?_
    refine z_getI hC zc_9 24 (by decide) kw_761 dX9_looksAt_105 h_x0 rfl ?_
    refine z_if_ne (tgt := 150) hC dX9_looksAt_108 (by decide) hz (fun hz => ?_) (fun hz => ?_)
    · skip
      exact b_X9_looksAt_150 hC hT   (x0) (x1) (x3) (I) h_x0 hz ls (lv_sub hl [0, 1, 2] rfl)
    · skip
      refine z_aload_n hC dX9_looksAt_111 rfl (lv_at hl 0 rfl) ?_
      refine z_iload hC dX9_looksAt_112 (lv_at hl 3 rfl) ?_
      refine z_iload_n hC dX9_looksAt_114 rfl (lv_at hl 1 rfl) ?_
      obtain ⟨q3, hq_q3, hz⟩ := ob_some hz
      refine z_callV (As := [.int (x4), .int (x1)]) hC hT (c_X9_holds F x0 x4 x1 h_x0 hq_q3) zy_X9_holds zc_9 zv_X9_holds kw_893 dX9_looksAt_115 h_x0 rfl rfl hl.1 (Nat.le_of_ble_eq_true rfl) (by decide) (by decide) ?_
      refine z_if_eq (tgt := 144) hC dX9_looksAt_118 (by decide) hz (fun hz => ?_) (fun hz => ?_)
      · skip
        refine z_iinc (k0 := 3) (v := x4 + 1) (lv' := [(4, .int (x4 + 1)), (0, .ref (x0)), (1, .int (x1)), (3, .int (x3))]) hC dX9_looksAt_144 hl rfl rfl (by decide) rfl (fun ls hl => ?_)
        refine z_goto (tgt := 83) hC dX9_looksAt_147 (by decide) ?_
        exact hk83 (x0) (x1) (x3) (x4 + 1) (I) h_x0 hz ls (lv_sub hl [1, 2, 3, 0] rfl)
      · skip
        refine z_aload_n hC dX9_looksAt_121 rfl (lv_at hl 0 rfl) ?_
        refine z_iload hC dX9_looksAt_122 (lv_at hl 3 rfl) ?_
        obtain ⟨q4, hq_q4, hz⟩ := ob_some hz
        refine z_callV (As := [.int (x4)]) hC hT (c_X9_caughtState F x0 x4 h_x0 hq_q4) zy_X9_caughtState zc_9 zv_X9_caughtState kw_897 dX9_looksAt_124 h_x0 rfl rfl hl.1 (Nat.le_of_ble_eq_true rfl) (by decide) (by decide) ?_
        refine z_aload_n hC dX9_looksAt_127 rfl (lv_at hl 0 rfl) ?_
        refine z_aload_n hC dX9_looksAt_128 rfl (lv_at hl 0 rfl) ?_
        obtain ⟨r5, hr_r5, hz⟩ := ob_some hz
        have hk_r5 : z_is b0 S r5 10 := hT.at h_x0 hr_r5
        refine z_getR hC zc_9 23 (by decide) kw_760 dX9_looksAt_129 h_x0 rfl hr_r5 ?_
        refine z_aload_n hC dX9_looksAt_132 rfl (lv_at hl 0 rfl) ?_
        obtain ⟨r6, hr_r6, hz⟩ := ob_some hz
        have hk_r6 : z_is b0 S r6 10 := hT.at h_x0 hr_r6
        refine z_getR hC zc_9 13 (by decide) kw_750 dX9_looksAt_133 h_x0 rfl hr_r6 ?_
        refine z_iload hC dX9_looksAt_136 (lv_at hl 3 rfl) ?_
        obtain ⟨hi7, hz⟩ := ifn_some hz
        refine z_iald hC dX9_looksAt_138 hk_r6 hi7 ?_
        refine z_iload_n hC dX9_looksAt_139 rfl (lv_at hl 1 rfl) ?_
        refine z_iconst (v := 1) hC dX9_looksAt_140 (by decide) ?_
        obtain ⟨q8, hq_q8, hz⟩ := ob_some hz
        refine z_callV (As := [.ref (r5), .int (q4 r6 x4.toNatClampNeg), .int (x1), .int (1)]) hC hT (c_X9_looks F x0 r5 (q4 r6 x4.toNatClampNeg) x1 1 h_x0 hk_r5 hq_q8) zy_X9_looks zc_9 zv_X9_looks kw_1035 dX9_looksAt_141 h_x0 rfl rfl hl.1 (Nat.le_of_ble_eq_true rfl) (by decide) (by decide) ?_
        refine z_iinc (k0 := 3) (v := x4 + 1) (lv' := [(4, .int (x4 + 1)), (0, .ref (x0)), (1, .int (x1)), (3, .int (x3))]) hC dX9_looksAt_144 hl rfl rfl (by decide) rfl (fun ls hl => ?_)
        refine z_goto (tgt := 83) hC dX9_looksAt_147 (by decide) ?_
        exact hk83 (x0) (x1) (x3) (x4 + 1) (q8) h_x0 hz ls (lv_sub hl [1, 2, 3, 0] rfl)
set_option maxRecDepth 100000 in
set_option maxHeartbeats 4000000 in
theorem b_X9_looksAt_83 {p : Program} {l : Launch} {e : Env} {s : State} {m : MethodId} {args : Array Value} {below : List Frame} {meth : Method} {c : Code} {D : zD} {b0 : Nat} {F : Nat} {S : zS} {X : zI} (hC : z_C p s m args meth c cX9_looksAt RX9 5 none D) (hT : z_T b0 S)   : ∀ (n : Nat) (x0 : Nat) (x1 : Int32) (x3 : Int32) (x4 : Int32) (I : zI), z_is b0 S x0 9 → z_X9_looksAt_83 F S  n x0 x1 x3 x4 I = some X → ∀ ls : Array Slot, lv_has ls 5 [(0, .ref (x0)), (1, .int (x1)), (3, .int (x3)), (4, .int (x4))] → z_W p l e { frames := 5, cells := 0, slots := 0, locals := 115 } s m args below meth c D b0 S I 0 0 (MQ below (z_Q D b0 none S X) args s 0 0 (fun q => b0 ≤ q)) (F0 m 83 ls []) := by
  intro n
  induction n with
  | zero => intro x0 x1 x3 x4 I h_x0 hz; cases hz
  | succ n ih =>
    intro x0 x1 x3 x4 I h_x0 hz ls hl
    exact bb_X9_looksAt_83 (F := F) hC hT  (z_X9_looksAt_83 F S  n)  ih x0 x1 x3 x4 I h_x0 hz ls hl
set_option maxRecDepth 100000 in
set_option maxHeartbeats 4000000 in
theorem b_X9_looksAt_75 {p : Program} {l : Launch} {e : Env} {s : State} {m : MethodId} {args : Array Value} {below : List Frame} {meth : Method} {c : Code} {D : zD} {b0 : Nat} {F : Nat} {S : zS} {X : zI} (hC : z_C p s m args meth c cX9_looksAt RX9 5 none D) (hT : z_T b0 S)   (x0 : Nat) (x1 : Int32) (x3 : Int32) (I : zI) (h_x0 : z_is b0 S x0 9) (hz : z_X9_looksAt_75 F S  x0 x1 x3 I = some X) (ls : Array Slot) (hl : lv_has ls 5 [(0, .ref (x0)), (1, .int (x1)), (3, .int (x3))]) : z_W p l e { frames := 5, cells := 0, slots := 0, locals := 115 } s m args below meth c D b0 S I 0 0 (MQ below (z_Q D b0 none S X) args s 0 0 (fun q => b0 ≤ q)) (F0 m 75 ls []) := by
  unfold z_X9_looksAt_75 at hz
  refine z_iconst (v := 4) hC dX9_looksAt_75 (by decide) ?_
  refine z_aload_n hC dX9_looksAt_76 rfl (lv_at hl 0 rfl) ?_
  refine z_getI hC zc_9 21 (by decide) kw_758 dX9_looksAt_77 h_x0 rfl ?_
  refine z_imul hC dX9_looksAt_80 ?_
  refine z_istore (lv' := [(4, .int (4 * (I x0 21))), (0, .ref (x0)), (1, .int (x1)), (3, .int (x3))]) hC dX9_looksAt_81 hl (by decide) rfl (fun ls hl => ?_)
  exact b_X9_looksAt_83 hC hT   F (x0) (x1) (x3) (4 * (I x0 21)) (I) h_x0 hz ls (lv_sub hl [1, 2, 3, 0] rfl)
set_option maxRecDepth 100000 in
set_option maxHeartbeats 4000000 in
theorem b_X9_looksAt_46 {p : Program} {l : Launch} {e : Env} {s : State} {m : MethodId} {args : Array Value} {below : List Frame} {meth : Method} {c : Code} {D : zD} {b0 : Nat} {F : Nat} {S : zS} {X : zI} (hC : z_C p s m args meth c cX9_looksAt RX9 5 none D) (hT : z_T b0 S)   (x0 : Nat) (x1 : Int32) (x3 : Int32) (I : zI) (h_x0 : z_is b0 S x0 9) (hz : z_X9_looksAt_46 F S  x0 x1 x3 I = some X) (ls : Array Slot) (hl : lv_has ls 5 [(0, .ref (x0)), (1, .int (x1)), (3, .int (x3))]) : z_W p l e { frames := 5, cells := 0, slots := 0, locals := 115 } s m args below meth c D b0 S I 0 0 (MQ below (z_Q D b0 none S X) args s 0 0 (fun q => b0 ≤ q)) (F0 m 46 ls []) := by
  unfold z_X9_looksAt_46 at hz
  refine z_aload_n hC dX9_looksAt_46 rfl (lv_at hl 0 rfl) ?_
  obtain ⟨r1, hr_r1, hz⟩ := ob_some hz
  have hk_r1 : z_is b0 S r1 10 := hT.at h_x0 hr_r1
  refine z_getR hC zc_9 19 (by decide) kw_756 dX9_looksAt_47 h_x0 rfl hr_r1 ?_
  refine z_bipush (v := 20) hC dX9_looksAt_50 (by decide) ?_
  refine z_iload_n hC dX9_looksAt_52 rfl (lv_at hl 2 rfl) ?_
  refine z_imul hC dX9_looksAt_53 ?_
  refine z_aload_n hC dX9_looksAt_54 rfl (lv_at hl 0 rfl) ?_
  obtain ⟨r2, hr_r2, hz⟩ := ob_some hz
  have hk_r2 : z_is b0 S r2 10 := hT.at h_x0 hr_r2
  refine z_getR hC zc_9 22 (by decide) kw_759 dX9_looksAt_55 h_x0 rfl hr_r2 ?_
  refine z_iconst (v := 0) hC dX9_looksAt_58 (by decide) ?_
  obtain ⟨q3, hq_q3, hz⟩ := ob_some hz
  refine z_callS (As := [.ref (r1), .int (20 * x3), .ref (r2), .int (0)]) hC hT (c_X9_copy F r1 (20 * x3) r2 0 hk_r1 hk_r2 hq_q3) zy_X9_copy kw_887 kw_886 dX9_looksAt_59 rfl rfl hl.1 (Nat.le_of_ble_eq_true rfl) (by decide) (by decide) ?_
  refine z_goto (tgt := 75) hC dX9_looksAt_62 (by decide) ?_
  exact b_X9_looksAt_75 hC hT   (x0) (x1) (x3) (q3) h_x0 hz ls (lv_sub hl [0, 1, 2] rfl)
set_option maxRecDepth 100000 in
set_option maxHeartbeats 4000000 in
theorem c_X9_looksAt {l : Launch} {D : zD} {b0 : Nat} {S : zS} {I : zI} {X : zI} (F : Nat) (x0 : Nat) (x1 : Int32) (x2 : Int32) (h_x0 : z_is b0 S x0 9) (hz : z_X9_looksAt F S I x0 x1 x2 = some X) : z_M l D b0 yX9_looksAt cX9_looksAt 5 none { frames := 5, cells := 0, slots := 0, locals := 115 } [.ref (x0), .int (x1), .int (x2)] S I none S X := by
  refine z_met (by decide) (Nat.le_of_ble_eq_true rfl) ?_
  intro p e s m below meth c hC hnm hT ls hl
  have hl : lv_has ls 5 [(0, .ref (x0)), (1, .int (x1)), (2, .int (x2))] := hl
  unfold z_X9_looksAt at hz
  refine z_bipush (v := 40) hC dX9_looksAt_0 (by decide) ?_
  refine z_aload_n hC dX9_looksAt_2 rfl (lv_at hl 0 rfl) ?_
  refine z_getI hC zc_9 21 (by decide) kw_758 dX9_looksAt_3 h_x0 rfl ?_
  refine z_imul hC dX9_looksAt_6 ?_
  refine z_iload_n hC dX9_looksAt_7 rfl (lv_at hl 1 rfl) ?_
  refine z_iadd hC dX9_looksAt_8 ?_
  refine z_istore_n (lv' := [(3, .int ((40 * (I x0 21)) + x1)), (0, .ref (x0)), (1, .int (x1)), (2, .int (x2))]) hC dX9_looksAt_9 rfl hl (by decide) rfl (fun ls hl => ?_)
  refine z_aload_n hC dX9_looksAt_10 rfl (lv_at hl 1 rfl) ?_
  refine z_iconst (v := 0) hC dX9_looksAt_11 (by decide) ?_
  refine z_putI hC zc_9 24 (by decide) kw_761 dX9_looksAt_12 h_x0 rfl rfl rfl rfl ?_
  refine z_aload_n hC dX9_looksAt_15 rfl (lv_at hl 1 rfl) ?_
  obtain ⟨r1, hr_r1, hz⟩ := ob_some hz
  have hk_r1 : z_is b0 S r1 11 := hT.at h_x0 hr_r1
  refine z_getR hC zc_9 18 (by decide) kw_755 dX9_looksAt_16 h_x0 rfl hr_r1 ?_
  refine z_iload_n hC dX9_looksAt_19 rfl (lv_at hl 0 rfl) ?_
  obtain ⟨hi2, hz⟩ := ifn_some hz
  refine z_zald hC dX9_looksAt_20 hk_r1 hi2 ?_
  refine z_if_eq (tgt := 65) hC dX9_looksAt_21 (by decide) hz (fun hz => ?_) (fun hz => ?_)
  · skip
    refine z_iload_n hC dX9_looksAt_65 rfl (lv_at hl 3 rfl) ?_
    refine z_if_ne (tgt := 75) hC dX9_looksAt_66 (by decide) hz (fun hz => ?_) (fun hz => ?_)
    · skip
      exact b_X9_looksAt_75 hC hT   (x0) (x1) ((40 * (I x0 21)) + x1) (z_up I x0 24 0) h_x0 hz ls (lv_sub hl [1, 2, 0] rfl)
    · skip
      refine z_aload_n hC dX9_looksAt_69 rfl (lv_at hl 1 rfl) ?_
      refine z_bipush (v := 8) hC dX9_looksAt_70 (by decide) ?_
      obtain ⟨q3, hq_q3, hz⟩ := ob_some hz
      refine z_callV (As := [.int (8)]) hC hT (c_X9_fails F x0 8 h_x0 hq_q3) zy_X9_fails zc_9 zv_X9_fails kw_908 dX9_looksAt_72 h_x0 rfl rfl hl.1 (Nat.le_of_ble_eq_true rfl) (by decide) (by decide) ?_
      exact b_X9_looksAt_75 hC hT   (x0) (x1) ((40 * (I x0 21)) + x1) (q3) h_x0 hz ls (lv_sub hl [1, 2, 0] rfl)
  · skip
    refine z_iload_n hC dX9_looksAt_24 rfl (lv_at hl 3 rfl) ?_
    refine z_if_eq (tgt := 46) hC dX9_looksAt_25 (by decide) hz (fun hz => ?_) (fun hz => ?_)
    · skip
      exact b_X9_looksAt_46 hC hT   (x0) (x1) ((40 * (I x0 21)) + x1) (z_up I x0 24 0) h_x0 hz ls (lv_sub hl [1, 2, 0] rfl)
    · skip
      refine z_aload_n hC dX9_looksAt_28 rfl (lv_at hl 1 rfl) ?_
      refine z_aload_n hC dX9_looksAt_29 rfl (lv_at hl 1 rfl) ?_
      obtain ⟨r4, hr_r4, hz⟩ := ob_some hz
      have hk_r4 : z_is b0 S r4 10 := hT.at h_x0 hr_r4
      refine z_getR hC zc_9 22 (by decide) kw_759 dX9_looksAt_30 h_x0 rfl hr_r4 ?_
      refine z_iload_n hC dX9_looksAt_33 rfl (lv_at hl 0 rfl) ?_
      obtain ⟨q5, hq_q5, hz⟩ := ob_some hz
      refine z_callV (As := [.ref (r4), .int ((40 * (I x0 21)) + x1)]) hC hT (c_X9_allFit F x0 r4 ((40 * (I x0 21)) + x1) h_x0 hk_r4 hq_q5) zy_X9_allFit zc_9 zv_X9_allFit kw_1027 dX9_looksAt_34 h_x0 rfl rfl hl.1 (Nat.le_of_ble_eq_true rfl) (by decide) (by decide) ?_
      refine z_if_ne (tgt := 46) hC dX9_looksAt_37 (by decide) hz (fun hz => ?_) (fun hz => ?_)
      · skip
        exact b_X9_looksAt_46 hC hT   (x0) (x1) ((40 * (I x0 21)) + x1) (z_up I x0 24 0) h_x0 hz ls (lv_sub hl [1, 2, 0] rfl)
      · skip
        refine z_aload_n hC dX9_looksAt_40 rfl (lv_at hl 1 rfl) ?_
        refine z_bipush (v := 9) hC dX9_looksAt_41 (by decide) ?_
        obtain ⟨q6, hq_q6, hz⟩ := ob_some hz
        refine z_callV (As := [.int (9)]) hC hT (c_X9_fails F x0 9 h_x0 hq_q6) zy_X9_fails zc_9 zv_X9_fails kw_908 dX9_looksAt_43 h_x0 rfl rfl hl.1 (Nat.le_of_ble_eq_true rfl) (by decide) (by decide) ?_
        exact b_X9_looksAt_46 hC hT   (x0) (x1) ((40 * (I x0 21)) + x1) (q6) h_x0 hz ls (lv_sub hl [1, 2, 0] rfl)
theorem zy_X9_verify : z_y yX9_verify cX9_verify 4 (some .int) 1 := ⟨kw_1022, kw_8, by decide +kernel, by decide +kernel, by decide +kernel⟩
theorem zv_X9_verify : Cond.instanceMethod yX9_verify ∈ z_tbl ∧ Cond.selects RX9 yX9_verify yX9_verify ∈ z_tbl := ⟨kw_1020, kw_1021⟩
def z_X9_verify_38B (F : Nat) (S : zS) (k38 : Nat → Int32 → Int32 → Int32 → zI → Option (Int32 × zI)) (x0 : Nat) (x1 : Int32) (x2 : Int32) (x3 : Int32) (I : zI) : Option (Int32 × zI) :=
  ob (S.1 x0 6) (fun r1 => if x1 < 0 ∨ (S.2.1 r1).2 ≤ x1.toNatClampNeg then none else (if x3 < (I r1 x1.toNatClampNeg) then (ob (z_X9_looksAt F S I x0 x3 x2) (fun q3 => if 0 < (q3 x0 24) then (some ((-10) - x3, z_up q3 x0 20 (q3 x0 24))) else (ob (S.1 x0 7) (fun r4 => if ((40 * x1) + x3) < 0 ∨ (S.2.1 r4).2 ≤ ((40 * x1) + x3).toNatClampNeg then none else (ob (z_X9_goesOn F S q3 (q3 r4 ((40 * x1) + x3).toNatClampNeg)) (fun q6 => k38 (x0) (x1) (q6) (x3 + 1) (q3))))))) else (some (0, z_up I x0 20 0))))
def z_X9_verify_38 (F : Nat) (S : zS)  : Nat → Nat → Int32 → Int32 → Int32 → zI → Option (Int32 × zI)
  | 0 => fun _ _ _ _ _ => none
  | n + 1 => fun x0 x1 x2 x3 I => z_X9_verify_38B F S  (z_X9_verify_38 F S  n) x0 x1 x2 x3 I
def z_X9_verify (F : Nat) (S : zS) (I : zI) (x0 : Nat) (x1 : Int32) : Option (Int32 × zI) :=
  ob (z_X9_isMethod F S I x1) (fun q1 => if q1 = 0 then (some ((-1), I)) else (ob (S.1 x0 15) (fun r2 => if x1 < 0 ∨ (S.2.1 r2).2 ≤ x1.toNatClampNeg then none else (if (I r2 x1.toNatClampNeg) = 0 then (some ((-3), I)) else (ob (S.1 x0 22) (fun r4 => ob (z_X9_beginning F S (z_up I x0 21 x1) x0 r4) (fun q5 => z_X9_verify_38 F S  F (x0) (x1) (1) (0) (q5))))))))
set_option maxRecDepth 100000 in
set_option maxHeartbeats 4000000 in
theorem bb_X9_verify_38 {p : Program} {l : Launch} {e : Env} {s : State} {m : MethodId} {args : Array Value} {below : List Frame} {meth : Method} {c : Code} {D : zD} {b0 : Nat} {F : Nat} {S : zS} {X : Int32 × zI} (hC : z_C p s m args meth c cX9_verify RX9 4 (some .int) D) (hT : z_T b0 S) (k38 : Nat → Int32 → Int32 → Int32 → zI → Option (Int32 × zI)) (hk38 : ∀ (x0 : Nat) (x1 : Int32) (x2 : Int32) (x3 : Int32) (I : zI) , z_is b0 S x0 9 → k38 x0 x1 x2 x3 I = some X → ∀ ls : Array Slot, lv_has ls 4 [(0, .ref (x0)), (1, .int (x1)), (2, .int (x2)), (3, .int (x3))] → z_W p l e { frames := 6, cells := 0, slots := 0, locals := 139 } s m args below meth c D b0 S I 0 0 (MQ below (z_Q D b0 (some (.int (X.1))) S X.2) args s 0 0 (fun q => b0 ≤ q)) (F0 m 38 ls [])) (x0 : Nat) (x1 : Int32) (x2 : Int32) (x3 : Int32) (I : zI) (h_x0 : z_is b0 S x0 9) (hz : z_X9_verify_38B F S k38 x0 x1 x2 x3 I = some X) (ls : Array Slot) (hl : lv_has ls 4 [(0, .ref (x0)), (1, .int (x1)), (2, .int (x2)), (3, .int (x3))]) : z_W p l e { frames := 6, cells := 0, slots := 0, locals := 139 } s m args below meth c D b0 S I 0 0 (MQ below (z_Q D b0 (some (.int (X.1))) S X.2) args s 0 0 (fun q => b0 ≤ q)) (F0 m 38 ls []) := by
  unfold z_X9_verify_38B at hz
  refine z_iload_n hC dX9_verify_38 rfl (lv_at hl 3 rfl) ?_
  refine z_aload_n hC dX9_verify_39 rfl (lv_at hl 0 rfl) ?_
  obtain ⟨r1, hr_r1, hz⟩ := ob_some hz
  have hk_r1 : z_is b0 S r1 10 := hT.at h_x0 hr_r1
  refine z_getR hC zc_9 6 (by decide) kw_743 dX9_verify_40 h_x0 rfl hr_r1 ?_
  refine z_iload_n hC dX9_verify_43 rfl (lv_at hl 1 rfl) ?_
  obtain ⟨hi2, hz⟩ := ifn_some hz
  refine z_iald hC dX9_verify_44 hk_r1 hi2 ?_
  refine z_icmp_ge (tgt := 95) hC dX9_verify_45 (by decide) hz (fun hz => ?_) (fun hz => ?_)
  · skip
    refine z_aload_n hC dX9_verify_95 rfl (lv_at hl 0 rfl) ?_
    refine z_iconst (v := 0) hC dX9_verify_96 (by decide) ?_
    refine z_putI hC zc_9 20 (by decide) kw_757 dX9_verify_97 h_x0 rfl rfl rfl rfl ?_
    refine z_iconst (v := 0) hC dX9_verify_100 (by decide) ?_
    obtain rfl := Option.some.inj hz
    exact z_iret hC hT dX9_verify_101 (by decide) (by decide)
  · skip
    refine z_aload_n hC dX9_verify_48 rfl (lv_at hl 0 rfl) ?_
    refine z_iload_n hC dX9_verify_49 rfl (lv_at hl 3 rfl) ?_
    refine z_iload_n hC dX9_verify_50 rfl (lv_at hl 2 rfl) ?_
    obtain ⟨q3, hq_q3, hz⟩ := ob_some hz
    refine z_callV (As := [.int (x3), .int (x2)]) hC hT (c_X9_looksAt F x0 x3 x2 h_x0 hq_q3) zy_X9_looksAt zc_9 zv_X9_looksAt kw_1023 dX9_verify_51 h_x0 rfl rfl hl.1 (Nat.le_of_ble_eq_true rfl) (by decide) (by decide) ?_
    refine z_aload_n hC dX9_verify_54 rfl (lv_at hl 0 rfl) ?_
    refine z_getI hC zc_9 24 (by decide) kw_761 dX9_verify_55 h_x0 rfl ?_
    refine z_if_le (tgt := 74) hC dX9_verify_58 (by decide) hz (fun hz => ?_) (fun hz => ?_)
    · skip
      refine z_aload_n hC dX9_verify_74 rfl (lv_at hl 0 rfl) ?_
      obtain ⟨r4, hr_r4, hz⟩ := ob_some hz
      have hk_r4 : z_is b0 S r4 10 := hT.at h_x0 hr_r4
      refine z_getR hC zc_9 7 (by decide) kw_744 dX9_verify_75 h_x0 rfl hr_r4 ?_
      refine z_bipush (v := 40) hC dX9_verify_78 (by decide) ?_
      refine z_iload_n hC dX9_verify_80 rfl (lv_at hl 1 rfl) ?_
      refine z_imul hC dX9_verify_81 ?_
      refine z_iload_n hC dX9_verify_82 rfl (lv_at hl 3 rfl) ?_
      refine z_iadd hC dX9_verify_83 ?_
      obtain ⟨hi5, hz⟩ := ifn_some hz
      refine z_iald hC dX9_verify_84 hk_r4 hi5 ?_
      obtain ⟨q6, hq_q6, hz⟩ := ob_some hz
      refine z_callS (As := [.int (q3 r4 ((40 * x1) + x3).toNatClampNeg)]) hC hT (c_X9_goesOn F (q3 r4 ((40 * x1) + x3).toNatClampNeg)  hq_q6) zy_X9_goesOn kw_964 kw_963 dX9_verify_85 rfl rfl hl.1 (Nat.le_of_ble_eq_true rfl) (by decide) (by decide) ?_
      refine z_istore_n (lv' := [(2, .int (q6)), (0, .ref (x0)), (1, .int (x1)), (3, .int (x3))]) hC dX9_verify_88 rfl hl (by decide) rfl (fun ls hl => ?_)
      refine z_iinc (k0 := 3) (v := x3 + 1) (lv' := [(3, .int (x3 + 1)), (2, .int (q6)), (0, .ref (x0)), (1, .int (x1))]) hC dX9_verify_89 hl rfl rfl (by decide) rfl (fun ls hl => ?_)
      refine z_goto (tgt := 38) hC dX9_verify_92 (by decide) ?_
      exact hk38 (x0) (x1) (q6) (x3 + 1) (q3) h_x0 hz ls (lv_sub hl [2, 3, 1, 0] rfl)
    · skip
      refine z_aload_n hC dX9_verify_61 rfl (lv_at hl 0 rfl) ?_
      refine z_aload_n hC dX9_verify_62 rfl (lv_at hl 0 rfl) ?_
      refine z_getI hC zc_9 24 (by decide) kw_761 dX9_verify_63 h_x0 rfl ?_
      refine z_putI hC zc_9 20 (by decide) kw_757 dX9_verify_66 h_x0 rfl rfl rfl rfl ?_
      refine z_bipush (v := (-10)) hC dX9_verify_69 (by decide) ?_
      refine z_iload_n hC dX9_verify_71 rfl (lv_at hl 3 rfl) ?_
      refine z_isub hC dX9_verify_72 ?_
      obtain rfl := Option.some.inj hz
      exact z_iret hC hT dX9_verify_73 (by decide) (by decide)
set_option maxRecDepth 100000 in
set_option maxHeartbeats 4000000 in
theorem b_X9_verify_38 {p : Program} {l : Launch} {e : Env} {s : State} {m : MethodId} {args : Array Value} {below : List Frame} {meth : Method} {c : Code} {D : zD} {b0 : Nat} {F : Nat} {S : zS} {X : Int32 × zI} (hC : z_C p s m args meth c cX9_verify RX9 4 (some .int) D) (hT : z_T b0 S)   : ∀ (n : Nat) (x0 : Nat) (x1 : Int32) (x2 : Int32) (x3 : Int32) (I : zI), z_is b0 S x0 9 → z_X9_verify_38 F S  n x0 x1 x2 x3 I = some X → ∀ ls : Array Slot, lv_has ls 4 [(0, .ref (x0)), (1, .int (x1)), (2, .int (x2)), (3, .int (x3))] → z_W p l e { frames := 6, cells := 0, slots := 0, locals := 139 } s m args below meth c D b0 S I 0 0 (MQ below (z_Q D b0 (some (.int (X.1))) S X.2) args s 0 0 (fun q => b0 ≤ q)) (F0 m 38 ls []) := by
  intro n
  induction n with
  | zero => intro x0 x1 x2 x3 I h_x0 hz; cases hz
  | succ n ih =>
    intro x0 x1 x2 x3 I h_x0 hz ls hl
    exact bb_X9_verify_38 (F := F) hC hT  (z_X9_verify_38 F S  n)  ih x0 x1 x2 x3 I h_x0 hz ls hl
set_option maxRecDepth 100000 in
set_option maxHeartbeats 4000000 in
theorem c_X9_verify {l : Launch} {D : zD} {b0 : Nat} {S : zS} {I : zI} {X : Int32 × zI} (F : Nat) (x0 : Nat) (x1 : Int32) (h_x0 : z_is b0 S x0 9) (hz : z_X9_verify F S I x0 x1 = some X) : z_M l D b0 yX9_verify cX9_verify 4 (some .int) { frames := 6, cells := 0, slots := 0, locals := 139 } [.ref (x0), .int (x1)] S I (some (.int (X.1))) S X.2 := by
  refine z_met (by decide) (Nat.le_of_ble_eq_true rfl) ?_
  intro p e s m below meth c hC hnm hT ls hl
  have hl : lv_has ls 4 [(0, .ref (x0)), (1, .int (x1))] := hl
  unfold z_X9_verify at hz
  refine z_iload_n hC dX9_verify_0 rfl (lv_at hl 1 rfl) ?_
  obtain ⟨q1, hq_q1, hz⟩ := ob_some hz
  refine z_callS (As := [.int (x1)]) hC hT (c_X9_isMethod F x1  hq_q1) zy_X9_isMethod kw_861 kw_860 dX9_verify_1 rfl rfl hl.1 (Nat.le_of_ble_eq_true rfl) (by decide) (by decide) ?_
  refine z_if_ne (tgt := 9) hC dX9_verify_4 (by decide) hz (fun hz => ?_) (fun hz => ?_)
  · skip
    refine z_aload_n hC dX9_verify_9 rfl (lv_at hl 0 rfl) ?_
    obtain ⟨r2, hr_r2, hz⟩ := ob_some hz
    have hk_r2 : z_is b0 S r2 11 := hT.at h_x0 hr_r2
    refine z_getR hC zc_9 15 (by decide) kw_752 dX9_verify_10 h_x0 rfl hr_r2 ?_
    refine z_iload_n hC dX9_verify_13 rfl (lv_at hl 1 rfl) ?_
    obtain ⟨hi3, hz⟩ := ifn_some hz
    refine z_zald hC dX9_verify_14 hk_r2 hi3 ?_
    refine z_if_ne (tgt := 21) hC dX9_verify_15 (by decide) hz (fun hz => ?_) (fun hz => ?_)
    · skip
      refine z_aload_n hC dX9_verify_21 rfl (lv_at hl 0 rfl) ?_
      refine z_iload_n hC dX9_verify_22 rfl (lv_at hl 1 rfl) ?_
      refine z_putI hC zc_9 21 (by decide) kw_758 dX9_verify_23 h_x0 rfl rfl rfl rfl ?_
      refine z_aload_n hC dX9_verify_26 rfl (lv_at hl 0 rfl) ?_
      refine z_aload_n hC dX9_verify_27 rfl (lv_at hl 0 rfl) ?_
      obtain ⟨r4, hr_r4, hz⟩ := ob_some hz
      have hk_r4 : z_is b0 S r4 10 := hT.at h_x0 hr_r4
      refine z_getR hC zc_9 22 (by decide) kw_759 dX9_verify_28 h_x0 rfl hr_r4 ?_
      obtain ⟨q5, hq_q5, hz⟩ := ob_some hz
      refine z_callV (As := [.ref (r4)]) hC hT (c_X9_beginning F x0 r4 h_x0 hk_r4 hq_q5) zy_X9_beginning zc_9 zv_X9_beginning kw_882 dX9_verify_31 h_x0 rfl rfl hl.1 (Nat.le_of_ble_eq_true rfl) (by decide) (by decide) ?_
      refine z_iconst (v := 1) hC dX9_verify_34 (by decide) ?_
      refine z_istore_n (lv' := [(2, .int (1)), (0, .ref (x0)), (1, .int (x1))]) hC dX9_verify_35 rfl hl (by decide) rfl (fun ls hl => ?_)
      refine z_iconst (v := 0) hC dX9_verify_36 (by decide) ?_
      refine z_istore_n (lv' := [(3, .int (0)), (2, .int (1)), (0, .ref (x0)), (1, .int (x1))]) hC dX9_verify_37 rfl hl (by decide) rfl (fun ls hl => ?_)
      exact b_X9_verify_38 hC hT   F (x0) (x1) (1) (0) (q5) h_x0 hz ls (lv_sub hl [2, 3, 1, 0] rfl)
    · skip
      refine z_bipush (v := (-3)) hC dX9_verify_18 (by decide) ?_
      obtain rfl := Option.some.inj hz
      exact z_iret hC hT dX9_verify_20 (by decide) (by decide)
  · skip
    refine z_iconst (v := (-1)) hC dX9_verify_7 (by decide) ?_
    obtain rfl := Option.some.inj hz
    exact z_iret hC hT dX9_verify_8 (by decide) (by decide)
theorem zy_X9_told : z_y yX9_told cX9_told 3 (some .int) 1 := ⟨kw_1042, kw_8, by decide +kernel, by decide +kernel, by decide +kernel⟩
theorem zv_X9_told : Cond.instanceMethod yX9_told ∈ z_tbl ∧ Cond.selects RX9 yX9_told yX9_told ∈ z_tbl := ⟨kw_1040, kw_1041⟩
def z_X9_told (F : Nat) (S : zS) (I : zI) (x0 : Nat) (x1 : Int32) : Option (Int32) :=
  if x1 = 0 then (some (I x0 0)) else (if x1 < 0 then (some ((-1))) else (if 7 < ((x1 - 1) - (x1 - 1) / 10 * 10) then (some ((-1))) else (if 38 < x1 then (some ((-1))) else (if x1 < 10 then (ob (S.1 x0 6) (fun r8 => if ((x1 - 1) - (x1 - 1) / 10 * 10) < 0 ∨ (S.2.1 r8).2 ≤ ((x1 - 1) - (x1 - 1) / 10 * 10).toNatClampNeg then none else (some (I r8 ((x1 - 1) - (x1 - 1) / 10 * 10).toNatClampNeg)))) else (if x1 < 20 then (ob (S.1 x0 10) (fun r6 => if ((x1 - 1) - (x1 - 1) / 10 * 10) < 0 ∨ (S.2.1 r6).2 ≤ ((x1 - 1) - (x1 - 1) / 10 * 10).toNatClampNeg then none else (some (I r6 ((x1 - 1) - (x1 - 1) / 10 * 10).toNatClampNeg)))) else (if x1 < 30 then (ob (S.1 x0 3) (fun r4 => if ((x1 - 1) - (x1 - 1) / 10 * 10) < 0 ∨ (S.2.1 r4).2 ≤ ((x1 - 1) - (x1 - 1) / 10 * 10).toNatClampNeg then none else (some (I r4 ((x1 - 1) - (x1 - 1) / 10 * 10).toNatClampNeg)))) else (ob (S.1 x0 15) (fun r1 => if ((x1 - 1) - (x1 - 1) / 10 * 10) < 0 ∨ (S.2.1 r1).2 ≤ ((x1 - 1) - (x1 - 1) / 10 * 10).toNatClampNeg then none else (if (I r1 ((x1 - 1) - (x1 - 1) / 10 * 10).toNatClampNeg) = 0 then (some ((-4))) else (ob (z_X9_frameCount F S I x0 ((x1 - 1) - (x1 - 1) / 10 * 10)) (fun q3 => some (q3))))))))))))
set_option maxRecDepth 100000 in
set_option maxHeartbeats 4000000 in
theorem c_X9_told {l : Launch} {D : zD} {b0 : Nat} {S : zS} {I : zI} {X : Int32} (F : Nat) (x0 : Nat) (x1 : Int32) (h_x0 : z_is b0 S x0 9) (hz : z_X9_told F S I x0 x1 = some X) : z_M l D b0 yX9_told cX9_told 3 (some .int) { frames := 1, cells := 0, slots := 0, locals := 23 } [.ref (x0), .int (x1)] S I (some (.int (X))) S I := by
  refine z_met (by decide) (Nat.le_of_ble_eq_true rfl) ?_
  intro p e s m below meth c hC hnm hT ls hl
  have hl : lv_has ls 3 [(0, .ref (x0)), (1, .int (x1))] := hl
  unfold z_X9_told at hz
  refine z_iload_n hC dX9_told_0 rfl (lv_at hl 1 rfl) ?_
  refine z_if_ne (tgt := 9) hC dX9_told_1 (by decide) hz (fun hz => ?_) (fun hz => ?_)
  · skip
    refine z_iload_n hC dX9_told_9 rfl (lv_at hl 1 rfl) ?_
    refine z_iconst (v := 1) hC dX9_told_10 (by decide) ?_
    refine z_isub hC dX9_told_11 ?_
    refine z_bipush (v := 10) hC dX9_told_12 (by decide) ?_
    refine z_irem hC dX9_told_14 (by decide) ?_
    refine z_istore_n (lv' := [(2, .int ((x1 - 1) - (x1 - 1) / 10 * 10)), (0, .ref (x0)), (1, .int (x1))]) hC dX9_told_15 rfl hl (by decide) rfl (fun ls hl => ?_)
    refine z_iload_n hC dX9_told_16 rfl (lv_at hl 2 rfl) ?_
    refine z_if_lt (tgt := 32) hC dX9_told_17 (by decide) hz (fun hz => ?_) (fun hz => ?_)
    · skip
      refine z_iconst (v := (-1)) hC dX9_told_32 (by decide) ?_
      obtain rfl := Option.some.inj hz
      exact z_iret hC hT dX9_told_33 (by decide) (by decide)
    · skip
      refine z_iload_n hC dX9_told_20 rfl (lv_at hl 0 rfl) ?_
      refine z_bipush (v := 7) hC dX9_told_21 (by decide) ?_
      refine z_icmp_gt (tgt := 32) hC dX9_told_23 (by decide) hz (fun hz => ?_) (fun hz => ?_)
      · skip
        refine z_iconst (v := (-1)) hC dX9_told_32 (by decide) ?_
        obtain rfl := Option.some.inj hz
        exact z_iret hC hT dX9_told_33 (by decide) (by decide)
      · skip
        refine z_iload_n hC dX9_told_26 rfl (lv_at hl 2 rfl) ?_
        refine z_bipush (v := 38) hC dX9_told_27 (by decide) ?_
        refine z_icmp_le (tgt := 34) hC dX9_told_29 (by decide) hz (fun hz => ?_) (fun hz => ?_)
        · skip
          refine z_iload_n hC dX9_told_34 rfl (lv_at hl 2 rfl) ?_
          refine z_bipush (v := 10) hC dX9_told_35 (by decide) ?_
          refine z_icmp_ge (tgt := 49) hC dX9_told_37 (by decide) hz (fun hz => ?_) (fun hz => ?_)
          · skip
            refine z_iload_n hC dX9_told_49 rfl (lv_at hl 2 rfl) ?_
            refine z_bipush (v := 20) hC dX9_told_50 (by decide) ?_
            refine z_icmp_ge (tgt := 64) hC dX9_told_52 (by decide) hz (fun hz => ?_) (fun hz => ?_)
            · skip
              refine z_iload_n hC dX9_told_64 rfl (lv_at hl 2 rfl) ?_
              refine z_bipush (v := 30) hC dX9_told_65 (by decide) ?_
              refine z_icmp_ge (tgt := 79) hC dX9_told_67 (by decide) hz (fun hz => ?_) (fun hz => ?_)
              · skip
                refine z_aload_n hC dX9_told_79 rfl (lv_at hl 1 rfl) ?_
                obtain ⟨r1, hr_r1, hz⟩ := ob_some hz
                have hk_r1 : z_is b0 S r1 11 := hT.at h_x0 hr_r1
                refine z_getR hC zc_9 15 (by decide) kw_752 dX9_told_80 h_x0 rfl hr_r1 ?_
                refine z_iload_n hC dX9_told_83 rfl (lv_at hl 0 rfl) ?_
                obtain ⟨hi2, hz⟩ := ifn_some hz
                refine z_zald hC dX9_told_84 hk_r1 hi2 ?_
                refine z_if_eq (tgt := 96) hC dX9_told_85 (by decide) hz (fun hz => ?_) (fun hz => ?_)
                · skip
                  refine z_bipush (v := (-4)) hC dX9_told_96 (by decide) ?_
                  obtain rfl := Option.some.inj hz
                  exact z_iret hC hT dX9_told_98 (by decide) (by decide)
                · skip
                  refine z_aload_n hC dX9_told_88 rfl (lv_at hl 1 rfl) ?_
                  refine z_iload_n hC dX9_told_89 rfl (lv_at hl 0 rfl) ?_
                  obtain ⟨q3, hq_q3, hz⟩ := ob_some hz
                  refine z_callV (As := [.int ((x1 - 1) - (x1 - 1) / 10 * 10)]) hC hT (c_X9_frameCount F x0 ((x1 - 1) - (x1 - 1) / 10 * 10) h_x0 hq_q3) zy_X9_frameCount zc_9 zv_X9_frameCount kw_1043 dX9_told_90 h_x0 rfl rfl hl.1 (Nat.le_of_ble_eq_true rfl) (by decide) (by decide) ?_
                  refine z_goto (tgt := 98) hC dX9_told_93 (by decide) ?_
                  obtain rfl := Option.some.inj hz
                  exact z_iret hC hT dX9_told_98 (by decide) (by decide)
              · skip
                refine z_aload_n hC dX9_told_70 rfl (lv_at hl 1 rfl) ?_
                obtain ⟨r4, hr_r4, hz⟩ := ob_some hz
                have hk_r4 : z_is b0 S r4 10 := hT.at h_x0 hr_r4
                refine z_getR hC zc_9 3 (by decide) kw_740 dX9_told_71 h_x0 rfl hr_r4 ?_
                refine z_iload_n hC dX9_told_74 rfl (lv_at hl 0 rfl) ?_
                obtain ⟨hi5, hz⟩ := ifn_some hz
                refine z_iald hC dX9_told_75 hk_r4 hi5 ?_
                refine z_goto (tgt := 98) hC dX9_told_76 (by decide) ?_
                obtain rfl := Option.some.inj hz
                exact z_iret hC hT dX9_told_98 (by decide) (by decide)
            · skip
              refine z_aload_n hC dX9_told_55 rfl (lv_at hl 1 rfl) ?_
              obtain ⟨r6, hr_r6, hz⟩ := ob_some hz
              have hk_r6 : z_is b0 S r6 10 := hT.at h_x0 hr_r6
              refine z_getR hC zc_9 10 (by decide) kw_747 dX9_told_56 h_x0 rfl hr_r6 ?_
              refine z_iload_n hC dX9_told_59 rfl (lv_at hl 0 rfl) ?_
              obtain ⟨hi7, hz⟩ := ifn_some hz
              refine z_iald hC dX9_told_60 hk_r6 hi7 ?_
              refine z_goto (tgt := 98) hC dX9_told_61 (by decide) ?_
              obtain rfl := Option.some.inj hz
              exact z_iret hC hT dX9_told_98 (by decide) (by decide)
          · skip
            refine z_aload_n hC dX9_told_40 rfl (lv_at hl 1 rfl) ?_
            obtain ⟨r8, hr_r8, hz⟩ := ob_some hz
            have hk_r8 : z_is b0 S r8 10 := hT.at h_x0 hr_r8
            refine z_getR hC zc_9 6 (by decide) kw_743 dX9_told_41 h_x0 rfl hr_r8 ?_
            refine z_iload_n hC dX9_told_44 rfl (lv_at hl 0 rfl) ?_
            obtain ⟨hi9, hz⟩ := ifn_some hz
            refine z_iald hC dX9_told_45 hk_r8 hi9 ?_
            refine z_goto (tgt := 98) hC dX9_told_46 (by decide) ?_
            obtain rfl := Option.some.inj hz
            exact z_iret hC hT dX9_told_98 (by decide) (by decide)
        · skip
          refine z_iconst (v := (-1)) hC dX9_told_32 (by decide) ?_
          obtain rfl := Option.some.inj hz
          exact z_iret hC hT dX9_told_33 (by decide) (by decide)
  · skip
    refine z_aload_n hC dX9_told_4 rfl (lv_at hl 0 rfl) ?_
    refine z_getI hC zc_9 0 (by decide) kw_737 dX9_told_5 h_x0 rfl ?_
    obtain rfl := Option.some.inj hz
    exact z_iret hC hT dX9_told_8 (by decide) (by decide)
