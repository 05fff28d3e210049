theorem zy_X9_shared : z_y yX9_shared cX9_shared 8 (some .int) 2 := ⟨kw_1010, kw_8, by decide +kernel, by decide +kernel, by decide +kernel⟩
theorem zv_X9_shared : Cond.instanceMethod yX9_shared ∈ z_tbl ∧ Cond.selects RX9 yX9_shared yX9_shared ∈ z_tbl := ⟨kw_1008, kw_1009⟩
def z_X9_shared_152 (F : Nat) (S : zS) (I : zI) (k42 : Nat → Int32 → Int32 → Int32 → Int32 → Option (Int32)) (k108 : Nat → Int32 → Int32 → Int32 → Int32 → Int32 → Int32 → Int32 → Option (Int32)) (x0 : Nat) (x1 : Int32) (x2 : Int32) (x3 : Int32) (x4 : Int32) (x5 : Int32) (x7 : Int32) (y0 : Int32) (y1 : Int32) : Option (Int32) :=
  k108 (x0) (x1) (x2) (x3) (x4) (x5) (y0 ||| y1) (x7 + 1)
def z_X9_shared_182 (F : Nat) (S : zS) (I : zI) (k42 : Nat → Int32 → Int32 → Int32 → Int32 → Option (Int32)) (x0 : Nat) (x1 : Int32) (x2 : Int32) (x4 : Int32) (y0 : Int32) (y1 : Int32) : Option (Int32) :=
  k42 (x0) (x1) (x2) (y0 + y1) (x4 + 1)
def z_X9_shared_108B (F : Nat) (S : zS) (I : zI) (k42 : Nat → Int32 → Int32 → Int32 → Int32 → Option (Int32)) (k108 : Nat → Int32 → Int32 → Int32 → Int32 → Int32 → Int32 → Int32 → Option (Int32)) (x0 : Nat) (x1 : Int32) (x2 : Int32) (x3 : Int32) (x4 : Int32) (x5 : Int32) (x6 : Int32) (x7 : Int32) : Option (Int32) :=
  ob (S.1 x0 10) (fun r1 => if x1 < 0 ∨ (S.2.1 r1).2 ≤ x1.toNatClampNeg then none else (if x7 < ((4 * x1) + (I r1 x1.toNatClampNeg)) then (ob (z_X9_holds F S I x0 x7 x4) (fun q5 => if q5 = 0 then (z_X9_shared_152 F S I k42 k108 (x0) (x1) (x2) (x3) (x4) (x5) (x7) (x6) (0)) else (ob (S.1 x0 13) (fun r6 => if x7 < 0 ∨ (S.2.1 r6).2 ≤ x7.toNatClampNeg then none else (if (I r6 x7.toNatClampNeg) = x2 then (z_X9_shared_152 F S I k42 k108 (x0) (x1) (x2) (x3) (x4) (x5) (x7) (x6) (1)) else (z_X9_shared_152 F S I k42 k108 (x0) (x1) (x2) (x3) (x4) (x5) (x7) (x6) (0))))))) else (ob (S.1 x0 16) (fun r3 => if x5 < 0 ∨ (S.2.1 r3).2 ≤ x5.toNatClampNeg then none else (if (I r3 x5.toNatClampNeg) = 0 then (z_X9_shared_182 F S I k42 (x0) (x1) (x2) (x4) (x3) (0)) else (if x6 = 0 then (z_X9_shared_182 F S I k42 (x0) (x1) (x2) (x4) (x3) (0)) else (z_X9_shared_182 F S I k42 (x0) (x1) (x2) (x4) (x3) (1))))))))
def z_X9_shared_108 (F : Nat) (S : zS) (I : zI) (k42 : Nat → Int32 → Int32 → Int32 → Int32 → Option (Int32)) : Nat → Nat → Int32 → Int32 → Int32 → Int32 → Int32 → Int32 → Int32 → Option (Int32)
  | 0 => fun _ _ _ _ _ _ _ _ => none
  | n + 1 => fun x0 x1 x2 x3 x4 x5 x6 x7 => z_X9_shared_108B F S I k42 (z_X9_shared_108 F S I k42 n) x0 x1 x2 x3 x4 x5 x6 x7
def z_X9_shared_101 (F : Nat) (S : zS) (I : zI) (k42 : Nat → Int32 → Int32 → Int32 → Int32 → Option (Int32)) (x0 : Nat) (x1 : Int32) (x2 : Int32) (x3 : Int32) (x4 : Int32) (x5 : Int32) (y0 : Int32) : Option (Int32) :=
  z_X9_shared_108 F S I k42 F (x0) (x1) (x2) (x3) (x4) (x5) (y0) (4 * x1)
def z_X9_shared_42B (F : Nat) (S : zS) (I : zI) (k42 : Nat → Int32 → Int32 → Int32 → Int32 → Option (Int32)) (x0 : Nat) (x1 : Int32) (x2 : Int32) (x3 : Int32) (x4 : Int32) : Option (Int32) :=
  ob (S.1 x0 6) (fun r1 => if x1 < 0 ∨ (S.2.1 r1).2 ≤ x1.toNatClampNeg then none else (if x4 < (I r1 x1.toNatClampNeg) then (ob (S.1 x0 7) (fun r3 => if ((40 * x1) + x4) < 0 ∨ (S.2.1 r3).2 ≤ ((40 * x1) + x4).toNatClampNeg then none else (ob (z_X9_jumps F S I (I r3 ((40 * x1) + x4).toNatClampNeg)) (fun q5 => if q5 = 0 then (z_X9_shared_101 F S I k42 (x0) (x1) (x2) (x3) (x4) ((40 * x1) + x4) (0)) else (ob (S.1 x0 8) (fun r6 => if ((40 * x1) + x4) < 0 ∨ (S.2.1 r6).2 ≤ ((40 * x1) + x4).toNatClampNeg then none else (ob (S.1 x0 9) (fun r8 => if ((40 * x1) + x4) < 0 ∨ (S.2.1 r8).2 ≤ ((40 * x1) + x4).toNatClampNeg then none else (ob (z_X9_in F S I x2 (I r6 ((40 * x1) + x4).toNatClampNeg) (I r8 ((40 * x1) + x4).toNatClampNeg)) (fun q10 => if q10 = 0 then (z_X9_shared_101 F S I k42 (x0) (x1) (x2) (x3) (x4) ((40 * x1) + x4) (0)) else (z_X9_shared_101 F S I k42 (x0) (x1) (x2) (x3) (x4) ((40 * x1) + x4) (1)))))))))))) else (some (x3))))
def z_X9_shared_42 (F : Nat) (S : zS) (I : zI)  : Nat → Nat → Int32 → Int32 → Int32 → Int32 → Option (Int32)
  | 0 => fun _ _ _ _ _ => none
  | n + 1 => fun x0 x1 x2 x3 x4 => z_X9_shared_42B F S I  (z_X9_shared_42 F S I  n) x0 x1 x2 x3 x4
def z_X9_shared (F : Nat) (S : zS) (I : zI) (x0 : Nat) (x1 : Int32) (x2 : Int32) : Option (Int32) :=
  ob (z_X9_isMethod F S I x1) (fun q1 => if q1 = 0 then (some ((-1))) else (ob (S.1 x0 6) (fun r2 => if x1 < 0 ∨ (S.2.1 r2).2 ≤ x1.toNatClampNeg then none else (ob (z_X9_in F S I x2 0 ((I r2 x1.toNatClampNeg) - 1)) (fun q4 => if q4 = 0 then (some ((-1))) else (ob (S.1 x0 15) (fun r5 => if x1 < 0 ∨ (S.2.1 r5).2 ≤ x1.toNatClampNeg then none else (if (I r5 x1.toNatClampNeg) = 0 then (some ((-3))) else (z_X9_shared_42 F S I  F (x0) (x1) (x2) (0) (0))))))))))
set_option maxRecDepth 100000 in
set_option maxHeartbeats 4000000 in
theorem b_X9_shared_152 {p : Program} {l : Launch} {e : Env} {s : State} {m : MethodId} {args : Array Value} {below : List Frame} {meth : Method} {c : Code} {D : zD} {b0 : Nat} {F : Nat} {S : zS} {I : zI} {X : Int32} (hC : z_C p s m args meth c cX9_shared RX9 8 (some .int) D) (hT : z_T b0 S) (k42 : Nat → Int32 → Int32 → Int32 → Int32 → Option (Int32)) (k108 : Nat → Int32 → Int32 → Int32 → Int32 → Int32 → Int32 → Int32 → Option (Int32)) (hk42 : ∀ (x0 : Nat) (x1 : Int32) (x2 : Int32) (x3 : Int32) (x4 : Int32) , z_is b0 S x0 9 → k42 x0 x1 x2 x3 x4 = some X → ∀ ls : Array Slot, lv_has ls 8 [(0, .ref (x0)), (1, .int (x1)), (2, .int (x2)), (3, .int (x3)), (4, .int (x4))] → z_W p l e { frames := 2, cells := 0, slots := 0, locals := 42 } s m args below meth c D b0 S I 0 0 (MQ below (z_Q D b0 (some (.int (X))) S I) args s 0 0 (fun q => b0 ≤ q)) (F0 m 42 ls [])) (hk108 : ∀ (x0 : Nat) (x1 : Int32) (x2 : Int32) (x3 : Int32) (x4 : Int32) (x5 : Int32) (x6 : Int32) (x7 : Int32) , z_is b0 S x0 9 → k108 x0 x1 x2 x3 x4 x5 x6 x7 = some X → ∀ ls : Array Slot, lv_has ls 8 [(0, .ref (x0)), (1, .int (x1)), (2, .int (x2)), (3, .int (x3)), (4, .int (x4)), (5, .int (x5)), (6, .int (x6)), (7, .int (x7))] → z_W p l e { frames := 2, cells := 0, slots := 0, locals := 42 } s m args below meth c D b0 S I 0 0 (MQ below (z_Q D b0 (some (.int (X))) S I) args s 0 0 (fun q => b0 ≤ q)) (F0 m 108 ls [])) (x0 : Nat) (x1 : Int32) (x2 : Int32) (x3 : Int32) (x4 : Int32) (x5 : Int32) (x7 : Int32) (y0 : Int32) (y1 : Int32) (h_x0 : z_is b0 S x0 9) (hz : z_X9_shared_152 F S I k42 k108 x0 x1 x2 x3 x4 x5 x7 y0 y1 = some X) (ls : Array Slot) (hl : lv_has ls 8 [(0, .ref (x0)), (1, .int (x1)), (2, .int (x2)), (3, .int (x3)), (4, .int (x4)), (5, .int (x5)), (7, .int (x7))]) : z_W p l e { frames := 2, cells := 0, slots := 0, locals := 42 } s m args below meth c D b0 S I 0 0 (MQ below (z_Q D b0 (some (.int (X))) S I) args s 0 0 (fun q => b0 ≤ q)) (F0 m 152 ls [.int (y1), .int (y0)]) := by
  unfold z_X9_shared_152 at hz
  refine z_ior hC dX9_shared_152 ?_
  refine z_istore (lv' := [(6, .int (y0 ||| y1)), (0, .ref (x0)), (1, .int (x1)), (2, .int (x2)), (3, .int (x3)), (4, .int (x4)), (5, .int (x5)), (7, .int (x7))]) hC dX9_shared_153 hl (by decide) rfl (fun ls hl => ?_)
  refine z_iinc (k0 := 7) (v := x7 + 1) (lv' := [(7, .int (x7 + 1)), (6, .int (y0 ||| y1)), (0, .ref (x0)), (1, .int (x1)), (2, .int (x2)), (3, .int (x3)), (4, .int (x4)), (5, .int (x5))]) hC dX9_shared_155 hl rfl rfl (by decide) rfl (fun ls hl => ?_)
  refine z_goto (tgt := 108) hC dX9_shared_158 (by decide) ?_
  exact hk108 (x0) (x1) (x2) (x3) (x4) (x5) (y0 ||| y1) (x7 + 1) h_x0 hz ls (lv_sub hl [2, 3, 4, 5, 6, 7, 1, 0] rfl)
set_option maxRecDepth 100000 in
set_option maxHeartbeats 4000000 in
theorem b_X9_shared_182 {p : Program} {l : Launch} {e : Env} {s : State} {m : MethodId} {args : Array Value} {below : List Frame} {meth : Method} {c : Code} {D : zD} {b0 : Nat} {F : Nat} {S : zS} {I : zI} {X : Int32} (hC : z_C p s m args meth c cX9_shared RX9 8 (some .int) D) (hT : z_T b0 S) (k42 : Nat → Int32 → Int32 → Int32 → Int32 → Option (Int32)) (hk42 : ∀ (x0 : Nat) (x1 : Int32) (x2 : Int32) (x3 : Int32) (x4 : Int32) , z_is b0 S x0 9 → k42 x0 x1 x2 x3 x4 = some X → ∀ ls : Array Slot, lv_has ls 8 [(0, .ref (x0)), (1, .int (x1)), (2, .int (x2)), (3, .int (x3)), (4, .int (x4))] → z_W p l e { frames := 2, cells := 0, slots := 0, locals := 42 } s m args below meth c D b0 S I 0 0 (MQ below (z_Q D b0 (some (.int (X))) S I) args s 0 0 (fun q => b0 ≤ q)) (F0 m 42 ls [])) (x0 : Nat) (x1 : Int32) (x2 : Int32) (x4 : Int32) (y0 : Int32) (y1 : Int32) (h_x0 : z_is b0 S x0 9) (hz : z_X9_shared_182 F S I k42 x0 x1 x2 x4 y0 y1 = some X) (ls : Array Slot) (hl : lv_has ls 8 [(0, .ref (x0)), (1, .int (x1)), (2, .int (x2)), (4, .int (x4))]) : z_W p l e { frames := 2, cells := 0, slots := 0, locals := 42 } s m args below meth c D b0 S I 0 0 (MQ below (z_Q D b0 (some (.int (X))) S I) args s 0 0 (fun q => b0 ≤ q)) (F0 m 182 ls [.int (y1), .int (y0)]) := by
  unfold z_X9_shared_182 at hz
  refine z_iadd hC dX9_shared_182 ?_
  refine z_istore_n (lv' := [(3, .int (y0 + y1)), (0, .ref (x0)), (1, .int (x1)), (2, .int (x2)), (4, .int (x4))]) hC dX9_shared_183 rfl hl (by decide) rfl (fun ls hl => ?_)
  refine z_iinc (k0 := 4) (v := x4 + 1) (lv' := [(4, .int (x4 + 1)), (3, .int (y0 + y1)), (0, .ref (x0)), (1, .int (x1)), (2, .int (x2))]) hC dX9_shared_184 hl rfl rfl (by decide) rfl (fun ls hl => ?_)
  refine z_goto (tgt := 42) hC dX9_shared_187 (by decide) ?_
  exact hk42 (x0) (x1) (x2) (y0 + y1) (x4 + 1) h_x0 hz ls (lv_sub hl [2, 3, 4, 1, 0] rfl)
set_option maxRecDepth 100000 in
set_option maxHeartbeats 4000000 in
theorem bb_X9_shared_108 {p : Program} {l : Launch} {e : Env} {s : State} {m : MethodId} {args : Array Value} {below : List Frame} {meth : Method} {c : Code} {D : zD} {b0 : Nat} {F : Nat} {S : zS} {I : zI} {X : Int32} (hC : z_C p s m args meth c cX9_shared RX9 8 (some .int) D) (hT : z_T b0 S) (k42 : Nat → Int32 → Int32 → Int32 → Int32 → Option (Int32)) (k108 : Nat → Int32 → Int32 → Int32 → Int32 → Int32 → Int32 → Int32 → Option (Int32)) (hk42 : ∀ (x0 : Nat) (x1 : Int32) (x2 : Int32) (x3 : Int32) (x4 : Int32) , z_is b0 S x0 9 → k42 x0 x1 x2 x3 x4 = some X → ∀ ls : Array Slot, lv_has ls 8 [(0, .ref (x0)), (1, .int (x1)), (2, .int (x2)), (3, .int (x3)), (4, .int (x4))] → z_W p l e { frames := 2, cells := 0, slots := 0, locals := 42 } s m args below meth c D b0 S I 0 0 (MQ below (z_Q D b0 (some (.int (X))) S I) args s 0 0 (fun q => b0 ≤ q)) (F0 m 42 ls [])) (hk108 : ∀ (x0 : Nat) (x1 : Int32) (x2 : Int32) (x3 : Int32) (x4 : Int32) (x5 : Int32) (x6 : Int32) (x7 : Int32) , z_is b0 S x0 9 → k108 x0 x1 x2 x3 x4 x5 x6 x7 = some X → ∀ ls : Array Slot, lv_has ls 8 [(0, .ref (x0)), (1, .int (x1)), (2, .int (x2)), (3, .int (x3)), (4, .int (x4)), (5, .int (x5)), (6, .int (x6)), (7, .int (x7))] → z_W p l e { frames := 2, cells := 0, slots := 0, locals := 42 } s m args below meth c D b0 S I 0 0 (MQ below (z_Q D b0 (some (.int (X))) S I) args s 0 0 (fun q => b0 ≤ q)) (F0 m 108 ls [])) (x0 : Nat) (x1 : Int32) (x2 : Int32) (x3 : Int32) (x4 : Int32) (x5 : Int32) (x6 : Int32) (x7 : Int32) (h_x0 : z_is b0 S x0 9) (hz : z_X9_shared_108B F S I k42 k108 x0 x1 x2 x3 x4 x5 x6 x7 = some X) (ls : Array Slot) (hl : lv_has ls 8 [(0, .ref (x0)), (1, .int (x1)), (2, .int (x2)), (3, .int (x3)), (4, .int (x4)), (5, .int (x5)), (6, .int (x6)), (7, .int (x7))]) : z_W p l e { frames := 2, cells := 0, slots := 0, locals := 42 } s m args below meth c D b0 S I 0 0 (MQ below (z_Q D b0 (some (.int (X))) S I) args s 0 0 (fun q => b0 ≤ q)) (F0 m 108 ls []) := by
  unfold z_X9_shared_108B at hz
  refine z_iload hC dX9_shared_108 (lv_at hl 7 rfl) ?_
  refine z_iconst (v := 4) hC dX9_shared_110 (by decide) ?_
  refine z_iload_n hC dX9_shared_111 rfl (lv_at hl 1 rfl) ?_
  refine z_imul hC dX9_shared_112 ?_
  refine z_aload_n hC dX9_shared_113 rfl (lv_at hl 0 rfl) ?_
  obtain ⟨r1, hr_r1, hz⟩ := ob_some hz
  have hk_r1 : z_is b0 S r1 10 := hT.at h_x0 hr_r1
  refine z_getR hC zc_9 10 (by decide) kw_747 dX9_shared_114 h_x0 rfl hr_r1 ?_
  refine z_iload_n hC dX9_shared_117 rfl (lv_at hl 1 rfl) ?_
  obtain ⟨hi2, hz⟩ := ifn_some hz
  refine z_iald hC dX9_shared_118 hk_r1 hi2 ?_
  refine z_iadd hC dX9_shared_119 ?_
  refine z_icmp_ge (tgt := 161) hC dX9_shared_120 (by decide) hz (fun hz => ?_) (fun hz => ?_)
  · skip
    refine z_iload_n hC dX9_shared_161 rfl (lv_at hl 3 rfl) ?_
    refine z_aload_n hC dX9_shared_162 rfl (lv_at hl 0 rfl) ?_
    obtain ⟨r3, hr_r3, hz⟩ := ob_some hz
    have hk_r3 : z_is b0 S r3 11 := hT.at h_x0 hr_r3
    refine z_getR hC zc_9 16 (by decide) kw_753 dX9_shared_163 h_x0 rfl hr_r3 ?_
    refine z_iload hC dX9_shared_166 (lv_at hl 5 rfl) ?_
    obtain ⟨hi4, hz⟩ := ifn_some hz
    refine z_zald hC dX9_shared_168 hk_r3 hi4 ?_
    refine z_if_eq (tgt := 181) hC dX9_shared_169 (by decide) hz (fun hz => ?_) (fun hz => ?_)
    · skip
      refine z_iconst (v := 0) hC dX9_shared_181 (by decide) ?_
      exact b_X9_shared_182 hC hT k42 hk42 (x0) (x1) (x2) (x4) (x3) (0) h_x0 hz ls (lv_sub hl [0, 1, 2, 4] rfl)
    · skip
      refine z_iload hC dX9_shared_172 (lv_at hl 6 rfl) ?_
      refine z_if_eq (tgt := 181) hC dX9_shared_174 (by decide) hz (fun hz => ?_) (fun hz => ?_)
      · skip
        refine z_iconst (v := 0) hC dX9_shared_181 (by decide) ?_
        exact b_X9_shared_182 hC hT k42 hk42 (x0) (x1) (x2) (x4) (x3) (0) h_x0 hz ls (lv_sub hl [0, 1, 2, 4] rfl)
      · skip
        refine z_iconst (v := 1) hC dX9_shared_177 (by decide) ?_
        refine z_goto (tgt := 182) hC dX9_shared_178 (by decide) ?_
        exact b_X9_shared_182 hC hT k42 hk42 (x0) (x1) (x2) (x4) (x3) (1) h_x0 hz ls (lv_sub hl [0, 1, 2, 4] rfl)
  · skip
    refine z_iload hC dX9_shared_123 (lv_at hl 6 rfl) ?_
    refine z_aload_n hC dX9_shared_125 rfl (lv_at hl 0 rfl) ?_
    refine z_iload hC dX9_shared_126 (lv_at hl 7 rfl) ?_
    refine z_iload hC dX9_shared_128 (lv_at hl 4 rfl) ?_
    obtain ⟨q5, hq_q5, hz⟩ := ob_some hz
    refine z_callV (As := [.int (x7), .int (x4)]) hC hT (c_X9_holds F x0 x7 x4 h_x0 hq_q5) zy_X9_holds zc_9 zv_X9_holds kw_893 dX9_shared_130 h_x0 rfl rfl hl.1 (Nat.le_of_ble_eq_true rfl) (by decide) (by decide) ?_
    refine z_if_eq (tgt := 151) hC dX9_shared_133 (by decide) hz (fun hz => ?_) (fun hz => ?_)
    · skip
      refine z_iconst (v := 0) hC dX9_shared_151 (by decide) ?_
      exact b_X9_shared_152 hC hT k42 k108 hk42 hk108 (x0) (x1) (x2) (x3) (x4) (x5) (x7) (x6) (0) h_x0 hz ls (lv_sub hl [0, 1, 2, 3, 4, 5, 7] rfl)
    · skip
      refine z_aload_n hC dX9_shared_136 rfl (lv_at hl 0 rfl) ?_
      obtain ⟨r6, hr_r6, hz⟩ := ob_some hz
      have hk_r6 : z_is b0 S r6 10 := hT.at h_x0 hr_r6
      refine z_getR hC zc_9 13 (by decide) kw_750 dX9_shared_137 h_x0 rfl hr_r6 ?_
      refine z_iload hC dX9_shared_140 (lv_at hl 7 rfl) ?_
      obtain ⟨hi7, hz⟩ := ifn_some hz
      refine z_iald hC dX9_shared_142 hk_r6 hi7 ?_
      refine z_iload_n hC dX9_shared_143 rfl (lv_at hl 2 rfl) ?_
      refine z_icmp_ne (tgt := 151) hC dX9_shared_144 (by decide) hz (fun hz => ?_) (fun hz => ?_)
      · skip
        refine z_iconst (v := 0) hC dX9_shared_151 (by decide) ?_
        exact b_X9_shared_152 hC hT k42 k108 hk42 hk108 (x0) (x1) (x2) (x3) (x4) (x5) (x7) (x6) (0) h_x0 hz ls (lv_sub hl [0, 1, 2, 3, 4, 5, 7] rfl)
      · skip
        refine z_iconst (v := 1) hC dX9_shared_147 (by decide) ?_
        refine z_goto (tgt := 152) hC dX9_shared_148 (by decide) ?_
        exact b_X9_shared_152 hC hT k42 k108 hk42 hk108 (x0) (x1) (x2) (x3) (x4) (x5) (x7) (x6) (1) h_x0 hz ls (lv_sub hl [0, 1, 2, 3, 4, 5, 7] rfl)
set_option maxRecDepth 100000 in
set_option maxHeartbeats 4000000 in
theorem b_X9_shared_108 {p : Program} {l : Launch} {e : Env} {s : State} {m : MethodId} {args : Array Value} {below : List Frame} {meth : Method} {c : Code} {D : zD} {b0 : Nat} {F : Nat} {S : zS} {I : zI} {X : Int32} (hC : z_C p s m args meth c cX9_shared RX9 8 (some .int) D) (hT : z_T b0 S) (k42 : Nat → Int32 → Int32 → Int32 → Int32 → Option (Int32)) (hk42 : ∀ (x0 : Nat) (x1 : Int32) (x2 : Int32) (x3 : Int32) (x4 : Int32) , z_is b0 S x0 9 → k42 x0 x1 x2 x3 x4 = some X → ∀ ls : Array Slot, lv_has ls 8 [(0, .ref (x0)), (1, .int (x1)), (2, .int (x2)), (3, .int (x3)), (4, .int (x4))] → z_W p l e { frames := 2, cells := 0, slots := 0, locals := 42 } s m args below meth c D b0 S I 0 0 (MQ below (z_Q D b0 (some (.int (X))) S I) args s 0 0 (fun q => b0 ≤ q)) (F0 m 42 ls [])) : ∀ (n : Nat) (x0 : Nat) (x1 : Int32) (x2 : Int32) (x3 : Int32) (x4 : Int32) (x5 : Int32) (x6 : Int32) (x7 : Int32), z_is b0 S x0 9 → z_X9_shared_108 F S I k42 n x0 x1 x2 x3 x4 x5 x6 x7 = some X → ∀ ls : Array Slot, lv_has ls 8 [(0, .ref (x0)), (1, .int (x1)), (2, .int (x2)), (3, .int (x3)), (4, .int (x4)), (5, .int (x5)), (6, .int (x6)), (7, .int (x7))] → z_W p l e { frames := 2, cells := 0, slots := 0, locals := 42 } s m args below meth c D b0 S I 0 0 (MQ below (z_Q D b0 (some (.int (X))) S I) args s 0 0 (fun q => b0 ≤ q)) (F0 m 108 ls []) := by
  intro n
  induction n with
  | zero => intro x0 x1 x2 x3 x4 x5 x6 x7 h_x0 hz; cases hz
  | succ n ih =>
    intro x0 x1 x2 x3 x4 x5 x6 x7 h_x0 hz ls hl
    exact bb_X9_shared_108 (F := F) hC hT k42 (z_X9_shared_108 F S I k42 n) hk42 ih x0 x1 x2 x3 x4 x5 x6 x7 h_x0 hz ls hl
set_option maxRecDepth 100000 in
set_option maxHeartbeats 4000000 in
theorem b_X9_shared_101 {p : Program} {l : Launch} {e : Env} {s : State} {m : MethodId} {args : Array Value} {below : List Frame} {meth : Method} {c : Code} {D : zD} {b0 : Nat} {F : Nat} {S : zS} {I : zI} {X : Int32} (hC : z_C p s m args meth c cX9_shared RX9 8 (some .int) D) (hT : z_T b0 S) (k42 : Nat → Int32 → Int32 → Int32 → Int32 → Option (Int32)) (hk42 : ∀ (x0 : Nat) (x1 : Int32) (x2 : Int32) (x3 : Int32) (x4 : Int32) , z_is b0 S x0 9 → k42 x0 x1 x2 x3 x4 = some X → ∀ ls : Array Slot, lv_has ls 8 [(0, .ref (x0)), (1, .int (x1)), (2, .int (x2)), (3, .int (x3)), (4, .int (x4))] → z_W p l e { frames := 2, cells := 0, slots := 0, locals := 42 } s m args below meth c D b0 S I 0 0 (MQ below (z_Q D b0 (some (.int (X))) S I) args s 0 0 (fun q => b0 ≤ q)) (F0 m 42 ls [])) (x0 : Nat) (x1 : Int32) (x2 : Int32) (x3 : Int32) (x4 : Int32) (x5 : Int32) (y0 : Int32) (h_x0 : z_is b0 S x0 9) (hz : z_X9_shared_101 F S I k42 x0 x1 x2 x3 x4 x5 y0 = some X) (ls : Array Slot) (hl : lv_has ls 8 [(0, .ref (x0)), (1, .int (x1)), (2, .int (x2)), (3, .int (x3)), (4, .int (x4)), (5, .int (x5))]) : z_W p l e { frames := 2, cells := 0, slots := 0, locals := 42 } s m args below meth c D b0 S I 0 0 (MQ below (z_Q D b0 (some (.int (X))) S I) args s 0 0 (fun q => b0 ≤ q)) (F0 m 101 ls [.int (y0)]) := by
  unfold z_X9_shared_101 at hz
  refine z_istore (lv' := [(6, .int (y0)), (0, .ref (x0)), (1, .int (x1)), (2, .int (x2)), (3, .int (x3)), (4, .int (x4)), (5, .int (x5))]) hC dX9_shared_101 hl (by decide) rfl (fun ls hl => ?_)
  refine z_iconst (v := 4) hC dX9_shared_103 (by decide) ?_
  refine z_iload_n hC dX9_shared_104 rfl (lv_at hl 2 rfl) ?_
  refine z_imul hC dX9_shared_105 ?_
  refine z_istore (lv' := [(7, .int (4 * x1)), (6, .int (y0)), (0, .ref (x0)), (1, .int (x1)), (2, .int (x2)), (3, .int (x3)), (4, .int (x4)), (5, .int (x5))]) hC dX9_shared_106 hl (by decide) rfl (fun ls hl => ?_)
  exact b_X9_shared_108 hC hT k42 hk42 F (x0) (x1) (x2) (x3) (x4) (x5) (y0) (4 * x1) h_x0 hz ls (lv_sub hl [2, 3, 4, 5, 6, 7, 1, 0] rfl)
set_option maxRecDepth 100000 in
set_option maxHeartbeats 4000000 in
theorem bb_X9_shared_42 {p : Program} {l : Launch} {e : Env} {s : State} {m : MethodId} {args : Array Value} {below : List Frame} {meth : Method} {c : Code} {D : zD} {b0 : Nat} {F : Nat} {S : zS} {I : zI} {X : Int32} (hC : z_C p s m args meth c cX9_shared RX9 8 (some .int) D) (hT : z_T b0 S) (k42 : Nat → Int32 → Int32 → Int32 → Int32 → Option (Int32)) (hk42 : ∀ (x0 : Nat) (x1 : Int32) (x2 : Int32) (x3 : Int32) (x4 : Int32) , z_is b0 S x0 9 → k42 x0 x1 x2 x3 x4 = some X → ∀ ls : Array Slot, lv_has ls 8 [(0, .ref (x0)), (1, .int (x1)), (2, .int (x2)), (3, .int (x3)), (4, .int (x4))] → z_W p l e { frames := 2, cells := 0, slots := 0, locals := 42 } s m args below meth c D b0 S I 0 0 (MQ below (z_Q D b0 (some (.int (X))) S I) args s 0 0 (fun q => b0 ≤ q)) (F0 m 42 ls [])) (x0 : Nat) (x1 : Int32) (x2 : Int32) (x3 : Int32) (x4 : Int32) (h_x0 : z_is b0 S x0 9) (hz : z_X9_shared_42B F S I k42 x0 x1 x2 x3 x4 = some X) (ls : Array Slot) (hl : lv_has ls 8 [(0, .ref (x0)), (1, .int (x1)), (2, .int (x2)), (3, .int (x3)), (4, .int (x4))]) : z_W p l e { frames := 2, cells := 0, slots := 0, locals := 42 } s m args below meth c D b0 S I 0 0 (MQ below (z_Q D b0 (some (.int (X))) S I) args s 0 0 (fun q => b0 ≤ q)) (F0 m 42 ls []) := by
  unfold z_X9_shared_42B at hz
  refine z_iload hC dX9_shared_42 (lv_at hl 4 rfl) ?_
  refine z_aload_n hC dX9_shared_44 rfl (lv_at hl 0 rfl) ?_
  obtain ⟨r1, hr_r1, hz⟩ := ob_some hz
  have hk_r1 : z_is b0 S r1 10 := hT.at h_x0 hr_r1
  refine z_getR hC zc_9 6 (by decide) kw_743 dX9_shared_45 h_x0 rfl hr_r1 ?_
  refine z_iload_n hC dX9_shared_48 rfl (lv_at hl 1 rfl) ?_
  obtain ⟨hi2, hz⟩ := ifn_some hz
  refine z_iald hC dX9_shared_49 hk_r1 hi2 ?_
  refine z_icmp_ge (tgt := 190) hC dX9_shared_50 (by decide) hz (fun hz => ?_) (fun hz => ?_)
  · skip
    refine z_iload_n hC dX9_shared_190 rfl (lv_at hl 3 rfl) ?_
    obtain rfl := Option.some.inj hz
    exact z_iret hC hT dX9_shared_191 (by decide) (by decide)
  · skip
    refine z_bipush (v := 40) hC dX9_shared_53 (by decide) ?_
    refine z_iload_n hC dX9_shared_55 rfl (lv_at hl 1 rfl) ?_
    refine z_imul hC dX9_shared_56 ?_
    refine z_iload hC dX9_shared_57 (lv_at hl 4 rfl) ?_
    refine z_iadd hC dX9_shared_59 ?_
    refine z_istore (lv' := [(5, .int ((40 * x1) + x4)), (0, .ref (x0)), (1, .int (x1)), (2, .int (x2)), (3, .int (x3)), (4, .int (x4))]) hC dX9_shared_60 hl (by decide) rfl (fun ls hl => ?_)
    refine z_aload_n hC dX9_shared_62 rfl (lv_at hl 1 rfl) ?_
    obtain ⟨r3, hr_r3, hz⟩ := ob_some hz
    have hk_r3 : z_is b0 S r3 10 := hT.at h_x0 hr_r3
    refine z_getR hC zc_9 7 (by decide) kw_744 dX9_shared_63 h_x0 rfl hr_r3 ?_
    refine z_iload hC dX9_shared_66 (lv_at hl 0 rfl) ?_
    obtain ⟨hi4, hz⟩ := ifn_some hz
    refine z_iald hC dX9_shared_68 hk_r3 hi4 ?_
    obtain ⟨q5, hq_q5, hz⟩ := ob_some hz
    refine z_callS (As := [.int (I r3 ((40 * x1) + x4).toNatClampNeg)]) hC hT (c_X9_jumps F (I r3 ((40 * x1) + x4).toNatClampNeg)  hq_q5) zy_X9_jumps kw_967 kw_966 dX9_shared_69 rfl rfl hl.1 (Nat.le_of_ble_eq_true rfl) (by decide) (by decide) ?_
    refine z_if_eq (tgt := 100) hC dX9_shared_72 (by decide) hz (fun hz => ?_) (fun hz => ?_)
    · skip
      refine z_iconst (v := 0) hC dX9_shared_100 (by decide) ?_
      exact b_X9_shared_101 hC hT k42 hk42 (x0) (x1) (x2) (x3) (x4) ((40 * x1) + x4) (0) h_x0 hz ls (lv_sub hl [1, 2, 3, 4, 5, 0] rfl)
    · skip
      refine z_iload_n hC dX9_shared_75 rfl (lv_at hl 3 rfl) ?_
      refine z_aload_n hC dX9_shared_76 rfl (lv_at hl 1 rfl) ?_
      obtain ⟨r6, hr_r6, hz⟩ := ob_some hz
      have hk_r6 : z_is b0 S r6 10 := hT.at h_x0 hr_r6
      refine z_getR hC zc_9 8 (by decide) kw_745 dX9_shared_77 h_x0 rfl hr_r6 ?_
      refine z_iload hC dX9_shared_80 (lv_at hl 0 rfl) ?_
      obtain ⟨hi7, hz⟩ := ifn_some hz
      refine z_iald hC dX9_shared_82 hk_r6 hi7 ?_
      refine z_aload_n hC dX9_shared_83 rfl (lv_at hl 1 rfl) ?_
      obtain ⟨r8, hr_r8, hz⟩ := ob_some hz
      have hk_r8 : z_is b0 S r8 10 := hT.at h_x0 hr_r8
      refine z_getR hC zc_9 9 (by decide) kw_746 dX9_shared_84 h_x0 rfl hr_r8 ?_
      refine z_iload hC dX9_shared_87 (lv_at hl 0 rfl) ?_
      obtain ⟨hi9, hz⟩ := ifn_some hz
      refine z_iald hC dX9_shared_89 hk_r8 hi9 ?_
      obtain ⟨q10, hq_q10, hz⟩ := ob_some hz
      refine z_callS (As := [.int (x2), .int (I r6 ((40 * x1) + x4).toNatClampNeg), .int (I r8 ((40 * x1) + x4).toNatClampNeg)]) hC hT (c_X9_in F x2 (I r6 ((40 * x1) + x4).toNatClampNeg) (I r8 ((40 * x1) + x4).toNatClampNeg)  hq_q10) zy_X9_in kw_834 kw_833 dX9_shared_90 rfl rfl hl.1 (Nat.le_of_ble_eq_true rfl) (by decide) (by decide) ?_
      refine z_if_eq (tgt := 100) hC dX9_shared_93 (by decide) hz (fun hz => ?_) (fun hz => ?_)
      · skip
        refine z_iconst (v := 0) hC dX9_shared_100 (by decide) ?_
        exact b_X9_shared_101 hC hT k42 hk42 (x0) (x1) (x2) (x3) (x4) ((40 * x1) + x4) (0) h_x0 hz ls (lv_sub hl [1, 2, 3, 4, 5, 0] rfl)
      · skip
        refine z_iconst (v := 1) hC dX9_shared_96 (by decide) ?_
        refine z_goto (tgt := 101) hC dX9_shared_97 (by decide) ?_
        exact b_X9_shared_101 hC hT k42 hk42 (x0) (x1) (x2) (x3) (x4) ((40 * x1) + x4) (1) h_x0 hz ls (lv_sub hl [1, 2, 3, 4, 5, 0] rfl)
set_option maxRecDepth 100000 in
set_option maxHeartbeats 4000000 in
theorem b_X9_shared_42 {p : Program} {l : Launch} {e : Env} {s : State} {m : MethodId} {args : Array Value} {below : List Frame} {meth : Method} {c : Code} {D : zD} {b0 : Nat} {F : Nat} {S : zS} {I : zI} {X : Int32} (hC : z_C p s m args meth c cX9_shared RX9 8 (some .int) D) (hT : z_T b0 S)   : ∀ (n : Nat) (x0 : Nat) (x1 : Int32) (x2 : Int32) (x3 : Int32) (x4 : Int32), z_is b0 S x0 9 → z_X9_shared_42 F S I  n x0 x1 x2 x3 x4 = some X → ∀ ls : Array Slot, lv_has ls 8 [(0, .ref (x0)), (1, .int (x1)), (2, .int (x2)), (3, .int (x3)), (4, .int (x4))] → z_W p l e { frames := 2, cells := 0, slots := 0, locals := 42 } s m args below meth c D b0 S I 0 0 (MQ below (z_Q D b0 (some (.int (X))) S I) args s 0 0 (fun q => b0 ≤ q)) (F0 m 42 ls []) := by
  intro n
  induction n with
  | zero => intro x0 x1 x2 x3 x4 h_x0 hz; cases hz
  | succ n ih =>
    intro x0 x1 x2 x3 x4 h_x0 hz ls hl
    exact bb_X9_shared_42 (F := F) hC hT  (z_X9_shared_42 F S I  n)  ih x0 x1 x2 x3 x4 h_x0 hz ls hl
set_option maxRecDepth 100000 in
set_option maxHeartbeats 4000000 in
theorem c_X9_shared {l : Launch} {D : zD} {b0 : Nat} {S : zS} {I : zI} {X : Int32} (F : Nat) (x0 : Nat) (x1 : Int32) (x2 : Int32) (h_x0 : z_is b0 S x0 9) (hz : z_X9_shared F S I x0 x1 x2 = some X) : z_M l D b0 yX9_shared cX9_shared 8 (some .int) { frames := 2, cells := 0, slots := 0, locals := 42 } [.ref (x0), .int (x1), .int (x2)] S I (some (.int (X))) S I := by
  refine z_met (by decide) (Nat.le_of_ble_eq_true rfl) ?_
  intro p e s m below meth c hC hnm hT ls hl
  have hl : lv_has ls 8 [(0, .ref (x0)), (1, .int (x1)), (2, .int (x2))] := hl
  unfold z_X9_shared at hz
  refine z_iload_n hC dX9_shared_0 rfl (lv_at hl 1 rfl) ?_
  obtain ⟨q1, hq_q1, hz⟩ := ob_some hz
  refine z_callS (As := [.int (x1)]) hC hT (c_X9_isMethod F x1  hq_q1) zy_X9_isMethod kw_861 kw_860 dX9_shared_1 rfl rfl hl.1 (Nat.le_of_ble_eq_true rfl) (by decide) (by decide) ?_
  refine z_if_eq (tgt := 23) hC dX9_shared_4 (by decide) hz (fun hz => ?_) (fun hz => ?_)
  · skip
    refine z_iconst (v := (-1)) hC dX9_shared_23 (by decide) ?_
    obtain rfl := Option.some.inj hz
    exact z_iret hC hT dX9_shared_24 (by decide) (by decide)
  · skip
    refine z_iload_n hC dX9_shared_7 rfl (lv_at hl 2 rfl) ?_
    refine z_iconst (v := 0) hC dX9_shared_8 (by decide) ?_
    refine z_aload_n hC dX9_shared_9 rfl (lv_at hl 0 rfl) ?_
    obtain ⟨r2, hr_r2, hz⟩ := ob_some hz
    have hk_r2 : z_is b0 S r2 10 := hT.at h_x0 hr_r2
    refine z_getR hC zc_9 6 (by decide) kw_743 dX9_shared_10 h_x0 rfl hr_r2 ?_
    refine z_iload_n hC dX9_shared_13 rfl (lv_at hl 1 rfl) ?_
    obtain ⟨hi3, hz⟩ := ifn_some hz
    refine z_iald hC dX9_shared_14 hk_r2 hi3 ?_
    refine z_iconst (v := 1) hC dX9_shared_15 (by decide) ?_
    refine z_isub hC dX9_shared_16 ?_
    obtain ⟨q4, hq_q4, hz⟩ := ob_some hz
    refine z_callS (As := [.int (x2), .int (0), .int ((I r2 x1.toNatClampNeg) - 1)]) hC hT (c_X9_in F x2 0 ((I r2 x1.toNatClampNeg) - 1)  hq_q4) zy_X9_in kw_834 kw_833 dX9_shared_17 rfl rfl hl.1 (Nat.le_of_ble_eq_true rfl) (by decide) (by decide) ?_
    refine z_if_ne (tgt := 25) hC dX9_shared_20 (by decide) hz (fun hz => ?_) (fun hz => ?_)
    · skip
      refine z_aload_n hC dX9_shared_25 rfl (lv_at hl 0 rfl) ?_
      obtain ⟨r5, hr_r5, hz⟩ := ob_some hz
      have hk_r5 : z_is b0 S r5 11 := hT.at h_x0 hr_r5
      refine z_getR hC zc_9 15 (by decide) kw_752 dX9_shared_26 h_x0 rfl hr_r5 ?_
      refine z_iload_n hC dX9_shared_29 rfl (lv_at hl 1 rfl) ?_
      obtain ⟨hi6, hz⟩ := ifn_some hz
      refine z_zald hC dX9_shared_30 hk_r5 hi6 ?_
      refine z_if_ne (tgt := 37) hC dX9_shared_31 (by decide) hz (fun hz => ?_) (fun hz => ?_)
      · skip
        refine z_iconst (v := 0) hC dX9_shared_37 (by decide) ?_
        refine z_istore_n (lv' := [(3, .int (0)), (0, .ref (x0)), (1, .int (x1)), (2, .int (x2))]) hC dX9_shared_38 rfl hl (by decide) rfl (fun ls hl => ?_)
        refine z_iconst (v := 0) hC dX9_shared_39 (by decide) ?_
        refine z_istore (lv' := [(4, .int (0)), (3, .int (0)), (0, .ref (x0)), (1, .int (x1)), (2, .int (x2))]) hC dX9_shared_40 hl (by decide) rfl (fun ls hl => ?_)
        exact b_X9_shared_42 hC hT   F (x0) (x1) (x2) (0) (0) h_x0 hz ls (lv_sub hl [2, 3, 4, 1, 0] rfl)
      · skip
        refine z_bipush (v := (-3)) hC dX9_shared_34 (by decide) ?_
        obtain rfl := Option.some.inj hz
        exact z_iret hC hT dX9_shared_36 (by decide) (by decide)
    · skip
      refine z_iconst (v := (-1)) hC dX9_shared_23 (by decide) ?_
      obtain rfl := Option.some.inj hz
      exact z_iret hC hT dX9_shared_24 (by decide) (by decide)
theorem zy_X9_maximum : z_y yX9_maximum cX9_maximum 11 (some .int) 2 := ⟨kw_1014, kw_8, by decide +kernel, by decide +kernel, by decide +kernel⟩
theorem zv_X9_maximum : Cond.instanceMethod yX9_maximum ∈ z_tbl ∧ Cond.selects RX9 yX9_maximum yX9_maximum ∈ z_tbl := ⟨kw_1012, kw_1013⟩
def z_X9_maximum_275 (F : Nat) (S : zS) (k48 : Nat → Int32 → Int32 → Int32 → Int32 → Int32 → zI → Option (Int32 × zI)) (x0 : Nat) (x1 : Int32) (x2 : Int32) (x4 : Int32) (x5 : Int32) (y0 : Int32) (I : zI) : Option (Int32 × zI) :=
  k48 (x0) (x1) (x2) (y0) (x4) (x5 + 1) (I)
def z_X9_maximum_262 (F : Nat) (S : zS) (k48 : Nat → Int32 → Int32 → Int32 → Int32 → Int32 → zI → Option (Int32 × zI)) (x0 : Nat) (x1 : Int32) (x2 : Int32) (x4 : Int32) (x5 : Int32) (x10 : Int32) (y0 : Int32) (I : zI) : Option (Int32 × zI) :=
  if y0 < x10 then (z_X9_maximum_275 F S k48 (x0) (x1) (x2) (x4) (x5) (x10) (I)) else (z_X9_maximum_275 F S k48 (x0) (x1) (x2) (x4) (x5) (y0) (I))
def z_X9_maximum_233 (F : Nat) (S : zS) (k48 : Nat → Int32 → Int32 → Int32 → Int32 → Int32 → zI → Option (Int32 × zI)) (x0 : Nat) (x1 : Int32) (x2 : Int32) (x3 : Int32) (x5 : Int32) (x7 : Int32) (y0 : Int32) (I : zI) : Option (Int32 × zI) :=
  ob (z_X9_does F S I x0 x5) (fun q1 => ob (S.1 x0 22) (fun r2 => ob (z_X9_counted F S q1 r2) (fun q3 => if x3 < x7 then (z_X9_maximum_262 F S k48 (x0) (x1) (x2) (y0) (x5) (q3) (x7) (q1)) else (z_X9_maximum_262 F S k48 (x0) (x1) (x2) (y0) (x5) (q3) (x3) (q1)))))
def z_X9_maximum_196 (F : Nat) (S : zS) (k48 : Nat → Int32 → Int32 → Int32 → Int32 → Int32 → zI → Option (Int32 × zI)) (x0 : Nat) (x1 : Int32) (x2 : Int32) (x3 : Int32) (x4 : Int32) (x5 : Int32) (x6 : Int32) (x7 : Int32) (x8 : Int32) (y0 : Int32) (I : zI) : Option (Int32 × zI) :=
  if y0 = 0 then (z_X9_maximum_233 F S k48 (x0) (x1) (x2) (x3) (x5) (x7) (x4) (I)) else (ob (S.1 x0 8) (fun r1 => if x6 < 0 ∨ (S.2.1 r1).2 ≤ x6.toNatClampNeg then none else (if x4 < ((I r1 x6.toNatClampNeg) + x8) then (if x6 < 0 ∨ (S.2.1 r1).2 ≤ x6.toNatClampNeg then none else (z_X9_maximum_233 F S k48 (x0) (x1) (x2) (x3) (x5) (x7) ((I r1 x6.toNatClampNeg) + x8) (I))) else (z_X9_maximum_233 F S k48 (x0) (x1) (x2) (x3) (x5) (x7) (x4) (I)))))
def z_X9_maximum_155 (F : Nat) (S : zS) (k48 : Nat → Int32 → Int32 → Int32 → Int32 → Int32 → zI → Option (Int32 × zI)) (x0 : Nat) (x1 : Int32) (x2 : Int32) (x3 : Int32) (x4 : Int32) (x5 : Int32) (x6 : Int32) (x7 : Int32) (y0 : Int32) (I : zI) : Option (Int32 × zI) :=
  ob (S.1 x0 7) (fun r1 => if x6 < 0 ∨ (S.2.1 r1).2 ≤ x6.toNatClampNeg then none else (if (I r1 x6.toNatClampNeg) = 3 then (z_X9_maximum_196 F S k48 (x0) (x1) (x2) (x3) (x4) (x5) (x6) (x7) (y0) (1) (I)) else (if x6 < 0 ∨ (S.2.1 r1).2 ≤ x6.toNatClampNeg then none else (if (I r1 x6.toNatClampNeg) = 4 then (z_X9_maximum_196 F S k48 (x0) (x1) (x2) (x3) (x4) (x5) (x6) (x7) (y0) (1) (I)) else (if x6 < 0 ∨ (S.2.1 r1).2 ≤ x6.toNatClampNeg then none else (if (I r1 x6.toNatClampNeg) = 20 then (z_X9_maximum_196 F S k48 (x0) (x1) (x2) (x3) (x4) (x5) (x6) (x7) (y0) (1) (I)) else (z_X9_maximum_196 F S k48 (x0) (x1) (x2) (x3) (x4) (x5) (x6) (x7) (y0) (0) (I))))))))
def z_X9_maximum_131 (F : Nat) (S : zS) (k48 : Nat → Int32 → Int32 → Int32 → Int32 → Int32 → zI → Option (Int32 × zI)) (x0 : Nat) (x1 : Int32) (x2 : Int32) (x3 : Int32) (x4 : Int32) (x5 : Int32) (x6 : Int32) (x7 : Int32) (I : zI) : Option (Int32 × zI) :=
  ob (S.1 x0 7) (fun r1 => if x6 < 0 ∨ (S.2.1 r1).2 ≤ x6.toNatClampNeg then none else (if (I r1 x6.toNatClampNeg) = 4 then (ob (z_X9_top F S I x0) (fun q3 => if q3 = 2 then (z_X9_maximum_155 F S k48 (x0) (x1) (x2) (x3) (x4) (x5) (x6) (x7) (2) (I)) else (z_X9_maximum_155 F S k48 (x0) (x1) (x2) (x3) (x4) (x5) (x6) (x7) (1) (I)))) else (z_X9_maximum_155 F S k48 (x0) (x1) (x2) (x3) (x4) (x5) (x6) (x7) (1) (I))))
def z_X9_maximum_48B (F : Nat) (S : zS) (k48 : Nat → Int32 → Int32 → Int32 → Int32 → Int32 → zI → Option (Int32 × zI)) (x0 : Nat) (x1 : Int32) (x2 : Int32) (x3 : Int32) (x4 : Int32) (x5 : Int32) (I : zI) : Option (Int32 × zI) :=
  ob (S.1 x0 6) (fun r1 => if x1 < 0 ∨ (S.2.1 r1).2 ≤ x1.toNatClampNeg then none else (if x5 < (I r1 x1.toNatClampNeg) then (ob (S.1 x0 16) (fun r3 => if ((40 * x1) + x5) < 0 ∨ (S.2.1 r3).2 ≤ ((40 * x1) + x5).toNatClampNeg then none else (if (I r3 ((40 * x1) + x5).toNatClampNeg) = 0 then (k48 (x0) (x1) (x2) (x3) (x4) (x5 + 1) (I)) else (ob (S.1 x0 17) (fun r5 => ob (S.1 x0 22) (fun r6 => ob (z_X9_copy F S I r5 (20 * ((40 * x1) + x5)) r6 0) (fun q7 => ob (z_X9_counted F S q7 r6) (fun q8 => ob (S.1 x0 7) (fun r9 => if ((40 * x1) + x5) < 0 ∨ (S.2.1 r9).2 ≤ ((40 * x1) + x5).toNatClampNeg then none else (if (q7 r9 ((40 * x1) + x5).toNatClampNeg) = 3 then (ob (S.1 x0 8) (fun r11 => if ((40 * x1) + x5) < 0 ∨ (S.2.1 r11).2 ≤ ((40 * x1) + x5).toNatClampNeg then none else (if (q7 r11 ((40 * x1) + x5).toNatClampNeg) < 0 ∨ (S.2.1 r6).2 ≤ (q7 r11 ((40 * x1) + x5).toNatClampNeg).toNatClampNeg then none else (if (q7 r6 (q7 r11 ((40 * x1) + x5).toNatClampNeg).toNatClampNeg) = 2 then (z_X9_maximum_155 F S k48 (x0) (x1) (x2) (x3) (x4) (x5) ((40 * x1) + x5) (q8) (2) (q7)) else (z_X9_maximum_131 F S k48 (x0) (x1) (x2) (x3) (x4) (x5) ((40 * x1) + x5) (q8) (q7)))))) else (z_X9_maximum_131 F S k48 (x0) (x1) (x2) (x3) (x4) (x5) ((40 * x1) + x5) (q8) (q7)))))))))))) else (if x2 = 0 then (some (x3, I)) else (some (x4, I)))))
def z_X9_maximum_48 (F : Nat) (S : zS)  : Nat → Nat → Int32 → Int32 → Int32 → Int32 → Int32 → zI → Option (Int32 × zI)
  | 0 => fun _ _ _ _ _ _ _ => none
  | n + 1 => fun x0 x1 x2 x3 x4 x5 I => z_X9_maximum_48B F S  (z_X9_maximum_48 F S  n) x0 x1 x2 x3 x4 x5 I
def z_X9_maximum (F : Nat) (S : zS) (I : zI) (x0 : Nat) (x1 : Int32) (x2 : Int32) : Option (Int32 × zI) :=
  ob (z_X9_isMethod F S I x1) (fun q1 => if q1 = 0 then (some ((-1), I)) else (ob (z_X9_in F S I x2 0 1) (fun q2 => if q2 = 0 then (some ((-1), I)) else (ob (S.1 x0 15) (fun r3 => if x1 < 0 ∨ (S.2.1 r3).2 ≤ x1.toNatClampNeg then none else (if (I r3 x1.toNatClampNeg) = 0 then (some ((-3), I)) else (ob (S.1 x0 4) (fun r5 => if x1 < 0 ∨ (S.2.1 r5).2 ≤ x1.toNatClampNeg then none else (z_X9_maximum_48 F S  F (x0) (x1) (x2) (0) ((z_up I x0 21 x1) r5 x1.toNatClampNeg) (0) (z_up I x0 21 x1))))))))))
set_option maxRecDepth 100000 in
set_option maxHeartbeats 4000000 in
theorem b_X9_maximum_275 {p : Program} {l : Launch} {e : Env} {s : State} {m : MethodId} {args : Array Value} {below : List Frame} {meth : Method} {c : Code} {D : zD} {b0 : Nat} {F : Nat} {S : zS} {X : Int32 × zI} (hC : z_C p s m args meth c cX9_maximum RX9 11 (some .int) D) (hT : z_T b0 S) (k48 : Nat → Int32 → Int32 → Int32 → Int32 → Int32 → zI → Option (Int32 × zI)) (hk48 : ∀ (x0 : Nat) (x1 : Int32) (x2 : Int32) (x3 : Int32) (x4 : Int32) (x5 : Int32) (I : zI) , z_is b0 S x0 9 → k48 x0 x1 x2 x3 x4 x5 I = some X → ∀ ls : Array Slot, lv_has ls 11 [(0, .ref (x0)), (1, .int (x1)), (2, .int (x2)), (3, .int (x3)), (4, .int (x4)), (5, .int (x5))] → z_W p l e { frames := 5, cells := 0, slots := 0, locals := 115 } s m args below meth c D b0 S I 0 0 (MQ below (z_Q D b0 (some (.int (X.1))) S X.2) args s 0 0 (fun q => b0 ≤ q)) (F0 m 48 ls [])) (x0 : Nat) (x1 : Int32) (x2 : Int32) (x4 : Int32) (x5 : Int32) (y0 : Int32) (I : zI) (h_x0 : z_is b0 S x0 9) (hz : z_X9_maximum_275 F S k48 x0 x1 x2 x4 x5 y0 I = some X) (ls : Array Slot) (hl : lv_has ls 11 [(0, .ref (x0)), (1, .int (x1)), (2, .int (x2)), (4, .int (x4)), (5, .int (x5))]) : z_W p l e { frames := 5, cells := 0, slots := 0, locals := 115 } s m args below meth c D b0 S I 0 0 (MQ below (z_Q D b0 (some (.int (X.1))) S X.2) args s 0 0 (fun q => b0 ≤ q)) (F0 m 275 ls [.int (y0)]) := by
  unfold z_X9_maximum_275 at hz
  refine z_istore_n (lv' := [(3, .int (y0)), (0, .ref (x0)), (1, .int (x1)), (2, .int (x2)), (4, .int (x4)), (5, .int (x5))]) hC dX9_maximum_275 rfl hl (by decide) rfl (fun ls hl => ?_)
  refine z_iinc (k0 := 5) (v := x5 + 1) (lv' := [(5, .int (x5 + 1)), (3, .int (y0)), (0, .ref (x0)), (1, .int (x1)), (2, .int (x2)), (4, .int (x4))]) hC dX9_maximum_276 hl rfl rfl (by decide) rfl (fun ls hl => ?_)
  refine z_goto (tgt := 48) hC dX9_maximum_279 (by decide) ?_
  exact hk48 (x0) (x1) (x2) (y0) (x4) (x5 + 1) (I) h_x0 hz ls (lv_sub hl [2, 3, 4, 1, 5, 0] rfl)
set_option maxRecDepth 100000 in
set_option maxHeartbeats 4000000 in
theorem b_X9_maximum_262 {p : Program} {l : Launch} {e : Env} {s : State} {m : MethodId} {args : Array Value} {below : List Frame} {meth : Method} {c : Code} {D : zD} {b0 : Nat} {F : Nat} {S : zS} {X : Int32 × zI} (hC : z_C p s m args meth c cX9_maximum RX9 11 (some .int) D) (hT : z_T b0 S) (k48 : Nat → Int32 → Int32 → Int32 → Int32 → Int32 → zI → Option (Int32 × zI)) (hk48 : ∀ (x0 : Nat) (x1 : Int32) (x2 : Int32) (x3 : Int32) (x4 : Int32) (x5 : Int32) (I : zI) , z_is b0 S x0 9 → k48 x0 x1 x2 x3 x4 x5 I = some X → ∀ ls : Array Slot, lv_has ls 11 [(0, .ref (x0)), (1, .int (x1)), (2, .int (x2)), (3, .int (x3)), (4, .int (x4)), (5, .int (x5))] → z_W p l e { frames := 5, cells := 0, slots := 0, locals := 115 } s m args below meth c D b0 S I 0 0 (MQ below (z_Q D b0 (some (.int (X.1))) S X.2) args s 0 0 (fun q => b0 ≤ q)) (F0 m 48 ls [])) (x0 : Nat) (x1 : Int32) (x2 : Int32) (x4 : Int32) (x5 : Int32) (x10 : Int32) (y0 : Int32) (I : zI) (h_x0 : z_is b0 S x0 9) (hz : z_X9_maximum_262 F S k48 x0 x1 x2 x4 x5 x10 y0 I = some X) (ls : Array Slot) (hl : lv_has ls 11 [(0, .ref (x0)), (1, .int (x1)), (2, .int (x2)), (4, .int (x4)), (5, .int (x5)), (10, .int (x10))]) : z_W p l e { frames := 5, cells := 0, slots := 0, locals := 115 } s m args below meth c D b0 S I 0 0 (MQ below (z_Q D b0 (some (.int (X.1))) S X.2) args s 0 0 (fun q => b0 ≤ q)) (F0 m 262 ls [.int (y0)]) := by
  unfold z_X9_maximum_262 at hz
  refine z_istore_n (lv' := [(3, .int (y0)), (0, .ref (x0)), (1, .int (x1)), (2, .int (x2)), (4, .int (x4)), (5, .int (x5)), (10, .int (x10))]) hC dX9_maximum_262 rfl hl (by decide) rfl (fun ls hl => ?_)
  refine z_iload hC dX9_maximum_263 (lv_at hl 6 rfl) ?_
  refine z_iload_n hC dX9_maximum_265 rfl (lv_at hl 0 rfl) ?_
  refine z_icmp_le (tgt := 274) hC dX9_maximum_266 (by decide) hz (fun hz => ?_) (fun hz => ?_)
  · skip
    refine z_iload_n hC dX9_maximum_274 rfl (lv_at hl 0 rfl) ?_
    exact b_X9_maximum_275 hC hT k48 hk48 (x0) (x1) (x2) (x4) (x5) (y0) (I) h_x0 hz ls (lv_sub hl [1, 2, 3, 4, 5] rfl)
  · skip
    refine z_iload hC dX9_maximum_269 (lv_at hl 6 rfl) ?_
    refine z_goto (tgt := 275) hC dX9_maximum_271 (by decide) ?_
    exact b_X9_maximum_275 hC hT k48 hk48 (x0) (x1) (x2) (x4) (x5) (x10) (I) h_x0 hz ls (lv_sub hl [1, 2, 3, 4, 5] rfl)
set_option maxRecDepth 100000 in
set_option maxHeartbeats 4000000 in
theorem b_X9_maximum_233 {p : Program} {l : Launch} {e : Env} {s : State} {m : MethodId} {args : Array Value} {below : List Frame} {meth : Method} {c : Code} {D : zD} {b0 : Nat} {F : Nat} {S : zS} {X : Int32 × zI} (hC : z_C p s m args meth c cX9_maximum RX9 11 (some .int) D) (hT : z_T b0 S) (k48 : Nat → Int32 → Int32 → Int32 → Int32 → Int32 → zI → Option (Int32 × zI)) (hk48 : ∀ (x0 : Nat) (x1 : Int32) (x2 : Int32) (x3 : Int32) (x4 : Int32) (x5 : Int32) (I : zI) , z_is b0 S x0 9 → k48 x0 x1 x2 x3 x4 x5 I = some X → ∀ ls : Array Slot, lv_has ls 11 [(0, .ref (x0)), (1, .int (x1)), (2, .int (x2)), (3, .int (x3)), (4, .int (x4)), (5, .int (x5))] → z_W p l e { frames := 5, cells := 0, slots := 0, locals := 115 } s m args below meth c D b0 S I 0 0 (MQ below (z_Q D b0 (some (.int (X.1))) S X.2) args s 0 0 (fun q => b0 ≤ q)) (F0 m 48 ls [])) (x0 : Nat) (x1 : Int32) (x2 : Int32) (x3 : Int32) (x5 : Int32) (x7 : Int32) (y0 : Int32) (I : zI) (h_x0 : z_is b0 S x0 9) (hz : z_X9_maximum_233 F S k48 x0 x1 x2 x3 x5 x7 y0 I = some X) (ls : Array Slot) (hl : lv_has ls 11 [(0, .ref (x0)), (1, .int (x1)), (2, .int (x2)), (3, .int (x3)), (5, .int (x5)), (7, .int (x7))]) : z_W p l e { frames := 5, cells := 0, slots := 0, locals := 115 } s m args below meth c D b0 S I 0 0 (MQ below (z_Q D b0 (some (.int (X.1))) S X.2) args s 0 0 (fun q => b0 ≤ q)) (F0 m 233 ls [.int (y0)]) := by
  unfold z_X9_maximum_233 at hz
  refine z_istore (lv' := [(4, .int (y0)), (0, .ref (x0)), (1, .int (x1)), (2, .int (x2)), (3, .int (x3)), (5, .int (x5)), (7, .int (x7))]) hC dX9_maximum_233 hl (by decide) rfl (fun ls hl => ?_)
  refine z_aload_n hC dX9_maximum_235 rfl (lv_at hl 1 rfl) ?_
  refine z_iload hC dX9_maximum_236 (lv_at hl 5 rfl) ?_
  obtain ⟨q1, hq_q1, hz⟩ := ob_some hz
  refine z_callV (As := [.int (x5)]) hC hT (c_X9_does F x0 x5 h_x0 hq_q1) zy_X9_does zc_9 zv_X9_does kw_920 dX9_maximum_238 h_x0 rfl rfl hl.1 (Nat.le_of_ble_eq_true rfl) (by decide) (by decide) ?_
  refine z_aload_n hC dX9_maximum_241 rfl (lv_at hl 1 rfl) ?_
  obtain ⟨r2, hr_r2, hz⟩ := ob_some hz
  have hk_r2 : z_is b0 S r2 10 := hT.at h_x0 hr_r2
  refine z_getR hC zc_9 22 (by decide) kw_759 dX9_maximum_242 h_x0 rfl hr_r2 ?_
  obtain ⟨q3, hq_q3, hz⟩ := ob_some hz
  refine z_callS (As := [.ref (r2)]) hC hT (c_X9_counted F r2 hk_r2 hq_q3) zy_X9_counted kw_961 kw_960 dX9_maximum_245 rfl rfl hl.1 (Nat.le_of_ble_eq_true rfl) (by decide) (by decide) ?_
  refine z_istore (lv' := [(10, .int (q3)), (4, .int (y0)), (0, .ref (x0)), (1, .int (x1)), (2, .int (x2)), (3, .int (x3)), (5, .int (x5)), (7, .int (x7))]) hC dX9_maximum_248 hl (by decide) rfl (fun ls hl => ?_)
  refine z_iload hC dX9_maximum_250 (lv_at hl 7 rfl) ?_
  refine z_iload_n hC dX9_maximum_252 rfl (lv_at hl 5 rfl) ?_
  refine z_icmp_le (tgt := 261) hC dX9_maximum_253 (by decide) hz (fun hz => ?_) (fun hz => ?_)
  · skip
    refine z_iload_n hC dX9_maximum_261 rfl (lv_at hl 5 rfl) ?_
    exact b_X9_maximum_262 hC hT k48 hk48 (x0) (x1) (x2) (y0) (x5) (q3) (x3) (q1) h_x0 hz ls (lv_sub hl [2, 3, 4, 1, 6, 0] rfl)
  · skip
    refine z_iload hC dX9_maximum_256 (lv_at hl 7 rfl) ?_
    refine z_goto (tgt := 262) hC dX9_maximum_258 (by decide) ?_
    exact b_X9_maximum_262 hC hT k48 hk48 (x0) (x1) (x2) (y0) (x5) (q3) (x7) (q1) h_x0 hz ls (lv_sub hl [2, 3, 4, 1, 6, 0] rfl)
set_option maxRecDepth 100000 in
set_option maxHeartbeats 4000000 in
theorem b_X9_maximum_196 {p : Program} {l : Launch} {e : Env} {s : State} {m : MethodId} {args : Array Value} {below : List Frame} {meth : Method} {c : Code} {D : zD} {b0 : Nat} {F : Nat} {S : zS} {X : Int32 × zI} (hC : z_C p s m args meth c cX9_maximum RX9 11 (some .int) D) (hT : z_T b0 S) (k48 : Nat → Int32 → Int32 → Int32 → Int32 → Int32 → zI → Option (Int32 × zI)) (hk48 : ∀ (x0 : Nat) (x1 : Int32) (x2 : Int32) (x3 : Int32) (x4 : Int32) (x5 : Int32) (I : zI) , z_is b0 S x0 9 → k48 x0 x1 x2 x3 x4 x5 I = some X → ∀ ls : Array Slot, lv_has ls 11 [(0, .ref (x0)), (1, .int (x1)), (2, .int (x2)), (3, .int (x3)), (4, .int (x4)), (5, .int (x5))] → z_W p l e { frames := 5, cells := 0, slots := 0, locals := 115 } s m args below meth c D b0 S I 0 0 (MQ below (z_Q D b0 (some (.int (X.1))) S X.2) args s 0 0 (fun q => b0 ≤ q)) (F0 m 48 ls [])) (x0 : Nat) (x1 : Int32) (x2 : Int32) (x3 : Int32) (x4 : Int32) (x5 : Int32) (x6 : Int32) (x7 : Int32) (x8 : Int32) (y0 : Int32) (I : zI) (h_x0 : z_is b0 S x0 9) (hz : z_X9_maximum_196 F S k48 x0 x1 x2 x3 x4 x5 x6 x7 x8 y0 I = some X) (ls : Array Slot) (hl : lv_has ls 11 [(0, .ref (x0)), (1, .int (x1)), (2, .int (x2)), (3, .int (x3)), (4, .int (x4)), (5, .int (x5)), (6, .int (x6)), (7, .int (x7)), (8, .int (x8))]) : z_W p l e { frames := 5, cells := 0, slots := 0, locals := 115 } s m args below meth c D b0 S I 0 0 (MQ below (z_Q D b0 (some (.int (X.1))) S X.2) args s 0 0 (fun q => b0 ≤ q)) (F0 m 196 ls [.int (y0)]) := by
  unfold z_X9_maximum_196 at hz
  refine z_istore (lv' := [(9, .int (y0)), (0, .ref (x0)), (1, .int (x1)), (2, .int (x2)), (3, .int (x3)), (4, .int (x4)), (5, .int (x5)), (6, .int (x6)), (7, .int (x7)), (8, .int (x8))]) hC dX9_maximum_196 hl (by decide) rfl (fun ls hl => ?_)
  refine z_iload hC dX9_maximum_198 (lv_at hl 0 rfl) ?_
  refine z_if_eq (tgt := 231) hC dX9_maximum_200 (by decide) hz (fun hz => ?_) (fun hz => ?_)
  · skip
    refine z_iload hC dX9_maximum_231 (lv_at hl 5 rfl) ?_
    exact b_X9_maximum_233 hC hT k48 hk48 (x0) (x1) (x2) (x3) (x5) (x7) (x4) (I) h_x0 hz ls (lv_sub hl [1, 2, 3, 4, 6, 8] rfl)
  · skip
    refine z_aload_n hC dX9_maximum_203 rfl (lv_at hl 1 rfl) ?_
    obtain ⟨r1, hr_r1, hz⟩ := ob_some hz
    have hk_r1 : z_is b0 S r1 10 := hT.at h_x0 hr_r1
    refine z_getR hC zc_9 8 (by decide) kw_745 dX9_maximum_204 h_x0 rfl hr_r1 ?_
    refine z_iload hC dX9_maximum_207 (lv_at hl 7 rfl) ?_
    obtain ⟨hi2, hz⟩ := ifn_some hz
    refine z_iald hC dX9_maximum_209 hk_r1 hi2 ?_
    refine z_iload hC dX9_maximum_210 (lv_at hl 9 rfl) ?_
    refine z_iadd hC dX9_maximum_212 ?_
    refine z_iload hC dX9_maximum_213 (lv_at hl 5 rfl) ?_
    refine z_icmp_le (tgt := 231) hC dX9_maximum_215 (by decide) hz (fun hz => ?_) (fun hz => ?_)
    · skip
      refine z_iload hC dX9_maximum_231 (lv_at hl 5 rfl) ?_
      exact b_X9_maximum_233 hC hT k48 hk48 (x0) (x1) (x2) (x3) (x5) (x7) (x4) (I) h_x0 hz ls (lv_sub hl [1, 2, 3, 4, 6, 8] rfl)
    · skip
      refine z_aload_n hC dX9_maximum_218 rfl (lv_at hl 1 rfl) ?_
      refine z_getR hC zc_9 8 (by decide) kw_745 dX9_maximum_219 h_x0 rfl hr_r1 ?_
      refine z_iload hC dX9_maximum_222 (lv_at hl 7 rfl) ?_
      obtain ⟨hi3, hz⟩ := ifn_some hz
      refine z_iald hC dX9_maximum_224 hk_r1 hi3 ?_
      refine z_iload hC dX9_maximum_225 (lv_at hl 9 rfl) ?_
      refine z_iadd hC dX9_maximum_227 ?_
      refine z_goto (tgt := 233) hC dX9_maximum_228 (by decide) ?_
      exact b_X9_maximum_233 hC hT k48 hk48 (x0) (x1) (x2) (x3) (x5) (x7) ((I r1 x6.toNatClampNeg) + x8) (I) h_x0 hz ls (lv_sub hl [1, 2, 3, 4, 6, 8] rfl)
set_option maxRecDepth 100000 in
set_option maxHeartbeats 4000000 in
theorem b_X9_maximum_155 {p : Program} {l : Launch} {e : Env} {s : State} {m : MethodId} {args : Array Value} {below : List Frame} {meth : Method} {c : Code} {D : zD} {b0 : Nat} {F : Nat} {S : zS} {X : Int32 × zI} (hC : z_C p s m args meth c cX9_maximum RX9 11 (some .int) D) (hT : z_T b0 S) (k48 : Nat → Int32 → Int32 → Int32 → Int32 → Int32 → zI → Option (Int32 × zI)) (hk48 : ∀ (x0 : Nat) (x1 : Int32) (x2 : Int32) (x3 : Int32) (x4 : Int32) (x5 : Int32) (I : zI) , z_is b0 S x0 9 → k48 x0 x1 x2 x3 x4 x5 I = some X → ∀ ls : Array Slot, lv_has ls 11 [(0, .ref (x0)), (1, .int (x1)), (2, .int (x2)), (3, .int (x3)), (4, .int (x4)), (5, .int (x5))] → z_W p l e { frames := 5, cells := 0, slots := 0, locals := 115 } s m args below meth c D b0 S I 0 0 (MQ below (z_Q D b0 (some (.int (X.1))) S X.2) args s 0 0 (fun q => b0 ≤ q)) (F0 m 48 ls [])) (x0 : Nat) (x1 : Int32) (x2 : Int32) (x3 : Int32) (x4 : Int32) (x5 : Int32) (x6 : Int32) (x7 : Int32) (y0 : Int32) (I : zI) (h_x0 : z_is b0 S x0 9) (hz : z_X9_maximum_155 F S k48 x0 x1 x2 x3 x4 x5 x6 x7 y0 I = some X) (ls : Array Slot) (hl : lv_has ls 11 [(0, .ref (x0)), (1, .int (x1)), (2, .int (x2)), (3, .int (x3)), (4, .int (x4)), (5, .int (x5)), (6, .int (x6)), (7, .int (x7))]) : z_W p l e { frames := 5, cells := 0, slots := 0, locals := 115 } s m args below meth c D b0 S I 0 0 (MQ below (z_Q D b0 (some (.int (X.1))) S X.2) args s 0 0 (fun q => b0 ≤ q)) (F0 m 155 ls [.int (y0)]) := by
  unfold z_X9_maximum_155 at hz
  refine z_istore (lv' := [(8, .int (y0)), (0, .ref (x0)), (1, .int (x1)), (2, .int (x2)), (3, .int (x3)), (4, .int (x4)), (5, .int (x5)), (6, .int (x6)), (7, .int (x7))]) hC dX9_maximum_155 hl (by decide) rfl (fun ls hl => ?_)
  refine z_aload_n hC dX9_maximum_157 rfl (lv_at hl 1 rfl) ?_
  obtain ⟨r1, hr_r1, hz⟩ := ob_some hz
  have hk_r1 : z_is b0 S r1 10 := hT.at h_x0 hr_r1
  refine z_getR hC zc_9 7 (by decide) kw_744 dX9_maximum_158 h_x0 rfl hr_r1 ?_
  refine z_iload hC dX9_maximum_161 (lv_at hl 7 rfl) ?_
  obtain ⟨hi2, hz⟩ := ifn_some hz
  refine z_iald hC dX9_maximum_163 hk_r1 hi2 ?_
  refine z_iconst (v := 3) hC dX9_maximum_164 (by decide) ?_
  refine z_icmp_eq (tgt := 191) hC dX9_maximum_165 (by decide) hz (fun hz => ?_) (fun hz => ?_)
  · skip
    refine z_iconst (v := 1) hC dX9_maximum_191 (by decide) ?_
    refine z_goto (tgt := 196) hC dX9_maximum_192 (by decide) ?_
    exact b_X9_maximum_196 hC hT k48 hk48 (x0) (x1) (x2) (x3) (x4) (x5) (x6) (x7) (y0) (1) (I) h_x0 hz ls (lv_sub hl [1, 2, 3, 4, 5, 6, 7, 8, 0] rfl)
  · skip
    refine z_aload_n hC dX9_maximum_168 rfl (lv_at hl 1 rfl) ?_
    refine z_getR hC zc_9 7 (by decide) kw_744 dX9_maximum_169 h_x0 rfl hr_r1 ?_
    refine z_iload hC dX9_maximum_172 (lv_at hl 7 rfl) ?_
    obtain ⟨hi3, hz⟩ := ifn_some hz
    refine z_iald hC dX9_maximum_174 hk_r1 hi3 ?_
    refine z_iconst (v := 4) hC dX9_maximum_175 (by decide) ?_
    refine z_icmp_eq (tgt := 191) hC dX9_maximum_176 (by decide) hz (fun hz => ?_) (fun hz => ?_)
    · skip
      refine z_iconst (v := 1) hC dX9_maximum_191 (by decide) ?_
      refine z_goto (tgt := 196) hC dX9_maximum_192 (by decide) ?_
      exact b_X9_maximum_196 hC hT k48 hk48 (x0) (x1) (x2) (x3) (x4) (x5) (x6) (x7) (y0) (1) (I) h_x0 hz ls (lv_sub hl [1, 2, 3, 4, 5, 6, 7, 8, 0] rfl)
    · skip
      refine z_aload_n hC dX9_maximum_179 rfl (lv_at hl 1 rfl) ?_
      refine z_getR hC zc_9 7 (by decide) kw_744 dX9_maximum_180 h_x0 rfl hr_r1 ?_
      refine z_iload hC dX9_maximum_183 (lv_at hl 7 rfl) ?_
      obtain ⟨hi4, hz⟩ := ifn_some hz
      refine z_iald hC dX9_maximum_185 hk_r1 hi4 ?_
      refine z_bipush (v := 20) hC dX9_maximum_186 (by decide) ?_
      refine z_icmp_ne (tgt := 195) hC dX9_maximum_188 (by decide) hz (fun hz => ?_) (fun hz => ?_)
      · skip
        refine z_iconst (v := 0) hC dX9_maximum_195 (by decide) ?_
        exact b_X9_maximum_196 hC hT k48 hk48 (x0) (x1) (x2) (x3) (x4) (x5) (x6) (x7) (y0) (0) (I) h_x0 hz ls (lv_sub hl [1, 2, 3, 4, 5, 6, 7, 8, 0] rfl)
      · skip
        refine z_iconst (v := 1) hC dX9_maximum_191 (by decide) ?_
        refine z_goto (tgt := 196) hC dX9_maximum_192 (by decide) ?_
        exact b_X9_maximum_196 hC hT k48 hk48 (x0) (x1) (x2) (x3) (x4) (x5) (x6) (x7) (y0) (1) (I) h_x0 hz ls (lv_sub hl [1, 2, 3, 4, 5, 6, 7, 8, 0] rfl)
set_option maxRecDepth 100000 in
set_option maxHeartbeats 4000000 in
theorem b_X9_maximum_131 {p : Program} {l : Launch} {e : Env} {s : State} {m : MethodId} {args : Array Value} {below : List Frame} {meth : Method} {c : Code} {D : zD} {b0 : Nat} {F : Nat} {S : zS} {X : Int32 × zI} (hC : z_C p s m args meth c cX9_maximum RX9 11 (some .int) D) (hT : z_T b0 S) (k48 : Nat → Int32 → Int32 → Int32 → Int32 → Int32 → zI → Option (Int32 × zI)) (hk48 : ∀ (x0 : Nat) (x1 : Int32) (x2 : Int32) (x3 : Int32) (x4 : Int32) (x5 : Int32) (I : zI) , z_is b0 S x0 9 → k48 x0 x1 x2 x3 x4 x5 I = some X → ∀ ls : Array Slot, lv_has ls 11 [(0, .ref (x0)), (1, .int (x1)), (2, .int (x2)), (3, .int (x3)), (4, .int (x4)), (5, .int (x5))] → z_W p l e { frames := 5, cells := 0, slots := 0, locals := 115 } s m args below meth c D b0 S I 0 0 (MQ below (z_Q D b0 (some (.int (X.1))) S X.2) args s 0 0 (fun q => b0 ≤ q)) (F0 m 48 ls [])) (x0 : Nat) (x1 : Int32) (x2 : Int32) (x3 : Int32) (x4 : Int32) (x5 : Int32) (x6 : Int32) (x7 : Int32) (I : zI) (h_x0 : z_is b0 S x0 9) (hz : z_X9_maximum_131 F S k48 x0 x1 x2 x3 x4 x5 x6 x7 I = some X) (ls : Array Slot) (hl : lv_has ls 11 [(0, .ref (x0)), (1, .int (x1)), (2, .int (x2)), (3, .int (x3)), (4, .int (x4)), (5, .int (x5)), (6, .int (x6)), (7, .int (x7))]) : z_W p l e { frames := 5, cells := 0, slots := 0, locals := 115 } s m args below meth c D b0 S I 0 0 (MQ below (z_Q D b0 (some (.int (X.1))) S X.2) args s 0 0 (fun q => b0 ≤ q)) (F0 m 131 ls []) := by
  unfold z_X9_maximum_131 at hz
  refine z_aload_n hC dX9_maximum_131 rfl (lv_at hl 0 rfl) ?_
  obtain ⟨r1, hr_r1, hz⟩ := ob_some hz
  have hk_r1 : z_is b0 S r1 10 := hT.at h_x0 hr_r1
  refine z_getR hC zc_9 7 (by decide) kw_744 dX9_maximum_132 h_x0 rfl hr_r1 ?_
  refine z_iload hC dX9_maximum_135 (lv_at hl 6 rfl) ?_
  obtain ⟨hi2, hz⟩ := ifn_some hz
  refine z_iald hC dX9_maximum_137 hk_r1 hi2 ?_
  refine z_iconst (v := 4) hC dX9_maximum_138 (by decide) ?_
  refine z_icmp_ne (tgt := 154) hC dX9_maximum_139 (by decide) hz (fun hz => ?_) (fun hz => ?_)
  · skip
    refine z_iconst (v := 1) hC dX9_maximum_154 (by decide) ?_
    exact b_X9_maximum_155 hC hT k48 hk48 (x0) (x1) (x2) (x3) (x4) (x5) (x6) (x7) (1) (I) h_x0 hz ls (lv_sub hl [0, 1, 2, 3, 4, 5, 6, 7] rfl)
  · skip
    refine z_aload_n hC dX9_maximum_142 rfl (lv_at hl 0 rfl) ?_
    obtain ⟨q3, hq_q3, hz⟩ := ob_some hz
    refine z_callV (As := []) hC hT (c_X9_top F x0 h_x0 hq_q3) zy_X9_top zc_9 zv_X9_top kw_936 dX9_maximum_143 h_x0 rfl rfl hl.1 (Nat.le_of_ble_eq_true rfl) (by decide) (by decide) ?_
    refine z_iconst (v := 2) hC dX9_maximum_146 (by decide) ?_
    refine z_icmp_ne (tgt := 154) hC dX9_maximum_147 (by decide) hz (fun hz => ?_) (fun hz => ?_)
    · skip
      refine z_iconst (v := 1) hC dX9_maximum_154 (by decide) ?_
      exact b_X9_maximum_155 hC hT k48 hk48 (x0) (x1) (x2) (x3) (x4) (x5) (x6) (x7) (1) (I) h_x0 hz ls (lv_sub hl [0, 1, 2, 3, 4, 5, 6, 7] rfl)
    · skip
      refine z_iconst (v := 2) hC dX9_maximum_150 (by decide) ?_
      refine z_goto (tgt := 155) hC dX9_maximum_151 (by decide) ?_
      exact b_X9_maximum_155 hC hT k48 hk48 (x0) (x1) (x2) (x3) (x4) (x5) (x6) (x7) (2) (I) h_x0 hz ls (lv_sub hl [0, 1, 2, 3, 4, 5, 6, 7] rfl)
set_option maxRecDepth 100000 in
set_option maxHeartbeats 4000000 in
theorem bb_X9_maximum_48 {p : Program} {l : Launch} {e : Env} {s : State} {m : MethodId} {args : Array Value} {below : List Frame} {meth : Method} {c : Code} {D : zD} {b0 : Nat} {F : Nat} {S : zS} {X : Int32 × zI} (hC : z_C p s m args meth c cX9_maximum RX9 11 (some .int) D) (hT : z_T b0 S) (k48 : Nat → Int32 → Int32 → Int32 → Int32 → Int32 → zI → Option (Int32 × zI)) (hk48 : ∀ (x0 : Nat) (x1 : Int32) (x2 : Int32) (x3 : Int32) (x4 : Int32) (x5 : Int32) (I : zI) , z_is b0 S x0 9 → k48 x0 x1 x2 x3 x4 x5 I = some X → ∀ ls : Array Slot, lv_has ls 11 [(0, .ref (x0)), (1, .int (x1)), (2, .int (x2)), (3, .int (x3)), (4, .int (x4)), (5, .int (x5))] → z_W p l e { frames := 5, cells := 0, slots := 0, locals := 115 } s m args below meth c D b0 S I 0 0 (MQ below (z_Q D b0 (some (.int (X.1))) S X.2) args s 0 0 (fun q => b0 ≤ q)) (F0 m 48 ls [])) (x0 : Nat) (x1 : Int32) (x2 : Int32) (x3 : Int32) (x4 : Int32) (x5 : Int32) (I : zI) (h_x0 : z_is b0 S x0 9) (hz : z_X9_maximum_48B F S k48 x0 x1 x2 x3 x4 x5 I = some X) (ls : Array Slot) (hl : lv_has ls 11 [(0, .ref (x0)), (1, .int (x1)), (2, .int (x2)), (3, .int (x3)), (4, .int (x4)), (5, .int (x5))]) : z_W p l e { frames := 5, cells := 0, slots := 0, locals := 115 } s m args below meth c D b0 S I 0 0 (MQ below (z_Q D b0 (some (.int (X.1))) S X.2) args s 0 0 (fun q => b0 ≤ q)) (F0 m 48 ls []) := by
  unfold z_X9_maximum_48B at hz
  refine z_iload hC dX9_maximum_48 (lv_at hl 5 rfl) ?_
  refine z_aload_n hC dX9_maximum_50 rfl (lv_at hl 0 rfl) ?_
  obtain ⟨r1, hr_r1, hz⟩ := ob_some hz
  have hk_r1 : z_is b0 S r1 10 := hT.at h_x0 hr_r1
  refine z_getR hC zc_9 6 (by decide) kw_743 dX9_maximum_51 h_x0 rfl hr_r1 ?_
  refine z_iload_n hC dX9_maximum_54 rfl (lv_at hl 1 rfl) ?_
  obtain ⟨hi2, hz⟩ := ifn_some hz
  refine z_iald hC dX9_maximum_55 hk_r1 hi2 ?_
  refine z_icmp_ge (tgt := 282) hC dX9_maximum_56 (by decide) hz (fun hz => ?_) (fun hz => ?_)
  · skip
    refine z_iload_n hC dX9_maximum_282 rfl (lv_at hl 2 rfl) ?_
    refine z_if_ne (tgt := 290) hC dX9_maximum_283 (by decide) hz (fun hz => ?_) (fun hz => ?_)
    · skip
      refine z_iload hC dX9_maximum_290 (lv_at hl 4 rfl) ?_
      obtain rfl := Option.some.inj hz
      exact z_iret hC hT dX9_maximum_292 (by decide) (by decide)
    · skip
      refine z_iload_n hC dX9_maximum_286 rfl (lv_at hl 3 rfl) ?_
      refine z_goto (tgt := 292) hC dX9_maximum_287 (by decide) ?_
      obtain rfl := Option.some.inj hz
      exact z_iret hC hT dX9_maximum_292 (by decide) (by decide)
  · skip
    refine z_bipush (v := 40) hC dX9_maximum_59 (by decide) ?_
    refine z_iload_n hC dX9_maximum_61 rfl (lv_at hl 1 rfl) ?_
    refine z_imul hC dX9_maximum_62 ?_
    refine z_iload hC dX9_maximum_63 (lv_at hl 5 rfl) ?_
    refine z_iadd hC dX9_maximum_65 ?_
    refine z_istore (lv' := [(6, .int ((40 * x1) + x5)), (0, .ref (x0)), (1, .int (x1)), (2, .int (x2)), (3, .int (x3)), (4, .int (x4)), (5, .int (x5))]) hC dX9_maximum_66 hl (by decide) rfl (fun ls hl => ?_)
    refine z_aload_n hC dX9_maximum_68 rfl (lv_at hl 1 rfl) ?_
    obtain ⟨r3, hr_r3, hz⟩ := ob_some hz
    have hk_r3 : z_is b0 S r3 11 := hT.at h_x0 hr_r3
    refine z_getR hC zc_9 16 (by decide) kw_753 dX9_maximum_69 h_x0 rfl hr_r3 ?_
    refine z_iload hC dX9_maximum_72 (lv_at hl 0 rfl) ?_
    obtain ⟨hi4, hz⟩ := ifn_some hz
    refine z_zald hC dX9_maximum_74 hk_r3 hi4 ?_
    refine z_if_eq (tgt := 276) hC dX9_maximum_75 (by decide) hz (fun hz => ?_) (fun hz => ?_)
    · skip
      refine z_iinc (k0 := 6) (v := x5 + 1) (lv' := [(5, .int (x5 + 1)), (6, .int ((40 * x1) + x5)), (0, .ref (x0)), (1, .int (x1)), (2, .int (x2)), (3, .int (x3)), (4, .int (x4))]) hC dX9_maximum_276 hl rfl rfl (by decide) rfl (fun ls hl => ?_)
      refine z_goto (tgt := 48) hC dX9_maximum_279 (by decide) ?_
      exact hk48 (x0) (x1) (x2) (x3) (x4) (x5 + 1) (I) h_x0 hz ls (lv_sub hl [2, 3, 4, 5, 6, 0] rfl)
    · skip
      refine z_aload_n hC dX9_maximum_78 rfl (lv_at hl 1 rfl) ?_
      obtain ⟨r5, hr_r5, hz⟩ := ob_some hz
      have hk_r5 : z_is b0 S r5 10 := hT.at h_x0 hr_r5
      refine z_getR hC zc_9 17 (by decide) kw_754 dX9_maximum_79 h_x0 rfl hr_r5 ?_
      refine z_bipush (v := 20) hC dX9_maximum_82 (by decide) ?_
      refine z_iload hC dX9_maximum_84 (lv_at hl 0 rfl) ?_
      refine z_imul hC dX9_maximum_86 ?_
      refine z_aload_n hC dX9_maximum_87 rfl (lv_at hl 1 rfl) ?_
      obtain ⟨r6, hr_r6, hz⟩ := ob_some hz
      have hk_r6 : z_is b0 S r6 10 := hT.at h_x0 hr_r6
      refine z_getR hC zc_9 22 (by decide) kw_759 dX9_maximum_88 h_x0 rfl hr_r6 ?_
      refine z_iconst (v := 0) hC dX9_maximum_91 (by decide) ?_
      obtain ⟨q7, hq_q7, hz⟩ := ob_some hz
      refine z_callS (As := [.ref (r5), .int (20 * ((40 * x1) + x5)), .ref (r6), .int (0)]) hC hT (c_X9_copy F r5 (20 * ((40 * x1) + x5)) r6 0 hk_r5 hk_r6 hq_q7) zy_X9_copy kw_887 kw_886 dX9_maximum_92 rfl rfl hl.1 (Nat.le_of_ble_eq_true rfl) (by decide) (by decide) ?_
      refine z_aload_n hC dX9_maximum_95 rfl (lv_at hl 1 rfl) ?_
      refine z_getR hC zc_9 22 (by decide) kw_759 dX9_maximum_96 h_x0 rfl hr_r6 ?_
      obtain ⟨q8, hq_q8, hz⟩ := ob_some hz
      refine z_callS (As := [.ref (r6)]) hC hT (c_X9_counted F r6 hk_r6 hq_q8) zy_X9_counted kw_961 kw_960 dX9_maximum_99 rfl rfl hl.1 (Nat.le_of_ble_eq_true rfl) (by decide) (by decide) ?_
      refine z_istore (lv' := [(7, .int (q8)), (6, .int ((40 * x1) + x5)), (0, .ref (x0)), (1, .int (x1)), (2, .int (x2)), (3, .int (x3)), (4, .int (x4)), (5, .int (x5))]) hC dX9_maximum_102 hl (by decide) rfl (fun ls hl => ?_)
      refine z_aload_n hC dX9_maximum_104 rfl (lv_at hl 2 rfl) ?_
      obtain ⟨r9, hr_r9, hz⟩ := ob_some hz
      have hk_r9 : z_is b0 S r9 10 := hT.at h_x0 hr_r9
      refine z_getR hC zc_9 7 (by decide) kw_744 dX9_maximum_105 h_x0 rfl hr_r9 ?_
      refine z_iload hC dX9_maximum_108 (lv_at hl 1 rfl) ?_
      obtain ⟨hi10, hz⟩ := ifn_some hz
      refine z_iald hC dX9_maximum_110 hk_r9 hi10 ?_
      refine z_iconst (v := 3) hC dX9_maximum_111 (by decide) ?_
      refine z_icmp_ne (tgt := 131) hC dX9_maximum_112 (by decide) hz (fun hz => ?_) (fun hz => ?_)
      · skip
        exact b_X9_maximum_131 hC hT k48 hk48 (x0) (x1) (x2) (x3) (x4) (x5) ((40 * x1) + x5) (q8) (q7) h_x0 hz ls (lv_sub hl [2, 3, 4, 5, 6, 7, 1, 0] rfl)
      · skip
        refine z_aload_n hC dX9_maximum_115 rfl (lv_at hl 2 rfl) ?_
        refine z_getR hC zc_9 22 (by decide) kw_759 dX9_maximum_116 h_x0 rfl hr_r6 ?_
        refine z_aload_n hC dX9_maximum_119 rfl (lv_at hl 2 rfl) ?_
        obtain ⟨r11, hr_r11, hz⟩ := ob_some hz
        have hk_r11 : z_is b0 S r11 10 := hT.at h_x0 hr_r11
        refine z_getR hC zc_9 8 (by decide) kw_745 dX9_maximum_120 h_x0 rfl hr_r11 ?_
        refine z_iload hC dX9_maximum_123 (lv_at hl 1 rfl) ?_
        obtain ⟨hi12, hz⟩ := ifn_some hz
        refine z_iald hC dX9_maximum_125 hk_r11 hi12 ?_
        obtain ⟨hi13, hz⟩ := ifn_some hz
        refine z_iald hC dX9_maximum_126 hk_r6 hi13 ?_
        refine z_iconst (v := 2) hC dX9_maximum_127 (by decide) ?_
        refine z_icmp_eq (tgt := 150) hC dX9_maximum_128 (by decide) hz (fun hz => ?_) (fun hz => ?_)
        · skip
          refine z_iconst (v := 2) hC dX9_maximum_150 (by decide) ?_
          refine z_goto (tgt := 155) hC dX9_maximum_151 (by decide) ?_
          exact b_X9_maximum_155 hC hT k48 hk48 (x0) (x1) (x2) (x3) (x4) (x5) ((40 * x1) + x5) (q8) (2) (q7) h_x0 hz ls (lv_sub hl [2, 3, 4, 5, 6, 7, 1, 0] rfl)
        · skip
          exact b_X9_maximum_131 hC hT k48 hk48 (x0) (x1) (x2) (x3) (x4) (x5) ((40 * x1) + x5) (q8) (q7) h_x0 hz ls (lv_sub hl [2, 3, 4, 5, 6, 7, 1, 0] rfl)
set_option maxRecDepth 100000 in
set_option maxHeartbeats 4000000 in
theorem b_X9_maximum_48 {p : Program} {l : Launch} {e : Env} {s : State} {m : MethodId} {args : Array Value} {below : List Frame} {meth : Method} {c : Code} {D : zD} {b0 : Nat} {F : Nat} {S : zS} {X : Int32 × zI} (hC : z_C p s m args meth c cX9_maximum RX9 11 (some .int) D) (hT : z_T b0 S)   : ∀ (n : Nat) (x0 : Nat) (x1 : Int32) (x2 : Int32) (x3 : Int32) (x4 : Int32) (x5 : Int32) (I : zI), z_is b0 S x0 9 → z_X9_maximum_48 F S  n x0 x1 x2 x3 x4 x5 I = some X → ∀ ls : Array Slot, lv_has ls 11 [(0, .ref (x0)), (1, .int (x1)), (2, .int (x2)), (3, .int (x3)), (4, .int (x4)), (5, .int (x5))] → z_W p l e { frames := 5, cells := 0, slots := 0, locals := 115 } s m args below meth c D b0 S I 0 0 (MQ below (z_Q D b0 (some (.int (X.1))) S X.2) args s 0 0 (fun q => b0 ≤ q)) (F0 m 48 ls []) := by
  intro n
  induction n with
  | zero => intro x0 x1 x2 x3 x4 x5 I h_x0 hz; cases hz
  | succ n ih =>
    intro x0 x1 x2 x3 x4 x5 I h_x0 hz ls hl
    exact bb_X9_maximum_48 (F := F) hC hT  (z_X9_maximum_48 F S  n)  ih x0 x1 x2 x3 x4 x5 I h_x0 hz ls hl
set_option maxRecDepth 100000 in
set_option maxHeartbeats 4000000 in
theorem c_X9_maximum {l : Launch} {D : zD} {b0 : Nat} {S : zS} {I : zI} {X : Int32 × zI} (F : Nat) (x0 : Nat) (x1 : Int32) (x2 : Int32) (h_x0 : z_is b0 S x0 9) (hz : z_X9_maximum F S I x0 x1 x2 = some X) : z_M l D b0 yX9_maximum cX9_maximum 11 (some .int) { frames := 5, cells := 0, slots := 0, locals := 115 } [.ref (x0), .int (x1), .int (x2)] S I (some (.int (X.1))) S X.2 := by
  refine z_met (by decide) (Nat.le_of_ble_eq_true rfl) ?_
  intro p e s m below meth c hC hnm hT ls hl
  have hl : lv_has ls 11 [(0, .ref (x0)), (1, .int (x1)), (2, .int (x2))] := hl
  unfold z_X9_maximum at hz
  refine z_iload_n hC dX9_maximum_0 rfl (lv_at hl 1 rfl) ?_
  obtain ⟨q1, hq_q1, hz⟩ := ob_some hz
  refine z_callS (As := [.int (x1)]) hC hT (c_X9_isMethod F x1  hq_q1) zy_X9_isMethod kw_861 kw_860 dX9_maximum_1 rfl rfl hl.1 (Nat.le_of_ble_eq_true rfl) (by decide) (by decide) ?_
  refine z_if_eq (tgt := 16) hC dX9_maximum_4 (by decide) hz (fun hz => ?_) (fun hz => ?_)
  · skip
    refine z_iconst (v := (-1)) hC dX9_maximum_16 (by decide) ?_
    obtain rfl := Option.some.inj hz
    exact z_iret hC hT dX9_maximum_17 (by decide) (by decide)
  · skip
    refine z_iload_n hC dX9_maximum_7 rfl (lv_at hl 2 rfl) ?_
    refine z_iconst (v := 0) hC dX9_maximum_8 (by decide) ?_
    refine z_iconst (v := 1) hC dX9_maximum_9 (by decide) ?_
    obtain ⟨q2, hq_q2, hz⟩ := ob_some hz
    refine z_callS (As := [.int (x2), .int (0), .int (1)]) hC hT (c_X9_in F x2 0 1  hq_q2) zy_X9_in kw_834 kw_833 dX9_maximum_10 rfl rfl hl.1 (Nat.le_of_ble_eq_true rfl) (by decide) (by decide) ?_
    refine z_if_ne (tgt := 18) hC dX9_maximum_13 (by decide) hz (fun hz => ?_) (fun hz => ?_)
    · skip
      refine z_aload_n hC dX9_maximum_18 rfl (lv_at hl 0 rfl) ?_
      obtain ⟨r3, hr_r3, hz⟩ := ob_some hz
      have hk_r3 : z_is b0 S r3 11 := hT.at h_x0 hr_r3
      refine z_getR hC zc_9 15 (by decide) kw_752 dX9_maximum_19 h_x0 rfl hr_r3 ?_
      refine z_iload_n hC dX9_maximum_22 rfl (lv_at hl 1 rfl) ?_
      obtain ⟨hi4, hz⟩ := ifn_some hz
      refine z_zald hC dX9_maximum_23 hk_r3 hi4 ?_
      refine z_if_ne (tgt := 30) hC dX9_maximum_24 (by decide) hz (fun hz => ?_) (fun hz => ?_)
      · skip
        refine z_aload_n hC dX9_maximum_30 rfl (lv_at hl 0 rfl) ?_
        refine z_iload_n hC dX9_maximum_31 rfl (lv_at hl 1 rfl) ?_
        refine z_putI hC zc_9 21 (by decide) kw_758 dX9_maximum_32 h_x0 rfl rfl rfl rfl ?_
        refine z_iconst (v := 0) hC dX9_maximum_35 (by decide) ?_
        refine z_istore_n (lv' := [(3, .int (0)), (0, .ref (x0)), (1, .int (x1)), (2, .int (x2))]) hC dX9_maximum_36 rfl hl (by decide) rfl (fun ls hl => ?_)
        refine z_aload_n hC dX9_maximum_37 rfl (lv_at hl 1 rfl) ?_
        obtain ⟨r5, hr_r5, hz⟩ := ob_some hz
        have hk_r5 : z_is b0 S r5 10 := hT.at h_x0 hr_r5
        refine z_getR hC zc_9 4 (by decide) kw_741 dX9_maximum_38 h_x0 rfl hr_r5 ?_
        refine z_iload_n hC dX9_maximum_41 rfl (lv_at hl 2 rfl) ?_
        obtain ⟨hi6, hz⟩ := ifn_some hz
        refine z_iald hC dX9_maximum_42 hk_r5 hi6 ?_
        refine z_istore (lv' := [(4, .int ((z_up I x0 21 x1) r5 x1.toNatClampNeg)), (3, .int (0)), (0, .ref (x0)), (1, .int (x1)), (2, .int (x2))]) hC dX9_maximum_43 hl (by decide) rfl (fun ls hl => ?_)
        refine z_iconst (v := 0) hC dX9_maximum_45 (by decide) ?_
        refine z_istore (lv' := [(5, .int (0)), (4, .int ((z_up I x0 21 x1) r5 x1.toNatClampNeg)), (3, .int (0)), (0, .ref (x0)), (1, .int (x1)), (2, .int (x2))]) hC dX9_maximum_46 hl (by decide) rfl (fun ls hl => ?_)
        exact b_X9_maximum_48 hC hT   F (x0) (x1) (x2) (0) ((z_up I x0 21 x1) r5 x1.toNatClampNeg) (0) (z_up I x0 21 x1) h_x0 hz ls (lv_sub hl [3, 4, 5, 2, 1, 0] rfl)
      · skip
        refine z_bipush (v := (-3)) hC dX9_maximum_27 (by decide) ?_
        obtain rfl := Option.some.inj hz
        exact z_iret hC hT dX9_maximum_29 (by decide) (by decide)
    · skip
      refine z_iconst (v := (-1)) hC dX9_maximum_16 (by decide) ?_
      obtain rfl := Option.some.inj hz
      exact z_iret hC hT dX9_maximum_17 (by decide) (by decide)
theorem zy_X9_plant : z_y yX9_plant cX9_plant 8 (some .int) 4 := ⟨kw_1018, kw_8, by decide +kernel, by decide +kernel, by decide +kernel⟩
theorem zv_X9_plant : Cond.instanceMethod yX9_plant ∈ z_tbl ∧ Cond.selects RX9 yX9_plant yX9_plant ∈ z_tbl := ⟨kw_1016, kw_1017⟩
def z_X9_plant_156 (F : Nat) (S : zS)  (x0 : Nat) (x1 : Int32) (x3 : Int32) (x4 : Int32) (x6 : Int32) (x7 : Int32) (I : zI) : Option (Int32 × zI) :=
  if x7 < 0 then (some ((-1), I)) else (if x7 = 2 then (some ((-1), I)) else (if x7 = 3 then (some ((-1), I)) else (ob (S.1 x0 19) (fun r1 => if x3 < 8 then (if ((20 * ((40 * x1) + x6)) + x3) < 0 ∨ (S.2.1 r1).2 ≤ ((20 * ((40 * x1) + x6)) + x3).toNatClampNeg then none else (some (x7, z_up I r1 ((20 * ((40 * x1) + x6)) + x3).toNatClampNeg x4))) else (if ((20 * ((40 * x1) + x6)) + ((9 + x3) - 100)) < 0 ∨ (S.2.1 r1).2 ≤ ((20 * ((40 * x1) + x6)) + ((9 + x3) - 100)).toNatClampNeg then none else (some (x7, z_up I r1 ((20 * ((40 * x1) + x6)) + ((9 + x3) - 100)).toNatClampNeg x4)))))))
def z_X9_plant_128 (F : Nat) (S : zS)  (x0 : Nat) (x1 : Int32) (x3 : Int32) (x4 : Int32) (x6 : Int32) (y0 : Int32) (I : zI) : Option (Int32 × zI) :=
  if x3 < 8 then (ob (S.1 x0 3) (fun r1 => if x1 < 0 ∨ (S.2.1 r1).2 ≤ x1.toNatClampNeg then none else (if x3 < (I r1 x1.toNatClampNeg) then (z_X9_plant_156 F S  (x0) (x1) (x3) (x4) (x6) (y0) (I)) else (some ((-1), I))))) else (if x4 = 0 then (some ((-1), I)) else (z_X9_plant_156 F S  (x0) (x1) (x3) (x4) (x6) (y0) (I)))
def z_X9_plant_72 (F : Nat) (S : zS)  (x0 : Nat) (x1 : Int32) (x2 : Int32) (x3 : Int32) (x4 : Int32) (x5 : Int32) (I : zI) : Option (Int32 × zI) :=
  if x5 = 0 then (some ((-1), I)) else (ob (S.1 x0 15) (fun r1 => if x1 < 0 ∨ (S.2.1 r1).2 ≤ x1.toNatClampNeg then none else (if (I r1 x1.toNatClampNeg) = 0 then (some ((-3), I)) else (ob (z_X9_actOf F S I x0 x1 x2) (fun q3 => if q3 < 0 then (z_X9_plant_128 F S  (x0) (x1) (x3) (x4) (q3) ((-5)) (I)) else (ob (S.1 x0 19) (fun r4 => ob (z_X9_part F S I x0 r4 (20 * ((40 * x1) + q3)) x3) (fun q5 => z_X9_plant_128 F S  (x0) (x1) (x3) (x4) (q3) (q5) (I)))))))))
def z_X9_plant_42 (F : Nat) (S : zS)  (x0 : Nat) (x1 : Int32) (x2 : Int32) (x3 : Int32) (x4 : Int32) (y0 : Int32) (I : zI) : Option (Int32 × zI) :=
  ob (z_X9_isMethod F S I x1) (fun q1 => if q1 = 0 then (some ((-1), I)) else (ob (z_X9_in F S I x3 0 7) (fun q2 => if q2 = 0 then (ob (z_X9_in F S I x3 100 109) (fun q3 => if q3 = 0 then (some ((-1), I)) else (z_X9_plant_72 F S  (x0) (x1) (x2) (x3) (x4) (y0) (I)))) else (z_X9_plant_72 F S  (x0) (x1) (x2) (x3) (x4) (y0) (I)))))
def z_X9_plant (F : Nat) (S : zS) (I : zI) (x0 : Nat) (x1 : Int32) (x2 : Int32) (x3 : Int32) (x4 : Int32) : Option (Int32 × zI) :=
  if x4 = 0 then (z_X9_plant_42 F S  (x0) (x1) (x2) (x3) (x4) (1) (I)) else (if x4 = 1 then (z_X9_plant_42 F S  (x0) (x1) (x2) (x3) (x4) (1) (I)) else (if x4 = 4 then (z_X9_plant_42 F S  (x0) (x1) (x2) (x3) (x4) (1) (I)) else (ob (z_X9_isObject F S I x4) (fun q1 => if q1 = 0 then (z_X9_plant_42 F S  (x0) (x1) (x2) (x3) (x4) (0) (I)) else (ob (z_X9_isClass F S I x0 (x4 - 10)) (fun q2 => if q2 = 0 then (z_X9_plant_42 F S  (x0) (x1) (x2) (x3) (x4) (0) (I)) else (z_X9_plant_42 F S  (x0) (x1) (x2) (x3) (x4) (1) (I))))))))
set_option maxRecDepth 100000 in
set_option maxHeartbeats 4000000 in
theorem b_X9_plant_156 {p : Program} {l : Launch} {e : Env} {s : State} {m : MethodId} {args : Array Value} {below : List Frame} {meth : Method} {c : Code} {D : zD} {b0 : Nat} {F : Nat} {S : zS} {X : Int32 × zI} (hC : z_C p s m args meth c cX9_plant RX9 8 (some .int) D) (hT : z_T b0 S)   (x0 : Nat) (x1 : Int32) (x3 : Int32) (x4 : Int32) (x6 : Int32) (x7 : Int32) (I : zI) (h_x0 : z_is b0 S x0 9) (hz : z_X9_plant_156 F S  x0 x1 x3 x4 x6 x7 I = some X) (ls : Array Slot) (hl : lv_has ls 8 [(0, .ref (x0)), (1, .int (x1)), (3, .int (x3)), (4, .int (x4)), (6, .int (x6)), (7, .int (x7))]) : z_W p l e { frames := 2, cells := 0, slots := 0, locals := 45 } s m args below meth c D b0 S I 0 0 (MQ below (z_Q D b0 (some (.int (X.1))) S X.2) args s 0 0 (fun q => b0 ≤ q)) (F0 m 156 ls []) := by
  unfold z_X9_plant_156 at hz
  refine z_iload hC dX9_plant_156 (lv_at hl 5 rfl) ?_
  refine z_if_lt (tgt := 173) hC dX9_plant_158 (by decide) hz (fun hz => ?_) (fun hz => ?_)
  · skip
    refine z_iconst (v := (-1)) hC dX9_plant_173 (by decide) ?_
    obtain rfl := Option.some.inj hz
    exact z_iret hC hT dX9_plant_174 (by decide) (by decide)
  · skip
    refine z_iload hC dX9_plant_161 (lv_at hl 5 rfl) ?_
    refine z_iconst (v := 2) hC dX9_plant_163 (by decide) ?_
    refine z_icmp_eq (tgt := 173) hC dX9_plant_164 (by decide) hz (fun hz => ?_) (fun hz => ?_)
    · skip
      refine z_iconst (v := (-1)) hC dX9_plant_173 (by decide) ?_
      obtain rfl := Option.some.inj hz
      exact z_iret hC hT dX9_plant_174 (by decide) (by decide)
    · skip
      refine z_iload hC dX9_plant_167 (lv_at hl 5 rfl) ?_
      refine z_iconst (v := 3) hC dX9_plant_169 (by decide) ?_
      refine z_icmp_ne (tgt := 175) hC dX9_plant_170 (by decide) hz (fun hz => ?_) (fun hz => ?_)
      · skip
        refine z_aload_n hC dX9_plant_175 rfl (lv_at hl 0 rfl) ?_
        obtain ⟨r1, hr_r1, hz⟩ := ob_some hz
        have hk_r1 : z_is b0 S r1 10 := hT.at h_x0 hr_r1
        refine z_getR hC zc_9 19 (by decide) kw_756 dX9_plant_176 h_x0 rfl hr_r1 ?_
        refine z_bipush (v := 20) hC dX9_plant_179 (by decide) ?_
        refine z_bipush (v := 40) hC dX9_plant_181 (by decide) ?_
        refine z_iload_n hC dX9_plant_183 rfl (lv_at hl 1 rfl) ?_
        refine z_imul hC dX9_plant_184 ?_
        refine z_iload hC dX9_plant_185 (lv_at hl 4 rfl) ?_
        refine z_iadd hC dX9_plant_187 ?_
        refine z_imul hC dX9_plant_188 ?_
        refine z_iload_n hC dX9_plant_189 rfl (lv_at hl 2 rfl) ?_
        refine z_bipush (v := 8) hC dX9_plant_190 (by decide) ?_
        refine z_icmp_ge (tgt := 199) hC dX9_plant_192 (by decide) hz (fun hz => ?_) (fun hz => ?_)
        · skip
          refine z_bipush (v := 9) hC dX9_plant_199 (by decide) ?_
          refine z_iload_n hC dX9_plant_201 rfl (lv_at hl 2 rfl) ?_
          refine z_iadd hC dX9_plant_202 ?_
          refine z_bipush (v := 100) hC dX9_plant_203 (by decide) ?_
          refine z_isub hC dX9_plant_205 ?_
          refine z_iadd hC dX9_plant_206 ?_
          refine z_iload hC dX9_plant_207 (lv_at hl 3 rfl) ?_
          obtain ⟨hi2, hz⟩ := ifn_some hz
          refine z_iast hC dX9_plant_209 hk_r1 hi2 ?_
          refine z_iload hC dX9_plant_210 (lv_at hl 5 rfl) ?_
          obtain rfl := Option.some.inj hz
          exact z_iret hC hT dX9_plant_212 (by decide) (by decide)
        · skip
          refine z_iload_n hC dX9_plant_195 rfl (lv_at hl 2 rfl) ?_
          refine z_goto (tgt := 206) hC dX9_plant_196 (by decide) ?_
          refine z_iadd hC dX9_plant_206 ?_
          refine z_iload hC dX9_plant_207 (lv_at hl 3 rfl) ?_
          obtain ⟨hi3, hz⟩ := ifn_some hz
          refine z_iast hC dX9_plant_209 hk_r1 hi3 ?_
          refine z_iload hC dX9_plant_210 (lv_at hl 5 rfl) ?_
          obtain rfl := Option.some.inj hz
          exact z_iret hC hT dX9_plant_212 (by decide) (by decide)
      · skip
        refine z_iconst (v := (-1)) hC dX9_plant_173 (by decide) ?_
        obtain rfl := Option.some.inj hz
        exact z_iret hC hT dX9_plant_174 (by decide) (by decide)
set_option maxRecDepth 100000 in
set_option maxHeartbeats 4000000 in
theorem b_X9_plant_128 {p : Program} {l : Launch} {e : Env} {s : State} {m : MethodId} {args : Array Value} {below : List Frame} {meth : Method} {c : Code} {D : zD} {b0 : Nat} {F : Nat} {S : zS} {X : Int32 × zI} (hC : z_C p s m args meth c cX9_plant RX9 8 (some .int) D) (hT : z_T b0 S)   (x0 : Nat) (x1 : Int32) (x3 : Int32) (x4 : Int32) (x6 : Int32) (y0 : Int32) (I : zI) (h_x0 : z_is b0 S x0 9) (hz : z_X9_plant_128 F S  x0 x1 x3 x4 x6 y0 I = some X) (ls : Array Slot) (hl : lv_has ls 8 [(0, .ref (x0)), (1, .int (x1)), (3, .int (x3)), (4, .int (x4)), (6, .int (x6))]) : z_W p l e { frames := 2, cells := 0, slots := 0, locals := 45 } s m args below meth c D b0 S I 0 0 (MQ below (z_Q D b0 (some (.int (X.1))) S X.2) args s 0 0 (fun q => b0 ≤ q)) (F0 m 128 ls [.int (y0)]) := by
  unfold z_X9_plant_128 at hz
  refine z_istore (lv' := [(7, .int (y0)), (0, .ref (x0)), (1, .int (x1)), (3, .int (x3)), (4, .int (x4)), (6, .int (x6))]) hC dX9_plant_128 hl (by decide) rfl (fun ls hl => ?_)
  refine z_iload_n hC dX9_plant_130 rfl (lv_at hl 3 rfl) ?_
  refine z_bipush (v := 8) hC dX9_plant_131 (by decide) ?_
  refine z_icmp_ge (tgt := 149) hC dX9_plant_133 (by decide) hz (fun hz => ?_) (fun hz => ?_)
  · skip
    refine z_iload hC dX9_plant_149 (lv_at hl 4 rfl) ?_
    refine z_if_ne (tgt := 156) hC dX9_plant_151 (by decide) hz (fun hz => ?_) (fun hz => ?_)
    · skip
      exact b_X9_plant_156 hC hT   (x0) (x1) (x3) (x4) (x6) (y0) (I) h_x0 hz ls (lv_sub hl [1, 2, 3, 4, 5, 0] rfl)
    · skip
      refine z_iconst (v := (-1)) hC dX9_plant_154 (by decide) ?_
      obtain rfl := Option.some.inj hz
      exact z_iret hC hT dX9_plant_155 (by decide) (by decide)
  · skip
    refine z_iload_n hC dX9_plant_136 rfl (lv_at hl 3 rfl) ?_
    refine z_aload_n hC dX9_plant_137 rfl (lv_at hl 1 rfl) ?_
    obtain ⟨r1, hr_r1, hz⟩ := ob_some hz
    have hk_r1 : z_is b0 S r1 10 := hT.at h_x0 hr_r1
    refine z_getR hC zc_9 3 (by decide) kw_740 dX9_plant_138 h_x0 rfl hr_r1 ?_
    refine z_iload_n hC dX9_plant_141 rfl (lv_at hl 2 rfl) ?_
    obtain ⟨hi2, hz⟩ := ifn_some hz
    refine z_iald hC dX9_plant_142 hk_r1 hi2 ?_
    refine z_icmp_lt (tgt := 156) hC dX9_plant_143 (by decide) hz (fun hz => ?_) (fun hz => ?_)
    · skip
      exact b_X9_plant_156 hC hT   (x0) (x1) (x3) (x4) (x6) (y0) (I) h_x0 hz ls (lv_sub hl [1, 2, 3, 4, 5, 0] rfl)
    · skip
      refine z_goto (tgt := 154) hC dX9_plant_146 (by decide) ?_
      refine z_iconst (v := (-1)) hC dX9_plant_154 (by decide) ?_
      obtain rfl := Option.some.inj hz
      exact z_iret hC hT dX9_plant_155 (by decide) (by decide)
set_option maxRecDepth 100000 in
set_option maxHeartbeats 4000000 in
theorem b_X9_plant_72 {p : Program} {l : Launch} {e : Env} {s : State} {m : MethodId} {args : Array Value} {below : List Frame} {meth : Method} {c : Code} {D : zD} {b0 : Nat} {F : Nat} {S : zS} {X : Int32 × zI} (hC : z_C p s m args meth c cX9_plant RX9 8 (some .int) D) (hT : z_T b0 S)   (x0 : Nat) (x1 : Int32) (x2 : Int32) (x3 : Int32) (x4 : Int32) (x5 : Int32) (I : zI) (h_x0 : z_is b0 S x0 9) (hz : z_X9_plant_72 F S  x0 x1 x2 x3 x4 x5 I = some X) (ls : Array Slot) (hl : lv_has ls 8 [(0, .ref (x0)), (1, .int (x1)), (2, .int (x2)), (3, .int (x3)), (4, .int (x4)), (5, .int (x5))]) : z_W p l e { frames := 2, cells := 0, slots := 0, locals := 45 } s m args below meth c D b0 S I 0 0 (MQ below (z_Q D b0 (some (.int (X.1))) S X.2) args s 0 0 (fun q => b0 ≤ q)) (F0 m 72 ls []) := by
  unfold z_X9_plant_72 at hz
  refine z_iload hC dX9_plant_72 (lv_at hl 5 rfl) ?_
  refine z_if_ne (tgt := 79) hC dX9_plant_74 (by decide) hz (fun hz => ?_) (fun hz => ?_)
  · skip
    refine z_aload_n hC dX9_plant_79 rfl (lv_at hl 0 rfl) ?_
    obtain ⟨r1, hr_r1, hz⟩ := ob_some hz
    have hk_r1 : z_is b0 S r1 11 := hT.at h_x0 hr_r1
    refine z_getR hC zc_9 15 (by decide) kw_752 dX9_plant_80 h_x0 rfl hr_r1 ?_
    refine z_iload_n hC dX9_plant_83 rfl (lv_at hl 1 rfl) ?_
    obtain ⟨hi2, hz⟩ := ifn_some hz
    refine z_zald hC dX9_plant_84 hk_r1 hi2 ?_
    refine z_if_ne (tgt := 91) hC dX9_plant_85 (by decide) hz (fun hz => ?_) (fun hz => ?_)
    · skip
      refine z_aload_n hC dX9_plant_91 rfl (lv_at hl 0 rfl) ?_
      refine z_iload_n hC dX9_plant_92 rfl (lv_at hl 1 rfl) ?_
      refine z_iload_n hC dX9_plant_93 rfl (lv_at hl 2 rfl) ?_
      obtain ⟨q3, hq_q3, hz⟩ := ob_some hz
      refine z_callV (As := [.int (x1), .int (x2)]) hC hT (c_X9_actOf F x0 x1 x2 h_x0 hq_q3) zy_X9_actOf zc_9 zv_X9_actOf kw_996 dX9_plant_94 h_x0 rfl rfl hl.1 (Nat.le_of_ble_eq_true rfl) (by decide) (by decide) ?_
      refine z_istore (lv' := [(6, .int (q3)), (0, .ref (x0)), (1, .int (x1)), (2, .int (x2)), (3, .int (x3)), (4, .int (x4)), (5, .int (x5))]) hC dX9_plant_97 hl (by decide) rfl (fun ls hl => ?_)
      refine z_iload hC dX9_plant_99 (lv_at hl 0 rfl) ?_
      refine z_if_ge (tgt := 109) hC dX9_plant_101 (by decide) hz (fun hz => ?_) (fun hz => ?_)
      · skip
        refine z_aload_n hC dX9_plant_109 rfl (lv_at hl 1 rfl) ?_
        refine z_aload_n hC dX9_plant_110 rfl (lv_at hl 1 rfl) ?_
        obtain ⟨r4, hr_r4, hz⟩ := ob_some hz
        have hk_r4 : z_is b0 S r4 10 := hT.at h_x0 hr_r4
        refine z_getR hC zc_9 19 (by decide) kw_756 dX9_plant_111 h_x0 rfl hr_r4 ?_
        refine z_bipush (v := 20) hC dX9_plant_114 (by decide) ?_
        refine z_bipush (v := 40) hC dX9_plant_116 (by decide) ?_
        refine z_iload_n hC dX9_plant_118 rfl (lv_at hl 2 rfl) ?_
        refine z_imul hC dX9_plant_119 ?_
        refine z_iload hC dX9_plant_120 (lv_at hl 0 rfl) ?_
        refine z_iadd hC dX9_plant_122 ?_
        refine z_imul hC dX9_plant_123 ?_
        refine z_iload_n hC dX9_plant_124 rfl (lv_at hl 4 rfl) ?_
        obtain ⟨q5, hq_q5, hz⟩ := ob_some hz
        refine z_callV (As := [.ref (r4), .int (20 * ((40 * x1) + q3)), .int (x3)]) hC hT (c_X9_part F x0 r4 (20 * ((40 * x1) + q3)) x3 h_x0 hk_r4 hq_q5) zy_X9_part zc_9 zv_X9_part kw_988 dX9_plant_125 h_x0 rfl rfl hl.1 (Nat.le_of_ble_eq_true rfl) (by decide) (by decide) ?_
        exact b_X9_plant_128 hC hT   (x0) (x1) (x3) (x4) (q3) (q5) (I) h_x0 hz ls (lv_sub hl [1, 2, 4, 5, 0] rfl)
      · skip
        refine z_bipush (v := (-5)) hC dX9_plant_104 (by decide) ?_
        refine z_goto (tgt := 128) hC dX9_plant_106 (by decide) ?_
        exact b_X9_plant_128 hC hT   (x0) (x1) (x3) (x4) (q3) ((-5)) (I) h_x0 hz ls (lv_sub hl [1, 2, 4, 5, 0] rfl)
    · skip
      refine z_bipush (v := (-3)) hC dX9_plant_88 (by decide) ?_
      obtain rfl := Option.some.inj hz
      exact z_iret hC hT dX9_plant_90 (by decide) (by decide)
  · skip
    refine z_iconst (v := (-1)) hC dX9_plant_77 (by decide) ?_
    obtain rfl := Option.some.inj hz
    exact z_iret hC hT dX9_plant_78 (by decide) (by decide)
set_option maxRecDepth 100000 in
set_option maxHeartbeats 4000000 in
theorem b_X9_plant_42 {p : Program} {l : Launch} {e : Env} {s : State} {m : MethodId} {args : Array Value} {below : List Frame} {meth : Method} {c : Code} {D : zD} {b0 : Nat} {F : Nat} {S : zS} {X : Int32 × zI} (hC : z_C p s m args meth c cX9_plant RX9 8 (some .int) D) (hT : z_T b0 S)   (x0 : Nat) (x1 : Int32) (x2 : Int32) (x3 : Int32) (x4 : Int32) (y0 : Int32) (I : zI) (h_x0 : z_is b0 S x0 9) (hz : z_X9_plant_42 F S  x0 x1 x2 x3 x4 y0 I = some X) (ls : Array Slot) (hl : lv_has ls 8 [(0, .ref (x0)), (1, .int (x1)), (2, .int (x2)), (3, .int (x3)), (4, .int (x4))]) : z_W p l e { frames := 2, cells := 0, slots := 0, locals := 45 } s m args below meth c D b0 S I 0 0 (MQ below (z_Q D b0 (some (.int (X.1))) S X.2) args s 0 0 (fun q => b0 ≤ q)) (F0 m 42 ls [.int (y0)]) := by
  unfold z_X9_plant_42 at hz
  refine z_istore (lv' := [(5, .int (y0)), (0, .ref (x0)), (1, .int (x1)), (2, .int (x2)), (3, .int (x3)), (4, .int (x4))]) hC dX9_plant_42 hl (by decide) rfl (fun ls hl => ?_)
  refine z_iload_n hC dX9_plant_44 rfl (lv_at hl 2 rfl) ?_
  obtain ⟨q1, hq_q1, hz⟩ := ob_some hz
  refine z_callS (As := [.int (x1)]) hC hT (c_X9_isMethod F x1  hq_q1) zy_X9_isMethod kw_861 kw_860 dX9_plant_45 rfl rfl hl.1 (Nat.le_of_ble_eq_true rfl) (by decide) (by decide) ?_
  refine z_if_eq (tgt := 77) hC dX9_plant_48 (by decide) hz (fun hz => ?_) (fun hz => ?_)
  · skip
    refine z_iconst (v := (-1)) hC dX9_plant_77 (by decide) ?_
    obtain rfl := Option.some.inj hz
    exact z_iret hC hT dX9_plant_78 (by decide) (by decide)
  · skip
    refine z_iload_n hC dX9_plant_51 rfl (lv_at hl 4 rfl) ?_
    refine z_iconst (v := 0) hC dX9_plant_52 (by decide) ?_
    refine z_bipush (v := 7) hC dX9_plant_53 (by decide) ?_
    obtain ⟨q2, hq_q2, hz⟩ := ob_some hz
    refine z_callS (As := [.int (x3), .int (0), .int (7)]) hC hT (c_X9_in F x3 0 7  hq_q2) zy_X9_in kw_834 kw_833 dX9_plant_55 rfl rfl hl.1 (Nat.le_of_ble_eq_true rfl) (by decide) (by decide) ?_
    refine z_if_ne (tgt := 72) hC dX9_plant_58 (by decide) hz (fun hz => ?_) (fun hz => ?_)
    · skip
      exact b_X9_plant_72 hC hT   (x0) (x1) (x2) (x3) (x4) (y0) (I) h_x0 hz ls (lv_sub hl [1, 2, 3, 4, 5, 0] rfl)
    · skip
      refine z_iload_n hC dX9_plant_61 rfl (lv_at hl 4 rfl) ?_
      refine z_bipush (v := 100) hC dX9_plant_62 (by decide) ?_
      refine z_bipush (v := 109) hC dX9_plant_64 (by decide) ?_
      obtain ⟨q3, hq_q3, hz⟩ := ob_some hz
      refine z_callS (As := [.int (x3), .int (100), .int (109)]) hC hT (c_X9_in F x3 100 109  hq_q3) zy_X9_in kw_834 kw_833 dX9_plant_66 rfl rfl hl.1 (Nat.le_of_ble_eq_true rfl) (by decide) (by decide) ?_
      refine z_if_eq (tgt := 77) hC dX9_plant_69 (by decide) hz (fun hz => ?_) (fun hz => ?_)
      · skip
        refine z_iconst (v := (-1)) hC dX9_plant_77 (by decide) ?_
        obtain rfl := Option.some.inj hz
        exact z_iret hC hT dX9_plant_78 (by decide) (by decide)
      · skip
        exact b_X9_plant_72 hC hT   (x0) (x1) (x2) (x3) (x4) (y0) (I) h_x0 hz ls (lv_sub hl [1, 2, 3, 4, 5, 0] rfl)
set_option maxRecDepth 100000 in
set_option maxHeartbeats 4000000 in
theorem c_X9_plant {l : Launch} {D : zD} {b0 : Nat} {S : zS} {I : zI} {X : Int32 × zI} (F : Nat) (x0 : Nat) (x1 : Int32) (x2 : Int32) (x3 : Int32) (x4 : Int32) (h_x0 : z_is b0 S x0 9) (hz : z_X9_plant F S I x0 x1 x2 x3 x4 = some X) : z_M l D b0 yX9_plant cX9_plant 8 (some .int) { frames := 2, cells := 0, slots := 0, locals := 45 } [.ref (x0), .int (x1), .int (x2), .int (x3), .int (x4)] S I (some (.int (X.1))) S X.2 := by
  refine z_met (by decide) (Nat.le_of_ble_eq_true rfl) ?_
  intro p e s m below meth c hC hnm hT ls hl
  have hl : lv_has ls 8 [(0, .ref (x0)), (1, .int (x1)), (2, .int (x2)), (3, .int (x3)), (4, .int (x4))] := hl
  unfold z_X9_plant at hz
  refine z_iload hC dX9_plant_0 (lv_at hl 4 rfl) ?_
  refine z_if_eq (tgt := 37) hC dX9_plant_2 (by decide) hz (fun hz => ?_) (fun hz => ?_)
  · skip
    refine z_iconst (v := 1) hC dX9_plant_37 (by decide) ?_
    refine z_goto (tgt := 42) hC dX9_plant_38 (by decide) ?_
    exact b_X9_plant_42 hC hT   (x0) (x1) (x2) (x3) (x4) (1) (I) h_x0 hz ls (lv_sub hl [0, 1, 2, 3, 4] rfl)
  · skip
    refine z_iload hC dX9_plant_5 (lv_at hl 4 rfl) ?_
    refine z_iconst (v := 1) hC dX9_plant_7 (by decide) ?_
    refine z_icmp_eq (tgt := 37) hC dX9_plant_8 (by decide) hz (fun hz => ?_) (fun hz => ?_)
    · skip
      refine z_iconst (v := 1) hC dX9_plant_37 (by decide) ?_
      refine z_goto (tgt := 42) hC dX9_plant_38 (by decide) ?_
      exact b_X9_plant_42 hC hT   (x0) (x1) (x2) (x3) (x4) (1) (I) h_x0 hz ls (lv_sub hl [0, 1, 2, 3, 4] rfl)
    · skip
      refine z_iload hC dX9_plant_11 (lv_at hl 4 rfl) ?_
      refine z_iconst (v := 4) hC dX9_plant_13 (by decide) ?_
      refine z_icmp_eq (tgt := 37) hC dX9_plant_14 (by decide) hz (fun hz => ?_) (fun hz => ?_)
      · skip
        refine z_iconst (v := 1) hC dX9_plant_37 (by decide) ?_
        refine z_goto (tgt := 42) hC dX9_plant_38 (by decide) ?_
        exact b_X9_plant_42 hC hT   (x0) (x1) (x2) (x3) (x4) (1) (I) h_x0 hz ls (lv_sub hl [0, 1, 2, 3, 4] rfl)
      · skip
        refine z_iload hC dX9_plant_17 (lv_at hl 4 rfl) ?_
        obtain ⟨q1, hq_q1, hz⟩ := ob_some hz
        refine z_callS (As := [.int (x4)]) hC hT (c_X9_isObject F x4  hq_q1) zy_X9_isObject kw_868 kw_867 dX9_plant_19 rfl rfl hl.1 (Nat.le_of_ble_eq_true rfl) (by decide) (by decide) ?_
        refine z_if_eq (tgt := 41) hC dX9_plant_22 (by decide) hz (fun hz => ?_) (fun hz => ?_)
        · skip
          refine z_iconst (v := 0) hC dX9_plant_41 (by decide) ?_
          exact b_X9_plant_42 hC hT   (x0) (x1) (x2) (x3) (x4) (0) (I) h_x0 hz ls (lv_sub hl [0, 1, 2, 3, 4] rfl)
        · skip
          refine z_aload_n hC dX9_plant_25 rfl (lv_at hl 0 rfl) ?_
          refine z_iload hC dX9_plant_26 (lv_at hl 4 rfl) ?_
          refine z_bipush (v := 10) hC dX9_plant_28 (by decide) ?_
          refine z_isub hC dX9_plant_30 ?_
          obtain ⟨q2, hq_q2, hz⟩ := ob_some hz
          refine z_callV (As := [.int (x4 - 10)]) hC hT (c_X9_isClass F x0 (x4 - 10) h_x0 hq_q2) zy_X9_isClass zc_9 zv_X9_isClass kw_829 dX9_plant_31 h_x0 rfl rfl hl.1 (Nat.le_of_ble_eq_true rfl) (by decide) (by decide) ?_
          refine z_if_eq (tgt := 41) hC dX9_plant_34 (by decide) hz (fun hz => ?_) (fun hz => ?_)
          · skip
            refine z_iconst (v := 0) hC dX9_plant_41 (by decide) ?_
            exact b_X9_plant_42 hC hT   (x0) (x1) (x2) (x3) (x4) (0) (I) h_x0 hz ls (lv_sub hl [0, 1, 2, 3, 4] rfl)
          · skip
            refine z_iconst (v := 1) hC dX9_plant_37 (by decide) ?_
            refine z_goto (tgt := 42) hC dX9_plant_38 (by decide) ?_
            exact b_X9_plant_42 hC hT   (x0) (x1) (x2) (x3) (x4) (1) (I) h_x0 hz ls (lv_sub hl [0, 1, 2, 3, 4] rfl)
theorem zy_X9_allFit : z_y yX9_allFit cX9_allFit 5 (some .boolean) 2 := ⟨kw_1030, kw_8, by decide +kernel, by decide +kernel, by decide +kernel⟩
theorem zv_X9_allFit : Cond.instanceMethod yX9_allFit ∈ z_tbl ∧ Cond.selects RX9 yX9_allFit yX9_allFit ∈ z_tbl := ⟨kw_1029, ks_57⟩
def z_X9_allFit_79 (F : Nat) (S : zS) (I : zI) (k28 : Nat → Nat → Int32 → Int32 → Int32 → Option (Int32)) (x0 : Nat) (x1 : Nat) (x2 : Int32) (x4 : Int32) (y0 : Int32) : Option (Int32) :=
  k28 (x0) (x1) (x2) (y0) (x4 + 1)
def z_X9_allFit_28B (F : Nat) (S : zS) (I : zI) (k28 : Nat → Nat → Int32 → Int32 → Int32 → Option (Int32)) (x0 : Nat) (x1 : Nat) (x2 : Int32) (x3 : Int32) (x4 : Int32) : Option (Int32) :=
  if (8 : Int32) < 0 ∨ (S.2.1 x1).2 ≤ (8 : Int32).toNatClampNeg then none else (if x4 < (9 + (I x1 (8 : Int32).toNatClampNeg)) then (if x3 = 0 then (if x3 = 0 ∨ x3 = 1 then (some (x3)) else none) else (if x4 = 8 then (z_X9_allFit_79 F S I k28 (x0) (x1) (x2) (x4) (1)) else (if x4 < 0 ∨ (S.2.1 x1).2 ≤ x4.toNatClampNeg then none else (ob (S.1 x0 19) (fun r5 => if ((20 * x2) + x4) < 0 ∨ (S.2.1 r5).2 ≤ ((20 * x2) + x4).toNatClampNeg then none else (ob (z_X9_fits F S I x0 (I x1 x4.toNatClampNeg) (I r5 ((20 * x2) + x4).toNatClampNeg)) (fun q7 => if q7 = 0 then (z_X9_allFit_79 F S I k28 (x0) (x1) (x2) (x4) (0)) else (z_X9_allFit_79 F S I k28 (x0) (x1) (x2) (x4) (1))))))))) else (if x3 = 0 ∨ x3 = 1 then (some (x3)) else none))
def z_X9_allFit_28 (F : Nat) (S : zS) (I : zI)  : Nat → Nat → Nat → Int32 → Int32 → Int32 → Option (Int32)
  | 0 => fun _ _ _ _ _ => none
  | n + 1 => fun x0 x1 x2 x3 x4 => z_X9_allFit_28B F S I  (z_X9_allFit_28 F S I  n) x0 x1 x2 x3 x4
def z_X9_allFit_24 (F : Nat) (S : zS) (I : zI)  (x0 : Nat) (x1 : Nat) (x2 : Int32) (y0 : Int32) : Option (Int32) :=
  z_X9_allFit_28 F S I  F (x0) (x1) (x2) (y0) (0)
def z_X9_allFit (F : Nat) (S : zS) (I : zI) (x0 : Nat) (x1 : Nat) (x2 : Int32) : Option (Int32) :=
  if (8 : Int32) < 0 ∨ (S.2.1 x1).2 ≤ (8 : Int32).toNatClampNeg then none else (ob (S.1 x0 19) (fun r2 => if ((20 * x2) + 8) < 0 ∨ (S.2.1 r2).2 ≤ ((20 * x2) + 8).toNatClampNeg then none else (if (I x1 (8 : Int32).toNatClampNeg) = (I r2 ((20 * x2) + 8).toNatClampNeg) then (z_X9_allFit_24 F S I  (x0) (x1) (x2) (1)) else (z_X9_allFit_24 F S I  (x0) (x1) (x2) (0)))))
set_option maxRecDepth 100000 in
set_option maxHeartbeats 4000000 in
theorem b_X9_allFit_79 {p : Program} {l : Launch} {e : Env} {s : State} {m : MethodId} {args : Array Value} {below : List Frame} {meth : Method} {c : Code} {D : zD} {b0 : Nat} {F : Nat} {S : zS} {I : zI} {X : Int32} (hC : z_C p s m args meth c cX9_allFit RX9 5 (some .boolean) D) (hT : z_T b0 S) (k28 : Nat → Nat → Int32 → Int32 → Int32 → Option (Int32)) (hk28 : ∀ (x0 : Nat) (x1 : Nat) (x2 : Int32) (x3 : Int32) (x4 : Int32) , z_is b0 S x0 9 → z_is b0 S x1 10 → k28 x0 x1 x2 x3 x4 = some X → ∀ ls : Array Slot, lv_has ls 5 [(0, .ref (x0)), (1, .ref (x1)), (2, .int (x2)), (3, .int (x3)), (4, .int (x4))] → z_W p l e { frames := 3, cells := 0, slots := 0, locals := 67 } s m args below meth c D b0 S I 0 0 (MQ below (z_Q D b0 (some (.int (X))) S I) args s 0 0 (fun q => b0 ≤ q)) (F0 m 28 ls [])) (x0 : Nat) (x1 : Nat) (x2 : Int32) (x4 : Int32) (y0 : Int32) (h_x0 : z_is b0 S x0 9) (h_x1 : z_is b0 S x1 10) (hz : z_X9_allFit_79 F S I k28 x0 x1 x2 x4 y0 = some X) (ls : Array Slot) (hl : lv_has ls 5 [(0, .ref (x0)), (1, .ref (x1)), (2, .int (x2)), (4, .int (x4))]) : z_W p l e { frames := 3, cells := 0, slots := 0, locals := 67 } s m args below meth c D b0 S I 0 0 (MQ below (z_Q D b0 (some (.int (X))) S I) args s 0 0 (fun q => b0 ≤ q)) (F0 m 79 ls [.int (y0)]) := by
  unfold z_X9_allFit_79 at hz
  refine z_istore_n (lv' := [(3, .int (y0)), (0, .ref (x0)), (1, .ref (x1)), (2, .int (x2)), (4, .int (x4))]) hC dX9_allFit_79 rfl hl (by decide) rfl (fun ls hl => ?_)
  refine z_iinc (k0 := 4) (v := x4 + 1) (lv' := [(4, .int (x4 + 1)), (3, .int (y0)), (0, .ref (x0)), (1, .ref (x1)), (2, .int (x2))]) hC dX9_allFit_80 hl rfl rfl (by decide) rfl (fun ls hl => ?_)
  refine z_goto (tgt := 28) hC dX9_allFit_83 (by decide) ?_
  exact hk28 (x0) (x1) (x2) (y0) (x4 + 1) h_x0 h_x1 hz ls (lv_sub hl [2, 3, 4, 1, 0] rfl)
set_option maxRecDepth 100000 in
set_option maxHeartbeats 4000000 in
theorem bb_X9_allFit_28 {p : Program} {l : Launch} {e : Env} {s : State} {m : MethodId} {args : Array Value} {below : List Frame} {meth : Method} {c : Code} {D : zD} {b0 : Nat} {F : Nat} {S : zS} {I : zI} {X : Int32} (hC : z_C p s m args meth c cX9_allFit RX9 5 (some .boolean) D) (hT : z_T b0 S) (k28 : Nat → Nat → Int32 → Int32 → Int32 → Option (Int32)) (hk28 : ∀ (x0 : Nat) (x1 : Nat) (x2 : Int32) (x3 : Int32) (x4 : Int32) , z_is b0 S x0 9 → z_is b0 S x1 10 → k28 x0 x1 x2 x3 x4 = some X → ∀ ls : Array Slot, lv_has ls 5 [(0, .ref (x0)), (1, .ref (x1)), (2, .int (x2)), (3, .int (x3)), (4, .int (x4))] → z_W p l e { frames := 3, cells := 0, slots := 0, locals := 67 } s m args below meth c D b0 S I 0 0 (MQ below (z_Q D b0 (some (.int (X))) S I) args s 0 0 (fun q => b0 ≤ q)) (F0 m 28 ls [])) (x0 : Nat) (x1 : Nat) (x2 : Int32) (x3 : Int32) (x4 : Int32) (h_x0 : z_is b0 S x0 9) (h_x1 : z_is b0 S x1 10) (hz : z_X9_allFit_28B F S I k28 x0 x1 x2 x3 x4 = some X) (ls : Array Slot) (hl : lv_has ls 5 [(0, .ref (x0)), (1, .ref (x1)), (2, .int (x2)), (3, .int (x3)), (4, .int (x4))]) : z_W p l e { frames := 3, cells := 0, slots := 0, locals := 67 } s m args below meth c D b0 S I 0 0 (MQ below (z_Q D b0 (some (.int (X))) S I) args s 0 0 (fun q => b0 ≤ q)) (F0 m 28 ls []) := by
  unfold z_X9_allFit_28B at hz
  refine z_iload hC dX9_allFit_28 (lv_at hl 4 rfl) ?_
  refine z_bipush (v := 9) hC dX9_allFit_30 (by decide) ?_
  refine z_aload_n hC dX9_allFit_32 rfl (lv_at hl 1 rfl) ?_
  refine z_bipush (v := 8) hC dX9_allFit_33 (by decide) ?_
  obtain ⟨hi1, hz⟩ := ifn_some hz
  refine z_iald hC dX9_allFit_35 h_x1 hi1 ?_
  refine z_iadd hC dX9_allFit_36 ?_
  refine z_icmp_ge (tgt := 86) hC dX9_allFit_37 (by decide) hz (fun hz => ?_) (fun hz => ?_)
  · skip
    refine z_iload_n hC dX9_allFit_86 rfl (lv_at hl 3 rfl) ?_
    obtain ⟨hb2, hz⟩ := ifp_some hz
    obtain rfl := Option.some.inj hz
    exact z_zret hC hT dX9_allFit_87 hb2 (by decide) (by decide)
  · skip
    refine z_iload_n hC dX9_allFit_40 rfl (lv_at hl 3 rfl) ?_
    refine z_if_eq (tgt := 86) hC dX9_allFit_41 (by decide) hz (fun hz => ?_) (fun hz => ?_)
    · skip
      refine z_iload_n hC dX9_allFit_86 rfl (lv_at hl 3 rfl) ?_
      obtain ⟨hb3, hz⟩ := ifp_some hz
      obtain rfl := Option.some.inj hz
      exact z_zret hC hT dX9_allFit_87 hb3 (by decide) (by decide)
    · skip
      refine z_iload hC dX9_allFit_44 (lv_at hl 4 rfl) ?_
      refine z_bipush (v := 8) hC dX9_allFit_46 (by decide) ?_
      refine z_icmp_eq (tgt := 74) hC dX9_allFit_48 (by decide) hz (fun hz => ?_) (fun hz => ?_)
      · skip
        refine z_iconst (v := 1) hC dX9_allFit_74 (by decide) ?_
        refine z_goto (tgt := 79) hC dX9_allFit_75 (by decide) ?_
        exact b_X9_allFit_79 hC hT k28 hk28 (x0) (x1) (x2) (x4) (1) h_x0 h_x1 hz ls (lv_sub hl [0, 1, 2, 4] rfl)
      · skip
        refine z_aload_n hC dX9_allFit_51 rfl (lv_at hl 0 rfl) ?_
        refine z_aload_n hC dX9_allFit_52 rfl (lv_at hl 1 rfl) ?_
        refine z_iload hC dX9_allFit_53 (lv_at hl 4 rfl) ?_
        obtain ⟨hi4, hz⟩ := ifn_some hz
        refine z_iald hC dX9_allFit_55 h_x1 hi4 ?_
        refine z_aload_n hC dX9_allFit_56 rfl (lv_at hl 0 rfl) ?_
        obtain ⟨r5, hr_r5, hz⟩ := ob_some hz
        have hk_r5 : z_is b0 S r5 10 := hT.at h_x0 hr_r5
        refine z_getR hC zc_9 19 (by decide) kw_756 dX9_allFit_57 h_x0 rfl hr_r5 ?_
        refine z_bipush (v := 20) hC dX9_allFit_60 (by decide) ?_
        refine z_iload_n hC dX9_allFit_62 rfl (lv_at hl 2 rfl) ?_
        refine z_imul hC dX9_allFit_63 ?_
        refine z_iload hC dX9_allFit_64 (lv_at hl 4 rfl) ?_
        refine z_iadd hC dX9_allFit_66 ?_
        obtain ⟨hi6, hz⟩ := ifn_some hz
        refine z_iald hC dX9_allFit_67 hk_r5 hi6 ?_
        obtain ⟨q7, hq_q7, hz⟩ := ob_some hz
        refine z_callV (As := [.int (I x1 x4.toNatClampNeg), .int (I r5 ((20 * x2) + x4).toNatClampNeg)]) hC hT (c_X9_fits F x0 (I x1 x4.toNatClampNeg) (I r5 ((20 * x2) + x4).toNatClampNeg) h_x0 hq_q7) zy_X9_fits zc_9 zv_X9_fits kw_1031 dX9_allFit_68 h_x0 rfl rfl hl.1 (Nat.le_of_ble_eq_true rfl) (by decide) (by decide) ?_
        refine z_if_eq (tgt := 78) hC dX9_allFit_71 (by decide) hz (fun hz => ?_) (fun hz => ?_)
        · skip
          refine z_iconst (v := 0) hC dX9_allFit_78 (by decide) ?_
          exact b_X9_allFit_79 hC hT k28 hk28 (x0) (x1) (x2) (x4) (0) h_x0 h_x1 hz ls (lv_sub hl [0, 1, 2, 4] rfl)
        · skip
          refine z_iconst (v := 1) hC dX9_allFit_74 (by decide) ?_
          refine z_goto (tgt := 79) hC dX9_allFit_75 (by decide) ?_
          exact b_X9_allFit_79 hC hT k28 hk28 (x0) (x1) (x2) (x4) (1) h_x0 h_x1 hz ls (lv_sub hl [0, 1, 2, 4] rfl)
set_option maxRecDepth 100000 in
set_option maxHeartbeats 4000000 in
theorem b_X9_allFit_28 {p : Program} {l : Launch} {e : Env} {s : State} {m : MethodId} {args : Array Value} {below : List Frame} {meth : Method} {c : Code} {D : zD} {b0 : Nat} {F : Nat} {S : zS} {I : zI} {X : Int32} (hC : z_C p s m args meth c cX9_allFit RX9 5 (some .boolean) D) (hT : z_T b0 S)   : ∀ (n : Nat) (x0 : Nat) (x1 : Nat) (x2 : Int32) (x3 : Int32) (x4 : Int32), z_is b0 S x0 9 → z_is b0 S x1 10 → z_X9_allFit_28 F S I  n x0 x1 x2 x3 x4 = some X → ∀ ls : Array Slot, lv_has ls 5 [(0, .ref (x0)), (1, .ref (x1)), (2, .int (x2)), (3, .int (x3)), (4, .int (x4))] → z_W p l e { frames := 3, cells := 0, slots := 0, locals := 67 } s m args below meth c D b0 S I 0 0 (MQ below (z_Q D b0 (some (.int (X))) S I) args s 0 0 (fun q => b0 ≤ q)) (F0 m 28 ls []) := by
  intro n
  induction n with
  | zero => intro x0 x1 x2 x3 x4 h_x0 h_x1 hz; cases hz
  | succ n ih =>
    intro x0 x1 x2 x3 x4 h_x0 h_x1 hz ls hl
    exact bb_X9_allFit_28 (F := F) hC hT  (z_X9_allFit_28 F S I  n)  ih x0 x1 x2 x3 x4 h_x0 h_x1 hz ls hl
set_option maxRecDepth 100000 in
set_option maxHeartbeats 4000000 in
theorem b_X9_allFit_24 {p : Program} {l : Launch} {e : Env} {s : State} {m : MethodId} {args : Array Value} {below : List Frame} {meth : Method} {c : Code} {D : zD} {b0 : Nat} {F : Nat} {S : zS} {I : zI} {X : Int32} (hC : z_C p s m args meth c cX9_allFit RX9 5 (some .boolean) D) (hT : z_T b0 S)   (x0 : Nat) (x1 : Nat) (x2 : Int32) (y0 : Int32) (h_x0 : z_is b0 S x0 9) (h_x1 : z_is b0 S x1 10) (hz : z_X9_allFit_24 F S I  x0 x1 x2 y0 = some X) (ls : Array Slot) (hl : lv_has ls 5 [(0, .ref (x0)), (1, .ref (x1)), (2, .int (x2))]) : z_W p l e { frames := 3, cells := 0, slots := 0, locals := 67 } s m args below meth c D b0 S I 0 0 (MQ below (z_Q D b0 (some (.int (X))) S I) args s 0 0 (fun q => b0 ≤ q)) (F0 m 24 ls [.int (y0)]) := by
  unfold z_X9_allFit_24 at hz
  refine z_istore_n (lv' := [(3, .int (y0)), (0, .ref (x0)), (1, .ref (x1)), (2, .int (x2))]) hC dX9_allFit_24 rfl hl (by decide) rfl (fun ls hl => ?_)
  refine z_iconst (v := 0) hC dX9_allFit_25 (by decide) ?_
  refine z_istore (lv' := [(4, .int (0)), (3, .int (y0)), (0, .ref (x0)), (1, .ref (x1)), (2, .int (x2))]) hC dX9_allFit_26 hl (by decide) rfl (fun ls hl => ?_)
  exact b_X9_allFit_28 hC hT   F (x0) (x1) (x2) (y0) (0) h_x0 h_x1 hz ls (lv_sub hl [2, 3, 4, 1, 0] rfl)
set_option maxRecDepth 100000 in
set_option maxHeartbeats 4000000 in
theorem c_X9_allFit {l : Launch} {D : zD} {b0 : Nat} {S : zS} {I : zI} {X : Int32} (F : Nat) (x0 : Nat) (x1 : Nat) (x2 : Int32) (h_x0 : z_is b0 S x0 9) (h_x1 : z_is b0 S x1 10) (hz : z_X9_allFit F S I x0 x1 x2 = some X) : z_M l D b0 yX9_allFit cX9_allFit 5 (some .boolean) { frames := 3, cells := 0, slots := 0, locals := 67 } [.ref (x0), .ref (x1), .int (x2)] S I (some (.int (X))) S I := by
  refine z_met (by decide) (Nat.le_of_ble_eq_true rfl) ?_
  intro p e s m below meth c hC hnm hT ls hl
  have hl : lv_has ls 5 [(0, .ref (x0)), (1, .ref (x1)), (2, .int (x2))] := hl
  unfold z_X9_allFit at hz
  refine z_aload_n hC dX9_allFit_0 rfl (lv_at hl 1 rfl) ?_
  refine z_bipush (v := 8) hC dX9_allFit_1 (by decide) ?_
  obtain ⟨hi1, hz⟩ := ifn_some hz
  refine z_iald hC dX9_allFit_3 h_x1 hi1 ?_
  refine z_aload_n hC dX9_allFit_4 rfl (lv_at hl 0 rfl) ?_
  obtain ⟨r2, hr_r2, hz⟩ := ob_some hz
  have hk_r2 : z_is b0 S r2 10 := hT.at h_x0 hr_r2
  refine z_getR hC zc_9 19 (by decide) kw_756 dX9_allFit_5 h_x0 rfl hr_r2 ?_
  refine z_bipush (v := 20) hC dX9_allFit_8 (by decide) ?_
  refine z_iload_n hC dX9_allFit_10 rfl (lv_at hl 2 rfl) ?_
  refine z_imul hC dX9_allFit_11 ?_
  refine z_bipush (v := 8) hC dX9_allFit_12 (by decide) ?_
  refine z_iadd hC dX9_allFit_14 ?_
  obtain ⟨hi3, hz⟩ := ifn_some hz
  refine z_iald hC dX9_allFit_15 hk_r2 hi3 ?_
  refine z_icmp_ne (tgt := 23) hC dX9_allFit_16 (by decide) hz (fun hz => ?_) (fun hz => ?_)
  · skip
    refine z_iconst (v := 0) hC dX9_allFit_23 (by decide) ?_
    exact b_X9_allFit_24 hC hT   (x0) (x1) (x2) (0) h_x0 h_x1 hz ls (lv_sub hl [0, 1, 2] rfl)
  · skip
    refine z_iconst (v := 1) hC dX9_allFit_19 (by decide) ?_
    refine z_goto (tgt := 24) hC dX9_allFit_20 (by decide) ?_
    exact b_X9_allFit_24 hC hT   (x0) (x1) (x2) (1) h_x0 h_x1 hz ls (lv_sub hl [0, 1, 2] rfl)
theorem zy_X9_looks : z_y yX9_looks cX9_looks 5 none 4 := ⟨kw_1038, kw_8, by decide +kernel, by decide +kernel, by decide +kernel⟩
theorem zv_X9_looks : Cond.instanceMethod yX9_looks ∈ z_tbl ∧ Cond.selects RX9 yX9_looks yX9_looks ∈ z_tbl := ⟨kw_1037, ks_59⟩
def z_X9_looks_48 (F : Nat) (S : zS)  (x0 : Nat) (x1 : Nat) (x2 : Int32) (I : zI) : Option (zI) :=
  ob (S.1 x0 18) (fun r1 => if ((40 * (I x0 21)) + x2) < 0 ∨ (S.2.1 r1).2 ≤ ((40 * (I x0 21)) + x2).toNatClampNeg then none else (if (I r1 ((40 * (I x0 21)) + x2).toNatClampNeg) = 0 then (ob (z_X9_fails F S I x0 8) (fun q5 => some (q5))) else (ob (z_X9_allFit F S I x0 x1 ((40 * (I x0 21)) + x2)) (fun q3 => if q3 = 0 then (ob (z_X9_fails F S I x0 9) (fun q4 => some (q4))) else (some (I))))))
def z_X9_looks (F : Nat) (S : zS) (I : zI) (x0 : Nat) (x1 : Nat) (x2 : Int32) (x3 : Int32) (x4 : Int32) : Option (zI) :=
  ob (S.1 x0 6) (fun r1 => if (I x0 21) < 0 ∨ (S.2.1 r1).2 ≤ (I x0 21).toNatClampNeg then none else (if x2 < (I r1 (I x0 21).toNatClampNeg) then (if x4 = 0 then (if x3 < x2 then (z_X9_looks_48 F S  (x0) (x1) (x2) (I)) else (ob (z_X9_hasUnmade F S I x0 x1) (fun q3 => if q3 = 0 then (z_X9_looks_48 F S  (x0) (x1) (x2) (I)) else (ob (z_X9_fails F S I x0 6) (fun q4 => some (q4)))))) else (z_X9_looks_48 F S  (x0) (x1) (x2) (I))) else (ob (z_X9_fails F S I x0 5) (fun q5 => some (q5)))))
set_option maxRecDepth 100000 in
set_option maxHeartbeats 4000000 in
theorem b_X9_looks_48 {p : Program} {l : Launch} {e : Env} {s : State} {m : MethodId} {args : Array Value} {below : List Frame} {meth : Method} {c : Code} {D : zD} {b0 : Nat} {F : Nat} {S : zS} {X : zI} (hC : z_C p s m args meth c cX9_looks RX9 5 none D) (hT : z_T b0 S)   (x0 : Nat) (x1 : Nat) (x2 : Int32) (I : zI) (h_x0 : z_is b0 S x0 9) (h_x1 : z_is b0 S x1 10) (hz : z_X9_looks_48 F S  x0 x1 x2 I = some X) (ls : Array Slot) (hl : lv_has ls 5 [(0, .ref (x0)), (1, .ref (x1)), (2, .int (x2))]) : z_W p l e { frames := 4, cells := 0, slots := 0, locals := 91 } s m args below meth c D b0 S I 0 0 (MQ below (z_Q D b0 none S X) args s 0 0 (fun q => b0 ≤ q)) (F0 m 48 ls []) := by
  unfold z_X9_looks_48 at hz
  refine z_aload_n hC dX9_looks_48 rfl (lv_at hl 0 rfl) ?_
  obtain ⟨r1, hr_r1, hz⟩ := ob_some hz
  have hk_r1 : z_is b0 S r1 11 := hT.at h_x0 hr_r1
  refine z_getR hC zc_9 18 (by decide) kw_755 dX9_looks_49 h_x0 rfl hr_r1 ?_
  refine z_bipush (v := 40) hC dX9_looks_52 (by decide) ?_
  refine z_aload_n hC dX9_looks_54 rfl (lv_at hl 0 rfl) ?_
  refine z_getI hC zc_9 21 (by decide) kw_758 dX9_looks_55 h_x0 rfl ?_
  refine z_imul hC dX9_looks_58 ?_
  refine z_iload_n hC dX9_looks_59 rfl (lv_at hl 2 rfl) ?_
  refine z_iadd hC dX9_looks_60 ?_
  obtain ⟨hi2, hz⟩ := ifn_some hz
  refine z_zald hC dX9_looks_61 hk_r1 hi2 ?_
  refine z_if_ne (tgt := 74) hC dX9_looks_62 (by decide) hz (fun hz => ?_) (fun hz => ?_)
  · skip
    refine z_aload_n hC dX9_looks_74 rfl (lv_at hl 0 rfl) ?_
    refine z_aload_n hC dX9_looks_75 rfl (lv_at hl 1 rfl) ?_
    refine z_bipush (v := 40) hC dX9_looks_76 (by decide) ?_
    refine z_aload_n hC dX9_looks_78 rfl (lv_at hl 0 rfl) ?_
    refine z_getI hC zc_9 21 (by decide) kw_758 dX9_looks_79 h_x0 rfl ?_
    refine z_imul hC dX9_looks_82 ?_
    refine z_iload_n hC dX9_looks_83 rfl (lv_at hl 2 rfl) ?_
    refine z_iadd hC dX9_looks_84 ?_
    obtain ⟨q3, hq_q3, hz⟩ := ob_some hz
    refine z_callV (As := [.ref (x1), .int ((40 * (I x0 21)) + x2)]) hC hT (c_X9_allFit F x0 x1 ((40 * (I x0 21)) + x2) h_x0 h_x1 hq_q3) zy_X9_allFit zc_9 zv_X9_allFit kw_1027 dX9_looks_85 h_x0 rfl rfl hl.1 (Nat.le_of_ble_eq_true rfl) (by decide) (by decide) ?_
    refine z_if_ne (tgt := 97) hC dX9_looks_88 (by decide) hz (fun hz => ?_) (fun hz => ?_)
    · skip
      obtain rfl := Option.some.inj hz
      exact z_vret hC hT dX9_looks_97 (by decide) (by decide)
    · skip
      refine z_aload_n hC dX9_looks_91 rfl (lv_at hl 0 rfl) ?_
      refine z_bipush (v := 9) hC dX9_looks_92 (by decide) ?_
      obtain ⟨q4, hq_q4, hz⟩ := ob_some hz
      refine z_callV (As := [.int (9)]) hC hT (c_X9_fails F x0 9 h_x0 hq_q4) zy_X9_fails zc_9 zv_X9_fails kw_908 dX9_looks_94 h_x0 rfl rfl hl.1 (Nat.le_of_ble_eq_true rfl) (by decide) (by decide) ?_
      obtain rfl := Option.some.inj hz
      exact z_vret hC hT dX9_looks_97 (by decide) (by decide)
  · skip
    refine z_aload_n hC dX9_looks_65 rfl (lv_at hl 0 rfl) ?_
    refine z_bipush (v := 8) hC dX9_looks_66 (by decide) ?_
    obtain ⟨q5, hq_q5, hz⟩ := ob_some hz
    refine z_callV (As := [.int (8)]) hC hT (c_X9_fails F x0 8 h_x0 hq_q5) zy_X9_fails zc_9 zv_X9_fails kw_908 dX9_looks_68 h_x0 rfl rfl hl.1 (Nat.le_of_ble_eq_true rfl) (by decide) (by decide) ?_
    refine z_goto (tgt := 97) hC dX9_looks_71 (by decide) ?_
    obtain rfl := Option.some.inj hz
    exact z_vret hC hT dX9_looks_97 (by decide) (by decide)
set_option maxRecDepth 100000 in
set_option maxHeartbeats 4000000 in
theorem c_X9_looks {l : Launch} {D : zD} {b0 : Nat} {S : zS} {I : zI} {X : zI} (F : Nat) (x0 : Nat) (x1 : Nat) (x2 : Int32) (x3 : Int32) (x4 : Int32) (h_x0 : z_is b0 S x0 9) (h_x1 : z_is b0 S x1 10) (hz : z_X9_looks F S I x0 x1 x2 x3 x4 = some X) : z_M l D b0 yX9_looks cX9_looks 5 none { frames := 4, cells := 0, slots := 0, locals := 91 } [.ref (x0), .ref (x1), .int (x2), .int (x3), .int (x4)] S I none S X := by
  refine z_met (by decide) (Nat.le_of_ble_eq_true rfl) ?_
  intro p e s m below meth c hC hnm hT ls hl
  have hl : lv_has ls 5 [(0, .ref (x0)), (1, .ref (x1)), (2, .int (x2)), (3, .int (x3)), (4, .int (x4))] := hl
  unfold z_X9_looks at hz
  refine z_iload_n hC dX9_looks_0 rfl (lv_at hl 2 rfl) ?_
  refine z_aload_n hC dX9_looks_1 rfl (lv_at hl 0 rfl) ?_
  obtain ⟨r1, hr_r1, hz⟩ := ob_some hz
  have hk_r1 : z_is b0 S r1 10 := hT.at h_x0 hr_r1
  refine z_getR hC zc_9 6 (by decide) kw_743 dX9_looks_2 h_x0 rfl hr_r1 ?_
  refine z_aload_n hC dX9_looks_5 rfl (lv_at hl 0 rfl) ?_
  refine z_getI hC zc_9 21 (by decide) kw_758 dX9_looks_6 h_x0 rfl ?_
  obtain ⟨hi2, hz⟩ := ifn_some hz
  refine z_iald hC dX9_looks_9 hk_r1 hi2 ?_
  refine z_icmp_lt (tgt := 21) hC dX9_looks_10 (by decide) hz (fun hz => ?_) (fun hz => ?_)
  · skip
    refine z_iload hC dX9_looks_21 (lv_at hl 4 rfl) ?_
    refine z_if_ne (tgt := 48) hC dX9_looks_23 (by decide) hz (fun hz => ?_) (fun hz => ?_)
    · skip
      exact b_X9_looks_48 hC hT   (x0) (x1) (x2) (I) h_x0 h_x1 hz ls (lv_sub hl [0, 1, 2] rfl)
    · skip
      refine z_iload_n hC dX9_looks_26 rfl (lv_at hl 2 rfl) ?_
      refine z_iload_n hC dX9_looks_27 rfl (lv_at hl 3 rfl) ?_
      refine z_icmp_gt (tgt := 48) hC dX9_looks_28 (by decide) hz (fun hz => ?_) (fun hz => ?_)
      · skip
        exact b_X9_looks_48 hC hT   (x0) (x1) (x2) (I) h_x0 h_x1 hz ls (lv_sub hl [0, 1, 2] rfl)
      · skip
        refine z_aload_n hC dX9_looks_31 rfl (lv_at hl 0 rfl) ?_
        refine z_aload_n hC dX9_looks_32 rfl (lv_at hl 1 rfl) ?_
        obtain ⟨q3, hq_q3, hz⟩ := ob_some hz
        refine z_callV (As := [.ref (x1)]) hC hT (c_X9_hasUnmade F x0 x1 h_x0 h_x1 hq_q3) zy_X9_hasUnmade zc_9 zv_X9_hasUnmade kw_912 dX9_looks_33 h_x0 rfl rfl hl.1 (Nat.le_of_ble_eq_true rfl) (by decide) (by decide) ?_
        refine z_if_eq (tgt := 48) hC dX9_looks_36 (by decide) hz (fun hz => ?_) (fun hz => ?_)
        · skip
          exact b_X9_looks_48 hC hT   (x0) (x1) (x2) (I) h_x0 h_x1 hz ls (lv_sub hl [0, 1, 2] rfl)
        · skip
          refine z_aload_n hC dX9_looks_39 rfl (lv_at hl 0 rfl) ?_
          refine z_bipush (v := 6) hC dX9_looks_40 (by decide) ?_
          obtain ⟨q4, hq_q4, hz⟩ := ob_some hz
          refine z_callV (As := [.int (6)]) hC hT (c_X9_fails F x0 6 h_x0 hq_q4) zy_X9_fails zc_9 zv_X9_fails kw_908 dX9_looks_42 h_x0 rfl rfl hl.1 (Nat.le_of_ble_eq_true rfl) (by decide) (by decide) ?_
          refine z_goto (tgt := 97) hC dX9_looks_45 (by decide) ?_
          obtain rfl := Option.some.inj hz
          exact z_vret hC hT dX9_looks_97 (by decide) (by decide)
  · skip
    refine z_aload_n hC dX9_looks_13 rfl (lv_at hl 0 rfl) ?_
    refine z_iconst (v := 5) hC dX9_looks_14 (by decide) ?_
    obtain ⟨q5, hq_q5, hz⟩ := ob_some hz
    refine z_callV (As := [.int (5)]) hC hT (c_X9_fails F x0 5 h_x0 hq_q5) zy_X9_fails zc_9 zv_X9_fails kw_908 dX9_looks_15 h_x0 rfl rfl hl.1 (Nat.le_of_ble_eq_true rfl) (by decide) (by decide) ?_
    refine z_goto (tgt := 97) hC dX9_looks_18 (by decide) ?_
    obtain rfl := Option.some.inj hz
    exact z_vret hC hT dX9_looks_97 (by decide) (by decide)
