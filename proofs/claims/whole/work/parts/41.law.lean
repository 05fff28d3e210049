def z_L_law_157 (F L : Nat) (xs : Nat → Int32) (k18 : Nat → Nat → Int32 → zS → zI → Option Unit) (x1 : Nat) (x2 : Nat) (x3 : Int32) (y0 : Int32) (y1 : Nat) (y2 : Int32) (y3 : Int32) (S : zS) (I : zI) : Option Unit :=
  ob (z_X9_cls F S I y1 y2 y3) (fun q1 => if y0 = (q1.1) then (k18 (x1) (x2) (x3 + 6) (S) (q1.2)) else (none))
set_option maxRecDepth 100000 in
set_option maxHeartbeats 4000000 in
theorem b_L_law_157 {p : Program} {l : Launch} {e : Env} {s : State} {m : MethodId} {below : List Frame} {meth : Method} {c : Code} {D : zD} {b F L : Nat} {xs : Nat → Int32} (hC : z_C p s m #[Value.ref b] meth c code RL 4 ret D) (hX : va_X b L xs s s.heap) (hbl : b < s.heap.size) (n cells slots : Nat) (k18 : Nat → Nat → Int32 → zS → zI → Option Unit) (hk18 : ∀ (cells slots : Nat) (x1 : Nat) (x2 : Nat) (x3 : Int32) (S : zS) (I : zI), cells + 7 * n ≤ 600000 → slots + 50 * n ≤ 7302250 → z_T s.heap.size S → z_is s.heap.size S x1 8 → z_is s.heap.size S x2 9 → k18 x1 x2 x3 S I = some () → ∀ ls : Array Slot, lv_has ls 4 [(0, .ref b), (1, .ref (x1)), (2, .ref (x2)), (3, .int (x3))] → z_W p l e room_1 s m #[Value.ref b] below meth c D s.heap.size S I (cells) (slots) (lw_Z below #[Value.ref b] s) (F0 m 18 ls [])) (x1 : Nat) (x2 : Nat) (x3 : Int32) (y0 : Int32) (y1 : Nat) (y2 : Int32) (y3 : Int32) (S : zS) (I : zI) (hce : cells + 7 * n + 7 ≤ 600000) (hsl : slots + 50 * n + 50 ≤ 7302250) (hT : z_T s.heap.size S) (h_x1 : z_is s.heap.size S x1 8) (h_x2 : z_is s.heap.size S x2 9) (h_y1 : z_is s.heap.size S y1 9) (hz : z_L_law_157 F L xs k18 x1 x2 x3 y0 y1 y2 y3 S I = some ()) (ls : Array Slot) (hl : lv_has ls 4 [(0, .ref b), (1, .ref (x1)), (2, .ref (x2)), (3, .int (x3))]) : z_W p l e room_1 s m #[Value.ref b] below meth c D s.heap.size S I (cells) (slots) (lw_Z below #[Value.ref b] s) (F0 m 157 ls [.int (y3), .int (y2), .ref (y1), .int (y0)]) := by
  unfold z_L_law_157 at hz
  have hE : z_Ext S S := z_Ext.rf S
  obtain ⟨q1, hq_q1, hz⟩ := ob_some hz
  refine z_callV (As := [.int (y2), .int (y3)]) hC hT (c_X9_cls F y1 y2 y3 h_y1 hq_q1) zy_X9_cls zc_9 zv_X9_cls kw_825 dL_law_157 h_y1 rfl rfl hl.1 (Nat.le_of_ble_eq_true rfl) (by decide) (show cells + 0 ≤ 600000 ∧ slots + 0 ≤ 7302250 from ⟨by omega, by omega⟩) ?_
  refine z_icmp_eq (tgt := 733) hC dL_law_160 (by decide) hz (fun hz => ?_) (fun hz => ?_)
  · skip
    refine z_iinc (k0 := 3) (v := x3 + 6) (lv' := [(3, .int (x3 + 6)), (0, .ref b), (1, .ref (x1)), (2, .ref (x2))]) hC dL_law_733 hl rfl rfl (by decide) rfl (fun ls hl => ?_)
    refine z_goto (tgt := 18) hC dL_law_736 (by decide) ?_
    exact hk18 (cells) (slots) (x1) (x2) (x3 + 6) (S) (q1.2) (by omega) (by omega) hT h_x1 h_x2 hz ls (lv_sub hl [1, 2, 3, 0] rfl)
  · skip
    refine z_iconst (v := 0) hC dL_law_163 (by decide) ?_
    cases hz
def z_L_law_135 (F L : Nat) (xs : Nat → Int32) (k18 : Nat → Nat → Int32 → zS → zI → Option Unit) (x1 : Nat) (x2 : Nat) (x3 : Int32) (y0 : Nat) (y1 : Int32) (y2 : Int32) (S : zS) (I : zI) : Option Unit :=
  ob (z_X8_cls F S I y0 y1 y2) (fun q1 => if (x3 + 1) < 0 ∨ L ≤ (x3 + 1).toNatClampNeg then none else (if (x3 + 2) < 0 ∨ L ≤ (x3 + 2).toNatClampNeg then none else (if (xs (x3 + 2).toNatClampNeg) = 0 then (z_L_law_157 F L xs k18 (x1) (x2) (x3) (q1.1) (x2) (xs (x3 + 1).toNatClampNeg) (0) (S) (q1.2)) else (z_L_law_157 F L xs k18 (x1) (x2) (x3) (q1.1) (x2) (xs (x3 + 1).toNatClampNeg) (1) (S) (q1.2)))))
set_option maxRecDepth 100000 in
set_option maxHeartbeats 4000000 in
theorem b_L_law_135 {p : Program} {l : Launch} {e : Env} {s : State} {m : MethodId} {below : List Frame} {meth : Method} {c : Code} {D : zD} {b F L : Nat} {xs : Nat → Int32} (hC : z_C p s m #[Value.ref b] meth c code RL 4 ret D) (hX : va_X b L xs s s.heap) (hbl : b < s.heap.size) (n cells slots : Nat) (k18 : Nat → Nat → Int32 → zS → zI → Option Unit) (hk18 : ∀ (cells slots : Nat) (x1 : Nat) (x2 : Nat) (x3 : Int32) (S : zS) (I : zI), cells + 7 * n ≤ 600000 → slots + 50 * n ≤ 7302250 → z_T s.heap.size S → z_is s.heap.size S x1 8 → z_is s.heap.size S x2 9 → k18 x1 x2 x3 S I = some () → ∀ ls : Array Slot, lv_has ls 4 [(0, .ref b), (1, .ref (x1)), (2, .ref (x2)), (3, .int (x3))] → z_W p l e room_1 s m #[Value.ref b] below meth c D s.heap.size S I (cells) (slots) (lw_Z below #[Value.ref b] s) (F0 m 18 ls [])) (x1 : Nat) (x2 : Nat) (x3 : Int32) (y0 : Nat) (y1 : Int32) (y2 : Int32) (S : zS) (I : zI) (hce : cells + 7 * n + 7 ≤ 600000) (hsl : slots + 50 * n + 50 ≤ 7302250) (hT : z_T s.heap.size S) (h_x1 : z_is s.heap.size S x1 8) (h_x2 : z_is s.heap.size S x2 9) (h_y0 : z_is s.heap.size S y0 8) (hz : z_L_law_135 F L xs k18 x1 x2 x3 y0 y1 y2 S I = some ()) (ls : Array Slot) (hl : lv_has ls 4 [(0, .ref b), (1, .ref (x1)), (2, .ref (x2)), (3, .int (x3))]) : z_W p l e room_1 s m #[Value.ref b] below meth c D s.heap.size S I (cells) (slots) (lw_Z below #[Value.ref b] s) (F0 m 135 ls [.int (y2), .int (y1), .ref (y0)]) := by
  unfold z_L_law_135 at hz
  have hE : z_Ext S S := z_Ext.rf S
  obtain ⟨q1, hq_q1, hz⟩ := ob_some hz
  refine z_callV (As := [.int (y1), .int (y2)]) hC hT (c_X8_cls F y0 y1 y2 h_y0 hq_q1) zy_X8_cls zc_8 zv_X8_cls kw_192 dL_law_135 h_y0 rfl rfl hl.1 (Nat.le_of_ble_eq_true rfl) (by decide) (show cells + 0 ≤ 600000 ∧ slots + 0 ≤ 7302250 from ⟨by omega, by omega⟩) ?_
  refine z_aload_n hC dL_law_138 rfl (lv_at hl 2 rfl) ?_
  refine z_aload_n hC dL_law_139 rfl (lv_at hl 0 rfl) ?_
  refine z_iload_n hC dL_law_140 rfl (lv_at hl 3 rfl) ?_
  refine z_iconst (v := 1) hC dL_law_141 (by decide) ?_
  refine z_iadd hC dL_law_142 ?_
  obtain ⟨hi2, hz⟩ := ifn_some hz
  refine z_sld hC hX hbl dL_law_143 hi2 ?_
  refine z_aload_n hC dL_law_144 rfl (lv_at hl 0 rfl) ?_
  refine z_iload_n hC dL_law_145 rfl (lv_at hl 3 rfl) ?_
  refine z_iconst (v := 2) hC dL_law_146 (by decide) ?_
  refine z_iadd hC dL_law_147 ?_
  obtain ⟨hi3, hz⟩ := ifn_some hz
  refine z_sld hC hX hbl dL_law_148 hi3 ?_
  refine z_if_eq (tgt := 156) hC dL_law_149 (by decide) hz (fun hz => ?_) (fun hz => ?_)
  · skip
    refine z_iconst (v := 0) hC dL_law_156 (by decide) ?_
    exact b_L_law_157 hC hX hbl n (cells) (slots) k18 hk18 (x1) (x2) (x3) (q1.1) (x2) (xs (x3 + 1).toNatClampNeg) (0) (S) (q1.2) (by omega) (by omega) hT h_x1 h_x2 h_x2 hz ls (lv_sub hl [0, 1, 2, 3] rfl)
  · skip
    refine z_iconst (v := 1) hC dL_law_152 (by decide) ?_
    refine z_goto (tgt := 157) hC dL_law_153 (by decide) ?_
    exact b_L_law_157 hC hX hbl n (cells) (slots) k18 hk18 (x1) (x2) (x3) (q1.1) (x2) (xs (x3 + 1).toNatClampNeg) (1) (S) (q1.2) (by omega) (by omega) hT h_x1 h_x2 h_x2 hz ls (lv_sub hl [0, 1, 2, 3] rfl)
def z_L_law_18B (F L : Nat) (xs : Nat → Int32) (k18 : Nat → Nat → Int32 → zS → zI → Option Unit) (x1 : Nat) (x2 : Nat) (x3 : Int32) (S : zS) (I : zI) : Option Unit :=
  if ((Int32.ofNat L) - 6) < x3 then (some ()) else (if x3 < 0 ∨ L ≤ x3.toNatClampNeg then none else (if ((xs x3.toNatClampNeg) &&& 31) = 0 then (if (x3 + 1) < 0 ∨ L ≤ (x3 + 1).toNatClampNeg then none else (if (x3 + 2) < 0 ∨ L ≤ (x3 + 2).toNatClampNeg then none else (if (xs (x3 + 2).toNatClampNeg) = 0 then (z_L_law_135 F L xs k18 (x1) (x2) (x3) (x1) (xs (x3 + 1).toNatClampNeg) (0) (S) (I)) else (z_L_law_135 F L xs k18 (x1) (x2) (x3) (x1) (xs (x3 + 1).toNatClampNeg) (1) (S) (I))))) else (if ((xs x3.toNatClampNeg) &&& 31) = 1 then (if (x3 + 1) < 0 ∨ L ≤ (x3 + 1).toNatClampNeg then none else (if (x3 + 2) < 0 ∨ L ≤ (x3 + 2).toNatClampNeg then none else (ob (z_X8_joined F S I x1 (xs (x3 + 1).toNatClampNeg) (xs (x3 + 2).toNatClampNeg)) (fun q7 => if (x3 + 1) < 0 ∨ L ≤ (x3 + 1).toNatClampNeg then none else (if (x3 + 2) < 0 ∨ L ≤ (x3 + 2).toNatClampNeg then none else (ob (z_X9_joined F S I x2 (xs (x3 + 1).toNatClampNeg) (xs (x3 + 2).toNatClampNeg)) (fun q10 => if q7 = q10 then (k18 (x1) (x2) (x3 + 6) (S) (I)) else (none)))))))) else (if ((xs x3.toNatClampNeg) &&& 31) = 2 then (if (x3 + 1) < 0 ∨ L ≤ (x3 + 1).toNatClampNeg then none else (if (x3 + 2) < 0 ∨ L ≤ (x3 + 2).toNatClampNeg then none else (ob (z_X8_is F S I x1 (xs (x3 + 1).toNatClampNeg) (xs (x3 + 2).toNatClampNeg)) (fun q14 => if (x3 + 1) < 0 ∨ L ≤ (x3 + 1).toNatClampNeg then none else (if (x3 + 2) < 0 ∨ L ≤ (x3 + 2).toNatClampNeg then none else (ob (z_X9_is F S I x2 (xs (x3 + 1).toNatClampNeg) (xs (x3 + 2).toNatClampNeg)) (fun q17 => if q14 = q17 then (k18 (x1) (x2) (x3 + 6) (S) (I)) else (none)))))))) else (if ((xs x3.toNatClampNeg) &&& 31) = 3 then (if (x3 + 1) < 0 ∨ L ≤ (x3 + 1).toNatClampNeg then none else (if (x3 + 2) < 0 ∨ L ≤ (x3 + 2).toNatClampNeg then none else (ob (z_X8_clear F S I x1 (xs (x3 + 1).toNatClampNeg) (xs (x3 + 2).toNatClampNeg)) (fun q21 => if (x3 + 1) < 0 ∨ L ≤ (x3 + 1).toNatClampNeg then none else (if (x3 + 2) < 0 ∨ L ≤ (x3 + 2).toNatClampNeg then none else (ob (z_X9_clear F S (q21.2) x2 (xs (x3 + 1).toNatClampNeg) (xs (x3 + 2).toNatClampNeg)) (fun q24 => if (q21.1) = (q24.1) then (k18 (x1) (x2) (x3 + 6) (S) (q24.2)) else (none)))))))) else (if ((xs x3.toNatClampNeg) &&& 31) = 4 then (if (x3 + 1) < 0 ∨ L ≤ (x3 + 1).toNatClampNeg then none else (if (x3 + 2) < 0 ∨ L ≤ (x3 + 2).toNatClampNeg then none else (ob (z_X8_argument F S I x1 (xs (x3 + 1).toNatClampNeg) (xs (x3 + 2).toNatClampNeg)) (fun q28 => if (x3 + 1) < 0 ∨ L ≤ (x3 + 1).toNatClampNeg then none else (if (x3 + 2) < 0 ∨ L ≤ (x3 + 2).toNatClampNeg then none else (ob (z_X9_argument F S (q28.2) x2 (xs (x3 + 1).toNatClampNeg) (xs (x3 + 2).toNatClampNeg)) (fun q31 => if (q28.1) = (q31.1) then (k18 (x1) (x2) (x3 + 6) (S) (q31.2)) else (none)))))))) else (if ((xs x3.toNatClampNeg) &&& 31) = 5 then (if (x3 + 1) < 0 ∨ L ≤ (x3 + 1).toNatClampNeg then none else (if (x3 + 2) < 0 ∨ L ≤ (x3 + 2).toNatClampNeg then none else (if (x3 + 3) < 0 ∨ L ≤ (x3 + 3).toNatClampNeg then none else (if (x3 + 4) < 0 ∨ L ≤ (x3 + 4).toNatClampNeg then none else (ob (z_X8_act F S I x1 (xs (x3 + 1).toNatClampNeg) (xs (x3 + 2).toNatClampNeg) (xs (x3 + 3).toNatClampNeg) (xs (x3 + 4).toNatClampNeg)) (fun q37 => if (x3 + 1) < 0 ∨ L ≤ (x3 + 1).toNatClampNeg then none else (if (x3 + 2) < 0 ∨ L ≤ (x3 + 2).toNatClampNeg then none else (if (x3 + 3) < 0 ∨ L ≤ (x3 + 3).toNatClampNeg then none else (if (x3 + 4) < 0 ∨ L ≤ (x3 + 4).toNatClampNeg then none else (ob (z_X9_act F (q37.2.1) (q37.2.2) x2 (xs (x3 + 1).toNatClampNeg) (xs (x3 + 2).toNatClampNeg) (xs (x3 + 3).toNatClampNeg) (xs (x3 + 4).toNatClampNeg)) (fun q42 => if (q37.1) = (q42.1) then (k18 (x1) (x2) (x3 + 6) (q37.2.1) (q42.2)) else (none)))))))))))) else (if ((xs x3.toNatClampNeg) &&& 31) = 6 then (if (x3 + 1) < 0 ∨ L ≤ (x3 + 1).toNatClampNeg then none else (if (x3 + 2) < 0 ∨ L ≤ (x3 + 2).toNatClampNeg then none else (if (x3 + 3) < 0 ∨ L ≤ (x3 + 3).toNatClampNeg then none else (if (x3 + 4) < 0 ∨ L ≤ (x3 + 4).toNatClampNeg then none else (if (x3 + 5) < 0 ∨ L ≤ (x3 + 5).toNatClampNeg then none else (ob (z_X8_guard F S I x1 (xs (x3 + 1).toNatClampNeg) (xs (x3 + 2).toNatClampNeg) (xs (x3 + 3).toNatClampNeg) (xs (x3 + 4).toNatClampNeg) (xs (x3 + 5).toNatClampNeg)) (fun q49 => if (x3 + 1) < 0 ∨ L ≤ (x3 + 1).toNatClampNeg then none else (if (x3 + 2) < 0 ∨ L ≤ (x3 + 2).toNatClampNeg then none else (if (x3 + 3) < 0 ∨ L ≤ (x3 + 3).toNatClampNeg then none else (if (x3 + 4) < 0 ∨ L ≤ (x3 + 4).toNatClampNeg then none else (if (x3 + 5) < 0 ∨ L ≤ (x3 + 5).toNatClampNeg then none else (ob (z_X9_guard F (q49.2.1) (q49.2.2) x2 (xs (x3 + 1).toNatClampNeg) (xs (x3 + 2).toNatClampNeg) (xs (x3 + 3).toNatClampNeg) (xs (x3 + 4).toNatClampNeg) (xs (x3 + 5).toNatClampNeg)) (fun q55 => if (q49.1) = (q55.1) then (k18 (x1) (x2) (x3 + 6) (q49.2.1) (q55.2)) else (none)))))))))))))) else (if ((xs x3.toNatClampNeg) &&& 31) = 7 then (if (x3 + 1) < 0 ∨ L ≤ (x3 + 1).toNatClampNeg then none else (ob (z_X8_compute F S I x1 (xs (x3 + 1).toNatClampNeg)) (fun q58 => if (x3 + 1) < 0 ∨ L ≤ (x3 + 1).toNatClampNeg then none else (ob (z_X9_compute F S (q58.2) x2 (xs (x3 + 1).toNatClampNeg)) (fun q60 => if (q58.1) = (q60.1) then (k18 (x1) (x2) (x3 + 6) (S) (q60.2)) else (none)))))) else (if ((xs x3.toNatClampNeg) &&& 31) = 8 then (ob (z_X8_fault F S I x1) (fun q62 => ob (z_X9_fault F S I x2) (fun q63 => if q62 = q63 then (k18 (x1) (x2) (x3 + 6) (S) (I)) else (none)))) else (if ((xs x3.toNatClampNeg) &&& 31) = 9 then (if (x3 + 1) < 0 ∨ L ≤ (x3 + 1).toNatClampNeg then none else (if (x3 + 2) < 0 ∨ L ≤ (x3 + 2).toNatClampNeg then none else (if (x3 + 3) < 0 ∨ L ≤ (x3 + 3).toNatClampNeg then none else (ob (z_X8_state F S I x1 (xs (x3 + 1).toNatClampNeg) (xs (x3 + 2).toNatClampNeg) (xs (x3 + 3).toNatClampNeg)) (fun q68 => if (x3 + 1) < 0 ∨ L ≤ (x3 + 1).toNatClampNeg then none else (if (x3 + 2) < 0 ∨ L ≤ (x3 + 2).toNatClampNeg then none else (if (x3 + 3) < 0 ∨ L ≤ (x3 + 3).toNatClampNeg then none else (ob (z_X9_state F S I x2 (xs (x3 + 1).toNatClampNeg) (xs (x3 + 2).toNatClampNeg) (xs (x3 + 3).toNatClampNeg)) (fun q72 => if q68 = q72 then (k18 (x1) (x2) (x3 + 6) (S) (I)) else (none)))))))))) else (if ((xs x3.toNatClampNeg) &&& 31) = 10 then (if (x3 + 1) < 0 ∨ L ≤ (x3 + 1).toNatClampNeg then none else (if (x3 + 2) < 0 ∨ L ≤ (x3 + 2).toNatClampNeg then none else (if (x3 + 3) < 0 ∨ L ≤ (x3 + 3).toNatClampNeg then none else (ob (z_X8_frame F S I x1 (xs (x3 + 1).toNatClampNeg) (xs (x3 + 2).toNatClampNeg) (xs (x3 + 3).toNatClampNeg)) (fun q77 => if (x3 + 1) < 0 ∨ L ≤ (x3 + 1).toNatClampNeg then none else (if (x3 + 2) < 0 ∨ L ≤ (x3 + 2).toNatClampNeg then none else (if (x3 + 3) < 0 ∨ L ≤ (x3 + 3).toNatClampNeg then none else (ob (z_X9_frame F S I x2 (xs (x3 + 1).toNatClampNeg) (xs (x3 + 2).toNatClampNeg) (xs (x3 + 3).toNatClampNeg)) (fun q81 => if q77 = q81 then (k18 (x1) (x2) (x3 + 6) (S) (I)) else (none)))))))))) else (if ((xs x3.toNatClampNeg) &&& 31) = 11 then (if (x3 + 1) < 0 ∨ L ≤ (x3 + 1).toNatClampNeg then none else (if (x3 + 2) < 0 ∨ L ≤ (x3 + 2).toNatClampNeg then none else (ob (z_X8_form F S I x1 (xs (x3 + 1).toNatClampNeg) (xs (x3 + 2).toNatClampNeg)) (fun q85 => if (x3 + 1) < 0 ∨ L ≤ (x3 + 1).toNatClampNeg then none else (if (x3 + 2) < 0 ∨ L ≤ (x3 + 2).toNatClampNeg then none else (ob (z_X9_form F S I x2 (xs (x3 + 1).toNatClampNeg) (xs (x3 + 2).toNatClampNeg)) (fun q88 => if q85 = (q88.1) then (k18 (x1) (x2) (x3 + 6) (S) (q88.2)) else (none)))))))) else (if ((xs x3.toNatClampNeg) &&& 31) = 12 then (if (x3 + 1) < 0 ∨ L ≤ (x3 + 1).toNatClampNeg then none else (if (x3 + 2) < 0 ∨ L ≤ (x3 + 2).toNatClampNeg then none else (ob (z_X8_shared F S I x1 (xs (x3 + 1).toNatClampNeg) (xs (x3 + 2).toNatClampNeg)) (fun q92 => if (x3 + 1) < 0 ∨ L ≤ (x3 + 1).toNatClampNeg then none else (if (x3 + 2) < 0 ∨ L ≤ (x3 + 2).toNatClampNeg then none else (ob (z_X9_shared F S I x2 (xs (x3 + 1).toNatClampNeg) (xs (x3 + 2).toNatClampNeg)) (fun q95 => if q92 = q95 then (k18 (x1) (x2) (x3 + 6) (S) (I)) else (none)))))))) else (if ((xs x3.toNatClampNeg) &&& 31) = 13 then (if (x3 + 1) < 0 ∨ L ≤ (x3 + 1).toNatClampNeg then none else (if (x3 + 2) < 0 ∨ L ≤ (x3 + 2).toNatClampNeg then none else (ob (z_X8_maximum F S I x1 (xs (x3 + 1).toNatClampNeg) (xs (x3 + 2).toNatClampNeg)) (fun q99 => if (x3 + 1) < 0 ∨ L ≤ (x3 + 1).toNatClampNeg then none else (if (x3 + 2) < 0 ∨ L ≤ (x3 + 2).toNatClampNeg then none else (ob (z_X9_maximum F S I x2 (xs (x3 + 1).toNatClampNeg) (xs (x3 + 2).toNatClampNeg)) (fun q102 => if q99 = (q102.1) then (k18 (x1) (x2) (x3 + 6) (S) (q102.2)) else (none)))))))) else (if ((xs x3.toNatClampNeg) &&& 31) = 14 then (if (x3 + 1) < 0 ∨ L ≤ (x3 + 1).toNatClampNeg then none else (if (x3 + 2) < 0 ∨ L ≤ (x3 + 2).toNatClampNeg then none else (if (x3 + 3) < 0 ∨ L ≤ (x3 + 3).toNatClampNeg then none else (if (x3 + 4) < 0 ∨ L ≤ (x3 + 4).toNatClampNeg then none else (ob (z_X8_plant F S I x1 (xs (x3 + 1).toNatClampNeg) (xs (x3 + 2).toNatClampNeg) (xs (x3 + 3).toNatClampNeg) (xs (x3 + 4).toNatClampNeg)) (fun q108 => if (x3 + 1) < 0 ∨ L ≤ (x3 + 1).toNatClampNeg then none else (if (x3 + 2) < 0 ∨ L ≤ (x3 + 2).toNatClampNeg then none else (if (x3 + 3) < 0 ∨ L ≤ (x3 + 3).toNatClampNeg then none else (if (x3 + 4) < 0 ∨ L ≤ (x3 + 4).toNatClampNeg then none else (ob (z_X9_plant F S (q108.2) x2 (xs (x3 + 1).toNatClampNeg) (xs (x3 + 2).toNatClampNeg) (xs (x3 + 3).toNatClampNeg) (xs (x3 + 4).toNatClampNeg)) (fun q113 => if (q108.1) = (q113.1) then (k18 (x1) (x2) (x3 + 6) (S) (q113.2)) else (none)))))))))))) else (if ((xs x3.toNatClampNeg) &&& 31) = 15 then (if (x3 + 1) < 0 ∨ L ≤ (x3 + 1).toNatClampNeg then none else (ob (z_X8_verify F S I x1 (xs (x3 + 1).toNatClampNeg)) (fun q116 => if (x3 + 1) < 0 ∨ L ≤ (x3 + 1).toNatClampNeg then none else (ob (z_X9_verify F S (q116.2) x2 (xs (x3 + 1).toNatClampNeg)) (fun q118 => if (q116.1) = (q118.1) then (k18 (x1) (x2) (x3 + 6) (S) (q118.2)) else (none)))))) else (if ((xs x3.toNatClampNeg) &&& 31) = 16 then (if (x3 + 1) < 0 ∨ L ≤ (x3 + 1).toNatClampNeg then none else (ob (z_X8_told F S I x1 (xs (x3 + 1).toNatClampNeg)) (fun q121 => if (x3 + 1) < 0 ∨ L ≤ (x3 + 1).toNatClampNeg then none else (ob (z_X9_told F S I x2 (xs (x3 + 1).toNatClampNeg)) (fun q123 => if q121 = q123 then (k18 (x1) (x2) (x3 + 6) (S) (I)) else (none)))))) else (k18 (x1) (x2) (x3 + 6) (S) (I))))))))))))))))))))
set_option maxRecDepth 100000 in
set_option maxHeartbeats 4000000 in
theorem bb_L_law_18 {p : Program} {l : Launch} {e : Env} {s : State} {m : MethodId} {below : List Frame} {meth : Method} {c : Code} {D : zD} {b F L : Nat} {xs : Nat → Int32} (hC : z_C p s m #[Value.ref b] meth c code RL 4 ret D) (hX : va_X b L xs s s.heap) (hbl : b < s.heap.size) (n cells slots : Nat) (k18 : Nat → Nat → Int32 → zS → zI → Option Unit) (hk18 : ∀ (cells slots : Nat) (x1 : Nat) (x2 : Nat) (x3 : Int32) (S : zS) (I : zI), cells + 7 * n ≤ 600000 → slots + 50 * n ≤ 7302250 → z_T s.heap.size S → z_is s.heap.size S x1 8 → z_is s.heap.size S x2 9 → k18 x1 x2 x3 S I = some () → ∀ ls : Array Slot, lv_has ls 4 [(0, .ref b), (1, .ref (x1)), (2, .ref (x2)), (3, .int (x3))] → z_W p l e room_1 s m #[Value.ref b] below meth c D s.heap.size S I (cells) (slots) (lw_Z below #[Value.ref b] s) (F0 m 18 ls [])) (x1 : Nat) (x2 : Nat) (x3 : Int32) (S : zS) (I : zI) (hce : cells + 7 * n + 7 ≤ 600000) (hsl : slots + 50 * n + 50 ≤ 7302250) (hT : z_T s.heap.size S) (h_x1 : z_is s.heap.size S x1 8) (h_x2 : z_is s.heap.size S x2 9) (hz : z_L_law_18B F L xs k18 x1 x2 x3 S I = some ()) (ls : Array Slot) (hl : lv_has ls 4 [(0, .ref b), (1, .ref (x1)), (2, .ref (x2)), (3, .int (x3))]) : z_W p l e room_1 s m #[Value.ref b] below meth c D s.heap.size S I (cells) (slots) (lw_Z below #[Value.ref b] s) (F0 m 18 ls []) := by
  unfold z_L_law_18B at hz
  have hE : z_Ext S S := z_Ext.rf S
  refine z_iload_n hC dL_law_18 rfl (lv_at hl 3 rfl) ?_
  refine z_aload_n hC dL_law_19 rfl (lv_at hl 0 rfl) ?_
  refine z_slen hC hX hbl dL_law_20 ?_
  refine z_bipush (v := 6) hC dL_law_21 (by decide) ?_
  refine z_isub hC dL_law_23 ?_
  refine z_icmp_gt (tgt := 739) hC dL_law_24 (by decide) hz (fun hz => ?_) (fun hz => ?_)
  · skip
    refine z_iconst (v := 1) hC dL_law_739 (by decide) ?_
    exact z_lret hC dL_law_740 (by omega) (by omega)
  · skip
    refine z_aload_n hC dL_law_27 rfl (lv_at hl 0 rfl) ?_
    refine z_iload_n hC dL_law_28 rfl (lv_at hl 3 rfl) ?_
    obtain ⟨hi1, hz⟩ := ifn_some hz
    refine z_sld hC hX hbl dL_law_29 hi1 ?_
    refine z_bipush (v := 31) hC dL_law_30 (by decide) ?_
    refine z_iand hC dL_law_32 ?_
    by_cases hs4 : ((xs x3.toNatClampNeg) &&& 31) = 0
    · rw [if_pos hs4] at hz
      · refine z_tabIn (off := 83) (tgt := 116) hC dL_law_33 (by rw [hs4]; decide) (by rw [hs4]; decide) (by rw [hs4]; rfl) (by decide) ?_
        refine z_aload_n hC dL_law_116 rfl (lv_at hl 1 rfl) ?_
        refine z_aload_n hC dL_law_117 rfl (lv_at hl 0 rfl) ?_
        refine z_iload_n hC dL_law_118 rfl (lv_at hl 3 rfl) ?_
        refine z_iconst (v := 1) hC dL_law_119 (by decide) ?_
        refine z_iadd hC dL_law_120 ?_
        obtain ⟨hi2, hz⟩ := ifn_some hz
        refine z_sld hC hX hbl dL_law_121 hi2 ?_
        refine z_aload_n hC dL_law_122 rfl (lv_at hl 0 rfl) ?_
        refine z_iload_n hC dL_law_123 rfl (lv_at hl 3 rfl) ?_
        refine z_iconst (v := 2) hC dL_law_124 (by decide) ?_
        refine z_iadd hC dL_law_125 ?_
        obtain ⟨hi3, hz⟩ := ifn_some hz
        refine z_sld hC hX hbl dL_law_126 hi3 ?_
        refine z_if_eq (tgt := 134) hC dL_law_127 (by decide) hz (fun hz => ?_) (fun hz => ?_)
        · skip
          refine z_iconst (v := 0) hC dL_law_134 (by decide) ?_
          exact b_L_law_135 hC hX hbl n (cells) (slots) k18 hk18 (x1) (x2) (x3) (x1) (xs (x3 + 1).toNatClampNeg) (0) (S) (I) (by omega) (by omega) hT h_x1 h_x2 h_x1 hz ls (lv_sub hl [0, 1, 2, 3] rfl)
        · skip
          refine z_iconst (v := 1) hC dL_law_130 (by decide) ?_
          refine z_goto (tgt := 135) hC dL_law_131 (by decide) ?_
          exact b_L_law_135 hC hX hbl n (cells) (slots) k18 hk18 (x1) (x2) (x3) (x1) (xs (x3 + 1).toNatClampNeg) (1) (S) (I) (by omega) (by omega) hT h_x1 h_x2 h_x1 hz ls (lv_sub hl [0, 1, 2, 3] rfl)
    rw [if_neg hs4] at hz
    by_cases hs11 : ((xs x3.toNatClampNeg) &&& 31) = 1
    · rw [if_pos hs11] at hz
      · refine z_tabIn (off := 132) (tgt := 165) hC dL_law_33 (by rw [hs11]; decide) (by rw [hs11]; decide) (by rw [hs11]; rfl) (by decide) ?_
        refine z_aload_n hC dL_law_165 rfl (lv_at hl 1 rfl) ?_
        refine z_aload_n hC dL_law_166 rfl (lv_at hl 0 rfl) ?_
        refine z_iload_n hC dL_law_167 rfl (lv_at hl 3 rfl) ?_
        refine z_iconst (v := 1) hC dL_law_168 (by decide) ?_
        refine z_iadd hC dL_law_169 ?_
        obtain ⟨hi5, hz⟩ := ifn_some hz
        refine z_sld hC hX hbl dL_law_170 hi5 ?_
        refine z_aload_n hC dL_law_171 rfl (lv_at hl 0 rfl) ?_
        refine z_iload_n hC dL_law_172 rfl (lv_at hl 3 rfl) ?_
        refine z_iconst (v := 2) hC dL_law_173 (by decide) ?_
        refine z_iadd hC dL_law_174 ?_
        obtain ⟨hi6, hz⟩ := ifn_some hz
        refine z_sld hC hX hbl dL_law_175 hi6 ?_
        obtain ⟨q7, hq_q7, hz⟩ := ob_some hz
        refine z_callV (As := [.int (xs (x3 + 1).toNatClampNeg), .int (xs (x3 + 2).toNatClampNeg)]) hC hT (c_X8_joined F x1 (xs (x3 + 1).toNatClampNeg) (xs (x3 + 2).toNatClampNeg) h_x1 hq_q7) zy_X8_joined zc_8 zv_X8_joined kw_209 dL_law_176 h_x1 rfl rfl hl.1 (Nat.le_of_ble_eq_true rfl) (by decide) (show cells + 0 ≤ 600000 ∧ slots + 0 ≤ 7302250 from ⟨by omega, by omega⟩) ?_
        refine z_aload_n hC dL_law_179 rfl (lv_at hl 2 rfl) ?_
        refine z_aload_n hC dL_law_180 rfl (lv_at hl 0 rfl) ?_
        refine z_iload_n hC dL_law_181 rfl (lv_at hl 3 rfl) ?_
        refine z_iconst (v := 1) hC dL_law_182 (by decide) ?_
        refine z_iadd hC dL_law_183 ?_
        obtain ⟨hi8, hz⟩ := ifn_some hz
        refine z_sld hC hX hbl dL_law_184 hi8 ?_
        refine z_aload_n hC dL_law_185 rfl (lv_at hl 0 rfl) ?_
        refine z_iload_n hC dL_law_186 rfl (lv_at hl 3 rfl) ?_
        refine z_iconst (v := 2) hC dL_law_187 (by decide) ?_
        refine z_iadd hC dL_law_188 ?_
        obtain ⟨hi9, hz⟩ := ifn_some hz
        refine z_sld hC hX hbl dL_law_189 hi9 ?_
        obtain ⟨q10, hq_q10, hz⟩ := ob_some hz
        refine z_callV (As := [.int (xs (x3 + 1).toNatClampNeg), .int (xs (x3 + 2).toNatClampNeg)]) hC hT (c_X9_joined F x2 (xs (x3 + 1).toNatClampNeg) (xs (x3 + 2).toNatClampNeg) h_x2 hq_q10) zy_X9_joined zc_9 zv_X9_joined kw_836 dL_law_190 h_x2 rfl rfl hl.1 (Nat.le_of_ble_eq_true rfl) (by decide) (show cells + 0 ≤ 600000 ∧ slots + 0 ≤ 7302250 from ⟨by omega, by omega⟩) ?_
        refine z_icmp_eq (tgt := 733) hC dL_law_193 (by decide) hz (fun hz => ?_) (fun hz => ?_)
        · skip
          refine z_iinc (k0 := 3) (v := x3 + 6) (lv' := [(3, .int (x3 + 6)), (0, .ref b), (1, .ref (x1)), (2, .ref (x2))]) hC dL_law_733 hl rfl rfl (by decide) rfl (fun ls hl => ?_)
          refine z_goto (tgt := 18) hC dL_law_736 (by decide) ?_
          exact hk18 (cells) (slots) (x1) (x2) (x3 + 6) (S) (I) (by omega) (by omega) hT h_x1 h_x2 hz ls (lv_sub hl [1, 2, 3, 0] rfl)
        · skip
          refine z_iconst (v := 0) hC dL_law_196 (by decide) ?_
          cases hz
    rw [if_neg hs11] at hz
    by_cases hs18 : ((xs x3.toNatClampNeg) &&& 31) = 2
    · rw [if_pos hs18] at hz
      · refine z_tabIn (off := 165) (tgt := 198) hC dL_law_33 (by rw [hs18]; decide) (by rw [hs18]; decide) (by rw [hs18]; rfl) (by decide) ?_
        refine z_aload_n hC dL_law_198 rfl (lv_at hl 1 rfl) ?_
        refine z_aload_n hC dL_law_199 rfl (lv_at hl 0 rfl) ?_
        refine z_iload_n hC dL_law_200 rfl (lv_at hl 3 rfl) ?_
        refine z_iconst (v := 1) hC dL_law_201 (by decide) ?_
        refine z_iadd hC dL_law_202 ?_
        obtain ⟨hi12, hz⟩ := ifn_some hz
        refine z_sld hC hX hbl dL_law_203 hi12 ?_
        refine z_aload_n hC dL_law_204 rfl (lv_at hl 0 rfl) ?_
        refine z_iload_n hC dL_law_205 rfl (lv_at hl 3 rfl) ?_
        refine z_iconst (v := 2) hC dL_law_206 (by decide) ?_
        refine z_iadd hC dL_law_207 ?_
        obtain ⟨hi13, hz⟩ := ifn_some hz
        refine z_sld hC hX hbl dL_law_208 hi13 ?_
        obtain ⟨q14, hq_q14, hz⟩ := ob_some hz
        refine z_callV (As := [.int (xs (x3 + 1).toNatClampNeg), .int (xs (x3 + 2).toNatClampNeg)]) hC hT (c_X8_is F x1 (xs (x3 + 1).toNatClampNeg) (xs (x3 + 2).toNatClampNeg) h_x1 hq_q14) zy_X8_is zc_8 zv_X8_is kw_217 dL_law_209 h_x1 rfl rfl hl.1 (Nat.le_of_ble_eq_true rfl) (by decide) (show cells + 0 ≤ 600000 ∧ slots + 0 ≤ 7302250 from ⟨by omega, by omega⟩) ?_
        refine z_aload_n hC dL_law_212 rfl (lv_at hl 2 rfl) ?_
        refine z_aload_n hC dL_law_213 rfl (lv_at hl 0 rfl) ?_
        refine z_iload_n hC dL_law_214 rfl (lv_at hl 3 rfl) ?_
        refine z_iconst (v := 1) hC dL_law_215 (by decide) ?_
        refine z_iadd hC dL_law_216 ?_
        obtain ⟨hi15, hz⟩ := ifn_some hz
        refine z_sld hC hX hbl dL_law_217 hi15 ?_
        refine z_aload_n hC dL_law_218 rfl (lv_at hl 0 rfl) ?_
        refine z_iload_n hC dL_law_219 rfl (lv_at hl 3 rfl) ?_
        refine z_iconst (v := 2) hC dL_law_220 (by decide) ?_
        refine z_iadd hC dL_law_221 ?_
        obtain ⟨hi16, hz⟩ := ifn_some hz
        refine z_sld hC hX hbl dL_law_222 hi16 ?_
        obtain ⟨q17, hq_q17, hz⟩ := ob_some hz
        refine z_callV (As := [.int (xs (x3 + 1).toNatClampNeg), .int (xs (x3 + 2).toNatClampNeg)]) hC hT (c_X9_is F x2 (xs (x3 + 1).toNatClampNeg) (xs (x3 + 2).toNatClampNeg) h_x2 hq_q17) zy_X9_is zc_9 zv_X9_is kw_848 dL_law_223 h_x2 rfl rfl hl.1 (Nat.le_of_ble_eq_true rfl) (by decide) (show cells + 0 ≤ 600000 ∧ slots + 0 ≤ 7302250 from ⟨by omega, by omega⟩) ?_
        refine z_icmp_eq (tgt := 733) hC dL_law_226 (by decide) hz (fun hz => ?_) (fun hz => ?_)
        · skip
          refine z_iinc (k0 := 3) (v := x3 + 6) (lv' := [(3, .int (x3 + 6)), (0, .ref b), (1, .ref (x1)), (2, .ref (x2))]) hC dL_law_733 hl rfl rfl (by decide) rfl (fun ls hl => ?_)
          refine z_goto (tgt := 18) hC dL_law_736 (by decide) ?_
          exact hk18 (cells) (slots) (x1) (x2) (x3 + 6) (S) (I) (by omega) (by omega) hT h_x1 h_x2 hz ls (lv_sub hl [1, 2, 3, 0] rfl)
        · skip
          refine z_iconst (v := 0) hC dL_law_229 (by decide) ?_
          cases hz
    rw [if_neg hs18] at hz
    by_cases hs25 : ((xs x3.toNatClampNeg) &&& 31) = 3
    · rw [if_pos hs25] at hz
      · refine z_tabIn (off := 198) (tgt := 231) hC dL_law_33 (by rw [hs25]; decide) (by rw [hs25]; decide) (by rw [hs25]; rfl) (by decide) ?_
        refine z_aload_n hC dL_law_231 rfl (lv_at hl 1 rfl) ?_
        refine z_aload_n hC dL_law_232 rfl (lv_at hl 0 rfl) ?_
        refine z_iload_n hC dL_law_233 rfl (lv_at hl 3 rfl) ?_
        refine z_iconst (v := 1) hC dL_law_234 (by decide) ?_
        refine z_iadd hC dL_law_235 ?_
        obtain ⟨hi19, hz⟩ := ifn_some hz
        refine z_sld hC hX hbl dL_law_236 hi19 ?_
        refine z_aload_n hC dL_law_237 rfl (lv_at hl 0 rfl) ?_
        refine z_iload_n hC dL_law_238 rfl (lv_at hl 3 rfl) ?_
        refine z_iconst (v := 2) hC dL_law_239 (by decide) ?_
        refine z_iadd hC dL_law_240 ?_
        obtain ⟨hi20, hz⟩ := ifn_some hz
        refine z_sld hC hX hbl dL_law_241 hi20 ?_
        obtain ⟨q21, hq_q21, hz⟩ := ob_some hz
        refine z_callV (As := [.int (xs (x3 + 1).toNatClampNeg), .int (xs (x3 + 2).toNatClampNeg)]) hC hT (c_X8_clear F x1 (xs (x3 + 1).toNatClampNeg) (xs (x3 + 2).toNatClampNeg) h_x1 hq_q21) zy_X8_clear zc_8 zv_X8_clear kw_225 dL_law_242 h_x1 rfl rfl hl.1 (Nat.le_of_ble_eq_true rfl) (by decide) (show cells + 0 ≤ 600000 ∧ slots + 0 ≤ 7302250 from ⟨by omega, by omega⟩) ?_
        refine z_aload_n hC dL_law_245 rfl (lv_at hl 2 rfl) ?_
        refine z_aload_n hC dL_law_246 rfl (lv_at hl 0 rfl) ?_
        refine z_iload_n hC dL_law_247 rfl (lv_at hl 3 rfl) ?_
        refine z_iconst (v := 1) hC dL_law_248 (by decide) ?_
        refine z_iadd hC dL_law_249 ?_
        obtain ⟨hi22, hz⟩ := ifn_some hz
        refine z_sld hC hX hbl dL_law_250 hi22 ?_
        refine z_aload_n hC dL_law_251 rfl (lv_at hl 0 rfl) ?_
        refine z_iload_n hC dL_law_252 rfl (lv_at hl 3 rfl) ?_
        refine z_iconst (v := 2) hC dL_law_253 (by decide) ?_
        refine z_iadd hC dL_law_254 ?_
        obtain ⟨hi23, hz⟩ := ifn_some hz
        refine z_sld hC hX hbl dL_law_255 hi23 ?_
        obtain ⟨q24, hq_q24, hz⟩ := ob_some hz
        refine z_callV (As := [.int (xs (x3 + 1).toNatClampNeg), .int (xs (x3 + 2).toNatClampNeg)]) hC hT (c_X9_clear F x2 (xs (x3 + 1).toNatClampNeg) (xs (x3 + 2).toNatClampNeg) h_x2 hq_q24) zy_X9_clear zc_9 zv_X9_clear kw_856 dL_law_256 h_x2 rfl rfl hl.1 (Nat.le_of_ble_eq_true rfl) (by decide) (show cells + 0 ≤ 600000 ∧ slots + 0 ≤ 7302250 from ⟨by omega, by omega⟩) ?_
        refine z_icmp_eq (tgt := 733) hC dL_law_259 (by decide) hz (fun hz => ?_) (fun hz => ?_)
        · skip
          refine z_iinc (k0 := 3) (v := x3 + 6) (lv' := [(3, .int (x3 + 6)), (0, .ref b), (1, .ref (x1)), (2, .ref (x2))]) hC dL_law_733 hl rfl rfl (by decide) rfl (fun ls hl => ?_)
          refine z_goto (tgt := 18) hC dL_law_736 (by decide) ?_
          exact hk18 (cells) (slots) (x1) (x2) (x3 + 6) (S) (q24.2) (by omega) (by omega) hT h_x1 h_x2 hz ls (lv_sub hl [1, 2, 3, 0] rfl)
        · skip
          refine z_iconst (v := 0) hC dL_law_262 (by decide) ?_
          cases hz
    rw [if_neg hs25] at hz
    by_cases hs32 : ((xs x3.toNatClampNeg) &&& 31) = 4
    · rw [if_pos hs32] at hz
      · refine z_tabIn (off := 231) (tgt := 264) hC dL_law_33 (by rw [hs32]; decide) (by rw [hs32]; decide) (by rw [hs32]; rfl) (by decide) ?_
        refine z_aload_n hC dL_law_264 rfl (lv_at hl 1 rfl) ?_
        refine z_aload_n hC dL_law_265 rfl (lv_at hl 0 rfl) ?_
        refine z_iload_n hC dL_law_266 rfl (lv_at hl 3 rfl) ?_
        refine z_iconst (v := 1) hC dL_law_267 (by decide) ?_
        refine z_iadd hC dL_law_268 ?_
        obtain ⟨hi26, hz⟩ := ifn_some hz
        refine z_sld hC hX hbl dL_law_269 hi26 ?_
        refine z_aload_n hC dL_law_270 rfl (lv_at hl 0 rfl) ?_
        refine z_iload_n hC dL_law_271 rfl (lv_at hl 3 rfl) ?_
        refine z_iconst (v := 2) hC dL_law_272 (by decide) ?_
        refine z_iadd hC dL_law_273 ?_
        obtain ⟨hi27, hz⟩ := ifn_some hz
        refine z_sld hC hX hbl dL_law_274 hi27 ?_
        obtain ⟨q28, hq_q28, hz⟩ := ob_some hz
        refine z_callV (As := [.int (xs (x3 + 1).toNatClampNeg), .int (xs (x3 + 2).toNatClampNeg)]) hC hT (c_X8_argument F x1 (xs (x3 + 1).toNatClampNeg) (xs (x3 + 2).toNatClampNeg) h_x1 hq_q28) zy_X8_argument zc_8 zv_X8_argument kw_241 dL_law_275 h_x1 rfl rfl hl.1 (Nat.le_of_ble_eq_true rfl) (by decide) (show cells + 0 ≤ 600000 ∧ slots + 0 ≤ 7302250 from ⟨by omega, by omega⟩) ?_
        refine z_aload_n hC dL_law_278 rfl (lv_at hl 2 rfl) ?_
        refine z_aload_n hC dL_law_279 rfl (lv_at hl 0 rfl) ?_
        refine z_iload_n hC dL_law_280 rfl (lv_at hl 3 rfl) ?_
        refine z_iconst (v := 1) hC dL_law_281 (by decide) ?_
        refine z_iadd hC dL_law_282 ?_
        obtain ⟨hi29, hz⟩ := ifn_some hz
        refine z_sld hC hX hbl dL_law_283 hi29 ?_
        refine z_aload_n hC dL_law_284 rfl (lv_at hl 0 rfl) ?_
        refine z_iload_n hC dL_law_285 rfl (lv_at hl 3 rfl) ?_
        refine z_iconst (v := 2) hC dL_law_286 (by decide) ?_
        refine z_iadd hC dL_law_287 ?_
        obtain ⟨hi30, hz⟩ := ifn_some hz
        refine z_sld hC hX hbl dL_law_288 hi30 ?_
        obtain ⟨q31, hq_q31, hz⟩ := ob_some hz
        refine z_callV (As := [.int (xs (x3 + 1).toNatClampNeg), .int (xs (x3 + 2).toNatClampNeg)]) hC hT (c_X9_argument F x2 (xs (x3 + 1).toNatClampNeg) (xs (x3 + 2).toNatClampNeg) h_x2 hq_q31) zy_X9_argument zc_9 zv_X9_argument kw_863 dL_law_289 h_x2 rfl rfl hl.1 (Nat.le_of_ble_eq_true rfl) (by decide) (show cells + 0 ≤ 600000 ∧ slots + 0 ≤ 7302250 from ⟨by omega, by omega⟩) ?_
        refine z_icmp_eq (tgt := 733) hC dL_law_292 (by decide) hz (fun hz => ?_) (fun hz => ?_)
        · skip
          refine z_iinc (k0 := 3) (v := x3 + 6) (lv' := [(3, .int (x3 + 6)), (0, .ref b), (1, .ref (x1)), (2, .ref (x2))]) hC dL_law_733 hl rfl rfl (by decide) rfl (fun ls hl => ?_)
          refine z_goto (tgt := 18) hC dL_law_736 (by decide) ?_
          exact hk18 (cells) (slots) (x1) (x2) (x3 + 6) (S) (q31.2) (by omega) (by omega) hT h_x1 h_x2 hz ls (lv_sub hl [1, 2, 3, 0] rfl)
        · skip
          refine z_iconst (v := 0) hC dL_law_295 (by decide) ?_
          cases hz
    rw [if_neg hs32] at hz
    by_cases hs43 : ((xs x3.toNatClampNeg) &&& 31) = 5
    · rw [if_pos hs43] at hz
      · refine z_tabIn (off := 264) (tgt := 297) hC dL_law_33 (by rw [hs43]; decide) (by rw [hs43]; decide) (by rw [hs43]; rfl) (by decide) ?_
        refine z_aload_n hC dL_law_297 rfl (lv_at hl 1 rfl) ?_
        refine z_aload_n hC dL_law_298 rfl (lv_at hl 0 rfl) ?_
        refine z_iload_n hC dL_law_299 rfl (lv_at hl 3 rfl) ?_
        refine z_iconst (v := 1) hC dL_law_300 (by decide) ?_
        refine z_iadd hC dL_law_301 ?_
        obtain ⟨hi33, hz⟩ := ifn_some hz
        refine z_sld hC hX hbl dL_law_302 hi33 ?_
        refine z_aload_n hC dL_law_303 rfl (lv_at hl 0 rfl) ?_
        refine z_iload_n hC dL_law_304 rfl (lv_at hl 3 rfl) ?_
        refine z_iconst (v := 2) hC dL_law_305 (by decide) ?_
        refine z_iadd hC dL_law_306 ?_
        obtain ⟨hi34, hz⟩ := ifn_some hz
        refine z_sld hC hX hbl dL_law_307 hi34 ?_
        refine z_aload_n hC dL_law_308 rfl (lv_at hl 0 rfl) ?_
        refine z_iload_n hC dL_law_309 rfl (lv_at hl 3 rfl) ?_
        refine z_iconst (v := 3) hC dL_law_310 (by decide) ?_
        refine z_iadd hC dL_law_311 ?_
        obtain ⟨hi35, hz⟩ := ifn_some hz
        refine z_sld hC hX hbl dL_law_312 hi35 ?_
        refine z_aload_n hC dL_law_313 rfl (lv_at hl 0 rfl) ?_
        refine z_iload_n hC dL_law_314 rfl (lv_at hl 3 rfl) ?_
        refine z_iconst (v := 4) hC dL_law_315 (by decide) ?_
        refine z_iadd hC dL_law_316 ?_
        obtain ⟨hi36, hz⟩ := ifn_some hz
        refine z_sld hC hX hbl dL_law_317 hi36 ?_
        obtain ⟨q37, hq_q37, hz⟩ := ob_some hz
        refine z_callV (As := [.int (xs (x3 + 1).toNatClampNeg), .int (xs (x3 + 2).toNatClampNeg), .int (xs (x3 + 3).toNatClampNeg), .int (xs (x3 + 4).toNatClampNeg)]) hC hT (c_X8_act F x1 (xs (x3 + 1).toNatClampNeg) (xs (x3 + 2).toNatClampNeg) (xs (x3 + 3).toNatClampNeg) (xs (x3 + 4).toNatClampNeg) h_x1 hq_q37) zy_X8_act zc_8 zv_X8_act kw_269 dL_law_318 h_x1 rfl rfl hl.1 (Nat.le_of_ble_eq_true rfl) (by decide) (show cells + 7 ≤ 600000 ∧ slots + 50 ≤ 7302250 from ⟨by omega, by omega⟩) ?_
        have hx_q37 := xt_X8_act hT h_x1 hq_q37
        have hT : z_T s.heap.size q37.2.1 := hx_q37.1
        have hE : z_Ext S q37.2.1 := hE.trans hx_q37.2
        have h_x1 : z_is s.heap.size q37.2.1 (x1) 8 := hx_q37.2.is h_x1
        have h_x2 : z_is s.heap.size q37.2.1 (x2) 9 := hx_q37.2.is h_x2
        refine z_aload_n hC dL_law_321 rfl (lv_at hl 2 rfl) ?_
        refine z_aload_n hC dL_law_322 rfl (lv_at hl 0 rfl) ?_
        refine z_iload_n hC dL_law_323 rfl (lv_at hl 3 rfl) ?_
        refine z_iconst (v := 1) hC dL_law_324 (by decide) ?_
        refine z_iadd hC dL_law_325 ?_
        obtain ⟨hi38, hz⟩ := ifn_some hz
        refine z_sld hC hX hbl dL_law_326 hi38 ?_
        refine z_aload_n hC dL_law_327 rfl (lv_at hl 0 rfl) ?_
        refine z_iload_n hC dL_law_328 rfl (lv_at hl 3 rfl) ?_
        refine z_iconst (v := 2) hC dL_law_329 (by decide) ?_
        refine z_iadd hC dL_law_330 ?_
        obtain ⟨hi39, hz⟩ := ifn_some hz
        refine z_sld hC hX hbl dL_law_331 hi39 ?_
        refine z_aload_n hC dL_law_332 rfl (lv_at hl 0 rfl) ?_
        refine z_iload_n hC dL_law_333 rfl (lv_at hl 3 rfl) ?_
        refine z_iconst (v := 3) hC dL_law_334 (by decide) ?_
        refine z_iadd hC dL_law_335 ?_
        obtain ⟨hi40, hz⟩ := ifn_some hz
        refine z_sld hC hX hbl dL_law_336 hi40 ?_
        refine z_aload_n hC dL_law_337 rfl (lv_at hl 0 rfl) ?_
        refine z_iload_n hC dL_law_338 rfl (lv_at hl 3 rfl) ?_
        refine z_iconst (v := 4) hC dL_law_339 (by decide) ?_
        refine z_iadd hC dL_law_340 ?_
        obtain ⟨hi41, hz⟩ := ifn_some hz
        refine z_sld hC hX hbl dL_law_341 hi41 ?_
        obtain ⟨q42, hq_q42, hz⟩ := ob_some hz
        refine z_callV (As := [.int (xs (x3 + 1).toNatClampNeg), .int (xs (x3 + 2).toNatClampNeg), .int (xs (x3 + 3).toNatClampNeg), .int (xs (x3 + 4).toNatClampNeg)]) hC hT (c_X9_act F x2 (xs (x3 + 1).toNatClampNeg) (xs (x3 + 2).toNatClampNeg) (xs (x3 + 3).toNatClampNeg) (xs (x3 + 4).toNatClampNeg) h_x2 hq_q42) zy_X9_act zc_9 zv_X9_act kw_870 dL_law_342 h_x2 rfl rfl hl.1 (Nat.le_of_ble_eq_true rfl) (by decide) (show cells + 7 + 0 ≤ 600000 ∧ slots + 50 + 0 ≤ 7302250 from ⟨by omega, by omega⟩) ?_
        refine z_icmp_eq (tgt := 733) hC dL_law_345 (by decide) hz (fun hz => ?_) (fun hz => ?_)
        · skip
          refine z_iinc (k0 := 3) (v := x3 + 6) (lv' := [(3, .int (x3 + 6)), (0, .ref b), (1, .ref (x1)), (2, .ref (x2))]) hC dL_law_733 hl rfl rfl (by decide) rfl (fun ls hl => ?_)
          refine z_goto (tgt := 18) hC dL_law_736 (by decide) ?_
          exact hk18 (cells + 7) (slots + 50) (x1) (x2) (x3 + 6) (q37.2.1) (q42.2) (by omega) (by omega) hT h_x1 h_x2 hz ls (lv_sub hl [1, 2, 3, 0] rfl)
        · skip
          refine z_iconst (v := 0) hC dL_law_348 (by decide) ?_
          cases hz
    rw [if_neg hs43] at hz
    by_cases hs56 : ((xs x3.toNatClampNeg) &&& 31) = 6
    · rw [if_pos hs56] at hz
      · refine z_tabIn (off := 317) (tgt := 350) hC dL_law_33 (by rw [hs56]; decide) (by rw [hs56]; decide) (by rw [hs56]; rfl) (by decide) ?_
        refine z_aload_n hC dL_law_350 rfl (lv_at hl 1 rfl) ?_
        refine z_aload_n hC dL_law_351 rfl (lv_at hl 0 rfl) ?_
        refine z_iload_n hC dL_law_352 rfl (lv_at hl 3 rfl) ?_
        refine z_iconst (v := 1) hC dL_law_353 (by decide) ?_
        refine z_iadd hC dL_law_354 ?_
        obtain ⟨hi44, hz⟩ := ifn_some hz
        refine z_sld hC hX hbl dL_law_355 hi44 ?_
        refine z_aload_n hC dL_law_356 rfl (lv_at hl 0 rfl) ?_
        refine z_iload_n hC dL_law_357 rfl (lv_at hl 3 rfl) ?_
        refine z_iconst (v := 2) hC dL_law_358 (by decide) ?_
        refine z_iadd hC dL_law_359 ?_
        obtain ⟨hi45, hz⟩ := ifn_some hz
        refine z_sld hC hX hbl dL_law_360 hi45 ?_
        refine z_aload_n hC dL_law_361 rfl (lv_at hl 0 rfl) ?_
        refine z_iload_n hC dL_law_362 rfl (lv_at hl 3 rfl) ?_
        refine z_iconst (v := 3) hC dL_law_363 (by decide) ?_
        refine z_iadd hC dL_law_364 ?_
        obtain ⟨hi46, hz⟩ := ifn_some hz
        refine z_sld hC hX hbl dL_law_365 hi46 ?_
        refine z_aload_n hC dL_law_366 rfl (lv_at hl 0 rfl) ?_
        refine z_iload_n hC dL_law_367 rfl (lv_at hl 3 rfl) ?_
        refine z_iconst (v := 4) hC dL_law_368 (by decide) ?_
        refine z_iadd hC dL_law_369 ?_
        obtain ⟨hi47, hz⟩ := ifn_some hz
        refine z_sld hC hX hbl dL_law_370 hi47 ?_
        refine z_aload_n hC dL_law_371 rfl (lv_at hl 0 rfl) ?_
        refine z_iload_n hC dL_law_372 rfl (lv_at hl 3 rfl) ?_
        refine z_iconst (v := 5) hC dL_law_373 (by decide) ?_
        refine z_iadd hC dL_law_374 ?_
        obtain ⟨hi48, hz⟩ := ifn_some hz
        refine z_sld hC hX hbl dL_law_375 hi48 ?_
        obtain ⟨q49, hq_q49, hz⟩ := ob_some hz
        refine z_callV (As := [.int (xs (x3 + 1).toNatClampNeg), .int (xs (x3 + 2).toNatClampNeg), .int (xs (x3 + 3).toNatClampNeg), .int (xs (x3 + 4).toNatClampNeg), .int (xs (x3 + 5).toNatClampNeg)]) hC hT (c_X8_guard F x1 (xs (x3 + 1).toNatClampNeg) (xs (x3 + 2).toNatClampNeg) (xs (x3 + 3).toNatClampNeg) (xs (x3 + 4).toNatClampNeg) (xs (x3 + 5).toNatClampNeg) h_x1 hq_q49) zy_X8_guard zc_8 zv_X8_guard kw_340 dL_law_376 h_x1 rfl rfl hl.1 (Nat.le_of_ble_eq_true rfl) (by decide) (show cells + 1 ≤ 600000 ∧ slots + 4 ≤ 7302250 from ⟨by omega, by omega⟩) ?_
        have hx_q49 := xt_X8_guard hT h_x1 hq_q49
        have hT : z_T s.heap.size q49.2.1 := hx_q49.1
        have hE : z_Ext S q49.2.1 := hE.trans hx_q49.2
        have h_x1 : z_is s.heap.size q49.2.1 (x1) 8 := hx_q49.2.is h_x1
        have h_x2 : z_is s.heap.size q49.2.1 (x2) 9 := hx_q49.2.is h_x2
        refine z_aload_n hC dL_law_379 rfl (lv_at hl 2 rfl) ?_
        refine z_aload_n hC dL_law_380 rfl (lv_at hl 0 rfl) ?_
        refine z_iload_n hC dL_law_381 rfl (lv_at hl 3 rfl) ?_
        refine z_iconst (v := 1) hC dL_law_382 (by decide) ?_
        refine z_iadd hC dL_law_383 ?_
        obtain ⟨hi50, hz⟩ := ifn_some hz
        refine z_sld hC hX hbl dL_law_384 hi50 ?_
        refine z_aload_n hC dL_law_385 rfl (lv_at hl 0 rfl) ?_
        refine z_iload_n hC dL_law_386 rfl (lv_at hl 3 rfl) ?_
        refine z_iconst (v := 2) hC dL_law_387 (by decide) ?_
        refine z_iadd hC dL_law_388 ?_
        obtain ⟨hi51, hz⟩ := ifn_some hz
        refine z_sld hC hX hbl dL_law_389 hi51 ?_
        refine z_aload_n hC dL_law_390 rfl (lv_at hl 0 rfl) ?_
        refine z_iload_n hC dL_law_391 rfl (lv_at hl 3 rfl) ?_
        refine z_iconst (v := 3) hC dL_law_392 (by decide) ?_
        refine z_iadd hC dL_law_393 ?_
        obtain ⟨hi52, hz⟩ := ifn_some hz
        refine z_sld hC hX hbl dL_law_394 hi52 ?_
        refine z_aload_n hC dL_law_395 rfl (lv_at hl 0 rfl) ?_
        refine z_iload_n hC dL_law_396 rfl (lv_at hl 3 rfl) ?_
        refine z_iconst (v := 4) hC dL_law_397 (by decide) ?_
        refine z_iadd hC dL_law_398 ?_
        obtain ⟨hi53, hz⟩ := ifn_some hz
        refine z_sld hC hX hbl dL_law_399 hi53 ?_
        refine z_aload_n hC dL_law_400 rfl (lv_at hl 0 rfl) ?_
        refine z_iload_n hC dL_law_401 rfl (lv_at hl 3 rfl) ?_
        refine z_iconst (v := 5) hC dL_law_402 (by decide) ?_
        refine z_iadd hC dL_law_403 ?_
        obtain ⟨hi54, hz⟩ := ifn_some hz
        refine z_sld hC hX hbl dL_law_404 hi54 ?_
        obtain ⟨q55, hq_q55, hz⟩ := ob_some hz
        refine z_callV (As := [.int (xs (x3 + 1).toNatClampNeg), .int (xs (x3 + 2).toNatClampNeg), .int (xs (x3 + 3).toNatClampNeg), .int (xs (x3 + 4).toNatClampNeg), .int (xs (x3 + 5).toNatClampNeg)]) hC hT (c_X9_guard F x2 (xs (x3 + 1).toNatClampNeg) (xs (x3 + 2).toNatClampNeg) (xs (x3 + 3).toNatClampNeg) (xs (x3 + 4).toNatClampNeg) (xs (x3 + 5).toNatClampNeg) h_x2 hq_q55) zy_X9_guard zc_9 zv_X9_guard kw_874 dL_law_405 h_x2 rfl rfl hl.1 (Nat.le_of_ble_eq_true rfl) (by decide) (show cells + 1 + 0 ≤ 600000 ∧ slots + 4 + 0 ≤ 7302250 from ⟨by omega, by omega⟩) ?_
        refine z_icmp_eq (tgt := 733) hC dL_law_408 (by decide) hz (fun hz => ?_) (fun hz => ?_)
        · skip
          refine z_iinc (k0 := 3) (v := x3 + 6) (lv' := [(3, .int (x3 + 6)), (0, .ref b), (1, .ref (x1)), (2, .ref (x2))]) hC dL_law_733 hl rfl rfl (by decide) rfl (fun ls hl => ?_)
          refine z_goto (tgt := 18) hC dL_law_736 (by decide) ?_
          exact hk18 (cells + 1) (slots + 4) (x1) (x2) (x3 + 6) (q49.2.1) (q55.2) (by omega) (by omega) hT h_x1 h_x2 hz ls (lv_sub hl [1, 2, 3, 0] rfl)
        · skip
          refine z_iconst (v := 0) hC dL_law_411 (by decide) ?_
          cases hz
    rw [if_neg hs56] at hz
    by_cases hs61 : ((xs x3.toNatClampNeg) &&& 31) = 7
    · rw [if_pos hs61] at hz
      · refine z_tabIn (off := 380) (tgt := 413) hC dL_law_33 (by rw [hs61]; decide) (by rw [hs61]; decide) (by rw [hs61]; rfl) (by decide) ?_
        refine z_aload_n hC dL_law_413 rfl (lv_at hl 1 rfl) ?_
        refine z_aload_n hC dL_law_414 rfl (lv_at hl 0 rfl) ?_
        refine z_iload_n hC dL_law_415 rfl (lv_at hl 3 rfl) ?_
        refine z_iconst (v := 1) hC dL_law_416 (by decide) ?_
        refine z_iadd hC dL_law_417 ?_
        obtain ⟨hi57, hz⟩ := ifn_some hz
        refine z_sld hC hX hbl dL_law_418 hi57 ?_
        obtain ⟨q58, hq_q58, hz⟩ := ob_some hz
        refine z_callV (As := [.int (xs (x3 + 1).toNatClampNeg)]) hC hT (c_X8_compute F x1 (xs (x3 + 1).toNatClampNeg) h_x1 hq_q58) zy_X8_compute zc_8 zv_X8_compute kw_372 dL_law_419 h_x1 rfl rfl hl.1 (Nat.le_of_ble_eq_true rfl) (by decide) (show cells + 0 ≤ 600000 ∧ slots + 0 ≤ 7302250 from ⟨by omega, by omega⟩) ?_
        refine z_aload_n hC dL_law_422 rfl (lv_at hl 2 rfl) ?_
        refine z_aload_n hC dL_law_423 rfl (lv_at hl 0 rfl) ?_
        refine z_iload_n hC dL_law_424 rfl (lv_at hl 3 rfl) ?_
        refine z_iconst (v := 1) hC dL_law_425 (by decide) ?_
        refine z_iadd hC dL_law_426 ?_
        obtain ⟨hi59, hz⟩ := ifn_some hz
        refine z_sld hC hX hbl dL_law_427 hi59 ?_
        obtain ⟨q60, hq_q60, hz⟩ := ob_some hz
        refine z_callV (As := [.int (xs (x3 + 1).toNatClampNeg)]) hC hT (c_X9_compute F x2 (xs (x3 + 1).toNatClampNeg) h_x2 hq_q60) zy_X9_compute zc_9 zv_X9_compute kw_878 dL_law_428 h_x2 rfl rfl hl.1 (Nat.le_of_ble_eq_true rfl) (by decide) (show cells + 0 ≤ 600000 ∧ slots + 0 ≤ 7302250 from ⟨by omega, by omega⟩) ?_
        refine z_icmp_eq (tgt := 733) hC dL_law_431 (by decide) hz (fun hz => ?_) (fun hz => ?_)
        · skip
          refine z_iinc (k0 := 3) (v := x3 + 6) (lv' := [(3, .int (x3 + 6)), (0, .ref b), (1, .ref (x1)), (2, .ref (x2))]) hC dL_law_733 hl rfl rfl (by decide) rfl (fun ls hl => ?_)
          refine z_goto (tgt := 18) hC dL_law_736 (by decide) ?_
          exact hk18 (cells) (slots) (x1) (x2) (x3 + 6) (S) (q60.2) (by omega) (by omega) hT h_x1 h_x2 hz ls (lv_sub hl [1, 2, 3, 0] rfl)
        · skip
          refine z_iconst (v := 0) hC dL_law_434 (by decide) ?_
          cases hz
    rw [if_neg hs61] at hz
    by_cases hs64 : ((xs x3.toNatClampNeg) &&& 31) = 8
    · rw [if_pos hs64] at hz
      · refine z_tabIn (off := 403) (tgt := 436) hC dL_law_33 (by rw [hs64]; decide) (by rw [hs64]; decide) (by rw [hs64]; rfl) (by decide) ?_
        refine z_aload_n hC dL_law_436 rfl (lv_at hl 1 rfl) ?_
        obtain ⟨q62, hq_q62, hz⟩ := ob_some hz
        refine z_callV (As := []) hC hT (c_X8_fault F x1 h_x1 hq_q62) zy_X8_fault zc_8 zv_X8_fault kw_589 dL_law_437 h_x1 rfl rfl hl.1 (Nat.le_of_ble_eq_true rfl) (by decide) (show cells + 0 ≤ 600000 ∧ slots + 0 ≤ 7302250 from ⟨by omega, by omega⟩) ?_
        refine z_aload_n hC dL_law_440 rfl (lv_at hl 2 rfl) ?_
        obtain ⟨q63, hq_q63, hz⟩ := ob_some hz
        refine z_callV (As := []) hC hT (c_X9_fault F x2 h_x2 hq_q63) zy_X9_fault zc_9 zv_X9_fault kw_977 dL_law_441 h_x2 rfl rfl hl.1 (Nat.le_of_ble_eq_true rfl) (by decide) (show cells + 0 ≤ 600000 ∧ slots + 0 ≤ 7302250 from ⟨by omega, by omega⟩) ?_
        refine z_icmp_eq (tgt := 733) hC dL_law_444 (by decide) hz (fun hz => ?_) (fun hz => ?_)
        · skip
          refine z_iinc (k0 := 3) (v := x3 + 6) (lv' := [(3, .int (x3 + 6)), (0, .ref b), (1, .ref (x1)), (2, .ref (x2))]) hC dL_law_733 hl rfl rfl (by decide) rfl (fun ls hl => ?_)
          refine z_goto (tgt := 18) hC dL_law_736 (by decide) ?_
          exact hk18 (cells) (slots) (x1) (x2) (x3 + 6) (S) (I) (by omega) (by omega) hT h_x1 h_x2 hz ls (lv_sub hl [1, 2, 3, 0] rfl)
        · skip
          refine z_iconst (v := 0) hC dL_law_447 (by decide) ?_
          cases hz
    rw [if_neg hs64] at hz
    by_cases hs73 : ((xs x3.toNatClampNeg) &&& 31) = 9
    · rw [if_pos hs73] at hz
      · refine z_tabIn (off := 416) (tgt := 449) hC dL_law_33 (by rw [hs73]; decide) (by rw [hs73]; decide) (by rw [hs73]; rfl) (by decide) ?_
        refine z_aload_n hC dL_law_449 rfl (lv_at hl 1 rfl) ?_
        refine z_aload_n hC dL_law_450 rfl (lv_at hl 0 rfl) ?_
        refine z_iload_n hC dL_law_451 rfl (lv_at hl 3 rfl) ?_
        refine z_iconst (v := 1) hC dL_law_452 (by decide) ?_
        refine z_iadd hC dL_law_453 ?_
        obtain ⟨hi65, hz⟩ := ifn_some hz
        refine z_sld hC hX hbl dL_law_454 hi65 ?_
        refine z_aload_n hC dL_law_455 rfl (lv_at hl 0 rfl) ?_
        refine z_iload_n hC dL_law_456 rfl (lv_at hl 3 rfl) ?_
        refine z_iconst (v := 2) hC dL_law_457 (by decide) ?_
        refine z_iadd hC dL_law_458 ?_
        obtain ⟨hi66, hz⟩ := ifn_some hz
        refine z_sld hC hX hbl dL_law_459 hi66 ?_
        refine z_aload_n hC dL_law_460 rfl (lv_at hl 0 rfl) ?_
        refine z_iload_n hC dL_law_461 rfl (lv_at hl 3 rfl) ?_
        refine z_iconst (v := 3) hC dL_law_462 (by decide) ?_
        refine z_iadd hC dL_law_463 ?_
        obtain ⟨hi67, hz⟩ := ifn_some hz
        refine z_sld hC hX hbl dL_law_464 hi67 ?_
        obtain ⟨q68, hq_q68, hz⟩ := ob_some hz
        refine z_callV (As := [.int (xs (x3 + 1).toNatClampNeg), .int (xs (x3 + 2).toNatClampNeg), .int (xs (x3 + 3).toNatClampNeg)]) hC hT (c_X8_state F x1 (xs (x3 + 1).toNatClampNeg) (xs (x3 + 2).toNatClampNeg) (xs (x3 + 3).toNatClampNeg) h_x1 hq_q68) zy_X8_state zc_8 zv_X8_state kw_593 dL_law_465 h_x1 rfl rfl hl.1 (Nat.le_of_ble_eq_true rfl) (by decide) (show cells + 0 ≤ 600000 ∧ slots + 0 ≤ 7302250 from ⟨by omega, by omega⟩) ?_
        refine z_aload_n hC dL_law_468 rfl (lv_at hl 2 rfl) ?_
        refine z_aload_n hC dL_law_469 rfl (lv_at hl 0 rfl) ?_
        refine z_iload_n hC dL_law_470 rfl (lv_at hl 3 rfl) ?_
        refine z_iconst (v := 1) hC dL_law_471 (by decide) ?_
        refine z_iadd hC dL_law_472 ?_
        obtain ⟨hi69, hz⟩ := ifn_some hz
        refine z_sld hC hX hbl dL_law_473 hi69 ?_
        refine z_aload_n hC dL_law_474 rfl (lv_at hl 0 rfl) ?_
        refine z_iload_n hC dL_law_475 rfl (lv_at hl 3 rfl) ?_
        refine z_iconst (v := 2) hC dL_law_476 (by decide) ?_
        refine z_iadd hC dL_law_477 ?_
        obtain ⟨hi70, hz⟩ := ifn_some hz
        refine z_sld hC hX hbl dL_law_478 hi70 ?_
        refine z_aload_n hC dL_law_479 rfl (lv_at hl 0 rfl) ?_
        refine z_iload_n hC dL_law_480 rfl (lv_at hl 3 rfl) ?_
        refine z_iconst (v := 3) hC dL_law_481 (by decide) ?_
        refine z_iadd hC dL_law_482 ?_
        obtain ⟨hi71, hz⟩ := ifn_some hz
        refine z_sld hC hX hbl dL_law_483 hi71 ?_
        obtain ⟨q72, hq_q72, hz⟩ := ob_some hz
        refine z_callV (As := [.int (xs (x3 + 1).toNatClampNeg), .int (xs (x3 + 2).toNatClampNeg), .int (xs (x3 + 3).toNatClampNeg)]) hC hT (c_X9_state F x2 (xs (x3 + 1).toNatClampNeg) (xs (x3 + 2).toNatClampNeg) (xs (x3 + 3).toNatClampNeg) h_x2 hq_q72) zy_X9_state zc_9 zv_X9_state kw_981 dL_law_484 h_x2 rfl rfl hl.1 (Nat.le_of_ble_eq_true rfl) (by decide) (show cells + 0 ≤ 600000 ∧ slots + 0 ≤ 7302250 from ⟨by omega, by omega⟩) ?_
        refine z_icmp_eq (tgt := 733) hC dL_law_487 (by decide) hz (fun hz => ?_) (fun hz => ?_)
        · skip
          refine z_iinc (k0 := 3) (v := x3 + 6) (lv' := [(3, .int (x3 + 6)), (0, .ref b), (1, .ref (x1)), (2, .ref (x2))]) hC dL_law_733 hl rfl rfl (by decide) rfl (fun ls hl => ?_)
          refine z_goto (tgt := 18) hC dL_law_736 (by decide) ?_
          exact hk18 (cells) (slots) (x1) (x2) (x3 + 6) (S) (I) (by omega) (by omega) hT h_x1 h_x2 hz ls (lv_sub hl [1, 2, 3, 0] rfl)
        · skip
          refine z_iconst (v := 0) hC dL_law_490 (by decide) ?_
          cases hz
    rw [if_neg hs73] at hz
    by_cases hs82 : ((xs x3.toNatClampNeg) &&& 31) = 10
    · rw [if_pos hs82] at hz
      · refine z_tabIn (off := 459) (tgt := 492) hC dL_law_33 (by rw [hs82]; decide) (by rw [hs82]; decide) (by rw [hs82]; rfl) (by decide) ?_
        refine z_aload_n hC dL_law_492 rfl (lv_at hl 1 rfl) ?_
        refine z_aload_n hC dL_law_493 rfl (lv_at hl 0 rfl) ?_
        refine z_iload_n hC dL_law_494 rfl (lv_at hl 3 rfl) ?_
        refine z_iconst (v := 1) hC dL_law_495 (by decide) ?_
        refine z_iadd hC dL_law_496 ?_
        obtain ⟨hi74, hz⟩ := ifn_some hz
        refine z_sld hC hX hbl dL_law_497 hi74 ?_
        refine z_aload_n hC dL_law_498 rfl (lv_at hl 0 rfl) ?_
        refine z_iload_n hC dL_law_499 rfl (lv_at hl 3 rfl) ?_
        refine z_iconst (v := 2) hC dL_law_500 (by decide) ?_
        refine z_iadd hC dL_law_501 ?_
        obtain ⟨hi75, hz⟩ := ifn_some hz
        refine z_sld hC hX hbl dL_law_502 hi75 ?_
        refine z_aload_n hC dL_law_503 rfl (lv_at hl 0 rfl) ?_
        refine z_iload_n hC dL_law_504 rfl (lv_at hl 3 rfl) ?_
        refine z_iconst (v := 3) hC dL_law_505 (by decide) ?_
        refine z_iadd hC dL_law_506 ?_
        obtain ⟨hi76, hz⟩ := ifn_some hz
        refine z_sld hC hX hbl dL_law_507 hi76 ?_
        obtain ⟨q77, hq_q77, hz⟩ := ob_some hz
        refine z_callV (As := [.int (xs (x3 + 1).toNatClampNeg), .int (xs (x3 + 2).toNatClampNeg), .int (xs (x3 + 3).toNatClampNeg)]) hC hT (c_X8_frame F x1 (xs (x3 + 1).toNatClampNeg) (xs (x3 + 2).toNatClampNeg) (xs (x3 + 3).toNatClampNeg) h_x1 hq_q77) zy_X8_frame zc_8 zv_X8_frame kw_607 dL_law_508 h_x1 rfl rfl hl.1 (Nat.le_of_ble_eq_true rfl) (by decide) (show cells + 0 ≤ 600000 ∧ slots + 0 ≤ 7302250 from ⟨by omega, by omega⟩) ?_
        refine z_aload_n hC dL_law_511 rfl (lv_at hl 2 rfl) ?_
        refine z_aload_n hC dL_law_512 rfl (lv_at hl 0 rfl) ?_
        refine z_iload_n hC dL_law_513 rfl (lv_at hl 3 rfl) ?_
        refine z_iconst (v := 1) hC dL_law_514 (by decide) ?_
        refine z_iadd hC dL_law_515 ?_
        obtain ⟨hi78, hz⟩ := ifn_some hz
        refine z_sld hC hX hbl dL_law_516 hi78 ?_
        refine z_aload_n hC dL_law_517 rfl (lv_at hl 0 rfl) ?_
        refine z_iload_n hC dL_law_518 rfl (lv_at hl 3 rfl) ?_
        refine z_iconst (v := 2) hC dL_law_519 (by decide) ?_
        refine z_iadd hC dL_law_520 ?_
        obtain ⟨hi79, hz⟩ := ifn_some hz
        refine z_sld hC hX hbl dL_law_521 hi79 ?_
        refine z_aload_n hC dL_law_522 rfl (lv_at hl 0 rfl) ?_
        refine z_iload_n hC dL_law_523 rfl (lv_at hl 3 rfl) ?_
        refine z_iconst (v := 3) hC dL_law_524 (by decide) ?_
        refine z_iadd hC dL_law_525 ?_
        obtain ⟨hi80, hz⟩ := ifn_some hz
        refine z_sld hC hX hbl dL_law_526 hi80 ?_
        obtain ⟨q81, hq_q81, hz⟩ := ob_some hz
        refine z_callV (As := [.int (xs (x3 + 1).toNatClampNeg), .int (xs (x3 + 2).toNatClampNeg), .int (xs (x3 + 3).toNatClampNeg)]) hC hT (c_X9_frame F x2 (xs (x3 + 1).toNatClampNeg) (xs (x3 + 2).toNatClampNeg) (xs (x3 + 3).toNatClampNeg) h_x2 hq_q81) zy_X9_frame zc_9 zv_X9_frame kw_992 dL_law_527 h_x2 rfl rfl hl.1 (Nat.le_of_ble_eq_true rfl) (by decide) (show cells + 0 ≤ 600000 ∧ slots + 0 ≤ 7302250 from ⟨by omega, by omega⟩) ?_
        refine z_icmp_eq (tgt := 733) hC dL_law_530 (by decide) hz (fun hz => ?_) (fun hz => ?_)
        · skip
          refine z_iinc (k0 := 3) (v := x3 + 6) (lv' := [(3, .int (x3 + 6)), (0, .ref b), (1, .ref (x1)), (2, .ref (x2))]) hC dL_law_733 hl rfl rfl (by decide) rfl (fun ls hl => ?_)
          refine z_goto (tgt := 18) hC dL_law_736 (by decide) ?_
          exact hk18 (cells) (slots) (x1) (x2) (x3 + 6) (S) (I) (by omega) (by omega) hT h_x1 h_x2 hz ls (lv_sub hl [1, 2, 3, 0] rfl)
        · skip
          refine z_iconst (v := 0) hC dL_law_533 (by decide) ?_
          cases hz
    rw [if_neg hs82] at hz
    by_cases hs89 : ((xs x3.toNatClampNeg) &&& 31) = 11
    · rw [if_pos hs89] at hz
      · refine z_tabIn (off := 502) (tgt := 535) hC dL_law_33 (by rw [hs89]; decide) (by rw [hs89]; decide) (by rw [hs89]; rfl) (by decide) ?_
        refine z_aload_n hC dL_law_535 rfl (lv_at hl 1 rfl) ?_
        refine z_aload_n hC dL_law_536 rfl (lv_at hl 0 rfl) ?_
        refine z_iload_n hC dL_law_537 rfl (lv_at hl 3 rfl) ?_
        refine z_iconst (v := 1) hC dL_law_538 (by decide) ?_
        refine z_iadd hC dL_law_539 ?_
        obtain ⟨hi83, hz⟩ := ifn_some hz
        refine z_sld hC hX hbl dL_law_540 hi83 ?_
        refine z_aload_n hC dL_law_541 rfl (lv_at hl 0 rfl) ?_
        refine z_iload_n hC dL_law_542 rfl (lv_at hl 3 rfl) ?_
        refine z_iconst (v := 2) hC dL_law_543 (by decide) ?_
        refine z_iadd hC dL_law_544 ?_
        obtain ⟨hi84, hz⟩ := ifn_some hz
        refine z_sld hC hX hbl dL_law_545 hi84 ?_
        obtain ⟨q85, hq_q85, hz⟩ := ob_some hz
        refine z_callV (As := [.int (xs (x3 + 1).toNatClampNeg), .int (xs (x3 + 2).toNatClampNeg)]) hC hT (c_X8_form F x1 (xs (x3 + 1).toNatClampNeg) (xs (x3 + 2).toNatClampNeg) h_x1 hq_q85) zy_X8_form zc_8 zv_X8_form kw_615 dL_law_546 h_x1 rfl rfl hl.1 (Nat.le_of_ble_eq_true rfl) (by decide) (show cells + 0 ≤ 600000 ∧ slots + 0 ≤ 7302250 from ⟨by omega, by omega⟩) ?_
        refine z_aload_n hC dL_law_549 rfl (lv_at hl 2 rfl) ?_
        refine z_aload_n hC dL_law_550 rfl (lv_at hl 0 rfl) ?_
        refine z_iload_n hC dL_law_551 rfl (lv_at hl 3 rfl) ?_
        refine z_iconst (v := 1) hC dL_law_552 (by decide) ?_
        refine z_iadd hC dL_law_553 ?_
        obtain ⟨hi86, hz⟩ := ifn_some hz
        refine z_sld hC hX hbl dL_law_554 hi86 ?_
        refine z_aload_n hC dL_law_555 rfl (lv_at hl 0 rfl) ?_
        refine z_iload_n hC dL_law_556 rfl (lv_at hl 3 rfl) ?_
        refine z_iconst (v := 2) hC dL_law_557 (by decide) ?_
        refine z_iadd hC dL_law_558 ?_
        obtain ⟨hi87, hz⟩ := ifn_some hz
        refine z_sld hC hX hbl dL_law_559 hi87 ?_
        obtain ⟨q88, hq_q88, hz⟩ := ob_some hz
        refine z_callV (As := [.int (xs (x3 + 1).toNatClampNeg), .int (xs (x3 + 2).toNatClampNeg)]) hC hT (c_X9_form F x2 (xs (x3 + 1).toNatClampNeg) (xs (x3 + 2).toNatClampNeg) h_x2 hq_q88) zy_X9_form zc_9 zv_X9_form kw_1000 dL_law_560 h_x2 rfl rfl hl.1 (Nat.le_of_ble_eq_true rfl) (by decide) (show cells + 0 ≤ 600000 ∧ slots + 0 ≤ 7302250 from ⟨by omega, by omega⟩) ?_
        refine z_icmp_eq (tgt := 733) hC dL_law_563 (by decide) hz (fun hz => ?_) (fun hz => ?_)
        · skip
          refine z_iinc (k0 := 3) (v := x3 + 6) (lv' := [(3, .int (x3 + 6)), (0, .ref b), (1, .ref (x1)), (2, .ref (x2))]) hC dL_law_733 hl rfl rfl (by decide) rfl (fun ls hl => ?_)
          refine z_goto (tgt := 18) hC dL_law_736 (by decide) ?_
          exact hk18 (cells) (slots) (x1) (x2) (x3 + 6) (S) (q88.2) (by omega) (by omega) hT h_x1 h_x2 hz ls (lv_sub hl [1, 2, 3, 0] rfl)
        · skip
          refine z_iconst (v := 0) hC dL_law_566 (by decide) ?_
          cases hz
    rw [if_neg hs89] at hz
    by_cases hs96 : ((xs x3.toNatClampNeg) &&& 31) = 12
    · rw [if_pos hs96] at hz
      · refine z_tabIn (off := 535) (tgt := 568) hC dL_law_33 (by rw [hs96]; decide) (by rw [hs96]; decide) (by rw [hs96]; rfl) (by decide) ?_
        refine z_aload_n hC dL_law_568 rfl (lv_at hl 1 rfl) ?_
        refine z_aload_n hC dL_law_569 rfl (lv_at hl 0 rfl) ?_
        refine z_iload_n hC dL_law_570 rfl (lv_at hl 3 rfl) ?_
        refine z_iconst (v := 1) hC dL_law_571 (by decide) ?_
        refine z_iadd hC dL_law_572 ?_
        obtain ⟨hi90, hz⟩ := ifn_some hz
        refine z_sld hC hX hbl dL_law_573 hi90 ?_
        refine z_aload_n hC dL_law_574 rfl (lv_at hl 0 rfl) ?_
        refine z_iload_n hC dL_law_575 rfl (lv_at hl 3 rfl) ?_
        refine z_iconst (v := 2) hC dL_law_576 (by decide) ?_
        refine z_iadd hC dL_law_577 ?_
        obtain ⟨hi91, hz⟩ := ifn_some hz
        refine z_sld hC hX hbl dL_law_578 hi91 ?_
        obtain ⟨q92, hq_q92, hz⟩ := ob_some hz
        refine z_callV (As := [.int (xs (x3 + 1).toNatClampNeg), .int (xs (x3 + 2).toNatClampNeg)]) hC hT (c_X8_shared F x1 (xs (x3 + 1).toNatClampNeg) (xs (x3 + 2).toNatClampNeg) h_x1 hq_q92) zy_X8_shared zc_8 zv_X8_shared kw_638 dL_law_579 h_x1 rfl rfl hl.1 (Nat.le_of_ble_eq_true rfl) (by decide) (show cells + 0 ≤ 600000 ∧ slots + 0 ≤ 7302250 from ⟨by omega, by omega⟩) ?_
        refine z_aload_n hC dL_law_582 rfl (lv_at hl 2 rfl) ?_
        refine z_aload_n hC dL_law_583 rfl (lv_at hl 0 rfl) ?_
        refine z_iload_n hC dL_law_584 rfl (lv_at hl 3 rfl) ?_
        refine z_iconst (v := 1) hC dL_law_585 (by decide) ?_
        refine z_iadd hC dL_law_586 ?_
        obtain ⟨hi93, hz⟩ := ifn_some hz
        refine z_sld hC hX hbl dL_law_587 hi93 ?_
        refine z_aload_n hC dL_law_588 rfl (lv_at hl 0 rfl) ?_
        refine z_iload_n hC dL_law_589 rfl (lv_at hl 3 rfl) ?_
        refine z_iconst (v := 2) hC dL_law_590 (by decide) ?_
        refine z_iadd hC dL_law_591 ?_
        obtain ⟨hi94, hz⟩ := ifn_some hz
        refine z_sld hC hX hbl dL_law_592 hi94 ?_
        obtain ⟨q95, hq_q95, hz⟩ := ob_some hz
        refine z_callV (As := [.int (xs (x3 + 1).toNatClampNeg), .int (xs (x3 + 2).toNatClampNeg)]) hC hT (c_X9_shared F x2 (xs (x3 + 1).toNatClampNeg) (xs (x3 + 2).toNatClampNeg) h_x2 hq_q95) zy_X9_shared zc_9 zv_X9_shared kw_1007 dL_law_593 h_x2 rfl rfl hl.1 (Nat.le_of_ble_eq_true rfl) (by decide) (show cells + 0 ≤ 600000 ∧ slots + 0 ≤ 7302250 from ⟨by omega, by omega⟩) ?_
        refine z_icmp_eq (tgt := 733) hC dL_law_596 (by decide) hz (fun hz => ?_) (fun hz => ?_)
        · skip
          refine z_iinc (k0 := 3) (v := x3 + 6) (lv' := [(3, .int (x3 + 6)), (0, .ref b), (1, .ref (x1)), (2, .ref (x2))]) hC dL_law_733 hl rfl rfl (by decide) rfl (fun ls hl => ?_)
          refine z_goto (tgt := 18) hC dL_law_736 (by decide) ?_
          exact hk18 (cells) (slots) (x1) (x2) (x3 + 6) (S) (I) (by omega) (by omega) hT h_x1 h_x2 hz ls (lv_sub hl [1, 2, 3, 0] rfl)
        · skip
          refine z_iconst (v := 0) hC dL_law_599 (by decide) ?_
          cases hz
    rw [if_neg hs96] at hz
    by_cases hs103 : ((xs x3.toNatClampNeg) &&& 31) = 13
    · rw [if_pos hs103] at hz
      · refine z_tabIn (off := 568) (tgt := 601) hC dL_law_33 (by rw [hs103]; decide) (by rw [hs103]; decide) (by rw [hs103]; rfl) (by decide) ?_
        refine z_aload_n hC dL_law_601 rfl (lv_at hl 1 rfl) ?_
        refine z_aload_n hC dL_law_602 rfl (lv_at hl 0 rfl) ?_
        refine z_iload_n hC dL_law_603 rfl (lv_at hl 3 rfl) ?_
        refine z_iconst (v := 1) hC dL_law_604 (by decide) ?_
        refine z_iadd hC dL_law_605 ?_
        obtain ⟨hi97, hz⟩ := ifn_some hz
        refine z_sld hC hX hbl dL_law_606 hi97 ?_
        refine z_aload_n hC dL_law_607 rfl (lv_at hl 0 rfl) ?_
        refine z_iload_n hC dL_law_608 rfl (lv_at hl 3 rfl) ?_
        refine z_iconst (v := 2) hC dL_law_609 (by decide) ?_
        refine z_iadd hC dL_law_610 ?_
        obtain ⟨hi98, hz⟩ := ifn_some hz
        refine z_sld hC hX hbl dL_law_611 hi98 ?_
        obtain ⟨q99, hq_q99, hz⟩ := ob_some hz
        refine z_callV (As := [.int (xs (x3 + 1).toNatClampNeg), .int (xs (x3 + 2).toNatClampNeg)]) hC hT (c_X8_maximum F x1 (xs (x3 + 1).toNatClampNeg) (xs (x3 + 2).toNatClampNeg) h_x1 hq_q99) zy_X8_maximum zc_8 zv_X8_maximum kw_643 dL_law_612 h_x1 rfl rfl hl.1 (Nat.le_of_ble_eq_true rfl) (by decide) (show cells + 0 ≤ 600000 ∧ slots + 0 ≤ 7302250 from ⟨by omega, by omega⟩) ?_
        refine z_aload_n hC dL_law_615 rfl (lv_at hl 2 rfl) ?_
        refine z_aload_n hC dL_law_616 rfl (lv_at hl 0 rfl) ?_
        refine z_iload_n hC dL_law_617 rfl (lv_at hl 3 rfl) ?_
        refine z_iconst (v := 1) hC dL_law_618 (by decide) ?_
        refine z_iadd hC dL_law_619 ?_
        obtain ⟨hi100, hz⟩ := ifn_some hz
        refine z_sld hC hX hbl dL_law_620 hi100 ?_
        refine z_aload_n hC dL_law_621 rfl (lv_at hl 0 rfl) ?_
        refine z_iload_n hC dL_law_622 rfl (lv_at hl 3 rfl) ?_
        refine z_iconst (v := 2) hC dL_law_623 (by decide) ?_
        refine z_iadd hC dL_law_624 ?_
        obtain ⟨hi101, hz⟩ := ifn_some hz
        refine z_sld hC hX hbl dL_law_625 hi101 ?_
        obtain ⟨q102, hq_q102, hz⟩ := ob_some hz
        refine z_callV (As := [.int (xs (x3 + 1).toNatClampNeg), .int (xs (x3 + 2).toNatClampNeg)]) hC hT (c_X9_maximum F x2 (xs (x3 + 1).toNatClampNeg) (xs (x3 + 2).toNatClampNeg) h_x2 hq_q102) zy_X9_maximum zc_9 zv_X9_maximum kw_1011 dL_law_626 h_x2 rfl rfl hl.1 (Nat.le_of_ble_eq_true rfl) (by decide) (show cells + 0 ≤ 600000 ∧ slots + 0 ≤ 7302250 from ⟨by omega, by omega⟩) ?_
        refine z_icmp_eq (tgt := 733) hC dL_law_629 (by decide) hz (fun hz => ?_) (fun hz => ?_)
        · skip
          refine z_iinc (k0 := 3) (v := x3 + 6) (lv' := [(3, .int (x3 + 6)), (0, .ref b), (1, .ref (x1)), (2, .ref (x2))]) hC dL_law_733 hl rfl rfl (by decide) rfl (fun ls hl => ?_)
          refine z_goto (tgt := 18) hC dL_law_736 (by decide) ?_
          exact hk18 (cells) (slots) (x1) (x2) (x3 + 6) (S) (q102.2) (by omega) (by omega) hT h_x1 h_x2 hz ls (lv_sub hl [1, 2, 3, 0] rfl)
        · skip
          refine z_iconst (v := 0) hC dL_law_632 (by decide) ?_
          cases hz
    rw [if_neg hs103] at hz
    by_cases hs114 : ((xs x3.toNatClampNeg) &&& 31) = 14
    · rw [if_pos hs114] at hz
      · refine z_tabIn (off := 601) (tgt := 634) hC dL_law_33 (by rw [hs114]; decide) (by rw [hs114]; decide) (by rw [hs114]; rfl) (by decide) ?_
        refine z_aload_n hC dL_law_634 rfl (lv_at hl 1 rfl) ?_
        refine z_aload_n hC dL_law_635 rfl (lv_at hl 0 rfl) ?_
        refine z_iload_n hC dL_law_636 rfl (lv_at hl 3 rfl) ?_
        refine z_iconst (v := 1) hC dL_law_637 (by decide) ?_
        refine z_iadd hC dL_law_638 ?_
        obtain ⟨hi104, hz⟩ := ifn_some hz
        refine z_sld hC hX hbl dL_law_639 hi104 ?_
        refine z_aload_n hC dL_law_640 rfl (lv_at hl 0 rfl) ?_
        refine z_iload_n hC dL_law_641 rfl (lv_at hl 3 rfl) ?_
        refine z_iconst (v := 2) hC dL_law_642 (by decide) ?_
        refine z_iadd hC dL_law_643 ?_
        obtain ⟨hi105, hz⟩ := ifn_some hz
        refine z_sld hC hX hbl dL_law_644 hi105 ?_
        refine z_aload_n hC dL_law_645 rfl (lv_at hl 0 rfl) ?_
        refine z_iload_n hC dL_law_646 rfl (lv_at hl 3 rfl) ?_
        refine z_iconst (v := 3) hC dL_law_647 (by decide) ?_
        refine z_iadd hC dL_law_648 ?_
        obtain ⟨hi106, hz⟩ := ifn_some hz
        refine z_sld hC hX hbl dL_law_649 hi106 ?_
        refine z_aload_n hC dL_law_650 rfl (lv_at hl 0 rfl) ?_
        refine z_iload_n hC dL_law_651 rfl (lv_at hl 3 rfl) ?_
        refine z_iconst (v := 4) hC dL_law_652 (by decide) ?_
        refine z_iadd hC dL_law_653 ?_
        obtain ⟨hi107, hz⟩ := ifn_some hz
        refine z_sld hC hX hbl dL_law_654 hi107 ?_
        obtain ⟨q108, hq_q108, hz⟩ := ob_some hz
        refine z_callV (As := [.int (xs (x3 + 1).toNatClampNeg), .int (xs (x3 + 2).toNatClampNeg), .int (xs (x3 + 3).toNatClampNeg), .int (xs (x3 + 4).toNatClampNeg)]) hC hT (c_X8_plant F x1 (xs (x3 + 1).toNatClampNeg) (xs (x3 + 2).toNatClampNeg) (xs (x3 + 3).toNatClampNeg) (xs (x3 + 4).toNatClampNeg) h_x1 hq_q108) zy_X8_plant zc_8 zv_X8_plant kw_647 dL_law_655 h_x1 rfl rfl hl.1 (Nat.le_of_ble_eq_true rfl) (by decide) (show cells + 0 ≤ 600000 ∧ slots + 0 ≤ 7302250 from ⟨by omega, by omega⟩) ?_
        refine z_aload_n hC dL_law_658 rfl (lv_at hl 2 rfl) ?_
        refine z_aload_n hC dL_law_659 rfl (lv_at hl 0 rfl) ?_
        refine z_iload_n hC dL_law_660 rfl (lv_at hl 3 rfl) ?_
        refine z_iconst (v := 1) hC dL_law_661 (by decide) ?_
        refine z_iadd hC dL_law_662 ?_
        obtain ⟨hi109, hz⟩ := ifn_some hz
        refine z_sld hC hX hbl dL_law_663 hi109 ?_
        refine z_aload_n hC dL_law_664 rfl (lv_at hl 0 rfl) ?_
        refine z_iload_n hC dL_law_665 rfl (lv_at hl 3 rfl) ?_
        refine z_iconst (v := 2) hC dL_law_666 (by decide) ?_
        refine z_iadd hC dL_law_667 ?_
        obtain ⟨hi110, hz⟩ := ifn_some hz
        refine z_sld hC hX hbl dL_law_668 hi110 ?_
        refine z_aload_n hC dL_law_669 rfl (lv_at hl 0 rfl) ?_
        refine z_iload_n hC dL_law_670 rfl (lv_at hl 3 rfl) ?_
        refine z_iconst (v := 3) hC dL_law_671 (by decide) ?_
        refine z_iadd hC dL_law_672 ?_
        obtain ⟨hi111, hz⟩ := ifn_some hz
        refine z_sld hC hX hbl dL_law_673 hi111 ?_
        refine z_aload_n hC dL_law_674 rfl (lv_at hl 0 rfl) ?_
        refine z_iload_n hC dL_law_675 rfl (lv_at hl 3 rfl) ?_
        refine z_iconst (v := 4) hC dL_law_676 (by decide) ?_
        refine z_iadd hC dL_law_677 ?_
        obtain ⟨hi112, hz⟩ := ifn_some hz
        refine z_sld hC hX hbl dL_law_678 hi112 ?_
        obtain ⟨q113, hq_q113, hz⟩ := ob_some hz
        refine z_callV (As := [.int (xs (x3 + 1).toNatClampNeg), .int (xs (x3 + 2).toNatClampNeg), .int (xs (x3 + 3).toNatClampNeg), .int (xs (x3 + 4).toNatClampNeg)]) hC hT (c_X9_plant F x2 (xs (x3 + 1).toNatClampNeg) (xs (x3 + 2).toNatClampNeg) (xs (x3 + 3).toNatClampNeg) (xs (x3 + 4).toNatClampNeg) h_x2 hq_q113) zy_X9_plant zc_9 zv_X9_plant kw_1015 dL_law_679 h_x2 rfl rfl hl.1 (Nat.le_of_ble_eq_true rfl) (by decide) (show cells + 0 ≤ 600000 ∧ slots + 0 ≤ 7302250 from ⟨by omega, by omega⟩) ?_
        refine z_icmp_eq (tgt := 733) hC dL_law_682 (by decide) hz (fun hz => ?_) (fun hz => ?_)
        · skip
          refine z_iinc (k0 := 3) (v := x3 + 6) (lv' := [(3, .int (x3 + 6)), (0, .ref b), (1, .ref (x1)), (2, .ref (x2))]) hC dL_law_733 hl rfl rfl (by decide) rfl (fun ls hl => ?_)
          refine z_goto (tgt := 18) hC dL_law_736 (by decide) ?_
          exact hk18 (cells) (slots) (x1) (x2) (x3 + 6) (S) (q113.2) (by omega) (by omega) hT h_x1 h_x2 hz ls (lv_sub hl [1, 2, 3, 0] rfl)
        · skip
          refine z_iconst (v := 0) hC dL_law_685 (by decide) ?_
          cases hz
    rw [if_neg hs114] at hz
    by_cases hs119 : ((xs x3.toNatClampNeg) &&& 31) = 15
    · rw [if_pos hs119] at hz
      · refine z_tabIn (off := 654) (tgt := 687) hC dL_law_33 (by rw [hs119]; decide) (by rw [hs119]; decide) (by rw [hs119]; rfl) (by decide) ?_
        refine z_aload_n hC dL_law_687 rfl (lv_at hl 1 rfl) ?_
        refine z_aload_n hC dL_law_688 rfl (lv_at hl 0 rfl) ?_
        refine z_iload_n hC dL_law_689 rfl (lv_at hl 3 rfl) ?_
        refine z_iconst (v := 1) hC dL_law_690 (by decide) ?_
        refine z_iadd hC dL_law_691 ?_
        obtain ⟨hi115, hz⟩ := ifn_some hz
        refine z_sld hC hX hbl dL_law_692 hi115 ?_
        obtain ⟨q116, hq_q116, hz⟩ := ob_some hz
        refine z_callV (As := [.int (xs (x3 + 1).toNatClampNeg)]) hC hT (c_X8_verify F x1 (xs (x3 + 1).toNatClampNeg) h_x1 hq_q116) zy_X8_verify zc_8 zv_X8_verify kw_661 dL_law_693 h_x1 rfl rfl hl.1 (Nat.le_of_ble_eq_true rfl) (by decide) (show cells + 0 ≤ 600000 ∧ slots + 0 ≤ 7302250 from ⟨by omega, by omega⟩) ?_
        refine z_aload_n hC dL_law_696 rfl (lv_at hl 2 rfl) ?_
        refine z_aload_n hC dL_law_697 rfl (lv_at hl 0 rfl) ?_
        refine z_iload_n hC dL_law_698 rfl (lv_at hl 3 rfl) ?_
        refine z_iconst (v := 1) hC dL_law_699 (by decide) ?_
        refine z_iadd hC dL_law_700 ?_
        obtain ⟨hi117, hz⟩ := ifn_some hz
        refine z_sld hC hX hbl dL_law_701 hi117 ?_
        obtain ⟨q118, hq_q118, hz⟩ := ob_some hz
        refine z_callV (As := [.int (xs (x3 + 1).toNatClampNeg)]) hC hT (c_X9_verify F x2 (xs (x3 + 1).toNatClampNeg) h_x2 hq_q118) zy_X9_verify zc_9 zv_X9_verify kw_1019 dL_law_702 h_x2 rfl rfl hl.1 (Nat.le_of_ble_eq_true rfl) (by decide) (show cells + 0 ≤ 600000 ∧ slots + 0 ≤ 7302250 from ⟨by omega, by omega⟩) ?_
        refine z_icmp_eq (tgt := 733) hC dL_law_705 (by decide) hz (fun hz => ?_) (fun hz => ?_)
        · skip
          refine z_iinc (k0 := 3) (v := x3 + 6) (lv' := [(3, .int (x3 + 6)), (0, .ref b), (1, .ref (x1)), (2, .ref (x2))]) hC dL_law_733 hl rfl rfl (by decide) rfl (fun ls hl => ?_)
          refine z_goto (tgt := 18) hC dL_law_736 (by decide) ?_
          exact hk18 (cells) (slots) (x1) (x2) (x3 + 6) (S) (q118.2) (by omega) (by omega) hT h_x1 h_x2 hz ls (lv_sub hl [1, 2, 3, 0] rfl)
        · skip
          refine z_iconst (v := 0) hC dL_law_708 (by decide) ?_
          cases hz
    rw [if_neg hs119] at hz
    by_cases hs124 : ((xs x3.toNatClampNeg) &&& 31) = 16
    · rw [if_pos hs124] at hz
      · refine z_tabIn (off := 677) (tgt := 710) hC dL_law_33 (by rw [hs124]; decide) (by rw [hs124]; decide) (by rw [hs124]; rfl) (by decide) ?_
        refine z_aload_n hC dL_law_710 rfl (lv_at hl 1 rfl) ?_
        refine z_aload_n hC dL_law_711 rfl (lv_at hl 0 rfl) ?_
        refine z_iload_n hC dL_law_712 rfl (lv_at hl 3 rfl) ?_
        refine z_iconst (v := 1) hC dL_law_713 (by decide) ?_
        refine z_iadd hC dL_law_714 ?_
        obtain ⟨hi120, hz⟩ := ifn_some hz
        refine z_sld hC hX hbl dL_law_715 hi120 ?_
        obtain ⟨q121, hq_q121, hz⟩ := ob_some hz
        refine z_callV (As := [.int (xs (x3 + 1).toNatClampNeg)]) hC hT (c_X8_told F x1 (xs (x3 + 1).toNatClampNeg) h_x1 hq_q121) zy_X8_told zc_8 zv_X8_told kw_708 dL_law_716 h_x1 rfl rfl hl.1 (Nat.le_of_ble_eq_true rfl) (by decide) (show cells + 0 ≤ 600000 ∧ slots + 0 ≤ 7302250 from ⟨by omega, by omega⟩) ?_
        refine z_aload_n hC dL_law_719 rfl (lv_at hl 2 rfl) ?_
        refine z_aload_n hC dL_law_720 rfl (lv_at hl 0 rfl) ?_
        refine z_iload_n hC dL_law_721 rfl (lv_at hl 3 rfl) ?_
        refine z_iconst (v := 1) hC dL_law_722 (by decide) ?_
        refine z_iadd hC dL_law_723 ?_
        obtain ⟨hi122, hz⟩ := ifn_some hz
        refine z_sld hC hX hbl dL_law_724 hi122 ?_
        obtain ⟨q123, hq_q123, hz⟩ := ob_some hz
        refine z_callV (As := [.int (xs (x3 + 1).toNatClampNeg)]) hC hT (c_X9_told F x2 (xs (x3 + 1).toNatClampNeg) h_x2 hq_q123) zy_X9_told zc_9 zv_X9_told kw_1039 dL_law_725 h_x2 rfl rfl hl.1 (Nat.le_of_ble_eq_true rfl) (by decide) (show cells + 0 ≤ 600000 ∧ slots + 0 ≤ 7302250 from ⟨by omega, by omega⟩) ?_
        refine z_icmp_eq (tgt := 733) hC dL_law_728 (by decide) hz (fun hz => ?_) (fun hz => ?_)
        · skip
          refine z_iinc (k0 := 3) (v := x3 + 6) (lv' := [(3, .int (x3 + 6)), (0, .ref b), (1, .ref (x1)), (2, .ref (x2))]) hC dL_law_733 hl rfl rfl (by decide) rfl (fun ls hl => ?_)
          refine z_goto (tgt := 18) hC dL_law_736 (by decide) ?_
          exact hk18 (cells) (slots) (x1) (x2) (x3 + 6) (S) (I) (by omega) (by omega) hT h_x1 h_x2 hz ls (lv_sub hl [1, 2, 3, 0] rfl)
        · skip
          refine z_iconst (v := 0) hC dL_law_731 (by decide) ?_
          cases hz
    rw [if_neg hs124] at hz
    refine z_tabOut (tgt := 733) hC dL_law_33 (z_out (fun k9 h5 h6 h7 => by
        rcases (show k9 = 0 ∨ k9 = 1 ∨ k9 = 2 ∨ k9 = 3 ∨ k9 = 4 ∨ k9 = 5 ∨ k9 = 6 ∨ k9 = 7 ∨ k9 = 8 ∨ k9 = 9 ∨ k9 = 10 ∨ k9 = 11 ∨ k9 = 12 ∨ k9 = 13 ∨ k9 = 14 ∨ k9 = 15 ∨ k9 = 16 by omega) with h9 | h9 | h9 | h9 | h9 | h9 | h9 | h9 | h9 | h9 | h9 | h9 | h9 | h9 | h9 | h9 | h9
        · rw [h9] at h7; exact hs4 (by have h8 := z_ofT (v := 0) h7 (by decide); exact h8)
        · rw [h9] at h7; exact hs11 (by have h8 := z_ofT (v := 1) h7 (by decide); exact h8)
        · rw [h9] at h7; exact hs18 (by have h8 := z_ofT (v := 2) h7 (by decide); exact h8)
        · rw [h9] at h7; exact hs25 (by have h8 := z_ofT (v := 3) h7 (by decide); exact h8)
        · rw [h9] at h7; exact hs32 (by have h8 := z_ofT (v := 4) h7 (by decide); exact h8)
        · rw [h9] at h7; exact hs43 (by have h8 := z_ofT (v := 5) h7 (by decide); exact h8)
        · rw [h9] at h7; exact hs56 (by have h8 := z_ofT (v := 6) h7 (by decide); exact h8)
        · rw [h9] at h7; exact hs61 (by have h8 := z_ofT (v := 7) h7 (by decide); exact h8)
        · rw [h9] at h7; exact hs64 (by have h8 := z_ofT (v := 8) h7 (by decide); exact h8)
        · rw [h9] at h7; exact hs73 (by have h8 := z_ofT (v := 9) h7 (by decide); exact h8)
        · rw [h9] at h7; exact hs82 (by have h8 := z_ofT (v := 10) h7 (by decide); exact h8)
        · rw [h9] at h7; exact hs89 (by have h8 := z_ofT (v := 11) h7 (by decide); exact h8)
        · rw [h9] at h7; exact hs96 (by have h8 := z_ofT (v := 12) h7 (by decide); exact h8)
        · rw [h9] at h7; exact hs103 (by have h8 := z_ofT (v := 13) h7 (by decide); exact h8)
        · rw [h9] at h7; exact hs114 (by have h8 := z_ofT (v := 14) h7 (by decide); exact h8)
        · rw [h9] at h7; exact hs119 (by have h8 := z_ofT (v := 15) h7 (by decide); exact h8)
        · rw [h9] at h7; exact hs124 (by have h8 := z_ofT (v := 16) h7 (by decide); exact h8)
        )) (by decide) ?_
    refine z_iinc (k0 := 3) (v := x3 + 6) (lv' := [(3, .int (x3 + 6)), (0, .ref b), (1, .ref (x1)), (2, .ref (x2))]) hC dL_law_733 hl rfl rfl (by decide) rfl (fun ls hl => ?_)
    refine z_goto (tgt := 18) hC dL_law_736 (by decide) ?_
    exact hk18 (cells) (slots) (x1) (x2) (x3 + 6) (S) (I) (by omega) (by omega) hT h_x1 h_x2 hz ls (lv_sub hl [1, 2, 3, 0] rfl)
def z_L_law_18 (F L : Nat) (xs : Nat → Int32) : Nat → Nat → Nat → Int32 → zS → zI → Option Unit
  | 0 => fun _ _ _ _ _ => none
  | n + 1 => fun x1 x2 x3 S I => z_L_law_18B F L xs (z_L_law_18 F L xs n) x1 x2 x3 S I
set_option maxRecDepth 100000 in
set_option maxHeartbeats 4000000 in
theorem b_L_law_18 {p : Program} {l : Launch} {e : Env} {s : State} {m : MethodId} {below : List Frame} {meth : Method} {c : Code} {D : zD} {b F L : Nat} {xs : Nat → Int32} (hC : z_C p s m #[Value.ref b] meth c code RL 4 ret D) (hX : va_X b L xs s s.heap) (hbl : b < s.heap.size) : ∀ (n cells slots : Nat) (x1 : Nat) (x2 : Nat) (x3 : Int32) (S : zS) (I : zI), cells + 7 * n ≤ 600000 → slots + 50 * n ≤ 7302250 → z_T s.heap.size S → z_is s.heap.size S x1 8 → z_is s.heap.size S x2 9 → z_L_law_18 F L xs n x1 x2 x3 S I = some () → ∀ ls : Array Slot, lv_has ls 4 [(0, .ref b), (1, .ref (x1)), (2, .ref (x2)), (3, .int (x3))] → z_W p l e room_1 s m #[Value.ref b] below meth c D s.heap.size S I (cells) (slots) (lw_Z below #[Value.ref b] s) (F0 m 18 ls []) := by
  intro n
  induction n with
  | zero => intro cells slots x1 x2 x3 S I _ _ _ h_x1 h_x2 hz; cases hz
  | succ n ih =>
    intro cells slots x1 x2 x3 S I h1 h2 hT h_x1 h_x2 hz ls hl
    exact bb_L_law_18 (F := F) hC hX hbl n cells slots (z_L_law_18 F L xs n) ih x1 x2 x3 S I (by omega) (by omega) hT h_x1 h_x2 hz ls hl
def z_L_law (F L : Nat) (xs : Nat → Int32) (S : zS) (I : zI) : Option Unit :=
  zlet (z_new S 8 0) (fun S1 => zlet (z_newI S I) (fun J2 => ob (z_X8_init F S1 J2 (S.2.2)) (fun q4 => zlet (z_new q4.1 9 0) (fun S5 => zlet (z_newI q4.1 (q4.2)) (fun J6 => ob (z_X9_init F S5 J6 (q4.1.2.2)) (fun q8 => z_L_law_18 F L xs 1000 (S.2.2) (q4.1.2.2) (0) (q8.1) (q8.2)))))))
set_option maxRecDepth 100000 in
set_option maxHeartbeats 4000000 in
theorem c_L_law {p : Program} {l : Launch} {e : Env} {s : State} {m : MethodId} {below : List Frame} {meth : Method} {c : Code} {D : zD} {b F L : Nat} {xs : Nat → Int32} (hC : z_C p s m #[Value.ref b] meth c code RL 4 ret D) (hX : va_X b L xs s s.heap) (hbl : b < s.heap.size) (S : zS) (I : zI) (hb0 : s.heap.size ≤ S.2.2) (hT : z_T s.heap.size S) (hz : z_L_law F L xs S I = some ()) (ls : Array Slot) (hl : lv_has ls 4 [(0, .ref b)]) : z_W p l e room_1 s m #[Value.ref b] below meth c D s.heap.size S I (0) (0) (lw_Z below #[Value.ref b] s) (F0 m 0 ls []) := by
  unfold z_L_law at hz
  have hE : z_Ext S S := z_Ext.rf S
  refine z_newc hC zc_8 kw_13 kw_14 kw_1 dL_law_0 zdv_8 (show 0 + 1 ≤ 600000 by omega) (show 0 + 5 ≤ 7302250 by omega) ?_
  obtain ⟨S1, e_S1, hz⟩ := zlet_some hz
  rw [← e_S1]
  obtain ⟨J2, e_J2, hz⟩ := zlet_some hz
  rw [← e_J2]
  have hb9 : s.heap.size ≤ S.2.2 := hb0
  have hn3 : z_is s.heap.size S1 S.2.2 8 := by rw [e_S1]; exact z_is.fresh hb9 8 0
  have hT : z_T s.heap.size S1 := by rw [e_S1]; exact hT.new _ _
  have hE : z_Ext S S1 := by rw [e_S1]; exact hE.new _ _
  refine z_dup hC dL_law_3 rfl ?_
  obtain ⟨q4, hq_q4, hz⟩ := ob_some hz
  refine z_callI (As := []) hC hT (c_X8_init F (S.2.2) hn3 hq_q4) zy_X8_init rfl kw_16 kw_15 dL_law_4 rfl rfl hl.1 (Nat.le_of_ble_eq_true rfl) (by decide) (show 0 + 1 + 67 ≤ 600000 ∧ 0 + 5 + 739 ≤ 7302250 from ⟨by omega, by omega⟩) ?_
  have hx_q4 := xt_X8_init hT hn3 hq_q4
  have hT : z_T s.heap.size q4.1 := hx_q4.1
  have hE : z_Ext S q4.1 := hE.trans hx_q4.2
  have hn3 : z_is s.heap.size q4.1 (S.2.2) 8 := hx_q4.2.is hn3
  refine z_astore_n (lv' := [(1, .ref (S.2.2)), (0, .ref b)]) hC dL_law_7 rfl hl (by decide) rfl (fun ls hl => ?_)
  refine z_newc hC zc_9 kw_731 kw_732 kw_8 dL_law_8 zdv_9 (show 0 + 1 + 67 + 1 ≤ 600000 by omega) (show 0 + 5 + 739 + 29 ≤ 7302250 by omega) ?_
  obtain ⟨S5, e_S5, hz⟩ := zlet_some hz
  rw [← e_S5]
  obtain ⟨J6, e_J6, hz⟩ := zlet_some hz
  rw [← e_J6]
  have hb9 : s.heap.size ≤ q4.1.2.2 := Nat.le_of_lt (Nat.lt_of_le_of_lt hn3.1 hn3.2.1)
  have hn3 : z_is s.heap.size S5 (S.2.2) 8 := by rw [e_S5]; exact hn3.new
  have hn7 : z_is s.heap.size S5 q4.1.2.2 9 := by rw [e_S5]; exact z_is.fresh hb9 9 0
  have hT : z_T s.heap.size S5 := by rw [e_S5]; exact hT.new _ _
  have hE : z_Ext S S5 := by rw [e_S5]; exact hE.new _ _
  refine z_dup hC dL_law_11 rfl ?_
  obtain ⟨q8, hq_q8, hz⟩ := ob_some hz
  refine z_callI (As := []) hC hT (c_X9_init F (q4.1.2.2) hn7 hq_q8) zy_X9_init rfl kw_734 kw_733 dL_law_12 rfl rfl hl.1 (Nat.le_of_ble_eq_true rfl) (by decide) (show 0 + 1 + 67 + 1 + 25 ≤ 600000 ∧ 0 + 5 + 739 + 29 + 15000 ≤ 7302250 from ⟨by omega, by omega⟩) ?_
  have hx_q8 := xt_X9_init hT hn7 hq_q8
  have hT : z_T s.heap.size q8.1 := hx_q8.1
  have hE : z_Ext S q8.1 := hE.trans hx_q8.2
  have hn3 : z_is s.heap.size q8.1 (S.2.2) 8 := hx_q8.2.is hn3
  have hn7 : z_is s.heap.size q8.1 (q4.1.2.2) 9 := hx_q8.2.is hn7
  refine z_astore_n (lv' := [(2, .ref (q4.1.2.2)), (1, .ref (S.2.2)), (0, .ref b)]) hC dL_law_15 rfl hl (by decide) rfl (fun ls hl => ?_)
  refine z_iconst (v := 0) hC dL_law_16 (by decide) ?_
  refine z_istore_n (lv' := [(3, .int (0)), (2, .ref (q4.1.2.2)), (1, .ref (S.2.2)), (0, .ref b)]) hC dL_law_17 rfl hl (by decide) rfl (fun ls hl => ?_)
  exact b_L_law_18 hC hX hbl 1000 (0 + 1 + 67 + 1 + 25) (0 + 5 + 739 + 29 + 15000) (S.2.2) (q4.1.2.2) (0) (q8.1) (q8.2) (by omega) (by omega) hT hn3 hn7 hz ls (lv_sub hl [3, 2, 1, 0] rfl)
