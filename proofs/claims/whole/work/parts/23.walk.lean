theorem zy_X9_compute : z_y yX9_compute cX9_compute 3 (some .int) 1 := ⟨kw_881, kw_8, by decide +kernel, by decide +kernel, by decide +kernel⟩
theorem zv_X9_compute : Cond.instanceMethod yX9_compute ∈ z_tbl ∧ Cond.selects RX9 yX9_compute yX9_compute ∈ z_tbl := ⟨kw_879, kw_880⟩
def z_X9_compute_119B (F : Nat) (S : zS) (k119 : Nat → Int32 → Int32 → zI → Option (Int32 × zI)) (x0 : Nat) (x1 : Int32) (x2 : Int32) (I : zI) : Option (Int32 × zI) :=
  if x2 < 0 then (ob (S.1 x0 15) (fun r1 => if x1 < 0 ∨ (S.2.1 r1).2 ≤ x1.toNatClampNeg then none else (ob (z_X9_layFrames F S (z_up (z_up I x0 20 0) r1 x1.toNatClampNeg 1) x0 x1) (fun q3 => some (q3.1, q3.2))))) else (ob (S.1 x0 25) (fun r4 => if x2 < 0 ∨ (S.2.1 r4).2 ≤ x2.toNatClampNeg then none else (ob (z_X9_works F S (z_up I r4 x2.toNatClampNeg 0) x0 x2) (fun q6 => if 0 < (q6 x0 24) then (some ((-10) - x2, z_up q6 x0 20 (q6 x0 24))) else (ob (z_X9_leastDue F S q6 x0) (fun q7 => k119 (x0) (x1) (q7) (q6)))))))
def z_X9_compute_119 (F : Nat) (S : zS)  : Nat → Nat → Int32 → Int32 → zI → Option (Int32 × zI)
  | 0 => fun _ _ _ _ => none
  | n + 1 => fun x0 x1 x2 I => z_X9_compute_119B F S  (z_X9_compute_119 F S  n) x0 x1 x2 I
def z_X9_compute_32B (F : Nat) (S : zS) (k32 : Nat → Int32 → Int32 → zI → Option (Int32 × zI)) (x0 : Nat) (x1 : Int32) (x2 : Int32) (I : zI) : Option (Int32 × zI) :=
  if x2 < 40 then (ob (S.1 x0 16) (fun r9 => if ((40 * x1) + x2) < 0 ∨ (S.2.1 r9).2 ≤ ((40 * x1) + x2).toNatClampNeg then none else (ob (S.1 x0 18) (fun r11 => if ((40 * x1) + x2) < 0 ∨ (S.2.1 r11).2 ≤ ((40 * x1) + x2).toNatClampNeg then none else (ob (S.1 x0 25) (fun r13 => if x2 < 0 ∨ (S.2.1 r13).2 ≤ x2.toNatClampNeg then none else (k32 (x0) (x1) (x2 + 1) (z_up (z_up (z_up I r9 ((40 * x1) + x2).toNatClampNeg 0) r11 ((40 * x1) + x2).toNatClampNeg 0) r13 x2.toNatClampNeg 0)))))))) else (ob (S.1 x0 23) (fun r1 => ob (z_X9_beginning F S I x0 r1) (fun q2 => ob (S.1 x0 16) (fun r3 => if (40 * x1) < 0 ∨ (S.2.1 r3).2 ≤ (40 * x1).toNatClampNeg then none else (ob (S.1 x0 17) (fun r5 => ob (z_X9_copy F S (z_up q2 r3 (40 * x1).toNatClampNeg 1) r1 0 r5 (800 * x1)) (fun q6 => ob (S.1 x0 25) (fun r7 => if (0 : Int32) < 0 ∨ (S.2.1 r7).2 ≤ (0 : Int32).toNatClampNeg then none else (z_X9_compute_119 F S  F (x0) (x1) (0) (z_up q6 r7 (0 : Int32).toNatClampNeg 1))))))))))
def z_X9_compute_32 (F : Nat) (S : zS)  : Nat → Nat → Int32 → Int32 → zI → Option (Int32 × zI)
  | 0 => fun _ _ _ _ => none
  | n + 1 => fun x0 x1 x2 I => z_X9_compute_32B F S  (z_X9_compute_32 F S  n) x0 x1 x2 I
def z_X9_compute (F : Nat) (S : zS) (I : zI) (x0 : Nat) (x1 : Int32) : Option (Int32 × zI) :=
  ob (z_X9_isMethod F S I x1) (fun q1 => if q1 = 0 then (some ((-1), I)) else (ob (S.1 x0 6) (fun r2 => if x1 < 0 ∨ (S.2.1 r2).2 ≤ x1.toNatClampNeg then none else (if (I r2 x1.toNatClampNeg) = 0 then (some ((-1), I)) else (ob (S.1 x0 15) (fun r4 => if x1 < 0 ∨ (S.2.1 r4).2 ≤ x1.toNatClampNeg then none else (z_X9_compute_32 F S  F (x0) (x1) (0) (z_up (z_up I x0 21 x1) r4 x1.toNatClampNeg 0))))))))
set_option maxRecDepth 100000 in
set_option maxHeartbeats 4000000 in
theorem bb_X9_compute_119 {p : Program} {l : Launch} {e : Env} {s : State} {m : MethodId} {args : Array Value} {below : List Frame} {meth : Method} {c : Code} {D : zD} {b0 : Nat} {F : Nat} {S : zS} {X : Int32 × zI} (hC : z_C p s m args meth c cX9_compute RX9 3 (some .int) D) (hT : z_T b0 S) (k119 : Nat → Int32 → Int32 → zI → Option (Int32 × zI)) (hk119 : ∀ (x0 : Nat) (x1 : Int32) (x2 : Int32) (I : zI) , z_is b0 S x0 9 → k119 x0 x1 x2 I = some X → ∀ ls : Array Slot, lv_has ls 3 [(0, .ref (x0)), (1, .int (x1)), (2, .int (x2))] → z_W p l e { frames := 6, cells := 0, slots := 0, locals := 138 } s m args below meth c D b0 S I 0 0 (MQ below (z_Q D b0 (some (.int (X.1))) S X.2) args s 0 0 (fun q => b0 ≤ q)) (F0 m 119 ls [])) (x0 : Nat) (x1 : Int32) (x2 : Int32) (I : zI) (h_x0 : z_is b0 S x0 9) (hz : z_X9_compute_119B F S k119 x0 x1 x2 I = some X) (ls : Array Slot) (hl : lv_has ls 3 [(0, .ref (x0)), (1, .int (x1)), (2, .int (x2))]) : z_W p l e { frames := 6, cells := 0, slots := 0, locals := 138 } s m args below meth c D b0 S I 0 0 (MQ below (z_Q D b0 (some (.int (X.1))) S X.2) args s 0 0 (fun q => b0 ≤ q)) (F0 m 119 ls []) := by
  unfold z_X9_compute_119B at hz
  refine z_iload_n hC dX9_compute_119 rfl (lv_at hl 2 rfl) ?_
  refine z_if_lt (tgt := 163) hC dX9_compute_120 (by decide) hz (fun hz => ?_) (fun hz => ?_)
  · skip
    refine z_aload_n hC dX9_compute_163 rfl (lv_at hl 0 rfl) ?_
    refine z_iconst (v := 0) hC dX9_compute_164 (by decide) ?_
    refine z_putI hC zc_9 20 (by decide) kw_757 dX9_compute_165 h_x0 rfl rfl rfl rfl ?_
    refine z_aload_n hC dX9_compute_168 rfl (lv_at hl 0 rfl) ?_
    obtain ⟨r1, hr_r1, hz⟩ := ob_some hz
    have hk_r1 : z_is b0 S r1 11 := hT.at h_x0 hr_r1
    refine z_getR hC zc_9 15 (by decide) kw_752 dX9_compute_169 h_x0 rfl hr_r1 ?_
    refine z_iload_n hC dX9_compute_172 rfl (lv_at hl 1 rfl) ?_
    refine z_iconst (v := 1) hC dX9_compute_173 (by decide) ?_
    obtain ⟨hi2, hz⟩ := ifn_some hz
    refine z_zast hC dX9_compute_174 hk_r1 hi2 (z_bool (Or.inr rfl)) ?_
    refine z_aload_n hC dX9_compute_175 rfl (lv_at hl 0 rfl) ?_
    refine z_iload_n hC dX9_compute_176 rfl (lv_at hl 1 rfl) ?_
    obtain ⟨q3, hq_q3, hz⟩ := ob_some hz
    refine z_callV (As := [.int (x1)]) hC hT (c_X9_layFrames F x0 x1 h_x0 hq_q3) zy_X9_layFrames zc_9 zv_X9_layFrames kw_973 dX9_compute_177 h_x0 rfl rfl hl.1 (Nat.le_of_ble_eq_true rfl) (by decide) (by decide) ?_
    obtain rfl := Option.some.inj hz
    exact z_iret hC hT dX9_compute_180 (by decide) (by decide)
  · skip
    refine z_aload_n hC dX9_compute_123 rfl (lv_at hl 0 rfl) ?_
    obtain ⟨r4, hr_r4, hz⟩ := ob_some hz
    have hk_r4 : z_is b0 S r4 11 := hT.at h_x0 hr_r4
    refine z_getR hC zc_9 25 (by decide) kw_762 dX9_compute_124 h_x0 rfl hr_r4 ?_
    refine z_iload_n hC dX9_compute_127 rfl (lv_at hl 2 rfl) ?_
    refine z_iconst (v := 0) hC dX9_compute_128 (by decide) ?_
    obtain ⟨hi5, hz⟩ := ifn_some hz
    refine z_zast hC dX9_compute_129 hk_r4 hi5 (z_bool (Or.inl rfl)) ?_
    refine z_aload_n hC dX9_compute_130 rfl (lv_at hl 0 rfl) ?_
    refine z_iload_n hC dX9_compute_131 rfl (lv_at hl 2 rfl) ?_
    obtain ⟨q6, hq_q6, hz⟩ := ob_some hz
    refine z_callV (As := [.int (x2)]) hC hT (c_X9_works F x0 x2 h_x0 hq_q6) zy_X9_works zc_9 zv_X9_works kw_889 dX9_compute_132 h_x0 rfl rfl hl.1 (Nat.le_of_ble_eq_true rfl) (by decide) (by decide) ?_
    refine z_aload_n hC dX9_compute_135 rfl (lv_at hl 0 rfl) ?_
    refine z_getI hC zc_9 24 (by decide) kw_761 dX9_compute_136 h_x0 rfl ?_
    refine z_if_le (tgt := 155) hC dX9_compute_139 (by decide) hz (fun hz => ?_) (fun hz => ?_)
    · skip
      refine z_aload_n hC dX9_compute_155 rfl (lv_at hl 0 rfl) ?_
      obtain ⟨q7, hq_q7, hz⟩ := ob_some hz
      refine z_callV (As := []) hC hT (c_X9_leastDue F x0 h_x0 hq_q7) zy_X9_leastDue zc_9 zv_X9_leastDue kw_969 dX9_compute_156 h_x0 rfl rfl hl.1 (Nat.le_of_ble_eq_true rfl) (by decide) (by decide) ?_
      refine z_istore_n (lv' := [(2, .int (q7)), (0, .ref (x0)), (1, .int (x1))]) hC dX9_compute_159 rfl hl (by decide) rfl (fun ls hl => ?_)
      refine z_goto (tgt := 119) hC dX9_compute_160 (by decide) ?_
      exact hk119 (x0) (x1) (q7) (q6) h_x0 hz ls (lv_sub hl [1, 2, 0] rfl)
    · skip
      refine z_aload_n hC dX9_compute_142 rfl (lv_at hl 0 rfl) ?_
      refine z_aload_n hC dX9_compute_143 rfl (lv_at hl 0 rfl) ?_
      refine z_getI hC zc_9 24 (by decide) kw_761 dX9_compute_144 h_x0 rfl ?_
      refine z_putI hC zc_9 20 (by decide) kw_757 dX9_compute_147 h_x0 rfl rfl rfl rfl ?_
      refine z_bipush (v := (-10)) hC dX9_compute_150 (by decide) ?_
      refine z_iload_n hC dX9_compute_152 rfl (lv_at hl 2 rfl) ?_
      refine z_isub hC dX9_compute_153 ?_
      obtain rfl := Option.some.inj hz
      exact z_iret hC hT dX9_compute_154 (by decide) (by decide)
set_option maxRecDepth 100000 in
set_option maxHeartbeats 4000000 in
theorem b_X9_compute_119 {p : Program} {l : Launch} {e : Env} {s : State} {m : MethodId} {args : Array Value} {below : List Frame} {meth : Method} {c : Code} {D : zD} {b0 : Nat} {F : Nat} {S : zS} {X : Int32 × zI} (hC : z_C p s m args meth c cX9_compute RX9 3 (some .int) D) (hT : z_T b0 S)   : ∀ (n : Nat) (x0 : Nat) (x1 : Int32) (x2 : Int32) (I : zI), z_is b0 S x0 9 → z_X9_compute_119 F S  n x0 x1 x2 I = some X → ∀ ls : Array Slot, lv_has ls 3 [(0, .ref (x0)), (1, .int (x1)), (2, .int (x2))] → z_W p l e { frames := 6, cells := 0, slots := 0, locals := 138 } s m args below meth c D b0 S I 0 0 (MQ below (z_Q D b0 (some (.int (X.1))) S X.2) args s 0 0 (fun q => b0 ≤ q)) (F0 m 119 ls []) := by
  intro n
  induction n with
  | zero => intro x0 x1 x2 I h_x0 hz; cases hz
  | succ n ih =>
    intro x0 x1 x2 I h_x0 hz ls hl
    exact bb_X9_compute_119 (F := F) hC hT  (z_X9_compute_119 F S  n)  ih x0 x1 x2 I h_x0 hz ls hl
set_option maxRecDepth 100000 in
set_option maxHeartbeats 4000000 in
theorem bb_X9_compute_32 {p : Program} {l : Launch} {e : Env} {s : State} {m : MethodId} {args : Array Value} {below : List Frame} {meth : Method} {c : Code} {D : zD} {b0 : Nat} {F : Nat} {S : zS} {X : Int32 × zI} (hC : z_C p s m args meth c cX9_compute RX9 3 (some .int) D) (hT : z_T b0 S) (k32 : Nat → Int32 → Int32 → zI → Option (Int32 × zI)) (hk32 : ∀ (x0 : Nat) (x1 : Int32) (x2 : Int32) (I : zI) , z_is b0 S x0 9 → k32 x0 x1 x2 I = some X → ∀ ls : Array Slot, lv_has ls 3 [(0, .ref (x0)), (1, .int (x1)), (2, .int (x2))] → z_W p l e { frames := 6, cells := 0, slots := 0, locals := 138 } s m args below meth c D b0 S I 0 0 (MQ below (z_Q D b0 (some (.int (X.1))) S X.2) args s 0 0 (fun q => b0 ≤ q)) (F0 m 32 ls [])) (x0 : Nat) (x1 : Int32) (x2 : Int32) (I : zI) (h_x0 : z_is b0 S x0 9) (hz : z_X9_compute_32B F S k32 x0 x1 x2 I = some X) (ls : Array Slot) (hl : lv_has ls 3 [(0, .ref (x0)), (1, .int (x1)), (2, .int (x2))]) : z_W p l e { frames := 6, cells := 0, slots := 0, locals := 138 } s m args below meth c D b0 S I 0 0 (MQ below (z_Q D b0 (some (.int (X.1))) S X.2) args s 0 0 (fun q => b0 ≤ q)) (F0 m 32 ls []) := by
  unfold z_X9_compute_32B at hz
  refine z_iload_n hC dX9_compute_32 rfl (lv_at hl 2 rfl) ?_
  refine z_bipush (v := 40) hC dX9_compute_33 (by decide) ?_
  refine z_icmp_ge (tgt := 75) hC dX9_compute_35 (by decide) hz (fun hz => ?_) (fun hz => ?_)
  · skip
    refine z_aload_n hC dX9_compute_75 rfl (lv_at hl 0 rfl) ?_
    refine z_aload_n hC dX9_compute_76 rfl (lv_at hl 0 rfl) ?_
    obtain ⟨r1, hr_r1, hz⟩ := ob_some hz
    have hk_r1 : z_is b0 S r1 10 := hT.at h_x0 hr_r1
    refine z_getR hC zc_9 23 (by decide) kw_760 dX9_compute_77 h_x0 rfl hr_r1 ?_
    obtain ⟨q2, hq_q2, hz⟩ := ob_some hz
    refine z_callV (As := [.ref (r1)]) hC hT (c_X9_beginning F x0 r1 h_x0 hk_r1 hq_q2) zy_X9_beginning zc_9 zv_X9_beginning kw_882 dX9_compute_80 h_x0 rfl rfl hl.1 (Nat.le_of_ble_eq_true rfl) (by decide) (by decide) ?_
    refine z_aload_n hC dX9_compute_83 rfl (lv_at hl 0 rfl) ?_
    obtain ⟨r3, hr_r3, hz⟩ := ob_some hz
    have hk_r3 : z_is b0 S r3 11 := hT.at h_x0 hr_r3
    refine z_getR hC zc_9 16 (by decide) kw_753 dX9_compute_84 h_x0 rfl hr_r3 ?_
    refine z_bipush (v := 40) hC dX9_compute_87 (by decide) ?_
    refine z_iload_n hC dX9_compute_89 rfl (lv_at hl 1 rfl) ?_
    refine z_imul hC dX9_compute_90 ?_
    refine z_iconst (v := 1) hC dX9_compute_91 (by decide) ?_
    obtain ⟨hi4, hz⟩ := ifn_some hz
    refine z_zast hC dX9_compute_92 hk_r3 hi4 (z_bool (Or.inr rfl)) ?_
    refine z_aload_n hC dX9_compute_93 rfl (lv_at hl 0 rfl) ?_
    refine z_getR hC zc_9 23 (by decide) kw_760 dX9_compute_94 h_x0 rfl hr_r1 ?_
    refine z_iconst (v := 0) hC dX9_compute_97 (by decide) ?_
    refine z_aload_n hC dX9_compute_98 rfl (lv_at hl 0 rfl) ?_
    obtain ⟨r5, hr_r5, hz⟩ := ob_some hz
    have hk_r5 : z_is b0 S r5 10 := hT.at h_x0 hr_r5
    refine z_getR hC zc_9 17 (by decide) kw_754 dX9_compute_99 h_x0 rfl hr_r5 ?_
    refine z_sipush (v := 800) hC dX9_compute_102 (by decide) ?_
    refine z_iload_n hC dX9_compute_105 rfl (lv_at hl 1 rfl) ?_
    refine z_imul hC dX9_compute_106 ?_
    obtain ⟨q6, hq_q6, hz⟩ := ob_some hz
    refine z_callS (As := [.ref (r1), .int (0), .ref (r5), .int (800 * x1)]) hC hT (c_X9_copy F r1 0 r5 (800 * x1) hk_r1 hk_r5 hq_q6) zy_X9_copy kw_887 kw_886 dX9_compute_107 rfl rfl hl.1 (Nat.le_of_ble_eq_true rfl) (by decide) (by decide) ?_
    refine z_aload_n hC dX9_compute_110 rfl (lv_at hl 0 rfl) ?_
    obtain ⟨r7, hr_r7, hz⟩ := ob_some hz
    have hk_r7 : z_is b0 S r7 11 := hT.at h_x0 hr_r7
    refine z_getR hC zc_9 25 (by decide) kw_762 dX9_compute_111 h_x0 rfl hr_r7 ?_
    refine z_iconst (v := 0) hC dX9_compute_114 (by decide) ?_
    refine z_iconst (v := 1) hC dX9_compute_115 (by decide) ?_
    obtain ⟨hi8, hz⟩ := ifn_some hz
    refine z_zast hC dX9_compute_116 hk_r7 hi8 (z_bool (Or.inr rfl)) ?_
    refine z_iconst (v := 0) hC dX9_compute_117 (by decide) ?_
    refine z_istore_n (lv' := [(2, .int (0)), (0, .ref (x0)), (1, .int (x1))]) hC dX9_compute_118 rfl hl (by decide) rfl (fun ls hl => ?_)
    exact b_X9_compute_119 hC hT   F (x0) (x1) (0) (z_up q6 r7 (0 : Int32).toNatClampNeg 1) h_x0 hz ls (lv_sub hl [1, 2, 0] rfl)
  · skip
    refine z_aload_n hC dX9_compute_38 rfl (lv_at hl 0 rfl) ?_
    obtain ⟨r9, hr_r9, hz⟩ := ob_some hz
    have hk_r9 : z_is b0 S r9 11 := hT.at h_x0 hr_r9
    refine z_getR hC zc_9 16 (by decide) kw_753 dX9_compute_39 h_x0 rfl hr_r9 ?_
    refine z_bipush (v := 40) hC dX9_compute_42 (by decide) ?_
    refine z_iload_n hC dX9_compute_44 rfl (lv_at hl 1 rfl) ?_
    refine z_imul hC dX9_compute_45 ?_
    refine z_iload_n hC dX9_compute_46 rfl (lv_at hl 2 rfl) ?_
    refine z_iadd hC dX9_compute_47 ?_
    refine z_iconst (v := 0) hC dX9_compute_48 (by decide) ?_
    obtain ⟨hi10, hz⟩ := ifn_some hz
    refine z_zast hC dX9_compute_49 hk_r9 hi10 (z_bool (Or.inl rfl)) ?_
    refine z_aload_n hC dX9_compute_50 rfl (lv_at hl 0 rfl) ?_
    obtain ⟨r11, hr_r11, hz⟩ := ob_some hz
    have hk_r11 : z_is b0 S r11 11 := hT.at h_x0 hr_r11
    refine z_getR hC zc_9 18 (by decide) kw_755 dX9_compute_51 h_x0 rfl hr_r11 ?_
    refine z_bipush (v := 40) hC dX9_compute_54 (by decide) ?_
    refine z_iload_n hC dX9_compute_56 rfl (lv_at hl 1 rfl) ?_
    refine z_imul hC dX9_compute_57 ?_
    refine z_iload_n hC dX9_compute_58 rfl (lv_at hl 2 rfl) ?_
    refine z_iadd hC dX9_compute_59 ?_
    refine z_iconst (v := 0) hC dX9_compute_60 (by decide) ?_
    obtain ⟨hi12, hz⟩ := ifn_some hz
    refine z_zast hC dX9_compute_61 hk_r11 hi12 (z_bool (Or.inl rfl)) ?_
    refine z_aload_n hC dX9_compute_62 rfl (lv_at hl 0 rfl) ?_
    obtain ⟨r13, hr_r13, hz⟩ := ob_some hz
    have hk_r13 : z_is b0 S r13 11 := hT.at h_x0 hr_r13
    refine z_getR hC zc_9 25 (by decide) kw_762 dX9_compute_63 h_x0 rfl hr_r13 ?_
    refine z_iload_n hC dX9_compute_66 rfl (lv_at hl 2 rfl) ?_
    refine z_iconst (v := 0) hC dX9_compute_67 (by decide) ?_
    obtain ⟨hi14, hz⟩ := ifn_some hz
    refine z_zast hC dX9_compute_68 hk_r13 hi14 (z_bool (Or.inl rfl)) ?_
    refine z_iinc (k0 := 2) (v := x2 + 1) (lv' := [(2, .int (x2 + 1)), (0, .ref (x0)), (1, .int (x1))]) hC dX9_compute_69 hl rfl rfl (by decide) rfl (fun ls hl => ?_)
    refine z_goto (tgt := 32) hC dX9_compute_72 (by decide) ?_
    exact hk32 (x0) (x1) (x2 + 1) (z_up (z_up (z_up I r9 ((40 * x1) + x2).toNatClampNeg 0) r11 ((40 * x1) + x2).toNatClampNeg 0) r13 x2.toNatClampNeg 0) h_x0 hz ls (lv_sub hl [1, 2, 0] rfl)
set_option maxRecDepth 100000 in
set_option maxHeartbeats 4000000 in
theorem b_X9_compute_32 {p : Program} {l : Launch} {e : Env} {s : State} {m : MethodId} {args : Array Value} {below : List Frame} {meth : Method} {c : Code} {D : zD} {b0 : Nat} {F : Nat} {S : zS} {X : Int32 × zI} (hC : z_C p s m args meth c cX9_compute RX9 3 (some .int) D) (hT : z_T b0 S)   : ∀ (n : Nat) (x0 : Nat) (x1 : Int32) (x2 : Int32) (I : zI), z_is b0 S x0 9 → z_X9_compute_32 F S  n x0 x1 x2 I = some X → ∀ ls : Array Slot, lv_has ls 3 [(0, .ref (x0)), (1, .int (x1)), (2, .int (x2))] → z_W p l e { frames := 6, cells := 0, slots := 0, locals := 138 } s m args below meth c D b0 S I 0 0 (MQ below (z_Q D b0 (some (.int (X.1))) S X.2) args s 0 0 (fun q => b0 ≤ q)) (F0 m 32 ls []) := by
  intro n
  induction n with
  | zero => intro x0 x1 x2 I h_x0 hz; cases hz
  | succ n ih =>
    intro x0 x1 x2 I h_x0 hz ls hl
    exact bb_X9_compute_32 (F := F) hC hT  (z_X9_compute_32 F S  n)  ih x0 x1 x2 I h_x0 hz ls hl
set_option maxRecDepth 100000 in
set_option maxHeartbeats 4000000 in
theorem c_X9_compute {l : Launch} {D : zD} {b0 : Nat} {S : zS} {I : zI} {X : Int32 × zI} (F : Nat) (x0 : Nat) (x1 : Int32) (h_x0 : z_is b0 S x0 9) (hz : z_X9_compute F S I x0 x1 = some X) : z_M l D b0 yX9_compute cX9_compute 3 (some .int) { frames := 6, cells := 0, slots := 0, locals := 138 } [.ref (x0), .int (x1)] S I (some (.int (X.1))) S X.2 := by
  refine z_met (by decide) (Nat.le_of_ble_eq_true rfl) ?_
  intro p e s m below meth c hC hnm hT ls hl
  have hl : lv_has ls 3 [(0, .ref (x0)), (1, .int (x1))] := hl
  unfold z_X9_compute at hz
  refine z_iload_n hC dX9_compute_0 rfl (lv_at hl 1 rfl) ?_
  obtain ⟨q1, hq_q1, hz⟩ := ob_some hz
  refine z_callS (As := [.int (x1)]) hC hT (c_X9_isMethod F x1  hq_q1) zy_X9_isMethod kw_861 kw_860 dX9_compute_1 rfl rfl hl.1 (Nat.le_of_ble_eq_true rfl) (by decide) (by decide) ?_
  refine z_if_eq (tgt := 16) hC dX9_compute_4 (by decide) hz (fun hz => ?_) (fun hz => ?_)
  · skip
    refine z_iconst (v := (-1)) hC dX9_compute_16 (by decide) ?_
    obtain rfl := Option.some.inj hz
    exact z_iret hC hT dX9_compute_17 (by decide) (by decide)
  · skip
    refine z_aload_n hC dX9_compute_7 rfl (lv_at hl 0 rfl) ?_
    obtain ⟨r2, hr_r2, hz⟩ := ob_some hz
    have hk_r2 : z_is b0 S r2 10 := hT.at h_x0 hr_r2
    refine z_getR hC zc_9 6 (by decide) kw_743 dX9_compute_8 h_x0 rfl hr_r2 ?_
    refine z_iload_n hC dX9_compute_11 rfl (lv_at hl 1 rfl) ?_
    obtain ⟨hi3, hz⟩ := ifn_some hz
    refine z_iald hC dX9_compute_12 hk_r2 hi3 ?_
    refine z_if_ne (tgt := 18) hC dX9_compute_13 (by decide) hz (fun hz => ?_) (fun hz => ?_)
    · skip
      refine z_aload_n hC dX9_compute_18 rfl (lv_at hl 0 rfl) ?_
      refine z_iload_n hC dX9_compute_19 rfl (lv_at hl 1 rfl) ?_
      refine z_putI hC zc_9 21 (by decide) kw_758 dX9_compute_20 h_x0 rfl rfl rfl rfl ?_
      refine z_aload_n hC dX9_compute_23 rfl (lv_at hl 0 rfl) ?_
      obtain ⟨r4, hr_r4, hz⟩ := ob_some hz
      have hk_r4 : z_is b0 S r4 11 := hT.at h_x0 hr_r4
      refine z_getR hC zc_9 15 (by decide) kw_752 dX9_compute_24 h_x0 rfl hr_r4 ?_
      refine z_iload_n hC dX9_compute_27 rfl (lv_at hl 1 rfl) ?_
      refine z_iconst (v := 0) hC dX9_compute_28 (by decide) ?_
      obtain ⟨hi5, hz⟩ := ifn_some hz
      refine z_zast hC dX9_compute_29 hk_r4 hi5 (z_bool (Or.inl rfl)) ?_
      refine z_iconst (v := 0) hC dX9_compute_30 (by decide) ?_
      refine z_istore_n (lv' := [(2, .int (0)), (0, .ref (x0)), (1, .int (x1))]) hC dX9_compute_31 rfl hl (by decide) rfl (fun ls hl => ?_)
      exact b_X9_compute_32 hC hT   F (x0) (x1) (0) (z_up (z_up I x0 21 x1) r4 x1.toNatClampNeg 0) h_x0 hz ls (lv_sub hl [1, 2, 0] rfl)
    · skip
      refine z_iconst (v := (-1)) hC dX9_compute_16 (by decide) ?_
      obtain rfl := Option.some.inj hz
      exact z_iret hC hT dX9_compute_17 (by decide) (by decide)
theorem zy_X9_fault : z_y yX9_fault cX9_fault 1 (some .int) 0 := ⟨kw_980, kw_8, by decide +kernel, by decide +kernel, by decide +kernel⟩
theorem zv_X9_fault : Cond.instanceMethod yX9_fault ∈ z_tbl ∧ Cond.selects RX9 yX9_fault yX9_fault ∈ z_tbl := ⟨kw_978, kw_979⟩
def z_X9_fault (F : Nat) (S : zS) (I : zI) (x0 : Nat) : Option (Int32) :=
  some (I x0 20)
set_option maxRecDepth 100000 in
set_option maxHeartbeats 4000000 in
theorem c_X9_fault {l : Launch} {D : zD} {b0 : Nat} {S : zS} {I : zI} {X : Int32} (F : Nat) (x0 : Nat) (h_x0 : z_is b0 S x0 9) (hz : z_X9_fault F S I x0 = some X) : z_M l D b0 yX9_fault cX9_fault 1 (some .int) { frames := 0, cells := 0, slots := 0, locals := 0 } [.ref (x0)] S I (some (.int (X))) S I := by
  refine z_met (by decide) (Nat.le_of_ble_eq_true rfl) ?_
  intro p e s m below meth c hC hnm hT ls hl
  have hl : lv_has ls 1 [(0, .ref (x0))] := hl
  unfold z_X9_fault at hz
  refine z_aload_n hC dX9_fault_0 rfl (lv_at hl 0 rfl) ?_
  refine z_getI hC zc_9 20 (by decide) kw_757 dX9_fault_1 h_x0 rfl ?_
  obtain rfl := Option.some.inj hz
  exact z_iret hC hT dX9_fault_4 (by decide) (by decide)
theorem zy_X9_part : z_y yX9_part cX9_part 4 (some .int) 3 := ⟨kw_991, kw_8, by decide +kernel, by decide +kernel, by decide +kernel⟩
theorem zv_X9_part : Cond.instanceMethod yX9_part ∈ z_tbl ∧ Cond.selects RX9 yX9_part yX9_part ∈ z_tbl := ⟨kw_990, ks_54⟩
def z_X9_part (F : Nat) (S : zS) (I : zI) (x0 : Nat) (x1 : Nat) (x2 : Int32) (x3 : Int32) : Option (Int32) :=
  ob (z_X9_in F S I x3 0 7) (fun q1 => if q1 = 0 then (if x3 = 99 then (if (x2 + 8) < 0 ∨ (S.2.1 x1).2 ≤ (x2 + 8).toNatClampNeg then none else (some (I x1 (x2 + 8).toNatClampNeg))) else (if (x2 + 8) < 0 ∨ (S.2.1 x1).2 ≤ (x2 + 8).toNatClampNeg then none else (ob (z_X9_in F S I (x3 - 100) 0 ((I x1 (x2 + 8).toNatClampNeg) - 1)) (fun q3 => if q3 = 0 then (some ((-5))) else (if (((x2 + 9) + x3) - 100) < 0 ∨ (S.2.1 x1).2 ≤ (((x2 + 9) + x3) - 100).toNatClampNeg then none else (some (I x1 (((x2 + 9) + x3) - 100).toNatClampNeg))))))) else (if (x2 + x3) < 0 ∨ (S.2.1 x1).2 ≤ (x2 + x3).toNatClampNeg then none else (some (I x1 (x2 + x3).toNatClampNeg))))
set_option maxRecDepth 100000 in
set_option maxHeartbeats 4000000 in
theorem c_X9_part {l : Launch} {D : zD} {b0 : Nat} {S : zS} {I : zI} {X : Int32} (F : Nat) (x0 : Nat) (x1 : Nat) (x2 : Int32) (x3 : Int32) (h_x0 : z_is b0 S x0 9) (h_x1 : z_is b0 S x1 10) (hz : z_X9_part F S I x0 x1 x2 x3 = some X) : z_M l D b0 yX9_part cX9_part 4 (some .int) { frames := 1, cells := 0, slots := 0, locals := 22 } [.ref (x0), .ref (x1), .int (x2), .int (x3)] S I (some (.int (X))) S I := by
  refine z_met (by decide) (Nat.le_of_ble_eq_true rfl) ?_
  intro p e s m below meth c hC hnm hT ls hl
  have hl : lv_has ls 4 [(0, .ref (x0)), (1, .ref (x1)), (2, .int (x2)), (3, .int (x3))] := hl
  unfold z_X9_part at hz
  refine z_iload_n hC dX9_part_0 rfl (lv_at hl 3 rfl) ?_
  refine z_iconst (v := 0) hC dX9_part_1 (by decide) ?_
  refine z_bipush (v := 7) hC dX9_part_2 (by decide) ?_
  obtain ⟨q1, hq_q1, hz⟩ := ob_some hz
  refine z_callS (As := [.int (x3), .int (0), .int (7)]) hC hT (c_X9_in F x3 0 7  hq_q1) zy_X9_in kw_834 kw_833 dX9_part_4 rfl rfl hl.1 (Nat.le_of_ble_eq_true rfl) (by decide) (by decide) ?_
  refine z_if_eq (tgt := 16) hC dX9_part_7 (by decide) hz (fun hz => ?_) (fun hz => ?_)
  · skip
    refine z_iload_n hC dX9_part_16 rfl (lv_at hl 3 rfl) ?_
    refine z_bipush (v := 99) hC dX9_part_17 (by decide) ?_
    refine z_icmp_ne (tgt := 29) hC dX9_part_19 (by decide) hz (fun hz => ?_) (fun hz => ?_)
    · skip
      refine z_iload_n hC dX9_part_29 rfl (lv_at hl 3 rfl) ?_
      refine z_bipush (v := 100) hC dX9_part_30 (by decide) ?_
      refine z_isub hC dX9_part_32 ?_
      refine z_iconst (v := 0) hC dX9_part_33 (by decide) ?_
      refine z_aload_n hC dX9_part_34 rfl (lv_at hl 1 rfl) ?_
      refine z_iload_n hC dX9_part_35 rfl (lv_at hl 2 rfl) ?_
      refine z_bipush (v := 8) hC dX9_part_36 (by decide) ?_
      refine z_iadd hC dX9_part_38 ?_
      obtain ⟨hi2, hz⟩ := ifn_some hz
      refine z_iald hC dX9_part_39 h_x1 hi2 ?_
      refine z_iconst (v := 1) hC dX9_part_40 (by decide) ?_
      refine z_isub hC dX9_part_41 ?_
      obtain ⟨q3, hq_q3, hz⟩ := ob_some hz
      refine z_callS (As := [.int (x3 - 100), .int (0), .int ((I x1 (x2 + 8).toNatClampNeg) - 1)]) hC hT (c_X9_in F (x3 - 100) 0 ((I x1 (x2 + 8).toNatClampNeg) - 1)  hq_q3) zy_X9_in kw_834 kw_833 dX9_part_42 rfl rfl hl.1 (Nat.le_of_ble_eq_true rfl) (by decide) (by decide) ?_
      refine z_if_eq (tgt := 62) hC dX9_part_45 (by decide) hz (fun hz => ?_) (fun hz => ?_)
      · skip
        refine z_bipush (v := (-5)) hC dX9_part_62 (by decide) ?_
        obtain rfl := Option.some.inj hz
        exact z_iret hC hT dX9_part_64 (by decide) (by decide)
      · skip
        refine z_aload_n hC dX9_part_48 rfl (lv_at hl 1 rfl) ?_
        refine z_iload_n hC dX9_part_49 rfl (lv_at hl 2 rfl) ?_
        refine z_bipush (v := 9) hC dX9_part_50 (by decide) ?_
        refine z_iadd hC dX9_part_52 ?_
        refine z_iload_n hC dX9_part_53 rfl (lv_at hl 3 rfl) ?_
        refine z_iadd hC dX9_part_54 ?_
        refine z_bipush (v := 100) hC dX9_part_55 (by decide) ?_
        refine z_isub hC dX9_part_57 ?_
        obtain ⟨hi4, hz⟩ := ifn_some hz
        refine z_iald hC dX9_part_58 h_x1 hi4 ?_
        refine z_goto (tgt := 64) hC dX9_part_59 (by decide) ?_
        obtain rfl := Option.some.inj hz
        exact z_iret hC hT dX9_part_64 (by decide) (by decide)
    · skip
      refine z_aload_n hC dX9_part_22 rfl (lv_at hl 1 rfl) ?_
      refine z_iload_n hC dX9_part_23 rfl (lv_at hl 2 rfl) ?_
      refine z_bipush (v := 8) hC dX9_part_24 (by decide) ?_
      refine z_iadd hC dX9_part_26 ?_
      obtain ⟨hi5, hz⟩ := ifn_some hz
      refine z_iald hC dX9_part_27 h_x1 hi5 ?_
      obtain rfl := Option.some.inj hz
      exact z_iret hC hT dX9_part_28 (by decide) (by decide)
  · skip
    refine z_aload_n hC dX9_part_10 rfl (lv_at hl 1 rfl) ?_
    refine z_iload_n hC dX9_part_11 rfl (lv_at hl 2 rfl) ?_
    refine z_iload_n hC dX9_part_12 rfl (lv_at hl 3 rfl) ?_
    refine z_iadd hC dX9_part_13 ?_
    obtain ⟨hi6, hz⟩ := ifn_some hz
    refine z_iald hC dX9_part_14 h_x1 hi6 ?_
    obtain rfl := Option.some.inj hz
    exact z_iret hC hT dX9_part_15 (by decide) (by decide)
theorem zy_X9_isAsked : z_y yX9_isAsked cX9_isAsked 1 (some .boolean) 1 := ⟨kw_987, kw_8, by decide +kernel, by decide +kernel, by decide +kernel⟩
def z_X9_isAsked (F : Nat) (S : zS) (I : zI) (x0 : Int32) : Option (Int32) :=
  ob (z_X9_in F S I x0 0 7) (fun q1 => if q1 = 0 then (if x0 = 99 then (some (1)) else (ob (z_X9_in F S I x0 100 109) (fun q2 => if q2 = 0 then (some (0)) else (some (1))))) else (some (1)))
set_option maxRecDepth 100000 in
set_option maxHeartbeats 4000000 in
theorem c_X9_isAsked {l : Launch} {D : zD} {b0 : Nat} {S : zS} {I : zI} {X : Int32} (F : Nat) (x0 : Int32)  (hz : z_X9_isAsked F S I x0 = some X) : z_M l D b0 yX9_isAsked cX9_isAsked 1 (some .boolean) { frames := 1, cells := 0, slots := 0, locals := 22 } [.int (x0)] S I (some (.int (X))) S I := by
  refine z_met (by decide) (Nat.le_of_ble_eq_true rfl) ?_
  intro p e s m below meth c hC hnm hT ls hl
  have hl : lv_has ls 1 [(0, .int (x0))] := hl
  unfold z_X9_isAsked at hz
  refine z_iload_n hC dX9_isAsked_0 rfl (lv_at hl 0 rfl) ?_
  refine z_iconst (v := 0) hC dX9_isAsked_1 (by decide) ?_
  refine z_bipush (v := 7) hC dX9_isAsked_2 (by decide) ?_
  obtain ⟨q1, hq_q1, hz⟩ := ob_some hz
  refine z_callS (As := [.int (x0), .int (0), .int (7)]) hC hT (c_X9_in F x0 0 7  hq_q1) zy_X9_in kw_834 kw_833 dX9_isAsked_4 rfl rfl hl.1 (Nat.le_of_ble_eq_true rfl) (by decide) (by decide) ?_
  refine z_if_ne (tgt := 27) hC dX9_isAsked_7 (by decide) hz (fun hz => ?_) (fun hz => ?_)
  · skip
    refine z_iconst (v := 1) hC dX9_isAsked_27 (by decide) ?_
    refine z_goto (tgt := 32) hC dX9_isAsked_28 (by decide) ?_
    obtain rfl := Option.some.inj hz
    exact z_zret hC hT dX9_isAsked_32 (Or.inr rfl) (by decide) (by decide)
  · skip
    refine z_iload_n hC dX9_isAsked_10 rfl (lv_at hl 0 rfl) ?_
    refine z_bipush (v := 99) hC dX9_isAsked_11 (by decide) ?_
    refine z_icmp_eq (tgt := 27) hC dX9_isAsked_13 (by decide) hz (fun hz => ?_) (fun hz => ?_)
    · skip
      refine z_iconst (v := 1) hC dX9_isAsked_27 (by decide) ?_
      refine z_goto (tgt := 32) hC dX9_isAsked_28 (by decide) ?_
      obtain rfl := Option.some.inj hz
      exact z_zret hC hT dX9_isAsked_32 (Or.inr rfl) (by decide) (by decide)
    · skip
      refine z_iload_n hC dX9_isAsked_16 rfl (lv_at hl 0 rfl) ?_
      refine z_bipush (v := 100) hC dX9_isAsked_17 (by decide) ?_
      refine z_bipush (v := 109) hC dX9_isAsked_19 (by decide) ?_
      obtain ⟨q2, hq_q2, hz⟩ := ob_some hz
      refine z_callS (As := [.int (x0), .int (100), .int (109)]) hC hT (c_X9_in F x0 100 109  hq_q2) zy_X9_in kw_834 kw_833 dX9_isAsked_21 rfl rfl hl.1 (Nat.le_of_ble_eq_true rfl) (by decide) (by decide) ?_
      refine z_if_eq (tgt := 31) hC dX9_isAsked_24 (by decide) hz (fun hz => ?_) (fun hz => ?_)
      · skip
        refine z_iconst (v := 0) hC dX9_isAsked_31 (by decide) ?_
        obtain rfl := Option.some.inj hz
        exact z_zret hC hT dX9_isAsked_32 (Or.inl rfl) (by decide) (by decide)
      · skip
        refine z_iconst (v := 1) hC dX9_isAsked_27 (by decide) ?_
        refine z_goto (tgt := 32) hC dX9_isAsked_28 (by decide) ?_
        obtain rfl := Option.some.inj hz
        exact z_zret hC hT dX9_isAsked_32 (Or.inr rfl) (by decide) (by decide)
theorem zy_X9_state : z_y yX9_state cX9_state 5 (some .int) 3 := ⟨kw_984, kw_8, by decide +kernel, by decide +kernel, by decide +kernel⟩
theorem zv_X9_state : Cond.instanceMethod yX9_state ∈ z_tbl ∧ Cond.selects RX9 yX9_state yX9_state ∈ z_tbl := ⟨kw_982, kw_983⟩
def z_X9_state (F : Nat) (S : zS) (I : zI) (x0 : Nat) (x1 : Int32) (x2 : Int32) (x3 : Int32) : Option (Int32) :=
  ob (z_X9_isMethod F S I x1) (fun q1 => if q1 = 0 then (some ((-1))) else (ob (S.1 x0 6) (fun r2 => if x1 < 0 ∨ (S.2.1 r2).2 ≤ x1.toNatClampNeg then none else (ob (z_X9_in F S I x2 0 ((I r2 x1.toNatClampNeg) - 1)) (fun q4 => if q4 = 0 then (some ((-1))) else (ob (z_X9_isAsked F S I x3) (fun q5 => if q5 = 0 then (some ((-1))) else (ob (S.1 x0 15) (fun r6 => if x1 < 0 ∨ (S.2.1 r6).2 ≤ x1.toNatClampNeg then none else (if (I r6 x1.toNatClampNeg) = 0 then (some ((-3))) else (ob (S.1 x0 16) (fun r8 => if ((40 * x1) + x2) < 0 ∨ (S.2.1 r8).2 ≤ ((40 * x1) + x2).toNatClampNeg then none else (if (I r8 ((40 * x1) + x2).toNatClampNeg) = 0 then (some ((-4))) else (ob (S.1 x0 17) (fun r10 => ob (z_X9_part F S I x0 r10 (20 * ((40 * x1) + x2)) x3) (fun q11 => if q11 < (-4) then (some ((-1))) else (some (q11))))))))))))))))))
set_option maxRecDepth 100000 in
set_option maxHeartbeats 4000000 in
theorem c_X9_state {l : Launch} {D : zD} {b0 : Nat} {S : zS} {I : zI} {X : Int32} (F : Nat) (x0 : Nat) (x1 : Int32) (x2 : Int32) (x3 : Int32) (h_x0 : z_is b0 S x0 9) (hz : z_X9_state F S I x0 x1 x2 x3 = some X) : z_M l D b0 yX9_state cX9_state 5 (some .int) { frames := 2, cells := 0, slots := 0, locals := 45 } [.ref (x0), .int (x1), .int (x2), .int (x3)] S I (some (.int (X))) S I := by
  refine z_met (by decide) (Nat.le_of_ble_eq_true rfl) ?_
  intro p e s m below meth c hC hnm hT ls hl
  have hl : lv_has ls 5 [(0, .ref (x0)), (1, .int (x1)), (2, .int (x2)), (3, .int (x3))] := hl
  unfold z_X9_state at hz
  refine z_iload_n hC dX9_state_0 rfl (lv_at hl 1 rfl) ?_
  obtain ⟨q1, hq_q1, hz⟩ := ob_some hz
  refine z_callS (As := [.int (x1)]) hC hT (c_X9_isMethod F x1  hq_q1) zy_X9_isMethod kw_861 kw_860 dX9_state_1 rfl rfl hl.1 (Nat.le_of_ble_eq_true rfl) (by decide) (by decide) ?_
  refine z_if_eq (tgt := 30) hC dX9_state_4 (by decide) hz (fun hz => ?_) (fun hz => ?_)
  · skip
    refine z_iconst (v := (-1)) hC dX9_state_30 (by decide) ?_
    obtain rfl := Option.some.inj hz
    exact z_iret hC hT dX9_state_31 (by decide) (by decide)
  · skip
    refine z_iload_n hC dX9_state_7 rfl (lv_at hl 2 rfl) ?_
    refine z_iconst (v := 0) hC dX9_state_8 (by decide) ?_
    refine z_aload_n hC dX9_state_9 rfl (lv_at hl 0 rfl) ?_
    obtain ⟨r2, hr_r2, hz⟩ := ob_some hz
    have hk_r2 : z_is b0 S r2 10 := hT.at h_x0 hr_r2
    refine z_getR hC zc_9 6 (by decide) kw_743 dX9_state_10 h_x0 rfl hr_r2 ?_
    refine z_iload_n hC dX9_state_13 rfl (lv_at hl 1 rfl) ?_
    obtain ⟨hi3, hz⟩ := ifn_some hz
    refine z_iald hC dX9_state_14 hk_r2 hi3 ?_
    refine z_iconst (v := 1) hC dX9_state_15 (by decide) ?_
    refine z_isub hC dX9_state_16 ?_
    obtain ⟨q4, hq_q4, hz⟩ := ob_some hz
    refine z_callS (As := [.int (x2), .int (0), .int ((I r2 x1.toNatClampNeg) - 1)]) hC hT (c_X9_in F x2 0 ((I r2 x1.toNatClampNeg) - 1)  hq_q4) zy_X9_in kw_834 kw_833 dX9_state_17 rfl rfl hl.1 (Nat.le_of_ble_eq_true rfl) (by decide) (by decide) ?_
    refine z_if_eq (tgt := 30) hC dX9_state_20 (by decide) hz (fun hz => ?_) (fun hz => ?_)
    · skip
      refine z_iconst (v := (-1)) hC dX9_state_30 (by decide) ?_
      obtain rfl := Option.some.inj hz
      exact z_iret hC hT dX9_state_31 (by decide) (by decide)
    · skip
      refine z_iload_n hC dX9_state_23 rfl (lv_at hl 3 rfl) ?_
      obtain ⟨q5, hq_q5, hz⟩ := ob_some hz
      refine z_callS (As := [.int (x3)]) hC hT (c_X9_isAsked F x3  hq_q5) zy_X9_isAsked kw_986 kw_985 dX9_state_24 rfl rfl hl.1 (Nat.le_of_ble_eq_true rfl) (by decide) (by decide) ?_
      refine z_if_ne (tgt := 32) hC dX9_state_27 (by decide) hz (fun hz => ?_) (fun hz => ?_)
      · skip
        refine z_aload_n hC dX9_state_32 rfl (lv_at hl 0 rfl) ?_
        obtain ⟨r6, hr_r6, hz⟩ := ob_some hz
        have hk_r6 : z_is b0 S r6 11 := hT.at h_x0 hr_r6
        refine z_getR hC zc_9 15 (by decide) kw_752 dX9_state_33 h_x0 rfl hr_r6 ?_
        refine z_iload_n hC dX9_state_36 rfl (lv_at hl 1 rfl) ?_
        obtain ⟨hi7, hz⟩ := ifn_some hz
        refine z_zald hC dX9_state_37 hk_r6 hi7 ?_
        refine z_if_ne (tgt := 44) hC dX9_state_38 (by decide) hz (fun hz => ?_) (fun hz => ?_)
        · skip
          refine z_aload_n hC dX9_state_44 rfl (lv_at hl 0 rfl) ?_
          obtain ⟨r8, hr_r8, hz⟩ := ob_some hz
          have hk_r8 : z_is b0 S r8 11 := hT.at h_x0 hr_r8
          refine z_getR hC zc_9 16 (by decide) kw_753 dX9_state_45 h_x0 rfl hr_r8 ?_
          refine z_bipush (v := 40) hC dX9_state_48 (by decide) ?_
          refine z_iload_n hC dX9_state_50 rfl (lv_at hl 1 rfl) ?_
          refine z_imul hC dX9_state_51 ?_
          refine z_iload_n hC dX9_state_52 rfl (lv_at hl 2 rfl) ?_
          refine z_iadd hC dX9_state_53 ?_
          obtain ⟨hi9, hz⟩ := ifn_some hz
          refine z_zald hC dX9_state_54 hk_r8 hi9 ?_
          refine z_if_ne (tgt := 61) hC dX9_state_55 (by decide) hz (fun hz => ?_) (fun hz => ?_)
          · skip
            refine z_aload_n hC dX9_state_61 rfl (lv_at hl 0 rfl) ?_
            refine z_aload_n hC dX9_state_62 rfl (lv_at hl 0 rfl) ?_
            obtain ⟨r10, hr_r10, hz⟩ := ob_some hz
            have hk_r10 : z_is b0 S r10 10 := hT.at h_x0 hr_r10
            refine z_getR hC zc_9 17 (by decide) kw_754 dX9_state_63 h_x0 rfl hr_r10 ?_
            refine z_bipush (v := 20) hC dX9_state_66 (by decide) ?_
            refine z_bipush (v := 40) hC dX9_state_68 (by decide) ?_
            refine z_iload_n hC dX9_state_70 rfl (lv_at hl 1 rfl) ?_
            refine z_imul hC dX9_state_71 ?_
            refine z_iload_n hC dX9_state_72 rfl (lv_at hl 2 rfl) ?_
            refine z_iadd hC dX9_state_73 ?_
            refine z_imul hC dX9_state_74 ?_
            refine z_iload_n hC dX9_state_75 rfl (lv_at hl 3 rfl) ?_
            obtain ⟨q11, hq_q11, hz⟩ := ob_some hz
            refine z_callV (As := [.ref (r10), .int (20 * ((40 * x1) + x2)), .int (x3)]) hC hT (c_X9_part F x0 r10 (20 * ((40 * x1) + x2)) x3 h_x0 hk_r10 hq_q11) zy_X9_part zc_9 zv_X9_part kw_988 dX9_state_76 h_x0 rfl rfl hl.1 (Nat.le_of_ble_eq_true rfl) (by decide) (by decide) ?_
            refine z_istore (lv' := [(4, .int (q11)), (0, .ref (x0)), (1, .int (x1)), (2, .int (x2)), (3, .int (x3))]) hC dX9_state_79 hl (by decide) rfl (fun ls hl => ?_)
            refine z_iload hC dX9_state_81 (lv_at hl 0 rfl) ?_
            refine z_bipush (v := (-4)) hC dX9_state_83 (by decide) ?_
            refine z_icmp_ge (tgt := 92) hC dX9_state_85 (by decide) hz (fun hz => ?_) (fun hz => ?_)
            · skip
              refine z_iload hC dX9_state_92 (lv_at hl 0 rfl) ?_
              obtain rfl := Option.some.inj hz
              exact z_iret hC hT dX9_state_94 (by decide) (by decide)
            · skip
              refine z_iconst (v := (-1)) hC dX9_state_88 (by decide) ?_
              refine z_goto (tgt := 94) hC dX9_state_89 (by decide) ?_
              obtain rfl := Option.some.inj hz
              exact z_iret hC hT dX9_state_94 (by decide) (by decide)
          · skip
            refine z_bipush (v := (-4)) hC dX9_state_58 (by decide) ?_
            obtain rfl := Option.some.inj hz
            exact z_iret hC hT dX9_state_60 (by decide) (by decide)
        · skip
          refine z_bipush (v := (-3)) hC dX9_state_41 (by decide) ?_
          obtain rfl := Option.some.inj hz
          exact z_iret hC hT dX9_state_43 (by decide) (by decide)
      · skip
        refine z_iconst (v := (-1)) hC dX9_state_30 (by decide) ?_
        obtain rfl := Option.some.inj hz
        exact z_iret hC hT dX9_state_31 (by decide) (by decide)
theorem zy_X9_frameCount : z_y yX9_frameCount cX9_frameCount 4 (some .int) 1 := ⟨kw_1046, kw_8, by decide +kernel, by decide +kernel, by decide +kernel⟩
theorem zv_X9_frameCount : Cond.instanceMethod yX9_frameCount ∈ z_tbl ∧ Cond.selects RX9 yX9_frameCount yX9_frameCount ∈ z_tbl := ⟨kw_1045, ks_60⟩
def z_X9_frameCount_34 (F : Nat) (S : zS) (I : zI) (k4 : Nat → Int32 → Int32 → Int32 → Option (Int32)) (x0 : Nat) (x1 : Int32) (x3 : Int32) (y0 : Int32) (y1 : Int32) : Option (Int32) :=
  k4 (x0) (x1) (y0 + y1) (x3 + 1)
def z_X9_frameCount_4B (F : Nat) (S : zS) (I : zI) (k4 : Nat → Int32 → Int32 → Int32 → Option (Int32)) (x0 : Nat) (x1 : Int32) (x2 : Int32) (x3 : Int32) : Option (Int32) :=
  ob (S.1 x0 6) (fun r1 => if x1 < 0 ∨ (S.2.1 r1).2 ≤ x1.toNatClampNeg then none else (if x3 < (I r1 x1.toNatClampNeg) then (ob (S.1 x0 18) (fun r3 => if ((40 * x1) + x3) < 0 ∨ (S.2.1 r3).2 ≤ ((40 * x1) + x3).toNatClampNeg then none else (if (I r3 ((40 * x1) + x3).toNatClampNeg) = 0 then (z_X9_frameCount_34 F S I k4 (x0) (x1) (x3) (x2) (0)) else (z_X9_frameCount_34 F S I k4 (x0) (x1) (x3) (x2) (1))))) else (some (x2))))
def z_X9_frameCount_4 (F : Nat) (S : zS) (I : zI)  : Nat → Nat → Int32 → Int32 → Int32 → Option (Int32)
  | 0 => fun _ _ _ _ => none
  | n + 1 => fun x0 x1 x2 x3 => z_X9_frameCount_4B F S I  (z_X9_frameCount_4 F S I  n) x0 x1 x2 x3
def z_X9_frameCount (F : Nat) (S : zS) (I : zI) (x0 : Nat) (x1 : Int32) : Option (Int32) :=
  z_X9_frameCount_4 F S I  F (x0) (x1) (0) (0)
set_option maxRecDepth 100000 in
set_option maxHeartbeats 4000000 in
theorem b_X9_frameCount_34 {p : Program} {l : Launch} {e : Env} {s : State} {m : MethodId} {args : Array Value} {below : List Frame} {meth : Method} {c : Code} {D : zD} {b0 : Nat} {F : Nat} {S : zS} {I : zI} {X : Int32} (hC : z_C p s m args meth c cX9_frameCount RX9 4 (some .int) D) (hT : z_T b0 S) (k4 : Nat → Int32 → Int32 → Int32 → Option (Int32)) (hk4 : ∀ (x0 : Nat) (x1 : Int32) (x2 : Int32) (x3 : Int32) , z_is b0 S x0 9 → k4 x0 x1 x2 x3 = some X → ∀ ls : Array Slot, lv_has ls 4 [(0, .ref (x0)), (1, .int (x1)), (2, .int (x2)), (3, .int (x3))] → z_W p l e { frames := 0, cells := 0, slots := 0, locals := 0 } s m args below meth c D b0 S I 0 0 (MQ below (z_Q D b0 (some (.int (X))) S I) args s 0 0 (fun q => b0 ≤ q)) (F0 m 4 ls [])) (x0 : Nat) (x1 : Int32) (x3 : Int32) (y0 : Int32) (y1 : Int32) (h_x0 : z_is b0 S x0 9) (hz : z_X9_frameCount_34 F S I k4 x0 x1 x3 y0 y1 = some X) (ls : Array Slot) (hl : lv_has ls 4 [(0, .ref (x0)), (1, .int (x1)), (3, .int (x3))]) : z_W p l e { frames := 0, cells := 0, slots := 0, locals := 0 } s m args below meth c D b0 S I 0 0 (MQ below (z_Q D b0 (some (.int (X))) S I) args s 0 0 (fun q => b0 ≤ q)) (F0 m 34 ls [.int (y1), .int (y0)]) := by
  unfold z_X9_frameCount_34 at hz
  refine z_iadd hC dX9_frameCount_34 ?_
  refine z_istore_n (lv' := [(2, .int (y0 + y1)), (0, .ref (x0)), (1, .int (x1)), (3, .int (x3))]) hC dX9_frameCount_35 rfl hl (by decide) rfl (fun ls hl => ?_)
  refine z_iinc (k0 := 3) (v := x3 + 1) (lv' := [(3, .int (x3 + 1)), (2, .int (y0 + y1)), (0, .ref (x0)), (1, .int (x1))]) hC dX9_frameCount_36 hl rfl rfl (by decide) rfl (fun ls hl => ?_)
  refine z_goto (tgt := 4) hC dX9_frameCount_39 (by decide) ?_
  exact hk4 (x0) (x1) (y0 + y1) (x3 + 1) h_x0 hz ls (lv_sub hl [2, 3, 1, 0] rfl)
set_option maxRecDepth 100000 in
set_option maxHeartbeats 4000000 in
theorem bb_X9_frameCount_4 {p : Program} {l : Launch} {e : Env} {s : State} {m : MethodId} {args : Array Value} {below : List Frame} {meth : Method} {c : Code} {D : zD} {b0 : Nat} {F : Nat} {S : zS} {I : zI} {X : Int32} (hC : z_C p s m args meth c cX9_frameCount RX9 4 (some .int) D) (hT : z_T b0 S) (k4 : Nat → Int32 → Int32 → Int32 → Option (Int32)) (hk4 : ∀ (x0 : Nat) (x1 : Int32) (x2 : Int32) (x3 : Int32) , z_is b0 S x0 9 → k4 x0 x1 x2 x3 = some X → ∀ ls : Array Slot, lv_has ls 4 [(0, .ref (x0)), (1, .int (x1)), (2, .int (x2)), (3, .int (x3))] → z_W p l e { frames := 0, cells := 0, slots := 0, locals := 0 } s m args below meth c D b0 S I 0 0 (MQ below (z_Q D b0 (some (.int (X))) S I) args s 0 0 (fun q => b0 ≤ q)) (F0 m 4 ls [])) (x0 : Nat) (x1 : Int32) (x2 : Int32) (x3 : Int32) (h_x0 : z_is b0 S x0 9) (hz : z_X9_frameCount_4B F S I k4 x0 x1 x2 x3 = some X) (ls : Array Slot) (hl : lv_has ls 4 [(0, .ref (x0)), (1, .int (x1)), (2, .int (x2)), (3, .int (x3))]) : z_W p l e { frames := 0, cells := 0, slots := 0, locals := 0 } s m args below meth c D b0 S I 0 0 (MQ below (z_Q D b0 (some (.int (X))) S I) args s 0 0 (fun q => b0 ≤ q)) (F0 m 4 ls []) := by
  unfold z_X9_frameCount_4B at hz
  refine z_iload_n hC dX9_frameCount_4 rfl (lv_at hl 3 rfl) ?_
  refine z_aload_n hC dX9_frameCount_5 rfl (lv_at hl 0 rfl) ?_
  obtain ⟨r1, hr_r1, hz⟩ := ob_some hz
  have hk_r1 : z_is b0 S r1 10 := hT.at h_x0 hr_r1
  refine z_getR hC zc_9 6 (by decide) kw_743 dX9_frameCount_6 h_x0 rfl hr_r1 ?_
  refine z_iload_n hC dX9_frameCount_9 rfl (lv_at hl 1 rfl) ?_
  obtain ⟨hi2, hz⟩ := ifn_some hz
  refine z_iald hC dX9_frameCount_10 hk_r1 hi2 ?_
  refine z_icmp_ge (tgt := 42) hC dX9_frameCount_11 (by decide) hz (fun hz => ?_) (fun hz => ?_)
  · skip
    refine z_iload_n hC dX9_frameCount_42 rfl (lv_at hl 2 rfl) ?_
    obtain rfl := Option.some.inj hz
    exact z_iret hC hT dX9_frameCount_43 (by decide) (by decide)
  · skip
    refine z_iload_n hC dX9_frameCount_14 rfl (lv_at hl 2 rfl) ?_
    refine z_aload_n hC dX9_frameCount_15 rfl (lv_at hl 0 rfl) ?_
    obtain ⟨r3, hr_r3, hz⟩ := ob_some hz
    have hk_r3 : z_is b0 S r3 11 := hT.at h_x0 hr_r3
    refine z_getR hC zc_9 18 (by decide) kw_755 dX9_frameCount_16 h_x0 rfl hr_r3 ?_
    refine z_bipush (v := 40) hC dX9_frameCount_19 (by decide) ?_
    refine z_iload_n hC dX9_frameCount_21 rfl (lv_at hl 1 rfl) ?_
    refine z_imul hC dX9_frameCount_22 ?_
    refine z_iload_n hC dX9_frameCount_23 rfl (lv_at hl 3 rfl) ?_
    refine z_iadd hC dX9_frameCount_24 ?_
    obtain ⟨hi4, hz⟩ := ifn_some hz
    refine z_zald hC dX9_frameCount_25 hk_r3 hi4 ?_
    refine z_if_eq (tgt := 33) hC dX9_frameCount_26 (by decide) hz (fun hz => ?_) (fun hz => ?_)
    · skip
      refine z_iconst (v := 0) hC dX9_frameCount_33 (by decide) ?_
      exact b_X9_frameCount_34 hC hT k4 hk4 (x0) (x1) (x3) (x2) (0) h_x0 hz ls (lv_sub hl [0, 1, 3] rfl)
    · skip
      refine z_iconst (v := 1) hC dX9_frameCount_29 (by decide) ?_
      refine z_goto (tgt := 34) hC dX9_frameCount_30 (by decide) ?_
      exact b_X9_frameCount_34 hC hT k4 hk4 (x0) (x1) (x3) (x2) (1) h_x0 hz ls (lv_sub hl [0, 1, 3] rfl)
set_option maxRecDepth 100000 in
set_option maxHeartbeats 4000000 in
theorem b_X9_frameCount_4 {p : Program} {l : Launch} {e : Env} {s : State} {m : MethodId} {args : Array Value} {below : List Frame} {meth : Method} {c : Code} {D : zD} {b0 : Nat} {F : Nat} {S : zS} {I : zI} {X : Int32} (hC : z_C p s m args meth c cX9_frameCount RX9 4 (some .int) D) (hT : z_T b0 S)   : ∀ (n : Nat) (x0 : Nat) (x1 : Int32) (x2 : Int32) (x3 : Int32), z_is b0 S x0 9 → z_X9_frameCount_4 F S I  n x0 x1 x2 x3 = some X → ∀ ls : Array Slot, lv_has ls 4 [(0, .ref (x0)), (1, .int (x1)), (2, .int (x2)), (3, .int (x3))] → z_W p l e { frames := 0, cells := 0, slots := 0, locals := 0 } s m args below meth c D b0 S I 0 0 (MQ below (z_Q D b0 (some (.int (X))) S I) args s 0 0 (fun q => b0 ≤ q)) (F0 m 4 ls []) := by
  intro n
  induction n with
  | zero => intro x0 x1 x2 x3 h_x0 hz; cases hz
  | succ n ih =>
    intro x0 x1 x2 x3 h_x0 hz ls hl
    exact bb_X9_frameCount_4 (F := F) hC hT  (z_X9_frameCount_4 F S I  n)  ih x0 x1 x2 x3 h_x0 hz ls hl
set_option maxRecDepth 100000 in
set_option maxHeartbeats 4000000 in
theorem c_X9_frameCount {l : Launch} {D : zD} {b0 : Nat} {S : zS} {I : zI} {X : Int32} (F : Nat) (x0 : Nat) (x1 : Int32) (h_x0 : z_is b0 S x0 9) (hz : z_X9_frameCount F S I x0 x1 = some X) : z_M l D b0 yX9_frameCount cX9_frameCount 4 (some .int) { frames := 0, cells := 0, slots := 0, locals := 0 } [.ref (x0), .int (x1)] S I (some (.int (X))) S I := by
  refine z_met (by decide) (Nat.le_of_ble_eq_true rfl) ?_
  intro p e s m below meth c hC hnm hT ls hl
  have hl : lv_has ls 4 [(0, .ref (x0)), (1, .int (x1))] := hl
  unfold z_X9_frameCount at hz
  refine z_iconst (v := 0) hC dX9_frameCount_0 (by decide) ?_
  refine z_istore_n (lv' := [(2, .int (0)), (0, .ref (x0)), (1, .int (x1))]) hC dX9_frameCount_1 rfl hl (by decide) rfl (fun ls hl => ?_)
  refine z_iconst (v := 0) hC dX9_frameCount_2 (by decide) ?_
  refine z_istore_n (lv' := [(3, .int (0)), (2, .int (0)), (0, .ref (x0)), (1, .int (x1))]) hC dX9_frameCount_3 rfl hl (by decide) rfl (fun ls hl => ?_)
  exact b_X9_frameCount_4 hC hT   F (x0) (x1) (0) (0) h_x0 hz ls (lv_sub hl [2, 3, 1, 0] rfl)
theorem zy_X9_actOf : z_y yX9_actOf cX9_actOf 5 (some .int) 2 := ⟨kw_999, kw_8, by decide +kernel, by decide +kernel, by decide +kernel⟩
theorem zv_X9_actOf : Cond.instanceMethod yX9_actOf ∈ z_tbl ∧ Cond.selects RX9 yX9_actOf yX9_actOf ∈ z_tbl := ⟨kw_998, ks_55⟩
def z_X9_actOf_14B (F : Nat) (S : zS) (I : zI) (k14 : Nat → Int32 → Int32 → Int32 → Option (Int32)) (x0 : Nat) (x1 : Int32) (x3 : Int32) (x4 : Int32) : Option (Int32) :=
  ob (S.1 x0 6) (fun r1 => if x1 < 0 ∨ (S.2.1 r1).2 ≤ x1.toNatClampNeg then none else (if x4 < (I r1 x1.toNatClampNeg) then (ob (S.1 x0 18) (fun r3 => if ((40 * x1) + x4) < 0 ∨ (S.2.1 r3).2 ≤ ((40 * x1) + x4).toNatClampNeg then none else (if (I r3 ((40 * x1) + x4).toNatClampNeg) = 0 then (k14 (x0) (x1) (x3) (x4 + 1)) else (if x3 = 0 then (some (x4)) else (k14 (x0) (x1) (x3 + (-1)) (x4 + 1)))))) else (some ((-1)))))
def z_X9_actOf_14 (F : Nat) (S : zS) (I : zI)  : Nat → Nat → Int32 → Int32 → Int32 → Option (Int32)
  | 0 => fun _ _ _ _ => none
  | n + 1 => fun x0 x1 x3 x4 => z_X9_actOf_14B F S I  (z_X9_actOf_14 F S I  n) x0 x1 x3 x4
def z_X9_actOf_10 (F : Nat) (S : zS) (I : zI)  (x0 : Nat) (x1 : Int32) (y0 : Int32) : Option (Int32) :=
  z_X9_actOf_14 F S I  F (x0) (x1) (y0) (0)
def z_X9_actOf (F : Nat) (S : zS) (I : zI) (x0 : Nat) (x1 : Int32) (x2 : Int32) : Option (Int32) :=
  if x2 < 0 then (z_X9_actOf_10 F S I  (x0) (x1) (99)) else (z_X9_actOf_10 F S I  (x0) (x1) (x2))
set_option maxRecDepth 100000 in
set_option maxHeartbeats 4000000 in
theorem bb_X9_actOf_14 {p : Program} {l : Launch} {e : Env} {s : State} {m : MethodId} {args : Array Value} {below : List Frame} {meth : Method} {c : Code} {D : zD} {b0 : Nat} {F : Nat} {S : zS} {I : zI} {X : Int32} (hC : z_C p s m args meth c cX9_actOf RX9 5 (some .int) D) (hT : z_T b0 S) (k14 : Nat → Int32 → Int32 → Int32 → Option (Int32)) (hk14 : ∀ (x0 : Nat) (x1 : Int32) (x3 : Int32) (x4 : Int32) , z_is b0 S x0 9 → k14 x0 x1 x3 x4 = some X → ∀ ls : Array Slot, lv_has ls 5 [(0, .ref (x0)), (1, .int (x1)), (3, .int (x3)), (4, .int (x4))] → z_W p l e { frames := 0, cells := 0, slots := 0, locals := 0 } s m args below meth c D b0 S I 0 0 (MQ below (z_Q D b0 (some (.int (X))) S I) args s 0 0 (fun q => b0 ≤ q)) (F0 m 14 ls [])) (x0 : Nat) (x1 : Int32) (x3 : Int32) (x4 : Int32) (h_x0 : z_is b0 S x0 9) (hz : z_X9_actOf_14B F S I k14 x0 x1 x3 x4 = some X) (ls : Array Slot) (hl : lv_has ls 5 [(0, .ref (x0)), (1, .int (x1)), (3, .int (x3)), (4, .int (x4))]) : z_W p l e { frames := 0, cells := 0, slots := 0, locals := 0 } s m args below meth c D b0 S I 0 0 (MQ below (z_Q D b0 (some (.int (X))) S I) args s 0 0 (fun q => b0 ≤ q)) (F0 m 14 ls []) := by
  unfold z_X9_actOf_14B at hz
  refine z_iload hC dX9_actOf_14 (lv_at hl 3 rfl) ?_
  refine z_aload_n hC dX9_actOf_16 rfl (lv_at hl 0 rfl) ?_
  obtain ⟨r1, hr_r1, hz⟩ := ob_some hz
  have hk_r1 : z_is b0 S r1 10 := hT.at h_x0 hr_r1
  refine z_getR hC zc_9 6 (by decide) kw_743 dX9_actOf_17 h_x0 rfl hr_r1 ?_
  refine z_iload_n hC dX9_actOf_20 rfl (lv_at hl 1 rfl) ?_
  obtain ⟨hi2, hz⟩ := ifn_some hz
  refine z_iald hC dX9_actOf_21 hk_r1 hi2 ?_
  refine z_icmp_ge (tgt := 56) hC dX9_actOf_22 (by decide) hz (fun hz => ?_) (fun hz => ?_)
  · skip
    refine z_iconst (v := (-1)) hC dX9_actOf_56 (by decide) ?_
    obtain rfl := Option.some.inj hz
    exact z_iret hC hT dX9_actOf_57 (by decide) (by decide)
  · skip
    refine z_aload_n hC dX9_actOf_25 rfl (lv_at hl 0 rfl) ?_
    obtain ⟨r3, hr_r3, hz⟩ := ob_some hz
    have hk_r3 : z_is b0 S r3 11 := hT.at h_x0 hr_r3
    refine z_getR hC zc_9 18 (by decide) kw_755 dX9_actOf_26 h_x0 rfl hr_r3 ?_
    refine z_bipush (v := 40) hC dX9_actOf_29 (by decide) ?_
    refine z_iload_n hC dX9_actOf_31 rfl (lv_at hl 1 rfl) ?_
    refine z_imul hC dX9_actOf_32 ?_
    refine z_iload hC dX9_actOf_33 (lv_at hl 3 rfl) ?_
    refine z_iadd hC dX9_actOf_35 ?_
    obtain ⟨hi4, hz⟩ := ifn_some hz
    refine z_zald hC dX9_actOf_36 hk_r3 hi4 ?_
    refine z_if_eq (tgt := 50) hC dX9_actOf_37 (by decide) hz (fun hz => ?_) (fun hz => ?_)
    · skip
      refine z_iinc (k0 := 3) (v := x4 + 1) (lv' := [(4, .int (x4 + 1)), (0, .ref (x0)), (1, .int (x1)), (3, .int (x3))]) hC dX9_actOf_50 hl rfl rfl (by decide) rfl (fun ls hl => ?_)
      refine z_goto (tgt := 14) hC dX9_actOf_53 (by decide) ?_
      exact hk14 (x0) (x1) (x3) (x4 + 1) h_x0 hz ls (lv_sub hl [1, 2, 3, 0] rfl)
    · skip
      refine z_iload_n hC dX9_actOf_40 rfl (lv_at hl 2 rfl) ?_
      refine z_if_ne (tgt := 47) hC dX9_actOf_41 (by decide) hz (fun hz => ?_) (fun hz => ?_)
      · skip
        refine z_iinc (k0 := 2) (v := x3 + (-1)) (lv' := [(3, .int (x3 + (-1))), (0, .ref (x0)), (1, .int (x1)), (4, .int (x4))]) hC dX9_actOf_47 hl rfl rfl (by decide) rfl (fun ls hl => ?_)
        refine z_iinc (k0 := 3) (v := x4 + 1) (lv' := [(4, .int (x4 + 1)), (3, .int (x3 + (-1))), (0, .ref (x0)), (1, .int (x1))]) hC dX9_actOf_50 hl rfl rfl (by decide) rfl (fun ls hl => ?_)
        refine z_goto (tgt := 14) hC dX9_actOf_53 (by decide) ?_
        exact hk14 (x0) (x1) (x3 + (-1)) (x4 + 1) h_x0 hz ls (lv_sub hl [2, 3, 1, 0] rfl)
      · skip
        refine z_iload hC dX9_actOf_44 (lv_at hl 3 rfl) ?_
        obtain rfl := Option.some.inj hz
        exact z_iret hC hT dX9_actOf_46 (by decide) (by decide)
set_option maxRecDepth 100000 in
set_option maxHeartbeats 4000000 in
theorem b_X9_actOf_14 {p : Program} {l : Launch} {e : Env} {s : State} {m : MethodId} {args : Array Value} {below : List Frame} {meth : Method} {c : Code} {D : zD} {b0 : Nat} {F : Nat} {S : zS} {I : zI} {X : Int32} (hC : z_C p s m args meth c cX9_actOf RX9 5 (some .int) D) (hT : z_T b0 S)   : ∀ (n : Nat) (x0 : Nat) (x1 : Int32) (x3 : Int32) (x4 : Int32), z_is b0 S x0 9 → z_X9_actOf_14 F S I  n x0 x1 x3 x4 = some X → ∀ ls : Array Slot, lv_has ls 5 [(0, .ref (x0)), (1, .int (x1)), (3, .int (x3)), (4, .int (x4))] → z_W p l e { frames := 0, cells := 0, slots := 0, locals := 0 } s m args below meth c D b0 S I 0 0 (MQ below (z_Q D b0 (some (.int (X))) S I) args s 0 0 (fun q => b0 ≤ q)) (F0 m 14 ls []) := by
  intro n
  induction n with
  | zero => intro x0 x1 x3 x4 h_x0 hz; cases hz
  | succ n ih =>
    intro x0 x1 x3 x4 h_x0 hz ls hl
    exact bb_X9_actOf_14 (F := F) hC hT  (z_X9_actOf_14 F S I  n)  ih x0 x1 x3 x4 h_x0 hz ls hl
set_option maxRecDepth 100000 in
set_option maxHeartbeats 4000000 in
theorem b_X9_actOf_10 {p : Program} {l : Launch} {e : Env} {s : State} {m : MethodId} {args : Array Value} {below : List Frame} {meth : Method} {c : Code} {D : zD} {b0 : Nat} {F : Nat} {S : zS} {I : zI} {X : Int32} (hC : z_C p s m args meth c cX9_actOf RX9 5 (some .int) D) (hT : z_T b0 S)   (x0 : Nat) (x1 : Int32) (y0 : Int32) (h_x0 : z_is b0 S x0 9) (hz : z_X9_actOf_10 F S I  x0 x1 y0 = some X) (ls : Array Slot) (hl : lv_has ls 5 [(0, .ref (x0)), (1, .int (x1))]) : z_W p l e { frames := 0, cells := 0, slots := 0, locals := 0 } s m args below meth c D b0 S I 0 0 (MQ below (z_Q D b0 (some (.int (X))) S I) args s 0 0 (fun q => b0 ≤ q)) (F0 m 10 ls [.int (y0)]) := by
  unfold z_X9_actOf_10 at hz
  refine z_istore_n (lv' := [(3, .int (y0)), (0, .ref (x0)), (1, .int (x1))]) hC dX9_actOf_10 rfl hl (by decide) rfl (fun ls hl => ?_)
  refine z_iconst (v := 0) hC dX9_actOf_11 (by decide) ?_
  refine z_istore (lv' := [(4, .int (0)), (3, .int (y0)), (0, .ref (x0)), (1, .int (x1))]) hC dX9_actOf_12 hl (by decide) rfl (fun ls hl => ?_)
  exact b_X9_actOf_14 hC hT   F (x0) (x1) (y0) (0) h_x0 hz ls (lv_sub hl [2, 3, 1, 0] rfl)
set_option maxRecDepth 100000 in
set_option maxHeartbeats 4000000 in
theorem c_X9_actOf {l : Launch} {D : zD} {b0 : Nat} {S : zS} {I : zI} {X : Int32} (F : Nat) (x0 : Nat) (x1 : Int32) (x2 : Int32) (h_x0 : z_is b0 S x0 9) (hz : z_X9_actOf F S I x0 x1 x2 = some X) : z_M l D b0 yX9_actOf cX9_actOf 5 (some .int) { frames := 0, cells := 0, slots := 0, locals := 0 } [.ref (x0), .int (x1), .int (x2)] S I (some (.int (X))) S I := by
  refine z_met (by decide) (Nat.le_of_ble_eq_true rfl) ?_
  intro p e s m below meth c hC hnm hT ls hl
  have hl : lv_has ls 5 [(0, .ref (x0)), (1, .int (x1)), (2, .int (x2))] := hl
  unfold z_X9_actOf at hz
  refine z_iload_n hC dX9_actOf_0 rfl (lv_at hl 2 rfl) ?_
  refine z_if_ge (tgt := 9) hC dX9_actOf_1 (by decide) hz (fun hz => ?_) (fun hz => ?_)
  · skip
    refine z_iload_n hC dX9_actOf_9 rfl (lv_at hl 2 rfl) ?_
    exact b_X9_actOf_10 hC hT   (x0) (x1) (x2) h_x0 hz ls (lv_sub hl [0, 1] rfl)
  · skip
    refine z_bipush (v := 99) hC dX9_actOf_4 (by decide) ?_
    refine z_goto (tgt := 10) hC dX9_actOf_6 (by decide) ?_
    exact b_X9_actOf_10 hC hT   (x0) (x1) (99) h_x0 hz ls (lv_sub hl [0, 1] rfl)
theorem zy_X9_frame : z_y yX9_frame cX9_frame 6 (some .int) 3 := ⟨kw_995, kw_8, by decide +kernel, by decide +kernel, by decide +kernel⟩
theorem zv_X9_frame : Cond.instanceMethod yX9_frame ∈ z_tbl ∧ Cond.selects RX9 yX9_frame yX9_frame ∈ z_tbl := ⟨kw_993, kw_994⟩
def z_X9_frame_79 (F : Nat) (S : zS) (I : zI)  (y0 : Int32) : Option (Int32) :=
  if y0 < (-4) then (some ((-1))) else (some (y0))
def z_X9_frame_49 (F : Nat) (S : zS) (I : zI)  (x0 : Nat) (x1 : Int32) (x3 : Int32) (x4 : Int32) : Option (Int32) :=
  if x3 = 98 then (z_X9_frame_79 F S I  (x4)) else (ob (S.1 x0 19) (fun r1 => ob (z_X9_part F S I x0 r1 (20 * ((40 * x1) + x4)) x3) (fun q2 => z_X9_frame_79 F S I  (q2))))
def z_X9_frame (F : Nat) (S : zS) (I : zI) (x0 : Nat) (x1 : Int32) (x2 : Int32) (x3 : Int32) : Option (Int32) :=
  ob (z_X9_isMethod F S I x1) (fun q1 => if q1 = 0 then (some ((-1))) else (ob (S.1 x0 15) (fun r2 => if x1 < 0 ∨ (S.2.1 r2).2 ≤ x1.toNatClampNeg then none else (if (I r2 x1.toNatClampNeg) = 0 then (some ((-3))) else (ob (z_X9_actOf F S I x0 x1 x2) (fun q4 => if q4 < 0 then (some ((-1))) else (if x3 = 98 then (z_X9_frame_49 F S I  (x0) (x1) (x3) (q4)) else (ob (z_X9_isAsked F S I x3) (fun q5 => if q5 = 0 then (some ((-1))) else (z_X9_frame_49 F S I  (x0) (x1) (x3) (q4)))))))))))
set_option maxRecDepth 100000 in
set_option maxHeartbeats 4000000 in
theorem b_X9_frame_79 {p : Program} {l : Launch} {e : Env} {s : State} {m : MethodId} {args : Array Value} {below : List Frame} {meth : Method} {c : Code} {D : zD} {b0 : Nat} {F : Nat} {S : zS} {I : zI} {X : Int32} (hC : z_C p s m args meth c cX9_frame RX9 6 (some .int) D) (hT : z_T b0 S)   (y0 : Int32)  (hz : z_X9_frame_79 F S I  y0 = some X) (ls : Array Slot) (hl : lv_has ls 6 []) : z_W p l e { frames := 2, cells := 0, slots := 0, locals := 45 } s m args below meth c D b0 S I 0 0 (MQ below (z_Q D b0 (some (.int (X))) S I) args s 0 0 (fun q => b0 ≤ q)) (F0 m 79 ls [.int (y0)]) := by
  unfold z_X9_frame_79 at hz
  refine z_istore (lv' := [(5, .int (y0))]) hC dX9_frame_79 hl (by decide) rfl (fun ls hl => ?_)
  refine z_iload hC dX9_frame_81 (lv_at hl 0 rfl) ?_
  refine z_bipush (v := (-4)) hC dX9_frame_83 (by decide) ?_
  refine z_icmp_ge (tgt := 92) hC dX9_frame_85 (by decide) hz (fun hz => ?_) (fun hz => ?_)
  · skip
    refine z_iload hC dX9_frame_92 (lv_at hl 0 rfl) ?_
    obtain rfl := Option.some.inj hz
    exact z_iret hC hT dX9_frame_94 (by decide) (by decide)
  · skip
    refine z_iconst (v := (-1)) hC dX9_frame_88 (by decide) ?_
    refine z_goto (tgt := 94) hC dX9_frame_89 (by decide) ?_
    obtain rfl := Option.some.inj hz
    exact z_iret hC hT dX9_frame_94 (by decide) (by decide)
set_option maxRecDepth 100000 in
set_option maxHeartbeats 4000000 in
theorem b_X9_frame_49 {p : Program} {l : Launch} {e : Env} {s : State} {m : MethodId} {args : Array Value} {below : List Frame} {meth : Method} {c : Code} {D : zD} {b0 : Nat} {F : Nat} {S : zS} {I : zI} {X : Int32} (hC : z_C p s m args meth c cX9_frame RX9 6 (some .int) D) (hT : z_T b0 S)   (x0 : Nat) (x1 : Int32) (x3 : Int32) (x4 : Int32) (h_x0 : z_is b0 S x0 9) (hz : z_X9_frame_49 F S I  x0 x1 x3 x4 = some X) (ls : Array Slot) (hl : lv_has ls 6 [(0, .ref (x0)), (1, .int (x1)), (3, .int (x3)), (4, .int (x4))]) : z_W p l e { frames := 2, cells := 0, slots := 0, locals := 45 } s m args below meth c D b0 S I 0 0 (MQ below (z_Q D b0 (some (.int (X))) S I) args s 0 0 (fun q => b0 ≤ q)) (F0 m 49 ls []) := by
  unfold z_X9_frame_49 at hz
  refine z_iload_n hC dX9_frame_49 rfl (lv_at hl 2 rfl) ?_
  refine z_bipush (v := 98) hC dX9_frame_50 (by decide) ?_
  refine z_icmp_ne (tgt := 60) hC dX9_frame_52 (by decide) hz (fun hz => ?_) (fun hz => ?_)
  · skip
    refine z_aload_n hC dX9_frame_60 rfl (lv_at hl 0 rfl) ?_
    refine z_aload_n hC dX9_frame_61 rfl (lv_at hl 0 rfl) ?_
    obtain ⟨r1, hr_r1, hz⟩ := ob_some hz
    have hk_r1 : z_is b0 S r1 10 := hT.at h_x0 hr_r1
    refine z_getR hC zc_9 19 (by decide) kw_756 dX9_frame_62 h_x0 rfl hr_r1 ?_
    refine z_bipush (v := 20) hC dX9_frame_65 (by decide) ?_
    refine z_bipush (v := 40) hC dX9_frame_67 (by decide) ?_
    refine z_iload_n hC dX9_frame_69 rfl (lv_at hl 1 rfl) ?_
    refine z_imul hC dX9_frame_70 ?_
    refine z_iload hC dX9_frame_71 (lv_at hl 3 rfl) ?_
    refine z_iadd hC dX9_frame_73 ?_
    refine z_imul hC dX9_frame_74 ?_
    refine z_iload_n hC dX9_frame_75 rfl (lv_at hl 2 rfl) ?_
    obtain ⟨q2, hq_q2, hz⟩ := ob_some hz
    refine z_callV (As := [.ref (r1), .int (20 * ((40 * x1) + x4)), .int (x3)]) hC hT (c_X9_part F x0 r1 (20 * ((40 * x1) + x4)) x3 h_x0 hk_r1 hq_q2) zy_X9_part zc_9 zv_X9_part kw_988 dX9_frame_76 h_x0 rfl rfl hl.1 (Nat.le_of_ble_eq_true rfl) (by decide) (by decide) ?_
    exact b_X9_frame_79 hC hT   (q2) hz ls (lv_sub hl [] rfl)
  · skip
    refine z_iload hC dX9_frame_55 (lv_at hl 3 rfl) ?_
    refine z_goto (tgt := 79) hC dX9_frame_57 (by decide) ?_
    exact b_X9_frame_79 hC hT   (x4) hz ls (lv_sub hl [] rfl)
set_option maxRecDepth 100000 in
set_option maxHeartbeats 4000000 in
theorem c_X9_frame {l : Launch} {D : zD} {b0 : Nat} {S : zS} {I : zI} {X : Int32} (F : Nat) (x0 : Nat) (x1 : Int32) (x2 : Int32) (x3 : Int32) (h_x0 : z_is b0 S x0 9) (hz : z_X9_frame F S I x0 x1 x2 x3 = some X) : z_M l D b0 yX9_frame cX9_frame 6 (some .int) { frames := 2, cells := 0, slots := 0, locals := 45 } [.ref (x0), .int (x1), .int (x2), .int (x3)] S I (some (.int (X))) S I := by
  refine z_met (by decide) (Nat.le_of_ble_eq_true rfl) ?_
  intro p e s m below meth c hC hnm hT ls hl
  have hl : lv_has ls 6 [(0, .ref (x0)), (1, .int (x1)), (2, .int (x2)), (3, .int (x3))] := hl
  unfold z_X9_frame at hz
  refine z_iload_n hC dX9_frame_0 rfl (lv_at hl 1 rfl) ?_
  obtain ⟨q1, hq_q1, hz⟩ := ob_some hz
  refine z_callS (As := [.int (x1)]) hC hT (c_X9_isMethod F x1  hq_q1) zy_X9_isMethod kw_861 kw_860 dX9_frame_1 rfl rfl hl.1 (Nat.le_of_ble_eq_true rfl) (by decide) (by decide) ?_
  refine z_if_ne (tgt := 9) hC dX9_frame_4 (by decide) hz (fun hz => ?_) (fun hz => ?_)
  · skip
    refine z_aload_n hC dX9_frame_9 rfl (lv_at hl 0 rfl) ?_
    obtain ⟨r2, hr_r2, hz⟩ := ob_some hz
    have hk_r2 : z_is b0 S r2 11 := hT.at h_x0 hr_r2
    refine z_getR hC zc_9 15 (by decide) kw_752 dX9_frame_10 h_x0 rfl hr_r2 ?_
    refine z_iload_n hC dX9_frame_13 rfl (lv_at hl 1 rfl) ?_
    obtain ⟨hi3, hz⟩ := ifn_some hz
    refine z_zald hC dX9_frame_14 hk_r2 hi3 ?_
    refine z_if_ne (tgt := 21) hC dX9_frame_15 (by decide) hz (fun hz => ?_) (fun hz => ?_)
    · skip
      refine z_aload_n hC dX9_frame_21 rfl (lv_at hl 0 rfl) ?_
      refine z_iload_n hC dX9_frame_22 rfl (lv_at hl 1 rfl) ?_
      refine z_iload_n hC dX9_frame_23 rfl (lv_at hl 2 rfl) ?_
      obtain ⟨q4, hq_q4, hz⟩ := ob_some hz
      refine z_callV (As := [.int (x1), .int (x2)]) hC hT (c_X9_actOf F x0 x1 x2 h_x0 hq_q4) zy_X9_actOf zc_9 zv_X9_actOf kw_996 dX9_frame_24 h_x0 rfl rfl hl.1 (Nat.le_of_ble_eq_true rfl) (by decide) (by decide) ?_
      refine z_istore (lv' := [(4, .int (q4)), (0, .ref (x0)), (1, .int (x1)), (2, .int (x2)), (3, .int (x3))]) hC dX9_frame_27 hl (by decide) rfl (fun ls hl => ?_)
      refine z_iload hC dX9_frame_29 (lv_at hl 0 rfl) ?_
      refine z_if_lt (tgt := 47) hC dX9_frame_31 (by decide) hz (fun hz => ?_) (fun hz => ?_)
      · skip
        refine z_iconst (v := (-1)) hC dX9_frame_47 (by decide) ?_
        obtain rfl := Option.some.inj hz
        exact z_iret hC hT dX9_frame_48 (by decide) (by decide)
      · skip
        refine z_iload_n hC dX9_frame_34 rfl (lv_at hl 4 rfl) ?_
        refine z_bipush (v := 98) hC dX9_frame_35 (by decide) ?_
        refine z_icmp_eq (tgt := 49) hC dX9_frame_37 (by decide) hz (fun hz => ?_) (fun hz => ?_)
        · skip
          exact b_X9_frame_49 hC hT   (x0) (x1) (x3) (q4) h_x0 hz ls (lv_sub hl [1, 2, 4, 0] rfl)
        · skip
          refine z_iload_n hC dX9_frame_40 rfl (lv_at hl 4 rfl) ?_
          obtain ⟨q5, hq_q5, hz⟩ := ob_some hz
          refine z_callS (As := [.int (x3)]) hC hT (c_X9_isAsked F x3  hq_q5) zy_X9_isAsked kw_986 kw_985 dX9_frame_41 rfl rfl hl.1 (Nat.le_of_ble_eq_true rfl) (by decide) (by decide) ?_
          refine z_if_ne (tgt := 49) hC dX9_frame_44 (by decide) hz (fun hz => ?_) (fun hz => ?_)
          · skip
            exact b_X9_frame_49 hC hT   (x0) (x1) (x3) (q4) h_x0 hz ls (lv_sub hl [1, 2, 4, 0] rfl)
          · skip
            refine z_iconst (v := (-1)) hC dX9_frame_47 (by decide) ?_
            obtain rfl := Option.some.inj hz
            exact z_iret hC hT dX9_frame_48 (by decide) (by decide)
    · skip
      refine z_bipush (v := (-3)) hC dX9_frame_18 (by decide) ?_
      obtain rfl := Option.some.inj hz
      exact z_iret hC hT dX9_frame_20 (by decide) (by decide)
  · skip
    refine z_iconst (v := (-1)) hC dX9_frame_7 (by decide) ?_
    obtain rfl := Option.some.inj hz
    exact z_iret hC hT dX9_frame_8 (by decide) (by decide)
theorem zy_X9_toldPlaces : z_y yX9_toldPlaces cX9_toldPlaces 6 (some .int) 3 := ⟨kw_1006, kw_8, by decide +kernel, by decide +kernel, by decide +kernel⟩
def z_X9_toldPlaces_52 (F : Nat) (S : zS) (k8 : Nat → Int32 → Nat → Int32 → Int32 → Int32 → zI → Option (Int32 × zI)) (x0 : Nat) (x1 : Int32) (x2 : Nat) (x3 : Int32) (x5 : Int32) (y0 : Int32) (I : zI) : Option (Int32 × zI) :=
  k8 (x0) (x1) (x2) (x3) (y0) (x5 + 1) (I)
def z_X9_toldPlaces_8B (F : Nat) (S : zS) (k8 : Nat → Int32 → Nat → Int32 → Int32 → Int32 → zI → Option (Int32 × zI)) (x0 : Nat) (x1 : Int32) (x2 : Nat) (x3 : Int32) (x4 : Int32) (x5 : Int32) (I : zI) : Option (Int32 × zI) :=
  if x5 < 8 then (if (x1 + x5) < 0 ∨ (S.2.1 x0).2 ≤ (x1 + x5).toNatClampNeg then none else (if (I x0 (x1 + x5).toNatClampNeg) = 3 then (k8 (x0) (x1) (x2) (x3) (x4) (x5 + 1) (I)) else (if (x1 + x5) < 0 ∨ (S.2.1 x0).2 ≤ (x1 + x5).toNatClampNeg then none else (if x3 < 0 ∨ (S.2.1 x2).2 ≤ x3.toNatClampNeg then none else (if (x1 + x5) < 0 ∨ (S.2.1 x0).2 ≤ (x1 + x5).toNatClampNeg then none else (if ((z_up I x2 x3.toNatClampNeg (I x0 (x1 + x5).toNatClampNeg)) x0 (x1 + x5).toNatClampNeg) = 0 then (z_X9_toldPlaces_52 F S k8 (x0) (x1) (x2) (x3 + 1) (x5) (x4) (z_up I x2 x3.toNatClampNeg (I x0 (x1 + x5).toNatClampNeg))) else (z_X9_toldPlaces_52 F S k8 (x0) (x1) (x2) (x3 + 1) (x5) (x3 + 1) (z_up I x2 x3.toNatClampNeg (I x0 (x1 + x5).toNatClampNeg))))))))) else (some (x4, I))
def z_X9_toldPlaces_8 (F : Nat) (S : zS)  : Nat → Nat → Int32 → Nat → Int32 → Int32 → Int32 → zI → Option (Int32 × zI)
  | 0 => fun _ _ _ _ _ _ _ => none
  | n + 1 => fun x0 x1 x2 x3 x4 x5 I => z_X9_toldPlaces_8B F S  (z_X9_toldPlaces_8 F S  n) x0 x1 x2 x3 x4 x5 I
def z_X9_toldPlaces (F : Nat) (S : zS) (I : zI) (x0 : Nat) (x1 : Int32) (x2 : Nat) : Option (Int32 × zI) :=
  z_X9_toldPlaces_8 F S  F (x0) (x1) (x2) (0) (0) (0) (I)
set_option maxRecDepth 100000 in
set_option maxHeartbeats 4000000 in
theorem b_X9_toldPlaces_52 {p : Program} {l : Launch} {e : Env} {s : State} {m : MethodId} {args : Array Value} {below : List Frame} {meth : Method} {c : Code} {D : zD} {b0 : Nat} {F : Nat} {S : zS} {X : Int32 × zI} (hC : z_C p s m args meth c cX9_toldPlaces RX9 6 (some .int) D) (hT : z_T b0 S) (k8 : Nat → Int32 → Nat → Int32 → Int32 → Int32 → zI → Option (Int32 × zI)) (hk8 : ∀ (x0 : Nat) (x1 : Int32) (x2 : Nat) (x3 : Int32) (x4 : Int32) (x5 : Int32) (I : zI) , z_is b0 S x0 10 → z_is b0 S x2 10 → k8 x0 x1 x2 x3 x4 x5 I = some X → ∀ ls : Array Slot, lv_has ls 6 [(0, .ref (x0)), (1, .int (x1)), (2, .ref (x2)), (3, .int (x3)), (4, .int (x4)), (5, .int (x5))] → z_W p l e { frames := 0, cells := 0, slots := 0, locals := 0 } s m args below meth c D b0 S I 0 0 (MQ below (z_Q D b0 (some (.int (X.1))) S X.2) args s 0 0 (fun q => b0 ≤ q)) (F0 m 8 ls [])) (x0 : Nat) (x1 : Int32) (x2 : Nat) (x3 : Int32) (x5 : Int32) (y0 : Int32) (I : zI) (h_x0 : z_is b0 S x0 10) (h_x2 : z_is b0 S x2 10) (hz : z_X9_toldPlaces_52 F S k8 x0 x1 x2 x3 x5 y0 I = some X) (ls : Array Slot) (hl : lv_has ls 6 [(0, .ref (x0)), (1, .int (x1)), (2, .ref (x2)), (3, .int (x3)), (5, .int (x5))]) : z_W p l e { frames := 0, cells := 0, slots := 0, locals := 0 } s m args below meth c D b0 S I 0 0 (MQ below (z_Q D b0 (some (.int (X.1))) S X.2) args s 0 0 (fun q => b0 ≤ q)) (F0 m 52 ls [.int (y0)]) := by
  unfold z_X9_toldPlaces_52 at hz
  refine z_istore (lv' := [(4, .int (y0)), (0, .ref (x0)), (1, .int (x1)), (2, .ref (x2)), (3, .int (x3)), (5, .int (x5))]) hC dX9_toldPlaces_52 hl (by decide) rfl (fun ls hl => ?_)
  refine z_iinc (k0 := 5) (v := x5 + 1) (lv' := [(5, .int (x5 + 1)), (4, .int (y0)), (0, .ref (x0)), (1, .int (x1)), (2, .ref (x2)), (3, .int (x3))]) hC dX9_toldPlaces_54 hl rfl rfl (by decide) rfl (fun ls hl => ?_)
  refine z_goto (tgt := 8) hC dX9_toldPlaces_57 (by decide) ?_
  exact hk8 (x0) (x1) (x2) (x3) (y0) (x5 + 1) (I) h_x0 h_x2 hz ls (lv_sub hl [2, 3, 4, 5, 1, 0] rfl)
set_option maxRecDepth 100000 in
set_option maxHeartbeats 4000000 in
theorem bb_X9_toldPlaces_8 {p : Program} {l : Launch} {e : Env} {s : State} {m : MethodId} {args : Array Value} {below : List Frame} {meth : Method} {c : Code} {D : zD} {b0 : Nat} {F : Nat} {S : zS} {X : Int32 × zI} (hC : z_C p s m args meth c cX9_toldPlaces RX9 6 (some .int) D) (hT : z_T b0 S) (k8 : Nat → Int32 → Nat → Int32 → Int32 → Int32 → zI → Option (Int32 × zI)) (hk8 : ∀ (x0 : Nat) (x1 : Int32) (x2 : Nat) (x3 : Int32) (x4 : Int32) (x5 : Int32) (I : zI) , z_is b0 S x0 10 → z_is b0 S x2 10 → k8 x0 x1 x2 x3 x4 x5 I = some X → ∀ ls : Array Slot, lv_has ls 6 [(0, .ref (x0)), (1, .int (x1)), (2, .ref (x2)), (3, .int (x3)), (4, .int (x4)), (5, .int (x5))] → z_W p l e { frames := 0, cells := 0, slots := 0, locals := 0 } s m args below meth c D b0 S I 0 0 (MQ below (z_Q D b0 (some (.int (X.1))) S X.2) args s 0 0 (fun q => b0 ≤ q)) (F0 m 8 ls [])) (x0 : Nat) (x1 : Int32) (x2 : Nat) (x3 : Int32) (x4 : Int32) (x5 : Int32) (I : zI) (h_x0 : z_is b0 S x0 10) (h_x2 : z_is b0 S x2 10) (hz : z_X9_toldPlaces_8B F S k8 x0 x1 x2 x3 x4 x5 I = some X) (ls : Array Slot) (hl : lv_has ls 6 [(0, .ref (x0)), (1, .int (x1)), (2, .ref (x2)), (3, .int (x3)), (4, .int (x4)), (5, .int (x5))]) : z_W p l e { frames := 0, cells := 0, slots := 0, locals := 0 } s m args below meth c D b0 S I 0 0 (MQ below (z_Q D b0 (some (.int (X.1))) S X.2) args s 0 0 (fun q => b0 ≤ q)) (F0 m 8 ls []) := by
  unfold z_X9_toldPlaces_8B at hz
  refine z_iload hC dX9_toldPlaces_8 (lv_at hl 5 rfl) ?_
  refine z_bipush (v := 8) hC dX9_toldPlaces_10 (by decide) ?_
  refine z_icmp_ge (tgt := 60) hC dX9_toldPlaces_12 (by decide) hz (fun hz => ?_) (fun hz => ?_)
  · skip
    refine z_iload hC dX9_toldPlaces_60 (lv_at hl 4 rfl) ?_
    obtain rfl := Option.some.inj hz
    exact z_iret hC hT dX9_toldPlaces_62 (by decide) (by decide)
  · skip
    refine z_aload_n hC dX9_toldPlaces_15 rfl (lv_at hl 0 rfl) ?_
    refine z_iload_n hC dX9_toldPlaces_16 rfl (lv_at hl 1 rfl) ?_
    refine z_iload hC dX9_toldPlaces_17 (lv_at hl 5 rfl) ?_
    refine z_iadd hC dX9_toldPlaces_19 ?_
    obtain ⟨hi1, hz⟩ := ifn_some hz
    refine z_iald hC dX9_toldPlaces_20 h_x0 hi1 ?_
    refine z_iconst (v := 3) hC dX9_toldPlaces_21 (by decide) ?_
    refine z_icmp_eq (tgt := 54) hC dX9_toldPlaces_22 (by decide) hz (fun hz => ?_) (fun hz => ?_)
    · skip
      refine z_iinc (k0 := 5) (v := x5 + 1) (lv' := [(5, .int (x5 + 1)), (0, .ref (x0)), (1, .int (x1)), (2, .ref (x2)), (3, .int (x3)), (4, .int (x4))]) hC dX9_toldPlaces_54 hl rfl rfl (by decide) rfl (fun ls hl => ?_)
      refine z_goto (tgt := 8) hC dX9_toldPlaces_57 (by decide) ?_
      exact hk8 (x0) (x1) (x2) (x3) (x4) (x5 + 1) (I) h_x0 h_x2 hz ls (lv_sub hl [1, 2, 3, 4, 5, 0] rfl)
    · skip
      refine z_aload_n hC dX9_toldPlaces_25 rfl (lv_at hl 2 rfl) ?_
      refine z_iload_n hC dX9_toldPlaces_26 rfl (lv_at hl 3 rfl) ?_
      refine z_aload_n hC dX9_toldPlaces_27 rfl (lv_at hl 0 rfl) ?_
      refine z_iload_n hC dX9_toldPlaces_28 rfl (lv_at hl 1 rfl) ?_
      refine z_iload hC dX9_toldPlaces_29 (lv_at hl 5 rfl) ?_
      refine z_iadd hC dX9_toldPlaces_31 ?_
      obtain ⟨hi2, hz⟩ := ifn_some hz
      refine z_iald hC dX9_toldPlaces_32 h_x0 hi2 ?_
      obtain ⟨hi3, hz⟩ := ifn_some hz
      refine z_iast hC dX9_toldPlaces_33 h_x2 hi3 ?_
      refine z_iinc (k0 := 3) (v := x3 + 1) (lv' := [(3, .int (x3 + 1)), (0, .ref (x0)), (1, .int (x1)), (2, .ref (x2)), (4, .int (x4)), (5, .int (x5))]) hC dX9_toldPlaces_34 hl rfl rfl (by decide) rfl (fun ls hl => ?_)
      refine z_aload_n hC dX9_toldPlaces_37 rfl (lv_at hl 1 rfl) ?_
      refine z_iload_n hC dX9_toldPlaces_38 rfl (lv_at hl 2 rfl) ?_
      refine z_iload hC dX9_toldPlaces_39 (lv_at hl 5 rfl) ?_
      refine z_iadd hC dX9_toldPlaces_41 ?_
      obtain ⟨hi4, hz⟩ := ifn_some hz
      refine z_iald hC dX9_toldPlaces_42 h_x0 hi4 ?_
      refine z_if_eq (tgt := 50) hC dX9_toldPlaces_43 (by decide) hz (fun hz => ?_) (fun hz => ?_)
      · skip
        refine z_iload hC dX9_toldPlaces_50 (lv_at hl 4 rfl) ?_
        exact b_X9_toldPlaces_52 hC hT k8 hk8 (x0) (x1) (x2) (x3 + 1) (x5) (x4) (z_up I x2 x3.toNatClampNeg (I x0 (x1 + x5).toNatClampNeg)) h_x0 h_x2 hz ls (lv_sub hl [1, 2, 3, 0, 5] rfl)
      · skip
        refine z_iload_n hC dX9_toldPlaces_46 rfl (lv_at hl 0 rfl) ?_
        refine z_goto (tgt := 52) hC dX9_toldPlaces_47 (by decide) ?_
        exact b_X9_toldPlaces_52 hC hT k8 hk8 (x0) (x1) (x2) (x3 + 1) (x5) (x3 + 1) (z_up I x2 x3.toNatClampNeg (I x0 (x1 + x5).toNatClampNeg)) h_x0 h_x2 hz ls (lv_sub hl [1, 2, 3, 0, 5] rfl)
set_option maxRecDepth 100000 in
set_option maxHeartbeats 4000000 in
theorem b_X9_toldPlaces_8 {p : Program} {l : Launch} {e : Env} {s : State} {m : MethodId} {args : Array Value} {below : List Frame} {meth : Method} {c : Code} {D : zD} {b0 : Nat} {F : Nat} {S : zS} {X : Int32 × zI} (hC : z_C p s m args meth c cX9_toldPlaces RX9 6 (some .int) D) (hT : z_T b0 S)   : ∀ (n : Nat) (x0 : Nat) (x1 : Int32) (x2 : Nat) (x3 : Int32) (x4 : Int32) (x5 : Int32) (I : zI), z_is b0 S x0 10 → z_is b0 S x2 10 → z_X9_toldPlaces_8 F S  n x0 x1 x2 x3 x4 x5 I = some X → ∀ ls : Array Slot, lv_has ls 6 [(0, .ref (x0)), (1, .int (x1)), (2, .ref (x2)), (3, .int (x3)), (4, .int (x4)), (5, .int (x5))] → z_W p l e { frames := 0, cells := 0, slots := 0, locals := 0 } s m args below meth c D b0 S I 0 0 (MQ below (z_Q D b0 (some (.int (X.1))) S X.2) args s 0 0 (fun q => b0 ≤ q)) (F0 m 8 ls []) := by
  intro n
  induction n with
  | zero => intro x0 x1 x2 x3 x4 x5 I h_x0 h_x2 hz; cases hz
  | succ n ih =>
    intro x0 x1 x2 x3 x4 x5 I h_x0 h_x2 hz ls hl
    exact bb_X9_toldPlaces_8 (F := F) hC hT  (z_X9_toldPlaces_8 F S  n)  ih x0 x1 x2 x3 x4 x5 I h_x0 h_x2 hz ls hl
set_option maxRecDepth 100000 in
set_option maxHeartbeats 4000000 in
theorem c_X9_toldPlaces {l : Launch} {D : zD} {b0 : Nat} {S : zS} {I : zI} {X : Int32 × zI} (F : Nat) (x0 : Nat) (x1 : Int32) (x2 : Nat) (h_x0 : z_is b0 S x0 10) (h_x2 : z_is b0 S x2 10) (hz : z_X9_toldPlaces F S I x0 x1 x2 = some X) : z_M l D b0 yX9_toldPlaces cX9_toldPlaces 6 (some .int) { frames := 0, cells := 0, slots := 0, locals := 0 } [.ref (x0), .int (x1), .ref (x2)] S I (some (.int (X.1))) S X.2 := by
  refine z_met (by decide) (Nat.le_of_ble_eq_true rfl) ?_
  intro p e s m below meth c hC hnm hT ls hl
  have hl : lv_has ls 6 [(0, .ref (x0)), (1, .int (x1)), (2, .ref (x2))] := hl
  unfold z_X9_toldPlaces at hz
  refine z_iconst (v := 0) hC dX9_toldPlaces_0 (by decide) ?_
  refine z_istore_n (lv' := [(3, .int (0)), (0, .ref (x0)), (1, .int (x1)), (2, .ref (x2))]) hC dX9_toldPlaces_1 rfl hl (by decide) rfl (fun ls hl => ?_)
  refine z_iconst (v := 0) hC dX9_toldPlaces_2 (by decide) ?_
  refine z_istore (lv' := [(4, .int (0)), (3, .int (0)), (0, .ref (x0)), (1, .int (x1)), (2, .ref (x2))]) hC dX9_toldPlaces_3 hl (by decide) rfl (fun ls hl => ?_)
  refine z_iconst (v := 0) hC dX9_toldPlaces_5 (by decide) ?_
  refine z_istore (lv' := [(5, .int (0)), (4, .int (0)), (3, .int (0)), (0, .ref (x0)), (1, .int (x1)), (2, .ref (x2))]) hC dX9_toldPlaces_6 hl (by decide) rfl (fun ls hl => ?_)
  exact b_X9_toldPlaces_8 hC hT   F (x0) (x1) (x2) (0) (0) (0) (I) h_x0 h_x2 hz ls (lv_sub hl [3, 4, 5, 2, 1, 0] rfl)
theorem zy_X9_form : z_y yX9_form cX9_form 9 (some .int) 2 := ⟨kw_1003, kw_8, by decide +kernel, by decide +kernel, by decide +kernel⟩
theorem zv_X9_form : Cond.instanceMethod yX9_form ∈ z_tbl ∧ Cond.selects RX9 yX9_form yX9_form ∈ z_tbl := ⟨kw_1001, kw_1002⟩
def z_X9_form_167 (F : Nat) (S : zS) (k129 : Nat → Int32 → Int32 → Int32 → Int32 → Int32 → zI → Option (Int32 × zI)) (x0 : Nat) (x4 : Int32) (x5 : Int32) (x6 : Int32) (x8 : Int32) (y0 : Int32) (y1 : Int32) (I : zI) : Option (Int32 × zI) :=
  k129 (x0) (x4) (x5) (x6) (y0 &&& y1) (x8 + 1) (I)
def z_X9_form_254 (F : Nat) (S : zS)  (x4 : Int32) (x6 : Int32) (I : zI) : Option (Int32 × zI) :=
  if x4 < x6 then (if 3 < (x6 - x4) then (some (40, I)) else (some ((30 + x6) - x4, I))) else (some (40, I))
def z_X9_form_215 (F : Nat) (S : zS)  (x4 : Int32) (x6 : Int32) (x8 : Int32) (I : zI) : Option (Int32 × zI) :=
  if x4 = x6 then (some (x8, I)) else (if x6 < x4 then (if 3 < (x4 - x6) then (z_X9_form_254 F S  (x4) (x6) (I)) else (some ((20 + x4) - x6, I))) else (z_X9_form_254 F S  (x4) (x6) (I)))
def z_X9_form_176 (F : Nat) (S : zS)  (x0 : Nat) (x4 : Int32) (x5 : Int32) (x6 : Int32) (x7 : Int32) (I : zI) : Option (Int32 × zI) :=
  ob (S.1 x0 19) (fun r1 => if (x5 + 8) < 0 ∨ (S.2.1 r1).2 ≤ (x5 + 8).toNatClampNeg then none else (if x7 = 0 then (some (40, I)) else (if 1 < (I r1 (x5 + 8).toNatClampNeg) then (some (40, I)) else (if (I r1 (x5 + 8).toNatClampNeg) = 1 then (if x4 = x6 then (z_X9_form_215 F S  (x4) (x6) (I r1 (x5 + 8).toNatClampNeg) (I)) else (some (40, I))) else (z_X9_form_215 F S  (x4) (x6) (I r1 (x5 + 8).toNatClampNeg) (I))))))
def z_X9_form_129B (F : Nat) (S : zS) (k129 : Nat → Int32 → Int32 → Int32 → Int32 → Int32 → zI → Option (Int32 × zI)) (x0 : Nat) (x4 : Int32) (x5 : Int32) (x6 : Int32) (x7 : Int32) (x8 : Int32) (I : zI) : Option (Int32 × zI) :=
  if x8 < x4 then (if x8 < x6 then (ob (S.1 x0 27) (fun r1 => if x8 < 0 ∨ (S.2.1 r1).2 ≤ x8.toNatClampNeg then none else (ob (S.1 x0 28) (fun r3 => if x8 < 0 ∨ (S.2.1 r3).2 ≤ x8.toNatClampNeg then none else (if (I r1 x8.toNatClampNeg) = (I r3 x8.toNatClampNeg) then (z_X9_form_167 F S k129 (x0) (x4) (x5) (x6) (x8) (x7) (1) (I)) else (z_X9_form_167 F S k129 (x0) (x4) (x5) (x6) (x8) (x7) (0) (I))))))) else (z_X9_form_176 F S  (x0) (x4) (x5) (x6) (x7) (I))) else (z_X9_form_176 F S  (x0) (x4) (x5) (x6) (x7) (I))
def z_X9_form_129 (F : Nat) (S : zS)  : Nat → Nat → Int32 → Int32 → Int32 → Int32 → Int32 → zI → Option (Int32 × zI)
  | 0 => fun _ _ _ _ _ _ _ => none
  | n + 1 => fun x0 x4 x5 x6 x7 x8 I => z_X9_form_129B F S  (z_X9_form_129 F S  n) x0 x4 x5 x6 x7 x8 I
def z_X9_form_97 (F : Nat) (S : zS)  (x0 : Nat) (x1 : Int32) (x3 : Int32) (x4 : Int32) (I : zI) : Option (Int32 × zI) :=
  ob (S.1 x0 19) (fun r1 => ob (S.1 x0 28) (fun r2 => ob (z_X9_toldPlaces F S I r1 (20 * ((40 * x1) + x3)) r2) (fun q3 => z_X9_form_129 F S  F (x0) (x4) (20 * ((40 * x1) + x3)) (q3.1) (1) (0) (q3.2))))
def z_X9_form (F : Nat) (S : zS) (I : zI) (x0 : Nat) (x1 : Int32) (x2 : Int32) : Option (Int32 × zI) :=
  ob (z_X9_isMethod F S I x1) (fun q1 => if q1 = 0 then (some ((-1), I)) else (ob (S.1 x0 15) (fun r2 => if x1 < 0 ∨ (S.2.1 r2).2 ≤ x1.toNatClampNeg then none else (if (I r2 x1.toNatClampNeg) = 0 then (some ((-3), I)) else (ob (z_X9_actOf F S I x0 x1 x2) (fun q4 => if q4 < 0 then (some ((-1), I)) else (if x2 = 0 then (ob (S.1 x0 23) (fun r9 => ob (z_X9_beginning F S (z_up I x0 21 x1) x0 r9) (fun q10 => ob (S.1 x0 27) (fun r11 => ob (z_X9_toldPlaces F S q10 r9 0 r11) (fun q12 => z_X9_form_97 F S  (x0) (x1) (q4) (q12.1) (q12.2)))))) else (ob (S.1 x0 19) (fun r5 => ob (z_X9_actOf F S I x0 x1 (x2 - 1)) (fun q6 => ob (S.1 x0 27) (fun r7 => ob (z_X9_toldPlaces F S I r5 (20 * ((40 * x1) + q6)) r7) (fun q8 => z_X9_form_97 F S  (x0) (x1) (q4) (q8.1) (q8.2)))))))))))))
set_option maxRecDepth 100000 in
set_option maxHeartbeats 4000000 in
theorem b_X9_form_167 {p : Program} {l : Launch} {e : Env} {s : State} {m : MethodId} {args : Array Value} {below : List Frame} {meth : Method} {c : Code} {D : zD} {b0 : Nat} {F : Nat} {S : zS} {X : Int32 × zI} (hC : z_C p s m args meth c cX9_form RX9 9 (some .int) D) (hT : z_T b0 S) (k129 : Nat → Int32 → Int32 → Int32 → Int32 → Int32 → zI → Option (Int32 × zI)) (hk129 : ∀ (x0 : Nat) (x4 : Int32) (x5 : Int32) (x6 : Int32) (x7 : Int32) (x8 : Int32) (I : zI) , z_is b0 S x0 9 → k129 x0 x4 x5 x6 x7 x8 I = some X → ∀ ls : Array Slot, lv_has ls 9 [(0, .ref (x0)), (4, .int (x4)), (5, .int (x5)), (6, .int (x6)), (7, .int (x7)), (8, .int (x8))] → z_W p l e { frames := 2, cells := 0, slots := 0, locals := 42 } s m args below meth c D b0 S I 0 0 (MQ below (z_Q D b0 (some (.int (X.1))) S X.2) args s 0 0 (fun q => b0 ≤ q)) (F0 m 129 ls [])) (x0 : Nat) (x4 : Int32) (x5 : Int32) (x6 : Int32) (x8 : Int32) (y0 : Int32) (y1 : Int32) (I : zI) (h_x0 : z_is b0 S x0 9) (hz : z_X9_form_167 F S k129 x0 x4 x5 x6 x8 y0 y1 I = some X) (ls : Array Slot) (hl : lv_has ls 9 [(0, .ref (x0)), (4, .int (x4)), (5, .int (x5)), (6, .int (x6)), (8, .int (x8))]) : z_W p l e { frames := 2, cells := 0, slots := 0, locals := 42 } s m args below meth c D b0 S I 0 0 (MQ below (z_Q D b0 (some (.int (X.1))) S X.2) args s 0 0 (fun q => b0 ≤ q)) (F0 m 167 ls [.int (y1), .int (y0)]) := by
  unfold z_X9_form_167 at hz
  refine z_iand hC dX9_form_167 ?_
  refine z_istore (lv' := [(7, .int (y0 &&& y1)), (0, .ref (x0)), (4, .int (x4)), (5, .int (x5)), (6, .int (x6)), (8, .int (x8))]) hC dX9_form_168 hl (by decide) rfl (fun ls hl => ?_)
  refine z_iinc (k0 := 5) (v := x8 + 1) (lv' := [(8, .int (x8 + 1)), (7, .int (y0 &&& y1)), (0, .ref (x0)), (4, .int (x4)), (5, .int (x5)), (6, .int (x6))]) hC dX9_form_170 hl rfl rfl (by decide) rfl (fun ls hl => ?_)
  refine z_goto (tgt := 129) hC dX9_form_173 (by decide) ?_
  exact hk129 (x0) (x4) (x5) (x6) (y0 &&& y1) (x8 + 1) (I) h_x0 hz ls (lv_sub hl [2, 3, 4, 5, 1, 0] rfl)
set_option maxRecDepth 100000 in
set_option maxHeartbeats 4000000 in
theorem b_X9_form_254 {p : Program} {l : Launch} {e : Env} {s : State} {m : MethodId} {args : Array Value} {below : List Frame} {meth : Method} {c : Code} {D : zD} {b0 : Nat} {F : Nat} {S : zS} {X : Int32 × zI} (hC : z_C p s m args meth c cX9_form RX9 9 (some .int) D) (hT : z_T b0 S)   (x4 : Int32) (x6 : Int32) (I : zI)  (hz : z_X9_form_254 F S  x4 x6 I = some X) (ls : Array Slot) (hl : lv_has ls 9 [(4, .int (x4)), (6, .int (x6))]) : z_W p l e { frames := 2, cells := 0, slots := 0, locals := 42 } s m args below meth c D b0 S I 0 0 (MQ below (z_Q D b0 (some (.int (X.1))) S X.2) args s 0 0 (fun q => b0 ≤ q)) (F0 m 254 ls []) := by
  unfold z_X9_form_254 at hz
  refine z_iload hC dX9_form_254 (lv_at hl 1 rfl) ?_
  refine z_iload hC dX9_form_256 (lv_at hl 0 rfl) ?_
  refine z_icmp_le (tgt := 281) hC dX9_form_258 (by decide) hz (fun hz => ?_) (fun hz => ?_)
  · skip
    refine z_bipush (v := 40) hC dX9_form_281 (by decide) ?_
    obtain rfl := Option.some.inj hz
    exact z_iret hC hT dX9_form_283 (by decide) (by decide)
  · skip
    refine z_iload hC dX9_form_261 (lv_at hl 1 rfl) ?_
    refine z_iload hC dX9_form_263 (lv_at hl 0 rfl) ?_
    refine z_isub hC dX9_form_265 ?_
    refine z_iconst (v := 3) hC dX9_form_266 (by decide) ?_
    refine z_icmp_gt (tgt := 281) hC dX9_form_267 (by decide) hz (fun hz => ?_) (fun hz => ?_)
    · skip
      refine z_bipush (v := 40) hC dX9_form_281 (by decide) ?_
      obtain rfl := Option.some.inj hz
      exact z_iret hC hT dX9_form_283 (by decide) (by decide)
    · skip
      refine z_bipush (v := 30) hC dX9_form_270 (by decide) ?_
      refine z_iload hC dX9_form_272 (lv_at hl 1 rfl) ?_
      refine z_iadd hC dX9_form_274 ?_
      refine z_iload hC dX9_form_275 (lv_at hl 0 rfl) ?_
      refine z_isub hC dX9_form_277 ?_
      refine z_goto (tgt := 283) hC dX9_form_278 (by decide) ?_
      obtain rfl := Option.some.inj hz
      exact z_iret hC hT dX9_form_283 (by decide) (by decide)
set_option maxRecDepth 100000 in
set_option maxHeartbeats 4000000 in
theorem b_X9_form_215 {p : Program} {l : Launch} {e : Env} {s : State} {m : MethodId} {args : Array Value} {below : List Frame} {meth : Method} {c : Code} {D : zD} {b0 : Nat} {F : Nat} {S : zS} {X : Int32 × zI} (hC : z_C p s m args meth c cX9_form RX9 9 (some .int) D) (hT : z_T b0 S)   (x4 : Int32) (x6 : Int32) (x8 : Int32) (I : zI)  (hz : z_X9_form_215 F S  x4 x6 x8 I = some X) (ls : Array Slot) (hl : lv_has ls 9 [(4, .int (x4)), (6, .int (x6)), (8, .int (x8))]) : z_W p l e { frames := 2, cells := 0, slots := 0, locals := 42 } s m args below meth c D b0 S I 0 0 (MQ below (z_Q D b0 (some (.int (X.1))) S X.2) args s 0 0 (fun q => b0 ≤ q)) (F0 m 215 ls []) := by
  unfold z_X9_form_215 at hz
  refine z_iload hC dX9_form_215 (lv_at hl 0 rfl) ?_
  refine z_iload hC dX9_form_217 (lv_at hl 1 rfl) ?_
  refine z_icmp_ne (tgt := 227) hC dX9_form_219 (by decide) hz (fun hz => ?_) (fun hz => ?_)
  · skip
    refine z_iload hC dX9_form_227 (lv_at hl 1 rfl) ?_
    refine z_iload hC dX9_form_229 (lv_at hl 0 rfl) ?_
    refine z_icmp_ge (tgt := 254) hC dX9_form_231 (by decide) hz (fun hz => ?_) (fun hz => ?_)
    · skip
      exact b_X9_form_254 hC hT   (x4) (x6) (I) hz ls (lv_sub hl [0, 1] rfl)
    · skip
      refine z_iload hC dX9_form_234 (lv_at hl 0 rfl) ?_
      refine z_iload hC dX9_form_236 (lv_at hl 1 rfl) ?_
      refine z_isub hC dX9_form_238 ?_
      refine z_iconst (v := 3) hC dX9_form_239 (by decide) ?_
      refine z_icmp_gt (tgt := 254) hC dX9_form_240 (by decide) hz (fun hz => ?_) (fun hz => ?_)
      · skip
        exact b_X9_form_254 hC hT   (x4) (x6) (I) hz ls (lv_sub hl [0, 1] rfl)
      · skip
        refine z_bipush (v := 20) hC dX9_form_243 (by decide) ?_
        refine z_iload hC dX9_form_245 (lv_at hl 0 rfl) ?_
        refine z_iadd hC dX9_form_247 ?_
        refine z_iload hC dX9_form_248 (lv_at hl 1 rfl) ?_
        refine z_isub hC dX9_form_250 ?_
        refine z_goto (tgt := 283) hC dX9_form_251 (by decide) ?_
        obtain rfl := Option.some.inj hz
        exact z_iret hC hT dX9_form_283 (by decide) (by decide)
  · skip
    refine z_iload hC dX9_form_222 (lv_at hl 2 rfl) ?_
    refine z_goto (tgt := 283) hC dX9_form_224 (by decide) ?_
    obtain rfl := Option.some.inj hz
    exact z_iret hC hT dX9_form_283 (by decide) (by decide)
set_option maxRecDepth 100000 in
set_option maxHeartbeats 4000000 in
theorem b_X9_form_176 {p : Program} {l : Launch} {e : Env} {s : State} {m : MethodId} {args : Array Value} {below : List Frame} {meth : Method} {c : Code} {D : zD} {b0 : Nat} {F : Nat} {S : zS} {X : Int32 × zI} (hC : z_C p s m args meth c cX9_form RX9 9 (some .int) D) (hT : z_T b0 S)   (x0 : Nat) (x4 : Int32) (x5 : Int32) (x6 : Int32) (x7 : Int32) (I : zI) (h_x0 : z_is b0 S x0 9) (hz : z_X9_form_176 F S  x0 x4 x5 x6 x7 I = some X) (ls : Array Slot) (hl : lv_has ls 9 [(0, .ref (x0)), (4, .int (x4)), (5, .int (x5)), (6, .int (x6)), (7, .int (x7))]) : z_W p l e { frames := 2, cells := 0, slots := 0, locals := 42 } s m args below meth c D b0 S I 0 0 (MQ below (z_Q D b0 (some (.int (X.1))) S X.2) args s 0 0 (fun q => b0 ≤ q)) (F0 m 176 ls []) := by
  unfold z_X9_form_176 at hz
  refine z_aload_n hC dX9_form_176 rfl (lv_at hl 0 rfl) ?_
  obtain ⟨r1, hr_r1, hz⟩ := ob_some hz
  have hk_r1 : z_is b0 S r1 10 := hT.at h_x0 hr_r1
  refine z_getR hC zc_9 19 (by decide) kw_756 dX9_form_177 h_x0 rfl hr_r1 ?_
  refine z_iload hC dX9_form_180 (lv_at hl 2 rfl) ?_
  refine z_bipush (v := 8) hC dX9_form_182 (by decide) ?_
  refine z_iadd hC dX9_form_184 ?_
  obtain ⟨hi2, hz⟩ := ifn_some hz
  refine z_iald hC dX9_form_185 hk_r1 hi2 ?_
  refine z_istore (lv' := [(8, .int (I r1 (x5 + 8).toNatClampNeg)), (0, .ref (x0)), (4, .int (x4)), (5, .int (x5)), (6, .int (x6)), (7, .int (x7))]) hC dX9_form_186 hl (by decide) rfl (fun ls hl => ?_)
  refine z_iload hC dX9_form_188 (lv_at hl 5 rfl) ?_
  refine z_if_eq (tgt := 212) hC dX9_form_190 (by decide) hz (fun hz => ?_) (fun hz => ?_)
  · skip
    refine z_bipush (v := 40) hC dX9_form_212 (by decide) ?_
    obtain rfl := Option.some.inj hz
    exact z_iret hC hT dX9_form_214 (by decide) (by decide)
  · skip
    refine z_iload hC dX9_form_193 (lv_at hl 0 rfl) ?_
    refine z_iconst (v := 1) hC dX9_form_195 (by decide) ?_
    refine z_icmp_gt (tgt := 212) hC dX9_form_196 (by decide) hz (fun hz => ?_) (fun hz => ?_)
    · skip
      refine z_bipush (v := 40) hC dX9_form_212 (by decide) ?_
      obtain rfl := Option.some.inj hz
      exact z_iret hC hT dX9_form_214 (by decide) (by decide)
    · skip
      refine z_iload hC dX9_form_199 (lv_at hl 0 rfl) ?_
      refine z_iconst (v := 1) hC dX9_form_201 (by decide) ?_
      refine z_icmp_ne (tgt := 215) hC dX9_form_202 (by decide) hz (fun hz => ?_) (fun hz => ?_)
      · skip
        exact b_X9_form_215 hC hT   (x4) (x6) (I r1 (x5 + 8).toNatClampNeg) (I) hz ls (lv_sub hl [2, 4, 0] rfl)
      · skip
        refine z_iload hC dX9_form_205 (lv_at hl 2 rfl) ?_
        refine z_iload hC dX9_form_207 (lv_at hl 4 rfl) ?_
        refine z_icmp_eq (tgt := 215) hC dX9_form_209 (by decide) hz (fun hz => ?_) (fun hz => ?_)
        · skip
          exact b_X9_form_215 hC hT   (x4) (x6) (I r1 (x5 + 8).toNatClampNeg) (I) hz ls (lv_sub hl [2, 4, 0] rfl)
        · skip
          refine z_bipush (v := 40) hC dX9_form_212 (by decide) ?_
          obtain rfl := Option.some.inj hz
          exact z_iret hC hT dX9_form_214 (by decide) (by decide)
set_option maxRecDepth 100000 in
set_option maxHeartbeats 4000000 in
theorem bb_X9_form_129 {p : Program} {l : Launch} {e : Env} {s : State} {m : MethodId} {args : Array Value} {below : List Frame} {meth : Method} {c : Code} {D : zD} {b0 : Nat} {F : Nat} {S : zS} {X : Int32 × zI} (hC : z_C p s m args meth c cX9_form RX9 9 (some .int) D) (hT : z_T b0 S) (k129 : Nat → Int32 → Int32 → Int32 → Int32 → Int32 → zI → Option (Int32 × zI)) (hk129 : ∀ (x0 : Nat) (x4 : Int32) (x5 : Int32) (x6 : Int32) (x7 : Int32) (x8 : Int32) (I : zI) , z_is b0 S x0 9 → k129 x0 x4 x5 x6 x7 x8 I = some X → ∀ ls : Array Slot, lv_has ls 9 [(0, .ref (x0)), (4, .int (x4)), (5, .int (x5)), (6, .int (x6)), (7, .int (x7)), (8, .int (x8))] → z_W p l e { frames := 2, cells := 0, slots := 0, locals := 42 } s m args below meth c D b0 S I 0 0 (MQ below (z_Q D b0 (some (.int (X.1))) S X.2) args s 0 0 (fun q => b0 ≤ q)) (F0 m 129 ls [])) (x0 : Nat) (x4 : Int32) (x5 : Int32) (x6 : Int32) (x7 : Int32) (x8 : Int32) (I : zI) (h_x0 : z_is b0 S x0 9) (hz : z_X9_form_129B F S k129 x0 x4 x5 x6 x7 x8 I = some X) (ls : Array Slot) (hl : lv_has ls 9 [(0, .ref (x0)), (4, .int (x4)), (5, .int (x5)), (6, .int (x6)), (7, .int (x7)), (8, .int (x8))]) : z_W p l e { frames := 2, cells := 0, slots := 0, locals := 42 } s m args below meth c D b0 S I 0 0 (MQ below (z_Q D b0 (some (.int (X.1))) S X.2) args s 0 0 (fun q => b0 ≤ q)) (F0 m 129 ls []) := by
  unfold z_X9_form_129B at hz
  refine z_iload hC dX9_form_129 (lv_at hl 5 rfl) ?_
  refine z_iload hC dX9_form_131 (lv_at hl 1 rfl) ?_
  refine z_icmp_ge (tgt := 176) hC dX9_form_133 (by decide) hz (fun hz => ?_) (fun hz => ?_)
  · skip
    exact b_X9_form_176 hC hT   (x0) (x4) (x5) (x6) (x7) (I) h_x0 hz ls (lv_sub hl [0, 1, 2, 3, 4] rfl)
  · skip
    refine z_iload hC dX9_form_136 (lv_at hl 5 rfl) ?_
    refine z_iload hC dX9_form_138 (lv_at hl 3 rfl) ?_
    refine z_icmp_ge (tgt := 176) hC dX9_form_140 (by decide) hz (fun hz => ?_) (fun hz => ?_)
    · skip
      exact b_X9_form_176 hC hT   (x0) (x4) (x5) (x6) (x7) (I) h_x0 hz ls (lv_sub hl [0, 1, 2, 3, 4] rfl)
    · skip
      refine z_iload hC dX9_form_143 (lv_at hl 4 rfl) ?_
      refine z_aload_n hC dX9_form_145 rfl (lv_at hl 0 rfl) ?_
      obtain ⟨r1, hr_r1, hz⟩ := ob_some hz
      have hk_r1 : z_is b0 S r1 10 := hT.at h_x0 hr_r1
      refine z_getR hC zc_9 27 (by decide) kw_764 dX9_form_146 h_x0 rfl hr_r1 ?_
      refine z_iload hC dX9_form_149 (lv_at hl 5 rfl) ?_
      obtain ⟨hi2, hz⟩ := ifn_some hz
      refine z_iald hC dX9_form_151 hk_r1 hi2 ?_
      refine z_aload_n hC dX9_form_152 rfl (lv_at hl 0 rfl) ?_
      obtain ⟨r3, hr_r3, hz⟩ := ob_some hz
      have hk_r3 : z_is b0 S r3 10 := hT.at h_x0 hr_r3
      refine z_getR hC zc_9 28 (by decide) kw_765 dX9_form_153 h_x0 rfl hr_r3 ?_
      refine z_iload hC dX9_form_156 (lv_at hl 5 rfl) ?_
      obtain ⟨hi4, hz⟩ := ifn_some hz
      refine z_iald hC dX9_form_158 hk_r3 hi4 ?_
      refine z_icmp_ne (tgt := 166) hC dX9_form_159 (by decide) hz (fun hz => ?_) (fun hz => ?_)
      · skip
        refine z_iconst (v := 0) hC dX9_form_166 (by decide) ?_
        exact b_X9_form_167 hC hT k129 hk129 (x0) (x4) (x5) (x6) (x8) (x7) (0) (I) h_x0 hz ls (lv_sub hl [0, 1, 2, 3, 5] rfl)
      · skip
        refine z_iconst (v := 1) hC dX9_form_162 (by decide) ?_
        refine z_goto (tgt := 167) hC dX9_form_163 (by decide) ?_
        exact b_X9_form_167 hC hT k129 hk129 (x0) (x4) (x5) (x6) (x8) (x7) (1) (I) h_x0 hz ls (lv_sub hl [0, 1, 2, 3, 5] rfl)
set_option maxRecDepth 100000 in
set_option maxHeartbeats 4000000 in
theorem b_X9_form_129 {p : Program} {l : Launch} {e : Env} {s : State} {m : MethodId} {args : Array Value} {below : List Frame} {meth : Method} {c : Code} {D : zD} {b0 : Nat} {F : Nat} {S : zS} {X : Int32 × zI} (hC : z_C p s m args meth c cX9_form RX9 9 (some .int) D) (hT : z_T b0 S)   : ∀ (n : Nat) (x0 : Nat) (x4 : Int32) (x5 : Int32) (x6 : Int32) (x7 : Int32) (x8 : Int32) (I : zI), z_is b0 S x0 9 → z_X9_form_129 F S  n x0 x4 x5 x6 x7 x8 I = some X → ∀ ls : Array Slot, lv_has ls 9 [(0, .ref (x0)), (4, .int (x4)), (5, .int (x5)), (6, .int (x6)), (7, .int (x7)), (8, .int (x8))] → z_W p l e { frames := 2, cells := 0, slots := 0, locals := 42 } s m args below meth c D b0 S I 0 0 (MQ below (z_Q D b0 (some (.int (X.1))) S X.2) args s 0 0 (fun q => b0 ≤ q)) (F0 m 129 ls []) := by
  intro n
  induction n with
  | zero => intro x0 x4 x5 x6 x7 x8 I h_x0 hz; cases hz
  | succ n ih =>
    intro x0 x4 x5 x6 x7 x8 I h_x0 hz ls hl
    exact bb_X9_form_129 (F := F) hC hT  (z_X9_form_129 F S  n)  ih x0 x4 x5 x6 x7 x8 I h_x0 hz ls hl
set_option maxRecDepth 100000 in
set_option maxHeartbeats 4000000 in
theorem b_X9_form_97 {p : Program} {l : Launch} {e : Env} {s : State} {m : MethodId} {args : Array Value} {below : List Frame} {meth : Method} {c : Code} {D : zD} {b0 : Nat} {F : Nat} {S : zS} {X : Int32 × zI} (hC : z_C p s m args meth c cX9_form RX9 9 (some .int) D) (hT : z_T b0 S)   (x0 : Nat) (x1 : Int32) (x3 : Int32) (x4 : Int32) (I : zI) (h_x0 : z_is b0 S x0 9) (hz : z_X9_form_97 F S  x0 x1 x3 x4 I = some X) (ls : Array Slot) (hl : lv_has ls 9 [(0, .ref (x0)), (1, .int (x1)), (3, .int (x3)), (4, .int (x4))]) : z_W p l e { frames := 2, cells := 0, slots := 0, locals := 42 } s m args below meth c D b0 S I 0 0 (MQ below (z_Q D b0 (some (.int (X.1))) S X.2) args s 0 0 (fun q => b0 ≤ q)) (F0 m 97 ls []) := by
  unfold z_X9_form_97 at hz
  refine z_bipush (v := 20) hC dX9_form_97 (by decide) ?_
  refine z_bipush (v := 40) hC dX9_form_99 (by decide) ?_
  refine z_iload_n hC dX9_form_101 rfl (lv_at hl 1 rfl) ?_
  refine z_imul hC dX9_form_102 ?_
  refine z_iload_n hC dX9_form_103 rfl (lv_at hl 2 rfl) ?_
  refine z_iadd hC dX9_form_104 ?_
  refine z_imul hC dX9_form_105 ?_
  refine z_istore (lv' := [(5, .int (20 * ((40 * x1) + x3))), (0, .ref (x0)), (1, .int (x1)), (3, .int (x3)), (4, .int (x4))]) hC dX9_form_106 hl (by decide) rfl (fun ls hl => ?_)
  refine z_aload_n hC dX9_form_108 rfl (lv_at hl 1 rfl) ?_
  obtain ⟨r1, hr_r1, hz⟩ := ob_some hz
  have hk_r1 : z_is b0 S r1 10 := hT.at h_x0 hr_r1
  refine z_getR hC zc_9 19 (by decide) kw_756 dX9_form_109 h_x0 rfl hr_r1 ?_
  refine z_iload hC dX9_form_112 (lv_at hl 0 rfl) ?_
  refine z_aload_n hC dX9_form_114 rfl (lv_at hl 1 rfl) ?_
  obtain ⟨r2, hr_r2, hz⟩ := ob_some hz
  have hk_r2 : z_is b0 S r2 10 := hT.at h_x0 hr_r2
  refine z_getR hC zc_9 28 (by decide) kw_765 dX9_form_115 h_x0 rfl hr_r2 ?_
  obtain ⟨q3, hq_q3, hz⟩ := ob_some hz
  refine z_callS (As := [.ref (r1), .int (20 * ((40 * x1) + x3)), .ref (r2)]) hC hT (c_X9_toldPlaces F r1 (20 * ((40 * x1) + x3)) r2 hk_r1 hk_r2 hq_q3) zy_X9_toldPlaces kw_1005 kw_1004 dX9_form_118 rfl rfl hl.1 (Nat.le_of_ble_eq_true rfl) (by decide) (by decide) ?_
  refine z_istore (lv' := [(6, .int (q3.1)), (5, .int (20 * ((40 * x1) + x3))), (0, .ref (x0)), (1, .int (x1)), (3, .int (x3)), (4, .int (x4))]) hC dX9_form_121 hl (by decide) rfl (fun ls hl => ?_)
  refine z_iconst (v := 1) hC dX9_form_123 (by decide) ?_
  refine z_istore (lv' := [(7, .int (1)), (6, .int (q3.1)), (5, .int (20 * ((40 * x1) + x3))), (0, .ref (x0)), (1, .int (x1)), (3, .int (x3)), (4, .int (x4))]) hC dX9_form_124 hl (by decide) rfl (fun ls hl => ?_)
  refine z_iconst (v := 0) hC dX9_form_126 (by decide) ?_
  refine z_istore (lv' := [(8, .int (0)), (7, .int (1)), (6, .int (q3.1)), (5, .int (20 * ((40 * x1) + x3))), (0, .ref (x0)), (1, .int (x1)), (3, .int (x3)), (4, .int (x4))]) hC dX9_form_127 hl (by decide) rfl (fun ls hl => ?_)
  exact b_X9_form_129 hC hT   F (x0) (x4) (20 * ((40 * x1) + x3)) (q3.1) (1) (0) (q3.2) h_x0 hz ls (lv_sub hl [4, 7, 3, 2, 1, 0] rfl)
set_option maxRecDepth 100000 in
set_option maxHeartbeats 4000000 in
theorem c_X9_form {l : Launch} {D : zD} {b0 : Nat} {S : zS} {I : zI} {X : Int32 × zI} (F : Nat) (x0 : Nat) (x1 : Int32) (x2 : Int32) (h_x0 : z_is b0 S x0 9) (hz : z_X9_form F S I x0 x1 x2 = some X) : z_M l D b0 yX9_form cX9_form 9 (some .int) { frames := 2, cells := 0, slots := 0, locals := 42 } [.ref (x0), .int (x1), .int (x2)] S I (some (.int (X.1))) S X.2 := by
  refine z_met (by decide) (Nat.le_of_ble_eq_true rfl) ?_
  intro p e s m below meth c hC hnm hT ls hl
  have hl : lv_has ls 9 [(0, .ref (x0)), (1, .int (x1)), (2, .int (x2))] := hl
  unfold z_X9_form at hz
  refine z_iload_n hC dX9_form_0 rfl (lv_at hl 1 rfl) ?_
  obtain ⟨q1, hq_q1, hz⟩ := ob_some hz
  refine z_callS (As := [.int (x1)]) hC hT (c_X9_isMethod F x1  hq_q1) zy_X9_isMethod kw_861 kw_860 dX9_form_1 rfl rfl hl.1 (Nat.le_of_ble_eq_true rfl) (by decide) (by decide) ?_
  refine z_if_ne (tgt := 9) hC dX9_form_4 (by decide) hz (fun hz => ?_) (fun hz => ?_)
  · skip
    refine z_aload_n hC dX9_form_9 rfl (lv_at hl 0 rfl) ?_
    obtain ⟨r2, hr_r2, hz⟩ := ob_some hz
    have hk_r2 : z_is b0 S r2 11 := hT.at h_x0 hr_r2
    refine z_getR hC zc_9 15 (by decide) kw_752 dX9_form_10 h_x0 rfl hr_r2 ?_
    refine z_iload_n hC dX9_form_13 rfl (lv_at hl 1 rfl) ?_
    obtain ⟨hi3, hz⟩ := ifn_some hz
    refine z_zald hC dX9_form_14 hk_r2 hi3 ?_
    refine z_if_ne (tgt := 21) hC dX9_form_15 (by decide) hz (fun hz => ?_) (fun hz => ?_)
    · skip
      refine z_aload_n hC dX9_form_21 rfl (lv_at hl 0 rfl) ?_
      refine z_iload_n hC dX9_form_22 rfl (lv_at hl 1 rfl) ?_
      refine z_iload_n hC dX9_form_23 rfl (lv_at hl 2 rfl) ?_
      obtain ⟨q4, hq_q4, hz⟩ := ob_some hz
      refine z_callV (As := [.int (x1), .int (x2)]) hC hT (c_X9_actOf F x0 x1 x2 h_x0 hq_q4) zy_X9_actOf zc_9 zv_X9_actOf kw_996 dX9_form_24 h_x0 rfl rfl hl.1 (Nat.le_of_ble_eq_true rfl) (by decide) (by decide) ?_
      refine z_istore_n (lv' := [(3, .int (q4)), (0, .ref (x0)), (1, .int (x1)), (2, .int (x2))]) hC dX9_form_27 rfl hl (by decide) rfl (fun ls hl => ?_)
      refine z_iload_n hC dX9_form_28 rfl (lv_at hl 0 rfl) ?_
      refine z_if_ge (tgt := 34) hC dX9_form_29 (by decide) hz (fun hz => ?_) (fun hz => ?_)
      · skip
        refine z_iload_n hC dX9_form_34 rfl (lv_at hl 3 rfl) ?_
        refine z_if_ne (tgt := 68) hC dX9_form_35 (by decide) hz (fun hz => ?_) (fun hz => ?_)
        · skip
          refine z_aload_n hC dX9_form_68 rfl (lv_at hl 1 rfl) ?_
          obtain ⟨r5, hr_r5, hz⟩ := ob_some hz
          have hk_r5 : z_is b0 S r5 10 := hT.at h_x0 hr_r5
          refine z_getR hC zc_9 19 (by decide) kw_756 dX9_form_69 h_x0 rfl hr_r5 ?_
          refine z_bipush (v := 20) hC dX9_form_72 (by decide) ?_
          refine z_bipush (v := 40) hC dX9_form_74 (by decide) ?_
          refine z_iload_n hC dX9_form_76 rfl (lv_at hl 2 rfl) ?_
          refine z_imul hC dX9_form_77 ?_
          refine z_aload_n hC dX9_form_78 rfl (lv_at hl 1 rfl) ?_
          refine z_iload_n hC dX9_form_79 rfl (lv_at hl 2 rfl) ?_
          refine z_iload_n hC dX9_form_80 rfl (lv_at hl 3 rfl) ?_
          refine z_iconst (v := 1) hC dX9_form_81 (by decide) ?_
          refine z_isub hC dX9_form_82 ?_
          obtain ⟨q6, hq_q6, hz⟩ := ob_some hz
          refine z_callV (As := [.int (x1), .int (x2 - 1)]) hC hT (c_X9_actOf F x0 x1 (x2 - 1) h_x0 hq_q6) zy_X9_actOf zc_9 zv_X9_actOf kw_996 dX9_form_83 h_x0 rfl rfl hl.1 (Nat.le_of_ble_eq_true rfl) (by decide) (by decide) ?_
          refine z_iadd hC dX9_form_86 ?_
          refine z_imul hC dX9_form_87 ?_
          refine z_aload_n hC dX9_form_88 rfl (lv_at hl 1 rfl) ?_
          obtain ⟨r7, hr_r7, hz⟩ := ob_some hz
          have hk_r7 : z_is b0 S r7 10 := hT.at h_x0 hr_r7
          refine z_getR hC zc_9 27 (by decide) kw_764 dX9_form_89 h_x0 rfl hr_r7 ?_
          obtain ⟨q8, hq_q8, hz⟩ := ob_some hz
          refine z_callS (As := [.ref (r5), .int (20 * ((40 * x1) + q6)), .ref (r7)]) hC hT (c_X9_toldPlaces F r5 (20 * ((40 * x1) + q6)) r7 hk_r5 hk_r7 hq_q8) zy_X9_toldPlaces kw_1005 kw_1004 dX9_form_92 rfl rfl hl.1 (Nat.le_of_ble_eq_true rfl) (by decide) (by decide) ?_
          refine z_istore (lv' := [(4, .int (q8.1)), (3, .int (q4)), (0, .ref (x0)), (1, .int (x1)), (2, .int (x2))]) hC dX9_form_95 hl (by decide) rfl (fun ls hl => ?_)
          exact b_X9_form_97 hC hT   (x0) (x1) (q4) (q8.1) (q8.2) h_x0 hz ls (lv_sub hl [2, 3, 1, 0] rfl)
        · skip
          refine z_aload_n hC dX9_form_38 rfl (lv_at hl 1 rfl) ?_
          refine z_iload_n hC dX9_form_39 rfl (lv_at hl 2 rfl) ?_
          refine z_putI hC zc_9 21 (by decide) kw_758 dX9_form_40 h_x0 rfl rfl rfl rfl ?_
          refine z_aload_n hC dX9_form_43 rfl (lv_at hl 1 rfl) ?_
          refine z_aload_n hC dX9_form_44 rfl (lv_at hl 1 rfl) ?_
          obtain ⟨r9, hr_r9, hz⟩ := ob_some hz
          have hk_r9 : z_is b0 S r9 10 := hT.at h_x0 hr_r9
          refine z_getR hC zc_9 23 (by decide) kw_760 dX9_form_45 h_x0 rfl hr_r9 ?_
          obtain ⟨q10, hq_q10, hz⟩ := ob_some hz
          refine z_callV (As := [.ref (r9)]) hC hT (c_X9_beginning F x0 r9 h_x0 hk_r9 hq_q10) zy_X9_beginning zc_9 zv_X9_beginning kw_882 dX9_form_48 h_x0 rfl rfl hl.1 (Nat.le_of_ble_eq_true rfl) (by decide) (by decide) ?_
          refine z_aload_n hC dX9_form_51 rfl (lv_at hl 1 rfl) ?_
          refine z_getR hC zc_9 23 (by decide) kw_760 dX9_form_52 h_x0 rfl hr_r9 ?_
          refine z_iconst (v := 0) hC dX9_form_55 (by decide) ?_
          refine z_aload_n hC dX9_form_56 rfl (lv_at hl 1 rfl) ?_
          obtain ⟨r11, hr_r11, hz⟩ := ob_some hz
          have hk_r11 : z_is b0 S r11 10 := hT.at h_x0 hr_r11
          refine z_getR hC zc_9 27 (by decide) kw_764 dX9_form_57 h_x0 rfl hr_r11 ?_
          obtain ⟨q12, hq_q12, hz⟩ := ob_some hz
          refine z_callS (As := [.ref (r9), .int (0), .ref (r11)]) hC hT (c_X9_toldPlaces F r9 0 r11 hk_r9 hk_r11 hq_q12) zy_X9_toldPlaces kw_1005 kw_1004 dX9_form_60 rfl rfl hl.1 (Nat.le_of_ble_eq_true rfl) (by decide) (by decide) ?_
          refine z_istore (lv' := [(4, .int (q12.1)), (3, .int (q4)), (0, .ref (x0)), (1, .int (x1)), (2, .int (x2))]) hC dX9_form_63 hl (by decide) rfl (fun ls hl => ?_)
          refine z_goto (tgt := 97) hC dX9_form_65 (by decide) ?_
          exact b_X9_form_97 hC hT   (x0) (x1) (q4) (q12.1) (q12.2) h_x0 hz ls (lv_sub hl [2, 3, 1, 0] rfl)
      · skip
        refine z_iconst (v := (-1)) hC dX9_form_32 (by decide) ?_
        obtain rfl := Option.some.inj hz
        exact z_iret hC hT dX9_form_33 (by decide) (by decide)
    · skip
      refine z_bipush (v := (-3)) hC dX9_form_18 (by decide) ?_
      obtain rfl := Option.some.inj hz
      exact z_iret hC hT dX9_form_20 (by decide) (by decide)
  · skip
    refine z_iconst (v := (-1)) hC dX9_form_7 (by decide) ?_
    obtain rfl := Option.some.inj hz
    exact z_iret hC hT dX9_form_8 (by decide) (by decide)
