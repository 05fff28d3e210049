theorem zy_X2_merge : z_y yX2_merge cX2_merge 7 (some .int) 2 := ⟨kw_415, kw_6, by decide +kernel, by decide +kernel, by decide +kernel⟩
theorem zv_X2_merge : Cond.instanceMethod yX2_merge ∈ z_tbl ∧ Cond.selects RX2 yX2_merge yX2_merge ∈ z_tbl := ⟨kw_414, ks_4⟩
def z_X2_merge_82 (F : Nat) (S : zS) (k21 : Nat → Nat → Nat → Nat → Int32 → zI → Option (Int32 × zI)) (x0 : Nat) (x1 : Nat) (x2 : Nat) (x3 : Nat) (x4 : Int32) (x6 : Int32) (y0 : Nat) (y1 : Int32) (I : zI) : Option (Int32 × zI) :=
  if y1 = 0 ∨ y1 = 1 then (ob (z_X6_setStack F S (z_up I y0 4 y1) x3 x4 x6) (fun q2 => k21 (x0) (x1) (x2) (x3) (x4 + 1) (q2))) else none
def z_X2_merge_154 (F : Nat) (S : zS) (k102 : Nat → Nat → Nat → Nat → Int32 → zI → Option (Int32 × zI)) (x0 : Nat) (x1 : Nat) (x2 : Nat) (x3 : Nat) (x4 : Int32) (x6 : Int32) (y0 : Nat) (y1 : Int32) (I : zI) : Option (Int32 × zI) :=
  if y1 = 0 ∨ y1 = 1 then (ob (z_X6_setPlace F S (z_up I y0 4 y1) x3 x4 x6) (fun q2 => k102 (x0) (x1) (x2) (x3) (x4 + 1) (q2))) else none
def z_X2_merge_102B (F : Nat) (S : zS) (k102 : Nat → Nat → Nat → Nat → Int32 → zI → Option (Int32 × zI)) (x0 : Nat) (x1 : Nat) (x2 : Nat) (x3 : Nat) (x4 : Int32) (I : zI) : Option (Int32 × zI) :=
  if x4 < 8 then (ob (z_X6_inPlace F S I x3 x4) (fun q1 => ob (S.1 x0 0) (fun r2 => ob (z_X6_inPlace F S I x2 x4) (fun q3 => ob (z_X1_joinTypes F S I r2 q1 q3) (fun q4 => if (I x1 4) = 0 then (if q4 = q1 then (z_X2_merge_154 F S k102 (x0) (x1) (x2) (x3) (x4) (q4) (x1) (0) (I)) else (z_X2_merge_154 F S k102 (x0) (x1) (x2) (x3) (x4) (q4) (x1) (1) (I))) else (z_X2_merge_154 F S k102 (x0) (x1) (x2) (x3) (x4) (q4) (x1) (1) (I))))))) else (some (0, I))
def z_X2_merge_102 (F : Nat) (S : zS)  : Nat → Nat → Nat → Nat → Nat → Int32 → zI → Option (Int32 × zI)
  | 0 => fun _ _ _ _ _ _ => none
  | n + 1 => fun x0 x1 x2 x3 x4 I => z_X2_merge_102B F S  (z_X2_merge_102 F S  n) x0 x1 x2 x3 x4 I
def z_X2_merge_21B (F : Nat) (S : zS) (k21 : Nat → Nat → Nat → Nat → Int32 → zI → Option (Int32 × zI)) (x0 : Nat) (x1 : Nat) (x2 : Nat) (x3 : Nat) (x4 : Int32) (I : zI) : Option (Int32 × zI) :=
  if x4 < (I x2 2) then (ob (z_X6_onStack F S I x3 x4) (fun q1 => ob (S.1 x0 0) (fun r2 => ob (z_X6_onStack F S I x2 x4) (fun q3 => ob (z_X1_joinTypes F S I r2 q1 q3) (fun q4 => if q4 = 0 then (some (2, I)) else (if (I x1 4) = 0 then (if q4 = q1 then (z_X2_merge_82 F S k21 (x0) (x1) (x2) (x3) (x4) (q4) (x1) (0) (I)) else (z_X2_merge_82 F S k21 (x0) (x1) (x2) (x3) (x4) (q4) (x1) (1) (I))) else (z_X2_merge_82 F S k21 (x0) (x1) (x2) (x3) (x4) (q4) (x1) (1) (I)))))))) else (z_X2_merge_102 F S  F (x0) (x1) (x2) (x3) (0) (I))
def z_X2_merge_21 (F : Nat) (S : zS)  : Nat → Nat → Nat → Nat → Nat → Int32 → zI → Option (Int32 × zI)
  | 0 => fun _ _ _ _ _ _ => none
  | n + 1 => fun x0 x1 x2 x3 x4 I => z_X2_merge_21B F S  (z_X2_merge_21 F S  n) x0 x1 x2 x3 x4 I
def z_X2_merge (F : Nat) (S : zS) (I : zI) (x0 : Nat) (x1 : Nat) (x2 : Nat) : Option (Int32 × zI) :=
  ob (S.1 x1 6) (fun r1 => if (I r1 2) = (I x2 2) then (z_X2_merge_21 F S  F (x0) (x1) (x2) (r1) (0) (I)) else (some (4, I)))
set_option maxRecDepth 100000 in
set_option maxHeartbeats 4000000 in
theorem b_X2_merge_82 {p : Program} {l : Launch} {e : Env} {s : State} {m : MethodId} {args : Array Value} {below : List Frame} {meth : Method} {c : Code} {D : zD} {b0 : Nat} {F : Nat} {S : zS} {X : Int32 × zI} (hC : z_C p s m args meth c cX2_merge RX2 7 (some .int) D) (hT : z_T b0 S) (k21 : Nat → Nat → Nat → Nat → Int32 → zI → Option (Int32 × zI)) (hk21 : ∀ (x0 : Nat) (x1 : Nat) (x2 : Nat) (x3 : Nat) (x4 : Int32) (I : zI) , z_is b0 S x0 2 → z_is b0 S x1 0 → z_is b0 S x2 6 → z_is b0 S x3 6 → k21 x0 x1 x2 x3 x4 I = some X → ∀ ls : Array Slot, lv_has ls 7 [(0, .ref (x0)), (1, .ref (x1)), (2, .ref (x2)), (3, .ref (x3)), (4, .int (x4))] → z_W p l e { frames := 2, cells := 0, slots := 0, locals := 48 } s m args below meth c D b0 S I 0 0 (MQ below (z_Q D b0 (some (.int (X.1))) S X.2) args s 0 0 (fun q => b0 ≤ q)) (F0 m 21 ls [])) (x0 : Nat) (x1 : Nat) (x2 : Nat) (x3 : Nat) (x4 : Int32) (x6 : Int32) (y0 : Nat) (y1 : Int32) (I : zI) (h_x0 : z_is b0 S x0 2) (h_x1 : z_is b0 S x1 0) (h_x2 : z_is b0 S x2 6) (h_x3 : z_is b0 S x3 6) (h_y0 : z_is b0 S y0 0) (hz : z_X2_merge_82 F S k21 x0 x1 x2 x3 x4 x6 y0 y1 I = some X) (ls : Array Slot) (hl : lv_has ls 7 [(0, .ref (x0)), (1, .ref (x1)), (2, .ref (x2)), (3, .ref (x3)), (4, .int (x4)), (6, .int (x6))]) : z_W p l e { frames := 2, cells := 0, slots := 0, locals := 48 } s m args below meth c D b0 S I 0 0 (MQ below (z_Q D b0 (some (.int (X.1))) S X.2) args s 0 0 (fun q => b0 ≤ q)) (F0 m 82 ls [.int (y1), .ref (y0)]) := by
  unfold z_X2_merge_82 at hz
  obtain ⟨hb1, hz⟩ := ifp_some hz
  refine z_putI hC zc_0 4 (by decide) kw_306 dX2_merge_82 h_y0 rfl rfl (z_bool hb1) (z_boolf hb1) ?_
  refine z_aload_n hC dX2_merge_85 rfl (lv_at hl 3 rfl) ?_
  refine z_iload hC dX2_merge_86 (lv_at hl 4 rfl) ?_
  refine z_iload hC dX2_merge_88 (lv_at hl 5 rfl) ?_
  obtain ⟨q2, hq_q2, hz⟩ := ob_some hz
  refine z_callV (As := [.int (x4), .int (x6)]) hC hT (c_X6_setStack F x3 x4 x6 h_x3 hq_q2) zy_X6_setStack zc_6 zv_X6_setStack kw_423 dX2_merge_90 h_x3 rfl rfl hl.1 (Nat.le_of_ble_eq_true rfl) (by decide) (by decide) ?_
  refine z_iinc (k0 := 4) (v := x4 + 1) (lv' := [(4, .int (x4 + 1)), (0, .ref (x0)), (1, .ref (x1)), (2, .ref (x2)), (3, .ref (x3)), (6, .int (x6))]) hC dX2_merge_93 hl rfl rfl (by decide) rfl (fun ls hl => ?_)
  refine z_goto (tgt := 21) hC dX2_merge_96 (by decide) ?_
  exact hk21 (x0) (x1) (x2) (x3) (x4 + 1) (q2) h_x0 h_x1 h_x2 h_x3 hz ls (lv_sub hl [1, 2, 3, 4, 0] rfl)
set_option maxRecDepth 100000 in
set_option maxHeartbeats 4000000 in
theorem b_X2_merge_154 {p : Program} {l : Launch} {e : Env} {s : State} {m : MethodId} {args : Array Value} {below : List Frame} {meth : Method} {c : Code} {D : zD} {b0 : Nat} {F : Nat} {S : zS} {X : Int32 × zI} (hC : z_C p s m args meth c cX2_merge RX2 7 (some .int) D) (hT : z_T b0 S) (k102 : Nat → Nat → Nat → Nat → Int32 → zI → Option (Int32 × zI)) (hk102 : ∀ (x0 : Nat) (x1 : Nat) (x2 : Nat) (x3 : Nat) (x4 : Int32) (I : zI) , z_is b0 S x0 2 → z_is b0 S x1 0 → z_is b0 S x2 6 → z_is b0 S x3 6 → k102 x0 x1 x2 x3 x4 I = some X → ∀ ls : Array Slot, lv_has ls 7 [(0, .ref (x0)), (1, .ref (x1)), (2, .ref (x2)), (3, .ref (x3)), (4, .int (x4))] → z_W p l e { frames := 2, cells := 0, slots := 0, locals := 48 } s m args below meth c D b0 S I 0 0 (MQ below (z_Q D b0 (some (.int (X.1))) S X.2) args s 0 0 (fun q => b0 ≤ q)) (F0 m 102 ls [])) (x0 : Nat) (x1 : Nat) (x2 : Nat) (x3 : Nat) (x4 : Int32) (x6 : Int32) (y0 : Nat) (y1 : Int32) (I : zI) (h_x0 : z_is b0 S x0 2) (h_x1 : z_is b0 S x1 0) (h_x2 : z_is b0 S x2 6) (h_x3 : z_is b0 S x3 6) (h_y0 : z_is b0 S y0 0) (hz : z_X2_merge_154 F S k102 x0 x1 x2 x3 x4 x6 y0 y1 I = some X) (ls : Array Slot) (hl : lv_has ls 7 [(0, .ref (x0)), (1, .ref (x1)), (2, .ref (x2)), (3, .ref (x3)), (4, .int (x4)), (6, .int (x6))]) : z_W p l e { frames := 2, cells := 0, slots := 0, locals := 48 } s m args below meth c D b0 S I 0 0 (MQ below (z_Q D b0 (some (.int (X.1))) S X.2) args s 0 0 (fun q => b0 ≤ q)) (F0 m 154 ls [.int (y1), .ref (y0)]) := by
  unfold z_X2_merge_154 at hz
  obtain ⟨hb1, hz⟩ := ifp_some hz
  refine z_putI hC zc_0 4 (by decide) kw_306 dX2_merge_154 h_y0 rfl rfl (z_bool hb1) (z_boolf hb1) ?_
  refine z_aload_n hC dX2_merge_157 rfl (lv_at hl 3 rfl) ?_
  refine z_iload hC dX2_merge_158 (lv_at hl 4 rfl) ?_
  refine z_iload hC dX2_merge_160 (lv_at hl 5 rfl) ?_
  obtain ⟨q2, hq_q2, hz⟩ := ob_some hz
  refine z_callV (As := [.int (x4), .int (x6)]) hC hT (c_X6_setPlace F x3 x4 x6 h_x3 hq_q2) zy_X6_setPlace zc_6 zv_X6_setPlace kw_428 dX2_merge_162 h_x3 rfl rfl hl.1 (Nat.le_of_ble_eq_true rfl) (by decide) (by decide) ?_
  refine z_iinc (k0 := 4) (v := x4 + 1) (lv' := [(4, .int (x4 + 1)), (0, .ref (x0)), (1, .ref (x1)), (2, .ref (x2)), (3, .ref (x3)), (6, .int (x6))]) hC dX2_merge_165 hl rfl rfl (by decide) rfl (fun ls hl => ?_)
  refine z_goto (tgt := 102) hC dX2_merge_168 (by decide) ?_
  exact hk102 (x0) (x1) (x2) (x3) (x4 + 1) (q2) h_x0 h_x1 h_x2 h_x3 hz ls (lv_sub hl [1, 2, 3, 4, 0] rfl)
set_option maxRecDepth 100000 in
set_option maxHeartbeats 4000000 in
theorem bb_X2_merge_102 {p : Program} {l : Launch} {e : Env} {s : State} {m : MethodId} {args : Array Value} {below : List Frame} {meth : Method} {c : Code} {D : zD} {b0 : Nat} {F : Nat} {S : zS} {X : Int32 × zI} (hC : z_C p s m args meth c cX2_merge RX2 7 (some .int) D) (hT : z_T b0 S) (k102 : Nat → Nat → Nat → Nat → Int32 → zI → Option (Int32 × zI)) (hk102 : ∀ (x0 : Nat) (x1 : Nat) (x2 : Nat) (x3 : Nat) (x4 : Int32) (I : zI) , z_is b0 S x0 2 → z_is b0 S x1 0 → z_is b0 S x2 6 → z_is b0 S x3 6 → k102 x0 x1 x2 x3 x4 I = some X → ∀ ls : Array Slot, lv_has ls 7 [(0, .ref (x0)), (1, .ref (x1)), (2, .ref (x2)), (3, .ref (x3)), (4, .int (x4))] → z_W p l e { frames := 2, cells := 0, slots := 0, locals := 48 } s m args below meth c D b0 S I 0 0 (MQ below (z_Q D b0 (some (.int (X.1))) S X.2) args s 0 0 (fun q => b0 ≤ q)) (F0 m 102 ls [])) (x0 : Nat) (x1 : Nat) (x2 : Nat) (x3 : Nat) (x4 : Int32) (I : zI) (h_x0 : z_is b0 S x0 2) (h_x1 : z_is b0 S x1 0) (h_x2 : z_is b0 S x2 6) (h_x3 : z_is b0 S x3 6) (hz : z_X2_merge_102B F S k102 x0 x1 x2 x3 x4 I = some X) (ls : Array Slot) (hl : lv_has ls 7 [(0, .ref (x0)), (1, .ref (x1)), (2, .ref (x2)), (3, .ref (x3)), (4, .int (x4))]) : z_W p l e { frames := 2, cells := 0, slots := 0, locals := 48 } s m args below meth c D b0 S I 0 0 (MQ below (z_Q D b0 (some (.int (X.1))) S X.2) args s 0 0 (fun q => b0 ≤ q)) (F0 m 102 ls []) := by
  unfold z_X2_merge_102B at hz
  refine z_iload hC dX2_merge_102 (lv_at hl 4 rfl) ?_
  refine z_bipush (v := 8) hC dX2_merge_104 (by decide) ?_
  refine z_icmp_ge (tgt := 171) hC dX2_merge_106 (by decide) hz (fun hz => ?_) (fun hz => ?_)
  · skip
    refine z_iconst (v := 0) hC dX2_merge_171 (by decide) ?_
    obtain rfl := Option.some.inj hz
    exact z_iret hC hT dX2_merge_172 (by decide) (by decide)
  · skip
    refine z_aload_n hC dX2_merge_109 rfl (lv_at hl 3 rfl) ?_
    refine z_iload hC dX2_merge_110 (lv_at hl 4 rfl) ?_
    obtain ⟨q1, hq_q1, hz⟩ := ob_some hz
    refine z_callV (As := [.int (x4)]) hC hT (c_X6_inPlace F x3 x4 h_x3 hq_q1) zy_X6_inPlace zc_6 zv_X6_inPlace kw_427 dX2_merge_112 h_x3 rfl rfl hl.1 (Nat.le_of_ble_eq_true rfl) (by decide) (by decide) ?_
    refine z_istore (lv' := [(5, .int (q1)), (0, .ref (x0)), (1, .ref (x1)), (2, .ref (x2)), (3, .ref (x3)), (4, .int (x4))]) hC dX2_merge_115 hl (by decide) rfl (fun ls hl => ?_)
    refine z_aload_n hC dX2_merge_117 rfl (lv_at hl 1 rfl) ?_
    obtain ⟨r2, hr_r2, hz⟩ := ob_some hz
    have hk_r2 : z_is b0 S r2 1 := hT.at h_x0 hr_r2
    refine z_getR hC zc_2 0 (by decide) kw_131 dX2_merge_118 h_x0 rfl hr_r2 ?_
    refine z_iload hC dX2_merge_121 (lv_at hl 0 rfl) ?_
    refine z_aload_n hC dX2_merge_123 rfl (lv_at hl 3 rfl) ?_
    refine z_iload hC dX2_merge_124 (lv_at hl 5 rfl) ?_
    obtain ⟨q3, hq_q3, hz⟩ := ob_some hz
    refine z_callV (As := [.int (x4)]) hC hT (c_X6_inPlace F x2 x4 h_x2 hq_q3) zy_X6_inPlace zc_6 zv_X6_inPlace kw_427 dX2_merge_126 h_x2 rfl rfl hl.1 (Nat.le_of_ble_eq_true rfl) (by decide) (by decide) ?_
    obtain ⟨q4, hq_q4, hz⟩ := ob_some hz
    refine z_callV (As := [.int (q1), .int (q3)]) hC hT (c_X1_joinTypes F r2 q1 q3 hk_r2 hq_q4) zy_X1_joinTypes zc_1 zv_X1_joinTypes kw_417 dX2_merge_129 hk_r2 rfl rfl hl.1 (Nat.le_of_ble_eq_true rfl) (by decide) (by decide) ?_
    refine z_istore (lv' := [(6, .int (q4)), (5, .int (q1)), (0, .ref (x0)), (1, .ref (x1)), (2, .ref (x2)), (3, .ref (x3)), (4, .int (x4))]) hC dX2_merge_132 hl (by decide) rfl (fun ls hl => ?_)
    refine z_aload_n hC dX2_merge_134 rfl (lv_at hl 3 rfl) ?_
    refine z_aload_n hC dX2_merge_135 rfl (lv_at hl 3 rfl) ?_
    refine z_getI hC zc_0 4 (by decide) kw_306 dX2_merge_136 h_x1 rfl ?_
    refine z_if_ne (tgt := 149) hC dX2_merge_139 (by decide) hz (fun hz => ?_) (fun hz => ?_)
    · skip
      refine z_iconst (v := 1) hC dX2_merge_149 (by decide) ?_
      refine z_goto (tgt := 154) hC dX2_merge_150 (by decide) ?_
      exact b_X2_merge_154 hC hT k102 hk102 (x0) (x1) (x2) (x3) (x4) (q4) (x1) (1) (I) h_x0 h_x1 h_x2 h_x3 h_x1 hz ls (lv_sub hl [2, 3, 4, 5, 6, 0] rfl)
    · skip
      refine z_iload hC dX2_merge_142 (lv_at hl 0 rfl) ?_
      refine z_iload hC dX2_merge_144 (lv_at hl 1 rfl) ?_
      refine z_icmp_eq (tgt := 153) hC dX2_merge_146 (by decide) hz (fun hz => ?_) (fun hz => ?_)
      · skip
        refine z_iconst (v := 0) hC dX2_merge_153 (by decide) ?_
        exact b_X2_merge_154 hC hT k102 hk102 (x0) (x1) (x2) (x3) (x4) (q4) (x1) (0) (I) h_x0 h_x1 h_x2 h_x3 h_x1 hz ls (lv_sub hl [2, 3, 4, 5, 6, 0] rfl)
      · skip
        refine z_iconst (v := 1) hC dX2_merge_149 (by decide) ?_
        refine z_goto (tgt := 154) hC dX2_merge_150 (by decide) ?_
        exact b_X2_merge_154 hC hT k102 hk102 (x0) (x1) (x2) (x3) (x4) (q4) (x1) (1) (I) h_x0 h_x1 h_x2 h_x3 h_x1 hz ls (lv_sub hl [2, 3, 4, 5, 6, 0] rfl)
set_option maxRecDepth 100000 in
set_option maxHeartbeats 4000000 in
theorem b_X2_merge_102 {p : Program} {l : Launch} {e : Env} {s : State} {m : MethodId} {args : Array Value} {below : List Frame} {meth : Method} {c : Code} {D : zD} {b0 : Nat} {F : Nat} {S : zS} {X : Int32 × zI} (hC : z_C p s m args meth c cX2_merge RX2 7 (some .int) D) (hT : z_T b0 S)   : ∀ (n : Nat) (x0 : Nat) (x1 : Nat) (x2 : Nat) (x3 : Nat) (x4 : Int32) (I : zI), z_is b0 S x0 2 → z_is b0 S x1 0 → z_is b0 S x2 6 → z_is b0 S x3 6 → z_X2_merge_102 F S  n x0 x1 x2 x3 x4 I = some X → ∀ ls : Array Slot, lv_has ls 7 [(0, .ref (x0)), (1, .ref (x1)), (2, .ref (x2)), (3, .ref (x3)), (4, .int (x4))] → z_W p l e { frames := 2, cells := 0, slots := 0, locals := 48 } s m args below meth c D b0 S I 0 0 (MQ below (z_Q D b0 (some (.int (X.1))) S X.2) args s 0 0 (fun q => b0 ≤ q)) (F0 m 102 ls []) := by
  intro n
  induction n with
  | zero => intro x0 x1 x2 x3 x4 I h_x0 h_x1 h_x2 h_x3 hz; cases hz
  | succ n ih =>
    intro x0 x1 x2 x3 x4 I h_x0 h_x1 h_x2 h_x3 hz ls hl
    exact bb_X2_merge_102 (F := F) hC hT  (z_X2_merge_102 F S  n)  ih x0 x1 x2 x3 x4 I h_x0 h_x1 h_x2 h_x3 hz ls hl
set_option maxRecDepth 100000 in
set_option maxHeartbeats 4000000 in
theorem bb_X2_merge_21 {p : Program} {l : Launch} {e : Env} {s : State} {m : MethodId} {args : Array Value} {below : List Frame} {meth : Method} {c : Code} {D : zD} {b0 : Nat} {F : Nat} {S : zS} {X : Int32 × zI} (hC : z_C p s m args meth c cX2_merge RX2 7 (some .int) D) (hT : z_T b0 S) (k21 : Nat → Nat → Nat → Nat → Int32 → zI → Option (Int32 × zI)) (hk21 : ∀ (x0 : Nat) (x1 : Nat) (x2 : Nat) (x3 : Nat) (x4 : Int32) (I : zI) , z_is b0 S x0 2 → z_is b0 S x1 0 → z_is b0 S x2 6 → z_is b0 S x3 6 → k21 x0 x1 x2 x3 x4 I = some X → ∀ ls : Array Slot, lv_has ls 7 [(0, .ref (x0)), (1, .ref (x1)), (2, .ref (x2)), (3, .ref (x3)), (4, .int (x4))] → z_W p l e { frames := 2, cells := 0, slots := 0, locals := 48 } s m args below meth c D b0 S I 0 0 (MQ below (z_Q D b0 (some (.int (X.1))) S X.2) args s 0 0 (fun q => b0 ≤ q)) (F0 m 21 ls [])) (x0 : Nat) (x1 : Nat) (x2 : Nat) (x3 : Nat) (x4 : Int32) (I : zI) (h_x0 : z_is b0 S x0 2) (h_x1 : z_is b0 S x1 0) (h_x2 : z_is b0 S x2 6) (h_x3 : z_is b0 S x3 6) (hz : z_X2_merge_21B F S k21 x0 x1 x2 x3 x4 I = some X) (ls : Array Slot) (hl : lv_has ls 7 [(0, .ref (x0)), (1, .ref (x1)), (2, .ref (x2)), (3, .ref (x3)), (4, .int (x4))]) : z_W p l e { frames := 2, cells := 0, slots := 0, locals := 48 } s m args below meth c D b0 S I 0 0 (MQ below (z_Q D b0 (some (.int (X.1))) S X.2) args s 0 0 (fun q => b0 ≤ q)) (F0 m 21 ls []) := by
  unfold z_X2_merge_21B at hz
  refine z_iload hC dX2_merge_21 (lv_at hl 4 rfl) ?_
  refine z_aload_n hC dX2_merge_23 rfl (lv_at hl 2 rfl) ?_
  refine z_getI hC zc_6 2 (by decide) kw_60 dX2_merge_24 h_x2 rfl ?_
  refine z_icmp_ge (tgt := 99) hC dX2_merge_27 (by decide) hz (fun hz => ?_) (fun hz => ?_)
  · skip
    refine z_iconst (v := 0) hC dX2_merge_99 (by decide) ?_
    refine z_istore (lv' := [(4, .int (0)), (0, .ref (x0)), (1, .ref (x1)), (2, .ref (x2)), (3, .ref (x3))]) hC dX2_merge_100 hl (by decide) rfl (fun ls hl => ?_)
    exact b_X2_merge_102 hC hT   F (x0) (x1) (x2) (x3) (0) (I) h_x0 h_x1 h_x2 h_x3 hz ls (lv_sub hl [1, 2, 3, 4, 0] rfl)
  · skip
    refine z_aload_n hC dX2_merge_30 rfl (lv_at hl 3 rfl) ?_
    refine z_iload hC dX2_merge_31 (lv_at hl 4 rfl) ?_
    obtain ⟨q1, hq_q1, hz⟩ := ob_some hz
    refine z_callV (As := [.int (x4)]) hC hT (c_X6_onStack F x3 x4 h_x3 hq_q1) zy_X6_onStack zc_6 zv_X6_onStack kw_416 dX2_merge_33 h_x3 rfl rfl hl.1 (Nat.le_of_ble_eq_true rfl) (by decide) (by decide) ?_
    refine z_istore (lv' := [(5, .int (q1)), (0, .ref (x0)), (1, .ref (x1)), (2, .ref (x2)), (3, .ref (x3)), (4, .int (x4))]) hC dX2_merge_36 hl (by decide) rfl (fun ls hl => ?_)
    refine z_aload_n hC dX2_merge_38 rfl (lv_at hl 1 rfl) ?_
    obtain ⟨r2, hr_r2, hz⟩ := ob_some hz
    have hk_r2 : z_is b0 S r2 1 := hT.at h_x0 hr_r2
    refine z_getR hC zc_2 0 (by decide) kw_131 dX2_merge_39 h_x0 rfl hr_r2 ?_
    refine z_iload hC dX2_merge_42 (lv_at hl 0 rfl) ?_
    refine z_aload_n hC dX2_merge_44 rfl (lv_at hl 3 rfl) ?_
    refine z_iload hC dX2_merge_45 (lv_at hl 5 rfl) ?_
    obtain ⟨q3, hq_q3, hz⟩ := ob_some hz
    refine z_callV (As := [.int (x4)]) hC hT (c_X6_onStack F x2 x4 h_x2 hq_q3) zy_X6_onStack zc_6 zv_X6_onStack kw_416 dX2_merge_47 h_x2 rfl rfl hl.1 (Nat.le_of_ble_eq_true rfl) (by decide) (by decide) ?_
    obtain ⟨q4, hq_q4, hz⟩ := ob_some hz
    refine z_callV (As := [.int (q1), .int (q3)]) hC hT (c_X1_joinTypes F r2 q1 q3 hk_r2 hq_q4) zy_X1_joinTypes zc_1 zv_X1_joinTypes kw_417 dX2_merge_50 hk_r2 rfl rfl hl.1 (Nat.le_of_ble_eq_true rfl) (by decide) (by decide) ?_
    refine z_istore (lv' := [(6, .int (q4)), (5, .int (q1)), (0, .ref (x0)), (1, .ref (x1)), (2, .ref (x2)), (3, .ref (x3)), (4, .int (x4))]) hC dX2_merge_53 hl (by decide) rfl (fun ls hl => ?_)
    refine z_iload hC dX2_merge_55 (lv_at hl 0 rfl) ?_
    refine z_if_ne (tgt := 62) hC dX2_merge_57 (by decide) hz (fun hz => ?_) (fun hz => ?_)
    · skip
      refine z_aload_n hC dX2_merge_62 rfl (lv_at hl 3 rfl) ?_
      refine z_aload_n hC dX2_merge_63 rfl (lv_at hl 3 rfl) ?_
      refine z_getI hC zc_0 4 (by decide) kw_306 dX2_merge_64 h_x1 rfl ?_
      refine z_if_ne (tgt := 77) hC dX2_merge_67 (by decide) hz (fun hz => ?_) (fun hz => ?_)
      · skip
        refine z_iconst (v := 1) hC dX2_merge_77 (by decide) ?_
        refine z_goto (tgt := 82) hC dX2_merge_78 (by decide) ?_
        exact b_X2_merge_82 hC hT k21 hk21 (x0) (x1) (x2) (x3) (x4) (q4) (x1) (1) (I) h_x0 h_x1 h_x2 h_x3 h_x1 hz ls (lv_sub hl [2, 3, 4, 5, 6, 0] rfl)
      · skip
        refine z_iload hC dX2_merge_70 (lv_at hl 0 rfl) ?_
        refine z_iload hC dX2_merge_72 (lv_at hl 1 rfl) ?_
        refine z_icmp_eq (tgt := 81) hC dX2_merge_74 (by decide) hz (fun hz => ?_) (fun hz => ?_)
        · skip
          refine z_iconst (v := 0) hC dX2_merge_81 (by decide) ?_
          exact b_X2_merge_82 hC hT k21 hk21 (x0) (x1) (x2) (x3) (x4) (q4) (x1) (0) (I) h_x0 h_x1 h_x2 h_x3 h_x1 hz ls (lv_sub hl [2, 3, 4, 5, 6, 0] rfl)
        · skip
          refine z_iconst (v := 1) hC dX2_merge_77 (by decide) ?_
          refine z_goto (tgt := 82) hC dX2_merge_78 (by decide) ?_
          exact b_X2_merge_82 hC hT k21 hk21 (x0) (x1) (x2) (x3) (x4) (q4) (x1) (1) (I) h_x0 h_x1 h_x2 h_x3 h_x1 hz ls (lv_sub hl [2, 3, 4, 5, 6, 0] rfl)
    · skip
      refine z_iconst (v := 2) hC dX2_merge_60 (by decide) ?_
      obtain rfl := Option.some.inj hz
      exact z_iret hC hT dX2_merge_61 (by decide) (by decide)
set_option maxRecDepth 100000 in
set_option maxHeartbeats 4000000 in
theorem b_X2_merge_21 {p : Program} {l : Launch} {e : Env} {s : State} {m : MethodId} {args : Array Value} {below : List Frame} {meth : Method} {c : Code} {D : zD} {b0 : Nat} {F : Nat} {S : zS} {X : Int32 × zI} (hC : z_C p s m args meth c cX2_merge RX2 7 (some .int) D) (hT : z_T b0 S)   : ∀ (n : Nat) (x0 : Nat) (x1 : Nat) (x2 : Nat) (x3 : Nat) (x4 : Int32) (I : zI), z_is b0 S x0 2 → z_is b0 S x1 0 → z_is b0 S x2 6 → z_is b0 S x3 6 → z_X2_merge_21 F S  n x0 x1 x2 x3 x4 I = some X → ∀ ls : Array Slot, lv_has ls 7 [(0, .ref (x0)), (1, .ref (x1)), (2, .ref (x2)), (3, .ref (x3)), (4, .int (x4))] → z_W p l e { frames := 2, cells := 0, slots := 0, locals := 48 } s m args below meth c D b0 S I 0 0 (MQ below (z_Q D b0 (some (.int (X.1))) S X.2) args s 0 0 (fun q => b0 ≤ q)) (F0 m 21 ls []) := by
  intro n
  induction n with
  | zero => intro x0 x1 x2 x3 x4 I h_x0 h_x1 h_x2 h_x3 hz; cases hz
  | succ n ih =>
    intro x0 x1 x2 x3 x4 I h_x0 h_x1 h_x2 h_x3 hz ls hl
    exact bb_X2_merge_21 (F := F) hC hT  (z_X2_merge_21 F S  n)  ih x0 x1 x2 x3 x4 I h_x0 h_x1 h_x2 h_x3 hz ls hl
set_option maxRecDepth 100000 in
set_option maxHeartbeats 4000000 in
theorem c_X2_merge {l : Launch} {D : zD} {b0 : Nat} {S : zS} {I : zI} {X : Int32 × zI} (F : Nat) (x0 : Nat) (x1 : Nat) (x2 : Nat) (h_x0 : z_is b0 S x0 2) (h_x1 : z_is b0 S x1 0) (h_x2 : z_is b0 S x2 6) (hz : z_X2_merge F S I x0 x1 x2 = some X) : z_M l D b0 yX2_merge cX2_merge 7 (some .int) { frames := 2, cells := 0, slots := 0, locals := 48 } [.ref (x0), .ref (x1), .ref (x2)] S I (some (.int (X.1))) S X.2 := by
  refine z_met (by decide) (Nat.le_of_ble_eq_true rfl) ?_
  intro p e s m below meth c hC hnm hT ls hl
  have hl : lv_has ls 7 [(0, .ref (x0)), (1, .ref (x1)), (2, .ref (x2))] := hl
  unfold z_X2_merge at hz
  refine z_aload_n hC dX2_merge_0 rfl (lv_at hl 1 rfl) ?_
  obtain ⟨r1, hr_r1, hz⟩ := ob_some hz
  have hk_r1 : z_is b0 S r1 6 := hT.at h_x1 hr_r1
  refine z_getR hC zc_0 6 (by decide) kw_312 dX2_merge_1 h_x1 rfl hr_r1 ?_
  refine z_astore_n (lv' := [(3, .ref (r1)), (0, .ref (x0)), (1, .ref (x1)), (2, .ref (x2))]) hC dX2_merge_4 rfl hl (by decide) rfl (fun ls hl => ?_)
  refine z_aload_n hC dX2_merge_5 rfl (lv_at hl 0 rfl) ?_
  refine z_getI hC zc_6 2 (by decide) kw_60 dX2_merge_6 hk_r1 rfl ?_
  refine z_aload_n hC dX2_merge_9 rfl (lv_at hl 3 rfl) ?_
  refine z_getI hC zc_6 2 (by decide) kw_60 dX2_merge_10 h_x2 rfl ?_
  refine z_icmp_eq (tgt := 18) hC dX2_merge_13 (by decide) hz (fun hz => ?_) (fun hz => ?_)
  · skip
    refine z_iconst (v := 0) hC dX2_merge_18 (by decide) ?_
    refine z_istore (lv' := [(4, .int (0)), (3, .ref (r1)), (0, .ref (x0)), (1, .ref (x1)), (2, .ref (x2))]) hC dX2_merge_19 hl (by decide) rfl (fun ls hl => ?_)
    exact b_X2_merge_21 hC hT   F (x0) (x1) (x2) (r1) (0) (I) h_x0 h_x1 h_x2 hk_r1 hz ls (lv_sub hl [2, 3, 4, 1, 0] rfl)
  · skip
    refine z_iconst (v := 4) hC dX2_merge_16 (by decide) ?_
    obtain rfl := Option.some.inj hz
    exact z_iret hC hT dX2_merge_17 (by decide) (by decide)
theorem zy_X2_arrive : z_y yX2_arrive cX2_arrive 6 (some .int) 4 := ⟨kw_395, kw_6, by decide +kernel, by decide +kernel, by decide +kernel⟩
theorem zv_X2_arrive : Cond.instanceMethod yX2_arrive ∈ z_tbl ∧ Cond.selects RX2 yX2_arrive yX2_arrive ∈ z_tbl := ⟨kw_394, ks_3⟩
def z_X2_arrive_30 (F : Nat) (S : zS)  (x0 : Nat) (x4 : Nat) (x5 : Nat) (I : zI) : Option (Int32 × zI) :=
  if (I x5 3) = 0 then (ob (S.1 x5 6) (fun r2 => ob (z_X6_become F S I r2 x4) (fun q3 => some (0, z_up (z_up q3 x5 3 1) x5 4 1)))) else (ob (z_X2_merge F S I x0 x5 x4) (fun q1 => some (q1.1, q1.2)))
def z_X2_arrive (F : Nat) (S : zS) (I : zI) (x0 : Nat) (x1 : Nat) (x2 : Int32) (x3 : Int32) (x4 : Nat) : Option (Int32 × zI) :=
  ob (z_X5_actAt F S I x1 x3) (fun q1 => ob2 (q1) (some (5, I)) (fun r2 => if x2 < x3 then (z_X2_arrive_30 F S  (x0) (x4) (r2) (I)) else (ob (z_X6_hasUnmade F S I x4) (fun q3 => if q3 = 0 then (z_X2_arrive_30 F S  (x0) (x4) (r2) (I)) else (some (6, I))))))
set_option maxRecDepth 100000 in
set_option maxHeartbeats 4000000 in
theorem b_X2_arrive_30 {p : Program} {l : Launch} {e : Env} {s : State} {m : MethodId} {args : Array Value} {below : List Frame} {meth : Method} {c : Code} {D : zD} {b0 : Nat} {F : Nat} {S : zS} {X : Int32 × zI} (hC : z_C p s m args meth c cX2_arrive RX2 6 (some .int) D) (hT : z_T b0 S)   (x0 : Nat) (x4 : Nat) (x5 : Nat) (I : zI) (h_x0 : z_is b0 S x0 2) (h_x4 : z_is b0 S x4 6) (h_x5 : z_is b0 S x5 0) (hz : z_X2_arrive_30 F S  x0 x4 x5 I = some X) (ls : Array Slot) (hl : lv_has ls 6 [(0, .ref (x0)), (4, .ref (x4)), (5, .ref (x5))]) : z_W p l e { frames := 3, cells := 0, slots := 0, locals := 74 } s m args below meth c D b0 S I 0 0 (MQ below (z_Q D b0 (some (.int (X.1))) S X.2) args s 0 0 (fun q => b0 ≤ q)) (F0 m 30 ls []) := by
  unfold z_X2_arrive_30 at hz
  refine z_aload hC dX2_arrive_30 (lv_at hl 2 rfl) ?_
  refine z_getI hC zc_0 3 (by decide) kw_302 dX2_arrive_32 h_x5 rfl ?_
  refine z_if_ne (tgt := 62) hC dX2_arrive_35 (by decide) hz (fun hz => ?_) (fun hz => ?_)
  · skip
    refine z_aload_n hC dX2_arrive_62 rfl (lv_at hl 0 rfl) ?_
    refine z_aload hC dX2_arrive_63 (lv_at hl 2 rfl) ?_
    refine z_aload hC dX2_arrive_65 (lv_at hl 1 rfl) ?_
    obtain ⟨q1, hq_q1, hz⟩ := ob_some hz
    refine z_callV (As := [.ref (x5), .ref (x4)]) hC hT (c_X2_merge F x0 x5 x4 h_x0 h_x5 h_x4 hq_q1) zy_X2_merge zc_2 zv_X2_merge kw_412 dX2_arrive_67 h_x0 rfl rfl hl.1 (Nat.le_of_ble_eq_true rfl) (by decide) (by decide) ?_
    obtain rfl := Option.some.inj hz
    exact z_iret hC hT dX2_arrive_70 (by decide) (by decide)
  · skip
    refine z_aload hC dX2_arrive_38 (lv_at hl 2 rfl) ?_
    obtain ⟨r2, hr_r2, hz⟩ := ob_some hz
    have hk_r2 : z_is b0 S r2 6 := hT.at h_x5 hr_r2
    refine z_getR hC zc_0 6 (by decide) kw_312 dX2_arrive_40 h_x5 rfl hr_r2 ?_
    refine z_aload hC dX2_arrive_43 (lv_at hl 1 rfl) ?_
    obtain ⟨q3, hq_q3, hz⟩ := ob_some hz
    refine z_callV (As := [.ref (x4)]) hC hT (c_X6_become F r2 x4 hk_r2 h_x4 hq_q3) zy_X6_become zc_6 zv_X6_become kw_405 dX2_arrive_45 hk_r2 rfl rfl hl.1 (Nat.le_of_ble_eq_true rfl) (by decide) (by decide) ?_
    refine z_aload hC dX2_arrive_48 (lv_at hl 2 rfl) ?_
    refine z_iconst (v := 1) hC dX2_arrive_50 (by decide) ?_
    refine z_putI hC zc_0 3 (by decide) kw_302 dX2_arrive_51 h_x5 rfl rfl (z_bool (Or.inr rfl)) (z_boolf (Or.inr rfl)) ?_
    refine z_aload hC dX2_arrive_54 (lv_at hl 2 rfl) ?_
    refine z_iconst (v := 1) hC dX2_arrive_56 (by decide) ?_
    refine z_putI hC zc_0 4 (by decide) kw_306 dX2_arrive_57 h_x5 rfl rfl (z_bool (Or.inr rfl)) (z_boolf (Or.inr rfl)) ?_
    refine z_iconst (v := 0) hC dX2_arrive_60 (by decide) ?_
    obtain rfl := Option.some.inj hz
    exact z_iret hC hT dX2_arrive_61 (by decide) (by decide)
set_option maxRecDepth 100000 in
set_option maxHeartbeats 4000000 in
theorem c_X2_arrive {l : Launch} {D : zD} {b0 : Nat} {S : zS} {I : zI} {X : Int32 × zI} (F : Nat) (x0 : Nat) (x1 : Nat) (x2 : Int32) (x3 : Int32) (x4 : Nat) (h_x0 : z_is b0 S x0 2) (h_x1 : z_is b0 S x1 5) (h_x4 : z_is b0 S x4 6) (hz : z_X2_arrive F S I x0 x1 x2 x3 x4 = some X) : z_M l D b0 yX2_arrive cX2_arrive 6 (some .int) { frames := 3, cells := 0, slots := 0, locals := 74 } [.ref (x0), .ref (x1), .int (x2), .int (x3), .ref (x4)] S I (some (.int (X.1))) S X.2 := by
  refine z_met (by decide) (Nat.le_of_ble_eq_true rfl) ?_
  intro p e s m below meth c hC hnm hT ls hl
  have hl : lv_has ls 6 [(0, .ref (x0)), (1, .ref (x1)), (2, .int (x2)), (3, .int (x3)), (4, .ref (x4))] := hl
  unfold z_X2_arrive at hz
  refine z_aload_n hC dX2_arrive_0 rfl (lv_at hl 1 rfl) ?_
  refine z_iload_n hC dX2_arrive_1 rfl (lv_at hl 3 rfl) ?_
  obtain ⟨q1, hq_q1, hz⟩ := ob_some hz
  refine z_callV (As := [.int (x3)]) hC hT (c_X5_actAt F x1 x3 h_x1 hq_q1) zy_X5_actAt zc_5 zv_X5_actAt kw_396 dX2_arrive_2 h_x1 rfl rfl hl.1 (Nat.le_of_ble_eq_true rfl) (by decide) (by decide) ?_
  rcases ob2_some hz with ⟨ho_r2, hz⟩ | ⟨r2, ho_r2, hz⟩
  · try rw [ho_r2]
    try rw [ho_r2] at hl
    refine z_astoreN (lv' := [(5, .null), (0, .ref (x0)), (1, .ref (x1)), (2, .int (x2)), (3, .int (x3)), (4, .ref (x4))]) hC dX2_arrive_5 hl (by decide) rfl (fun ls hl => ?_)
    refine z_aloadN hC dX2_arrive_7 (lv_at hl 0 rfl) ?_
    refine z_ifnonnullN hC dX2_arrive_9 ?_
    refine z_iconst (v := 5) hC dX2_arrive_12 (by decide) ?_
    obtain rfl := Option.some.inj hz
    exact z_iret hC hT dX2_arrive_13 (by decide) (by decide)
  · have hk_r2 : z_is b0 S r2 0 := (tk_X5_actAt hT h_x1 hq_q1) _ ho_r2
    try rw [ho_r2]
    try rw [ho_r2] at hl
    refine z_astore (lv' := [(5, .ref (r2)), (0, .ref (x0)), (1, .ref (x1)), (2, .int (x2)), (3, .int (x3)), (4, .ref (x4))]) hC dX2_arrive_5 hl (by decide) rfl (fun ls hl => ?_)
    refine z_aload hC dX2_arrive_7 (lv_at hl 0 rfl) ?_
    refine z_ifnonnull (tgt := 14) hC dX2_arrive_9 (by decide) ?_
    refine z_iload_n hC dX2_arrive_14 rfl (lv_at hl 4 rfl) ?_
    refine z_iload_n hC dX2_arrive_15 rfl (lv_at hl 3 rfl) ?_
    refine z_icmp_gt (tgt := 30) hC dX2_arrive_16 (by decide) hz (fun hz => ?_) (fun hz => ?_)
    · skip
      exact b_X2_arrive_30 hC hT   (x0) (x4) (r2) (I) h_x0 h_x4 hk_r2 hz ls (lv_sub hl [1, 5, 0] rfl)
    · skip
      refine z_aload hC dX2_arrive_19 (lv_at hl 5 rfl) ?_
      obtain ⟨q3, hq_q3, hz⟩ := ob_some hz
      refine z_callV (As := []) hC hT (c_X6_hasUnmade F x4 h_x4 hq_q3) zy_X6_hasUnmade zc_6 zv_X6_hasUnmade kw_397 dX2_arrive_21 h_x4 rfl rfl hl.1 (Nat.le_of_ble_eq_true rfl) (by decide) (by decide) ?_
      refine z_if_eq (tgt := 30) hC dX2_arrive_24 (by decide) hz (fun hz => ?_) (fun hz => ?_)
      · skip
        exact b_X2_arrive_30 hC hT   (x0) (x4) (r2) (I) h_x0 h_x4 hk_r2 hz ls (lv_sub hl [1, 5, 0] rfl)
      · skip
        refine z_bipush (v := 6) hC dX2_arrive_27 (by decide) ?_
        obtain rfl := Option.some.inj hz
        exact z_iret hC hT dX2_arrive_29 (by decide) (by decide)
theorem zy_X5_leastDue : z_y yX5_leastDue cX5_leastDue 3 (some .int) 0 := ⟨kw_432, kw_3, by decide +kernel, by decide +kernel, by decide +kernel⟩
theorem zv_X5_leastDue : Cond.instanceMethod yX5_leastDue ∈ z_tbl ∧ Cond.selects RX5 yX5_leastDue yX5_leastDue ∈ z_tbl := ⟨kw_430, kw_431⟩
def z_X5_leastDue_2B (F : Nat) (S : zS) (I : zI) (k2 : Nat → Int32 → Option (Int32)) (x0 : Nat) (x1 : Int32) : Option (Int32) :=
  if x1 < (I x0 3) then (ob (z_X5_actAt F S I x0 x1) (fun q1 => ob2 (q1) (k2 (x0) (x1 + 1)) (fun r2 => if (I r2 4) = 0 then (k2 (x0) (x1 + 1)) else (some (x1))))) else (some ((-1)))
def z_X5_leastDue_2 (F : Nat) (S : zS) (I : zI)  : Nat → Nat → Int32 → Option (Int32)
  | 0 => fun _ _ => none
  | n + 1 => fun x0 x1 => z_X5_leastDue_2B F S I  (z_X5_leastDue_2 F S I  n) x0 x1
def z_X5_leastDue (F : Nat) (S : zS) (I : zI) (x0 : Nat) : Option (Int32) :=
  z_X5_leastDue_2 F S I  F (x0) (0)
set_option maxRecDepth 100000 in
set_option maxHeartbeats 4000000 in
theorem bb_X5_leastDue_2 {p : Program} {l : Launch} {e : Env} {s : State} {m : MethodId} {args : Array Value} {below : List Frame} {meth : Method} {c : Code} {D : zD} {b0 : Nat} {F : Nat} {S : zS} {I : zI} {X : Int32} (hC : z_C p s m args meth c cX5_leastDue RX5 3 (some .int) D) (hT : z_T b0 S) (k2 : Nat → Int32 → Option (Int32)) (hk2 : ∀ (x0 : Nat) (x1 : Int32) , z_is b0 S x0 5 → k2 x0 x1 = some X → ∀ ls : Array Slot, lv_has ls 3 [(0, .ref (x0)), (1, .int (x1))] → z_W p l e { frames := 1, cells := 0, slots := 0, locals := 21 } s m args below meth c D b0 S I 0 0 (MQ below (z_Q D b0 (some (.int (X))) S I) args s 0 0 (fun q => b0 ≤ q)) (F0 m 2 ls [])) (x0 : Nat) (x1 : Int32) (h_x0 : z_is b0 S x0 5) (hz : z_X5_leastDue_2B F S I k2 x0 x1 = some X) (ls : Array Slot) (hl : lv_has ls 3 [(0, .ref (x0)), (1, .int (x1))]) : z_W p l e { frames := 1, cells := 0, slots := 0, locals := 21 } s m args below meth c D b0 S I 0 0 (MQ below (z_Q D b0 (some (.int (X))) S I) args s 0 0 (fun q => b0 ≤ q)) (F0 m 2 ls []) := by
  unfold z_X5_leastDue_2B at hz
  refine z_iload_n hC dX5_leastDue_2 rfl (lv_at hl 1 rfl) ?_
  refine z_aload_n hC dX5_leastDue_3 rfl (lv_at hl 0 rfl) ?_
  refine z_getI hC zc_5 3 (by decide) kw_75 dX5_leastDue_4 h_x0 rfl ?_
  refine z_icmp_ge (tgt := 35) hC dX5_leastDue_7 (by decide) hz (fun hz => ?_) (fun hz => ?_)
  · skip
    refine z_iconst (v := (-1)) hC dX5_leastDue_35 (by decide) ?_
    obtain rfl := Option.some.inj hz
    exact z_iret hC hT dX5_leastDue_36 (by decide) (by decide)
  · skip
    refine z_aload_n hC dX5_leastDue_10 rfl (lv_at hl 0 rfl) ?_
    refine z_iload_n hC dX5_leastDue_11 rfl (lv_at hl 1 rfl) ?_
    obtain ⟨q1, hq_q1, hz⟩ := ob_some hz
    refine z_callV (As := [.int (x1)]) hC hT (c_X5_actAt F x0 x1 h_x0 hq_q1) zy_X5_actAt zc_5 zv_X5_actAt kw_384 dX5_leastDue_12 h_x0 rfl rfl hl.1 (Nat.le_of_ble_eq_true rfl) (by decide) (by decide) ?_
    rcases ob2_some hz with ⟨ho_r2, hz⟩ | ⟨r2, ho_r2, hz⟩
    · try rw [ho_r2]
      try rw [ho_r2] at hl
      refine z_astore_nN (lv' := [(2, .null), (0, .ref (x0)), (1, .int (x1))]) hC dX5_leastDue_15 rfl hl (by decide) rfl (fun ls hl => ?_)
      refine z_aload_nN hC dX5_leastDue_16 rfl (lv_at hl 0 rfl) ?_
      refine z_ifnullN (tgt := 29) hC dX5_leastDue_17 (by decide) ?_
      refine z_iinc (k0 := 2) (v := x1 + 1) (lv' := [(1, .int (x1 + 1)), (2, .null), (0, .ref (x0))]) hC dX5_leastDue_29 hl rfl rfl (by decide) rfl (fun ls hl => ?_)
      refine z_goto (tgt := 2) hC dX5_leastDue_32 (by decide) ?_
      exact hk2 (x0) (x1 + 1) h_x0 hz ls (lv_sub hl [2, 0] rfl)
    · have hk_r2 : z_is b0 S r2 0 := (tk_X5_actAt hT h_x0 hq_q1) _ ho_r2
      try rw [ho_r2]
      try rw [ho_r2] at hl
      refine z_astore_n (lv' := [(2, .ref (r2)), (0, .ref (x0)), (1, .int (x1))]) hC dX5_leastDue_15 rfl hl (by decide) rfl (fun ls hl => ?_)
      refine z_aload_n hC dX5_leastDue_16 rfl (lv_at hl 0 rfl) ?_
      refine z_ifnull hC dX5_leastDue_17 ?_
      refine z_aload_n hC dX5_leastDue_20 rfl (lv_at hl 0 rfl) ?_
      refine z_getI hC zc_0 4 (by decide) kw_307 dX5_leastDue_21 hk_r2 rfl ?_
      refine z_if_eq (tgt := 29) hC dX5_leastDue_24 (by decide) hz (fun hz => ?_) (fun hz => ?_)
      · skip
        refine z_iinc (k0 := 2) (v := x1 + 1) (lv' := [(1, .int (x1 + 1)), (2, .ref (r2)), (0, .ref (x0))]) hC dX5_leastDue_29 hl rfl rfl (by decide) rfl (fun ls hl => ?_)
        refine z_goto (tgt := 2) hC dX5_leastDue_32 (by decide) ?_
        exact hk2 (x0) (x1 + 1) h_x0 hz ls (lv_sub hl [2, 0] rfl)
      · skip
        refine z_iload_n hC dX5_leastDue_27 rfl (lv_at hl 2 rfl) ?_
        obtain rfl := Option.some.inj hz
        exact z_iret hC hT dX5_leastDue_28 (by decide) (by decide)
set_option maxRecDepth 100000 in
set_option maxHeartbeats 4000000 in
theorem b_X5_leastDue_2 {p : Program} {l : Launch} {e : Env} {s : State} {m : MethodId} {args : Array Value} {below : List Frame} {meth : Method} {c : Code} {D : zD} {b0 : Nat} {F : Nat} {S : zS} {I : zI} {X : Int32} (hC : z_C p s m args meth c cX5_leastDue RX5 3 (some .int) D) (hT : z_T b0 S)   : ∀ (n : Nat) (x0 : Nat) (x1 : Int32), z_is b0 S x0 5 → z_X5_leastDue_2 F S I  n x0 x1 = some X → ∀ ls : Array Slot, lv_has ls 3 [(0, .ref (x0)), (1, .int (x1))] → z_W p l e { frames := 1, cells := 0, slots := 0, locals := 21 } s m args below meth c D b0 S I 0 0 (MQ below (z_Q D b0 (some (.int (X))) S I) args s 0 0 (fun q => b0 ≤ q)) (F0 m 2 ls []) := by
  intro n
  induction n with
  | zero => intro x0 x1 h_x0 hz; cases hz
  | succ n ih =>
    intro x0 x1 h_x0 hz ls hl
    exact bb_X5_leastDue_2 (F := F) hC hT  (z_X5_leastDue_2 F S I  n)  ih x0 x1 h_x0 hz ls hl
set_option maxRecDepth 100000 in
set_option maxHeartbeats 4000000 in
theorem c_X5_leastDue {l : Launch} {D : zD} {b0 : Nat} {S : zS} {I : zI} {X : Int32} (F : Nat) (x0 : Nat) (h_x0 : z_is b0 S x0 5) (hz : z_X5_leastDue F S I x0 = some X) : z_M l D b0 yX5_leastDue cX5_leastDue 3 (some .int) { frames := 1, cells := 0, slots := 0, locals := 21 } [.ref (x0)] S I (some (.int (X))) S I := by
  refine z_met (by decide) (Nat.le_of_ble_eq_true rfl) ?_
  intro p e s m below meth c hC hnm hT ls hl
  have hl : lv_has ls 3 [(0, .ref (x0))] := hl
  unfold z_X5_leastDue at hz
  refine z_iconst (v := 0) hC dX5_leastDue_0 (by decide) ?_
  refine z_istore_n (lv' := [(1, .int (0)), (0, .ref (x0))]) hC dX5_leastDue_1 rfl hl (by decide) rfl (fun ls hl => ?_)
  exact b_X5_leastDue_2 hC hT   F (x0) (0) h_x0 hz ls (lv_sub hl [1, 0] rfl)
theorem zy_X6_weight : z_y yX6_weight cX6_weight 3 (some .int) 0 := ⟨kw_445, kw_4, by decide +kernel, by decide +kernel, by decide +kernel⟩
theorem zv_X6_weight : Cond.instanceMethod yX6_weight ∈ z_tbl ∧ Cond.selects RX6 yX6_weight yX6_weight ∈ z_tbl := ⟨kw_443, kw_444⟩
def z_X6_weight_34 (F : Nat) (S : zS) (I : zI) (k4 : Nat → Int32 → Int32 → Option (Int32)) (x0 : Nat) (x2 : Int32) (y0 : Int32) (y1 : Int32) : Option (Int32) :=
  k4 (x0) (y0 + y1) (x2 + 1)
def z_X6_weight_4B (F : Nat) (S : zS) (I : zI) (k4 : Nat → Int32 → Int32 → Option (Int32)) (x0 : Nat) (x1 : Int32) (x2 : Int32) : Option (Int32) :=
  if x2 < (I x0 2) then (if x2 < 10 then (ob (S.1 x0 1) (fun r1 => if x2 < 0 ∨ (S.2.1 r1).2 ≤ x2.toNatClampNeg then none else (if (I r1 x2.toNatClampNeg) = 2 then (z_X6_weight_34 F S I k4 (x0) (x2) (x1) (2)) else (z_X6_weight_34 F S I k4 (x0) (x2) (x1) (1))))) else (some (x1))) else (some (x1))
def z_X6_weight_4 (F : Nat) (S : zS) (I : zI)  : Nat → Nat → Int32 → Int32 → Option (Int32)
  | 0 => fun _ _ _ => none
  | n + 1 => fun x0 x1 x2 => z_X6_weight_4B F S I  (z_X6_weight_4 F S I  n) x0 x1 x2
def z_X6_weight (F : Nat) (S : zS) (I : zI) (x0 : Nat) : Option (Int32) :=
  z_X6_weight_4 F S I  F (x0) (0) (0)
set_option maxRecDepth 100000 in
set_option maxHeartbeats 4000000 in
theorem b_X6_weight_34 {p : Program} {l : Launch} {e : Env} {s : State} {m : MethodId} {args : Array Value} {below : List Frame} {meth : Method} {c : Code} {D : zD} {b0 : Nat} {F : Nat} {S : zS} {I : zI} {X : Int32} (hC : z_C p s m args meth c cX6_weight RX6 3 (some .int) D) (hT : z_T b0 S) (k4 : Nat → Int32 → Int32 → Option (Int32)) (hk4 : ∀ (x0 : Nat) (x1 : Int32) (x2 : Int32) , z_is b0 S x0 6 → k4 x0 x1 x2 = some X → ∀ ls : Array Slot, lv_has ls 3 [(0, .ref (x0)), (1, .int (x1)), (2, .int (x2))] → z_W p l e { frames := 0, cells := 0, slots := 0, locals := 0 } s m args below meth c D b0 S I 0 0 (MQ below (z_Q D b0 (some (.int (X))) S I) args s 0 0 (fun q => b0 ≤ q)) (F0 m 4 ls [])) (x0 : Nat) (x2 : Int32) (y0 : Int32) (y1 : Int32) (h_x0 : z_is b0 S x0 6) (hz : z_X6_weight_34 F S I k4 x0 x2 y0 y1 = some X) (ls : Array Slot) (hl : lv_has ls 3 [(0, .ref (x0)), (2, .int (x2))]) : z_W p l e { frames := 0, cells := 0, slots := 0, locals := 0 } s m args below meth c D b0 S I 0 0 (MQ below (z_Q D b0 (some (.int (X))) S I) args s 0 0 (fun q => b0 ≤ q)) (F0 m 34 ls [.int (y1), .int (y0)]) := by
  unfold z_X6_weight_34 at hz
  refine z_iadd hC dX6_weight_34 ?_
  refine z_istore_n (lv' := [(1, .int (y0 + y1)), (0, .ref (x0)), (2, .int (x2))]) hC dX6_weight_35 rfl hl (by decide) rfl (fun ls hl => ?_)
  refine z_iinc (k0 := 2) (v := x2 + 1) (lv' := [(2, .int (x2 + 1)), (1, .int (y0 + y1)), (0, .ref (x0))]) hC dX6_weight_36 hl rfl rfl (by decide) rfl (fun ls hl => ?_)
  refine z_goto (tgt := 4) hC dX6_weight_39 (by decide) ?_
  exact hk4 (x0) (y0 + y1) (x2 + 1) h_x0 hz ls (lv_sub hl [2, 1, 0] rfl)
set_option maxRecDepth 100000 in
set_option maxHeartbeats 4000000 in
theorem bb_X6_weight_4 {p : Program} {l : Launch} {e : Env} {s : State} {m : MethodId} {args : Array Value} {below : List Frame} {meth : Method} {c : Code} {D : zD} {b0 : Nat} {F : Nat} {S : zS} {I : zI} {X : Int32} (hC : z_C p s m args meth c cX6_weight RX6 3 (some .int) D) (hT : z_T b0 S) (k4 : Nat → Int32 → Int32 → Option (Int32)) (hk4 : ∀ (x0 : Nat) (x1 : Int32) (x2 : Int32) , z_is b0 S x0 6 → k4 x0 x1 x2 = some X → ∀ ls : Array Slot, lv_has ls 3 [(0, .ref (x0)), (1, .int (x1)), (2, .int (x2))] → z_W p l e { frames := 0, cells := 0, slots := 0, locals := 0 } s m args below meth c D b0 S I 0 0 (MQ below (z_Q D b0 (some (.int (X))) S I) args s 0 0 (fun q => b0 ≤ q)) (F0 m 4 ls [])) (x0 : Nat) (x1 : Int32) (x2 : Int32) (h_x0 : z_is b0 S x0 6) (hz : z_X6_weight_4B F S I k4 x0 x1 x2 = some X) (ls : Array Slot) (hl : lv_has ls 3 [(0, .ref (x0)), (1, .int (x1)), (2, .int (x2))]) : z_W p l e { frames := 0, cells := 0, slots := 0, locals := 0 } s m args below meth c D b0 S I 0 0 (MQ below (z_Q D b0 (some (.int (X))) S I) args s 0 0 (fun q => b0 ≤ q)) (F0 m 4 ls []) := by
  unfold z_X6_weight_4B at hz
  refine z_iload_n hC dX6_weight_4 rfl (lv_at hl 2 rfl) ?_
  refine z_aload_n hC dX6_weight_5 rfl (lv_at hl 0 rfl) ?_
  refine z_getI hC zc_6 2 (by decide) kw_59 dX6_weight_6 h_x0 rfl ?_
  refine z_icmp_ge (tgt := 42) hC dX6_weight_9 (by decide) hz (fun hz => ?_) (fun hz => ?_)
  · skip
    refine z_iload_n hC dX6_weight_42 rfl (lv_at hl 1 rfl) ?_
    obtain rfl := Option.some.inj hz
    exact z_iret hC hT dX6_weight_43 (by decide) (by decide)
  · skip
    refine z_iload_n hC dX6_weight_12 rfl (lv_at hl 2 rfl) ?_
    refine z_bipush (v := 10) hC dX6_weight_13 (by decide) ?_
    refine z_icmp_ge (tgt := 42) hC dX6_weight_15 (by decide) hz (fun hz => ?_) (fun hz => ?_)
    · skip
      refine z_iload_n hC dX6_weight_42 rfl (lv_at hl 1 rfl) ?_
      obtain rfl := Option.some.inj hz
      exact z_iret hC hT dX6_weight_43 (by decide) (by decide)
    · skip
      refine z_iload_n hC dX6_weight_18 rfl (lv_at hl 1 rfl) ?_
      refine z_aload_n hC dX6_weight_19 rfl (lv_at hl 0 rfl) ?_
      obtain ⟨r1, hr_r1, hz⟩ := ob_some hz
      have hk_r1 : z_is b0 S r1 10 := hT.at h_x0 hr_r1
      refine z_getR hC zc_6 1 (by decide) kw_58 dX6_weight_20 h_x0 rfl hr_r1 ?_
      refine z_iload_n hC dX6_weight_23 rfl (lv_at hl 2 rfl) ?_
      obtain ⟨hi2, hz⟩ := ifn_some hz
      refine z_iald hC dX6_weight_24 hk_r1 hi2 ?_
      refine z_iconst (v := 2) hC dX6_weight_25 (by decide) ?_
      refine z_icmp_ne (tgt := 33) hC dX6_weight_26 (by decide) hz (fun hz => ?_) (fun hz => ?_)
      · skip
        refine z_iconst (v := 1) hC dX6_weight_33 (by decide) ?_
        exact b_X6_weight_34 hC hT k4 hk4 (x0) (x2) (x1) (1) h_x0 hz ls (lv_sub hl [0, 2] rfl)
      · skip
        refine z_iconst (v := 2) hC dX6_weight_29 (by decide) ?_
        refine z_goto (tgt := 34) hC dX6_weight_30 (by decide) ?_
        exact b_X6_weight_34 hC hT k4 hk4 (x0) (x2) (x1) (2) h_x0 hz ls (lv_sub hl [0, 2] rfl)
set_option maxRecDepth 100000 in
set_option maxHeartbeats 4000000 in
theorem b_X6_weight_4 {p : Program} {l : Launch} {e : Env} {s : State} {m : MethodId} {args : Array Value} {below : List Frame} {meth : Method} {c : Code} {D : zD} {b0 : Nat} {F : Nat} {S : zS} {I : zI} {X : Int32} (hC : z_C p s m args meth c cX6_weight RX6 3 (some .int) D) (hT : z_T b0 S)   : ∀ (n : Nat) (x0 : Nat) (x1 : Int32) (x2 : Int32), z_is b0 S x0 6 → z_X6_weight_4 F S I  n x0 x1 x2 = some X → ∀ ls : Array Slot, lv_has ls 3 [(0, .ref (x0)), (1, .int (x1)), (2, .int (x2))] → z_W p l e { frames := 0, cells := 0, slots := 0, locals := 0 } s m args below meth c D b0 S I 0 0 (MQ below (z_Q D b0 (some (.int (X))) S I) args s 0 0 (fun q => b0 ≤ q)) (F0 m 4 ls []) := by
  intro n
  induction n with
  | zero => intro x0 x1 x2 h_x0 hz; cases hz
  | succ n ih =>
    intro x0 x1 x2 h_x0 hz ls hl
    exact bb_X6_weight_4 (F := F) hC hT  (z_X6_weight_4 F S I  n)  ih x0 x1 x2 h_x0 hz ls hl
set_option maxRecDepth 100000 in
set_option maxHeartbeats 4000000 in
theorem c_X6_weight {l : Launch} {D : zD} {b0 : Nat} {S : zS} {I : zI} {X : Int32} (F : Nat) (x0 : Nat) (h_x0 : z_is b0 S x0 6) (hz : z_X6_weight F S I x0 = some X) : z_M l D b0 yX6_weight cX6_weight 3 (some .int) { frames := 0, cells := 0, slots := 0, locals := 0 } [.ref (x0)] S I (some (.int (X))) S I := by
  refine z_met (by decide) (Nat.le_of_ble_eq_true rfl) ?_
  intro p e s m below meth c hC hnm hT ls hl
  have hl : lv_has ls 3 [(0, .ref (x0))] := hl
  unfold z_X6_weight at hz
  refine z_iconst (v := 0) hC dX6_weight_0 (by decide) ?_
  refine z_istore_n (lv' := [(1, .int (0)), (0, .ref (x0))]) hC dX6_weight_1 rfl hl (by decide) rfl (fun ls hl => ?_)
  refine z_iconst (v := 0) hC dX6_weight_2 (by decide) ?_
  refine z_istore_n (lv' := [(2, .int (0)), (1, .int (0)), (0, .ref (x0))]) hC dX6_weight_3 rfl hl (by decide) rfl (fun ls hl => ?_)
  exact b_X6_weight_4 hC hT   F (x0) (0) (0) h_x0 hz ls (lv_sub hl [2, 1, 0] rfl)
theorem zy_X5_noteStack : z_y yX5_noteStack cX5_noteStack 2 none 1 := ⟨kw_441, kw_3, by decide +kernel, by decide +kernel, by decide +kernel⟩
theorem zv_X5_noteStack : Cond.instanceMethod yX5_noteStack ∈ z_tbl ∧ Cond.selects RX5 yX5_noteStack yX5_noteStack ∈ z_tbl := ⟨kw_439, kw_440⟩
def z_X5_noteStack (F : Nat) (S : zS) (I : zI) (x0 : Nat) (x1 : Nat) : Option (zI) :=
  ob (z_X6_weight F S I x1) (fun q1 => some (z_up I x0 8 (if (I x0 8) < q1 then q1 else I x0 8)))
set_option maxRecDepth 100000 in
set_option maxHeartbeats 4000000 in
theorem c_X5_noteStack {l : Launch} {D : zD} {b0 : Nat} {S : zS} {I : zI} {X : zI} (F : Nat) (x0 : Nat) (x1 : Nat) (h_x0 : z_is b0 S x0 5) (h_x1 : z_is b0 S x1 6) (hz : z_X5_noteStack F S I x0 x1 = some X) : z_M l D b0 yX5_noteStack cX5_noteStack 2 none { frames := 1, cells := 0, slots := 0, locals := 40 } [.ref (x0), .ref (x1)] S I none S X := by
  refine z_met (by decide) (Nat.le_of_ble_eq_true rfl) ?_
  intro p e s m below meth c hC hnm hT ls hl
  have hl : lv_has ls 2 [(0, .ref (x0)), (1, .ref (x1))] := hl
  unfold z_X5_noteStack at hz
  refine z_aload_n hC dX5_noteStack_0 rfl (lv_at hl 0 rfl) ?_
  refine z_aload_n hC dX5_noteStack_1 rfl (lv_at hl 0 rfl) ?_
  refine z_getI hC zc_5 8 (by decide) kw_88 dX5_noteStack_2 h_x0 rfl ?_
  refine z_aload_n hC dX5_noteStack_5 rfl (lv_at hl 1 rfl) ?_
  obtain ⟨q1, hq_q1, hz⟩ := ob_some hz
  refine z_callV (As := []) hC hT (c_X6_weight F x1 h_x1 hq_q1) zy_X6_weight zc_6 zv_X6_weight kw_442 dX5_noteStack_6 h_x1 rfl rfl hl.1 (Nat.le_of_ble_eq_true rfl) (by decide) (by decide) ?_
  refine z_mmax hC kw_446 kw_447 kw_12 kw_448 dX5_noteStack_9 hl.1 (by decide) (Nat.le_of_ble_eq_true rfl) (by decide) (by decide) ?_
  refine z_putI hC zc_5 8 (by decide) kw_88 dX5_noteStack_12 h_x0 rfl rfl rfl rfl ?_
  obtain rfl := Option.some.inj hz
  exact z_vret hC hT dX5_noteStack_15 (by decide) (by decide)
theorem zy_X3_holds : z_y yX3_holds cX3_holds 2 (some .boolean) 1 := ⟨kw_460, kw_10, by decide +kernel, by decide +kernel, by decide +kernel⟩
theorem zv_X3_holds : Cond.instanceMethod yX3_holds ∈ z_tbl ∧ Cond.selects RX3 yX3_holds yX3_holds ∈ z_tbl := ⟨kw_458, kw_459⟩
def z_X3_holds (F : Nat) (S : zS) (I : zI) (x0 : Nat) (x1 : Int32) : Option (Int32) :=
  if x1 < (I x0 0) then (some (0)) else (if x1 < (I x0 1) then (some (1)) else (some (0)))
set_option maxRecDepth 100000 in
set_option maxHeartbeats 4000000 in
theorem c_X3_holds {l : Launch} {D : zD} {b0 : Nat} {S : zS} {I : zI} {X : Int32} (F : Nat) (x0 : Nat) (x1 : Int32) (h_x0 : z_is b0 S x0 3) (hz : z_X3_holds F S I x0 x1 = some X) : z_M l D b0 yX3_holds cX3_holds 2 (some .boolean) { frames := 0, cells := 0, slots := 0, locals := 0 } [.ref (x0), .int (x1)] S I (some (.int (X))) S I := by
  refine z_met (by decide) (Nat.le_of_ble_eq_true rfl) ?_
  intro p e s m below meth c hC hnm hT ls hl
  have hl : lv_has ls 2 [(0, .ref (x0)), (1, .int (x1))] := hl
  unfold z_X3_holds at hz
  refine z_iload_n hC dX3_holds_0 rfl (lv_at hl 1 rfl) ?_
  refine z_aload_n hC dX3_holds_1 rfl (lv_at hl 0 rfl) ?_
  refine z_getI hC zc_3 0 (by decide) kw_353 dX3_holds_2 h_x0 rfl ?_
  refine z_icmp_lt (tgt := 20) hC dX3_holds_5 (by decide) hz (fun hz => ?_) (fun hz => ?_)
  · skip
    refine z_iconst (v := 0) hC dX3_holds_20 (by decide) ?_
    obtain rfl := Option.some.inj hz
    exact z_zret hC hT dX3_holds_21 (Or.inl rfl) (by decide) (by decide)
  · skip
    refine z_iload_n hC dX3_holds_8 rfl (lv_at hl 1 rfl) ?_
    refine z_aload_n hC dX3_holds_9 rfl (lv_at hl 0 rfl) ?_
    refine z_getI hC zc_3 1 (by decide) kw_355 dX3_holds_10 h_x0 rfl ?_
    refine z_icmp_ge (tgt := 20) hC dX3_holds_13 (by decide) hz (fun hz => ?_) (fun hz => ?_)
    · skip
      refine z_iconst (v := 0) hC dX3_holds_20 (by decide) ?_
      obtain rfl := Option.some.inj hz
      exact z_zret hC hT dX3_holds_21 (Or.inl rfl) (by decide) (by decide)
    · skip
      refine z_iconst (v := 1) hC dX3_holds_16 (by decide) ?_
      refine z_goto (tgt := 21) hC dX3_holds_17 (by decide) ?_
      obtain rfl := Option.some.inj hz
      exact z_zret hC hT dX3_holds_21 (Or.inr rfl) (by decide) (by decide)
theorem zy_X5_guardOver : z_y yX5_guardOver cX5_guardOver 4 (some (.object "ClosureFrames$Guard")) 2 := ⟨kw_456, kw_3, by decide +kernel, by decide +kernel, by decide +kernel⟩
theorem zv_X5_guardOver : Cond.instanceMethod yX5_guardOver ∈ z_tbl ∧ Cond.selects RX5 yX5_guardOver yX5_guardOver ∈ z_tbl := ⟨kw_454, kw_455⟩
def z_X5_guardOver_22 (F : Nat) (S : zS) (I : zI)  (x2 : Int32) (y0 : Option Nat) : Option (Option Nat) :=
  ob2 (y0) (some (none)) (fun r1 => ob (z_X3_holds F S I r1 x2) (fun q2 => if q2 = 0 then (some (none)) else (some (some (r1)))))
def z_X5_guardOver (F : Nat) (S : zS) (I : zI) (x0 : Nat) (x1 : Int32) (x2 : Int32) : Option (Option Nat) :=
  if x1 < 0 then (z_X5_guardOver_22 F S I  (x2) none) else (if x1 < (I x0 4) then (ob (S.1 x0 1) (fun r1 => if x1 < 0 ∨ (S.2.1 r1).2 ≤ x1.toNatClampNeg then none else (z_X5_guardOver_22 F S I  (x2) (S.1 r1 x1.toNatClampNeg)))) else (z_X5_guardOver_22 F S I  (x2) none))
set_option maxRecDepth 100000 in
set_option maxHeartbeats 4000000 in
theorem b_X5_guardOver_22 {p : Program} {l : Launch} {e : Env} {s : State} {m : MethodId} {args : Array Value} {below : List Frame} {meth : Method} {c : Code} {D : zD} {b0 : Nat} {F : Nat} {S : zS} {I : zI} {X : Option Nat} (hC : z_C p s m args meth c cX5_guardOver RX5 4 (some (.object "ClosureFrames$Guard")) D) (hT : z_T b0 S)   (x2 : Int32) (y0 : Option Nat) (h_y0 : ∀ r, y0 = some r → z_is b0 S r 3) (hz : z_X5_guardOver_22 F S I  x2 y0 = some X) (ls : Array Slot) (hl : lv_has ls 4 [(2, .int (x2))]) : z_W p l e { frames := 1, cells := 0, slots := 0, locals := 21 } s m args below meth c D b0 S I 0 0 (MQ below (z_Q D b0 (some (va_rf (X))) S I) args s 0 0 (fun q => b0 ≤ q)) (F0 m 22 ls [va_rf (y0)]) := by
  unfold z_X5_guardOver_22 at hz
  rcases ob2_some hz with ⟨ho_r1, hz⟩ | ⟨r1, ho_r1, hz⟩
  · try rw [ho_r1]
    try rw [ho_r1] at hl
    refine z_astore_nN (lv' := [(3, .null), (2, .int (x2))]) hC dX5_guardOver_22 rfl hl (by decide) rfl (fun ls hl => ?_)
    refine z_aload_nN hC dX5_guardOver_23 rfl (lv_at hl 0 rfl) ?_
    refine z_ifnullN (tgt := 39) hC dX5_guardOver_24 (by decide) ?_
    refine z_null hC dX5_guardOver_39 ?_
    obtain rfl := Option.some.inj hz
    exact z_aret (o := none) hC hT dX5_guardOver_40 (by decide) (by decide)
  · have hk_r1 : z_is b0 S r1 3 := h_y0 _ ho_r1
    try rw [ho_r1]
    try rw [ho_r1] at hl
    refine z_astore_n (lv' := [(3, .ref (r1)), (2, .int (x2))]) hC dX5_guardOver_22 rfl hl (by decide) rfl (fun ls hl => ?_)
    refine z_aload_n hC dX5_guardOver_23 rfl (lv_at hl 0 rfl) ?_
    refine z_ifnull hC dX5_guardOver_24 ?_
    refine z_aload_n hC dX5_guardOver_27 rfl (lv_at hl 0 rfl) ?_
    refine z_iload_n hC dX5_guardOver_28 rfl (lv_at hl 1 rfl) ?_
    obtain ⟨q2, hq_q2, hz⟩ := ob_some hz
    refine z_callV (As := [.int (x2)]) hC hT (c_X3_holds F r1 x2 hk_r1 hq_q2) zy_X3_holds zc_3 zv_X3_holds kw_457 dX5_guardOver_29 hk_r1 rfl rfl hl.1 (Nat.le_of_ble_eq_true rfl) (by decide) (by decide) ?_
    refine z_if_eq (tgt := 39) hC dX5_guardOver_32 (by decide) hz (fun hz => ?_) (fun hz => ?_)
    · skip
      refine z_null hC dX5_guardOver_39 ?_
      obtain rfl := Option.some.inj hz
      exact z_aret (o := none) hC hT dX5_guardOver_40 (by decide) (by decide)
    · skip
      refine z_aload_n hC dX5_guardOver_35 rfl (lv_at hl 0 rfl) ?_
      refine z_goto (tgt := 40) hC dX5_guardOver_36 (by decide) ?_
      obtain rfl := Option.some.inj hz
      exact z_aret (o := some (r1)) hC hT dX5_guardOver_40 (by decide) (by decide)
set_option maxRecDepth 100000 in
set_option maxHeartbeats 4000000 in
theorem c_X5_guardOver {l : Launch} {D : zD} {b0 : Nat} {S : zS} {I : zI} {X : Option Nat} (F : Nat) (x0 : Nat) (x1 : Int32) (x2 : Int32) (h_x0 : z_is b0 S x0 5) (hz : z_X5_guardOver F S I x0 x1 x2 = some X) : z_M l D b0 yX5_guardOver cX5_guardOver 4 (some (.object "ClosureFrames$Guard")) { frames := 1, cells := 0, slots := 0, locals := 21 } [.ref (x0), .int (x1), .int (x2)] S I (some (va_rf (X))) S I := by
  refine z_met (by decide) (Nat.le_of_ble_eq_true rfl) ?_
  intro p e s m below meth c hC hnm hT ls hl
  have hl : lv_has ls 4 [(0, .ref (x0)), (1, .int (x1)), (2, .int (x2))] := hl
  unfold z_X5_guardOver at hz
  refine z_iload_n hC dX5_guardOver_0 rfl (lv_at hl 1 rfl) ?_
  refine z_if_lt (tgt := 21) hC dX5_guardOver_1 (by decide) hz (fun hz => ?_) (fun hz => ?_)
  · skip
    refine z_null hC dX5_guardOver_21 ?_
    exact b_X5_guardOver_22 hC hT   (x2) none (fun _ h9 => by cases h9) hz ls (lv_sub hl [2] rfl)
  · skip
    refine z_iload_n hC dX5_guardOver_4 rfl (lv_at hl 1 rfl) ?_
    refine z_aload_n hC dX5_guardOver_5 rfl (lv_at hl 0 rfl) ?_
    refine z_getI hC zc_5 4 (by decide) kw_78 dX5_guardOver_6 h_x0 rfl ?_
    refine z_icmp_ge (tgt := 21) hC dX5_guardOver_9 (by decide) hz (fun hz => ?_) (fun hz => ?_)
    · skip
      refine z_null hC dX5_guardOver_21 ?_
      exact b_X5_guardOver_22 hC hT   (x2) none (fun _ h9 => by cases h9) hz ls (lv_sub hl [2] rfl)
    · skip
      refine z_aload_n hC dX5_guardOver_12 rfl (lv_at hl 0 rfl) ?_
      obtain ⟨r1, hr_r1, hz⟩ := ob_some hz
      have hk_r1 : z_is b0 S r1 13 := hT.at h_x0 hr_r1
      refine z_getR hC zc_5 1 (by decide) kw_70 dX5_guardOver_13 h_x0 rfl hr_r1 ?_
      refine z_iload_n hC dX5_guardOver_16 rfl (lv_at hl 1 rfl) ?_
      obtain ⟨hi2, hz⟩ := ifn_some hz
      refine z_aald hC dX5_guardOver_17 hk_r1 (by decide) (by decide) hi2 ?_
      refine z_goto (tgt := 22) hC dX5_guardOver_18 (by decide) ?_
      exact b_X5_guardOver_22 hC hT   (x2) (S.1 r1 x1.toNatClampNeg) (fun _ h9 => hT.at hk_r1 h9) hz ls (lv_sub hl [2] rfl)
theorem tk_X5_guardOver_22 {b0 : Nat} {S : zS} {I : zI} {F : Nat} {x2 : Int32} {y0 X : Option Nat} (h : ∀ r, y0 = some r → z_is b0 S r 3) (hz : z_X5_guardOver_22 F S I x2 y0 = some X) : ∀ r, X = some r → z_is b0 S r 3 := by
  intro r hr
  subst hr
  unfold z_X5_guardOver_22 at hz
  rcases ob2_some hz with ⟨_, hz⟩ | ⟨r1, h1, hz⟩
  · cases hz
  · obtain ⟨q, _, hz⟩ := ob_some hz
    split at hz
    · cases hz
    · cases hz; exact h _ h1
theorem tk_X5_guardOver {b0 : Nat} {S : zS} {I : zI} {F x0 : Nat} {x1 x2 : Int32} {X : Option Nat} (hT : z_T b0 S) (h_x0 : z_is b0 S x0 5) (hz : z_X5_guardOver F S I x0 x1 x2 = some X) : ∀ r, X = some r → z_is b0 S r 3 := by
  unfold z_X5_guardOver at hz
  split at hz
  · exact tk_X5_guardOver_22 (fun _ h => by cases h) hz
  · split at hz
    · obtain ⟨r1, h1, hz⟩ := ob_some hz
      obtain ⟨_, hz⟩ := ifn_some hz
      exact tk_X5_guardOver_22 (fun r h => hT.at (hT.at h_x0 h1) h) hz
    · exact tk_X5_guardOver_22 (fun _ h => by cases h) hz
theorem zy_X6_push : z_y yX6_push cX6_push 3 (some .int) 1 := ⟨kw_469, kw_4, by decide +kernel, by decide +kernel, by decide +kernel⟩
theorem zv_X6_push : Cond.instanceMethod yX6_push ∈ z_tbl ∧ Cond.selects RX6 yX6_push yX6_push ∈ z_tbl := ⟨kw_467, kw_468⟩
def z_X6_push_10 (F : Nat) (S : zS)  (x0 : Nat) (x1 : Int32) (y0 : Int32) (I : zI) : Option (Int32 × zI) :=
  ob (z_X6_weight F S I x0) (fun q1 => if 10 < (q1 + y0) then (some (3, I)) else (ob (z_X6_setStack F S (z_up I x0 2 ((I x0 2) + 1)) x0 (((z_up I x0 2 ((I x0 2) + 1)) x0 2) - 1) x1) (fun q2 => some (0, q2))))
def z_X6_push (F : Nat) (S : zS) (I : zI) (x0 : Nat) (x1 : Int32) : Option (Int32 × zI) :=
  if x1 = 2 then (z_X6_push_10 F S  (x0) (x1) (2) (I)) else (z_X6_push_10 F S  (x0) (x1) (1) (I))
set_option maxRecDepth 100000 in
set_option maxHeartbeats 4000000 in
theorem b_X6_push_10 {p : Program} {l : Launch} {e : Env} {s : State} {m : MethodId} {args : Array Value} {below : List Frame} {meth : Method} {c : Code} {D : zD} {b0 : Nat} {F : Nat} {S : zS} {X : Int32 × zI} (hC : z_C p s m args meth c cX6_push RX6 3 (some .int) D) (hT : z_T b0 S)   (x0 : Nat) (x1 : Int32) (y0 : Int32) (I : zI) (h_x0 : z_is b0 S x0 6) (hz : z_X6_push_10 F S  x0 x1 y0 I = some X) (ls : Array Slot) (hl : lv_has ls 3 [(0, .ref (x0)), (1, .int (x1))]) : z_W p l e { frames := 1, cells := 0, slots := 0, locals := 22 } s m args below meth c D b0 S I 0 0 (MQ below (z_Q D b0 (some (.int (X.1))) S X.2) args s 0 0 (fun q => b0 ≤ q)) (F0 m 10 ls [.int (y0)]) := by
  unfold z_X6_push_10 at hz
  refine z_istore_n (lv' := [(2, .int (y0)), (0, .ref (x0)), (1, .int (x1))]) hC dX6_push_10 rfl hl (by decide) rfl (fun ls hl => ?_)
  refine z_aload_n hC dX6_push_11 rfl (lv_at hl 1 rfl) ?_
  obtain ⟨q1, hq_q1, hz⟩ := ob_some hz
  refine z_callV (As := []) hC hT (c_X6_weight F x0 h_x0 hq_q1) zy_X6_weight zc_6 zv_X6_weight kw_470 dX6_push_12 h_x0 rfl rfl hl.1 (Nat.le_of_ble_eq_true rfl) (by decide) (by decide) ?_
  refine z_iload_n hC dX6_push_15 rfl (lv_at hl 0 rfl) ?_
  refine z_iadd hC dX6_push_16 ?_
  refine z_bipush (v := 10) hC dX6_push_17 (by decide) ?_
  refine z_icmp_le (tgt := 24) hC dX6_push_19 (by decide) hz (fun hz => ?_) (fun hz => ?_)
  · skip
    refine z_aload_n hC dX6_push_24 rfl (lv_at hl 1 rfl) ?_
    refine z_dup hC dX6_push_25 rfl ?_
    refine z_getI hC zc_6 2 (by decide) kw_59 dX6_push_26 h_x0 rfl ?_
    refine z_iconst (v := 1) hC dX6_push_29 (by decide) ?_
    refine z_iadd hC dX6_push_30 ?_
    refine z_putI hC zc_6 2 (by decide) kw_59 dX6_push_31 h_x0 rfl rfl rfl rfl ?_
    refine z_aload_n hC dX6_push_34 rfl (lv_at hl 1 rfl) ?_
    refine z_aload_n hC dX6_push_35 rfl (lv_at hl 1 rfl) ?_
    refine z_getI hC zc_6 2 (by decide) kw_59 dX6_push_36 h_x0 rfl ?_
    refine z_iconst (v := 1) hC dX6_push_39 (by decide) ?_
    refine z_isub hC dX6_push_40 ?_
    refine z_iload_n hC dX6_push_41 rfl (lv_at hl 2 rfl) ?_
    obtain ⟨q2, hq_q2, hz⟩ := ob_some hz
    refine z_callV (As := [.int (((z_up I x0 2 ((I x0 2) + 1)) x0 2) - 1), .int (x1)]) hC hT (c_X6_setStack F x0 (((z_up I x0 2 ((I x0 2) + 1)) x0 2) - 1) x1 h_x0 hq_q2) zy_X6_setStack zc_6 zv_X6_setStack kw_471 dX6_push_42 h_x0 rfl rfl hl.1 (Nat.le_of_ble_eq_true rfl) (by decide) (by decide) ?_
    refine z_iconst (v := 0) hC dX6_push_45 (by decide) ?_
    obtain rfl := Option.some.inj hz
    exact z_iret hC hT dX6_push_46 (by decide) (by decide)
  · skip
    refine z_iconst (v := 3) hC dX6_push_22 (by decide) ?_
    obtain rfl := Option.some.inj hz
    exact z_iret hC hT dX6_push_23 (by decide) (by decide)
set_option maxRecDepth 100000 in
set_option maxHeartbeats 4000000 in
theorem c_X6_push {l : Launch} {D : zD} {b0 : Nat} {S : zS} {I : zI} {X : Int32 × zI} (F : Nat) (x0 : Nat) (x1 : Int32) (h_x0 : z_is b0 S x0 6) (hz : z_X6_push F S I x0 x1 = some X) : z_M l D b0 yX6_push cX6_push 3 (some .int) { frames := 1, cells := 0, slots := 0, locals := 22 } [.ref (x0), .int (x1)] S I (some (.int (X.1))) S X.2 := by
  refine z_met (by decide) (Nat.le_of_ble_eq_true rfl) ?_
  intro p e s m below meth c hC hnm hT ls hl
  have hl : lv_has ls 3 [(0, .ref (x0)), (1, .int (x1))] := hl
  unfold z_X6_push at hz
  refine z_iload_n hC dX6_push_0 rfl (lv_at hl 1 rfl) ?_
  refine z_iconst (v := 2) hC dX6_push_1 (by decide) ?_
  refine z_icmp_ne (tgt := 9) hC dX6_push_2 (by decide) hz (fun hz => ?_) (fun hz => ?_)
  · skip
    refine z_iconst (v := 1) hC dX6_push_9 (by decide) ?_
    exact b_X6_push_10 hC hT   (x0) (x1) (1) (I) h_x0 hz ls (lv_sub hl [0, 1] rfl)
  · skip
    refine z_iconst (v := 2) hC dX6_push_5 (by decide) ?_
    refine z_goto (tgt := 10) hC dX6_push_6 (by decide) ?_
    exact b_X6_push_10 hC hT   (x0) (x1) (2) (I) h_x0 hz ls (lv_sub hl [0, 1] rfl)
theorem zy_X6_becomeCaught : z_y yX6_becomeCaught cX6_becomeCaught 4 none 2 := ⟨kw_464, kw_4, by decide +kernel, by decide +kernel, by decide +kernel⟩
theorem zv_X6_becomeCaught : Cond.instanceMethod yX6_becomeCaught ∈ z_tbl ∧ Cond.selects RX6 yX6_becomeCaught yX6_becomeCaught ∈ z_tbl := ⟨kw_462, kw_463⟩
def z_X6_becomeCaught_7B (F : Nat) (S : zS) (k7 : Nat → Int32 → Int32 → zI → Option (zI)) (x0 : Nat) (x2 : Int32) (x3 : Int32) (I : zI) : Option (zI) :=
  if x3 < 8 then (ob (z_X6_inPlace F S I x0 x3) (fun q2 => if q2 < 100 then (k7 (x0) (x2) (x3 + 1) (I)) else (ob (z_X6_setPlace F S I x0 x3 0) (fun q3 => k7 (x0) (x2) (x3 + 1) (q3))))) else (ob (z_X6_push F S (z_up I x0 2 0) x0 (10 + x2)) (fun q1 => some (q1.2)))
def z_X6_becomeCaught_7 (F : Nat) (S : zS)  : Nat → Nat → Int32 → Int32 → zI → Option (zI)
  | 0 => fun _ _ _ _ => none
  | n + 1 => fun x0 x2 x3 I => z_X6_becomeCaught_7B F S  (z_X6_becomeCaught_7 F S  n) x0 x2 x3 I
def z_X6_becomeCaught (F : Nat) (S : zS) (I : zI) (x0 : Nat) (x1 : Nat) (x2 : Int32) : Option (zI) :=
  ob (z_X6_become F S I x0 x1) (fun q1 => z_X6_becomeCaught_7 F S  F (x0) (x2) (0) (q1))
set_option maxRecDepth 100000 in
set_option maxHeartbeats 4000000 in
theorem bb_X6_becomeCaught_7 {p : Program} {l : Launch} {e : Env} {s : State} {m : MethodId} {args : Array Value} {below : List Frame} {meth : Method} {c : Code} {D : zD} {b0 : Nat} {F : Nat} {S : zS} {X : zI} (hC : z_C p s m args meth c cX6_becomeCaught RX6 4 none D) (hT : z_T b0 S) (k7 : Nat → Int32 → Int32 → zI → Option (zI)) (hk7 : ∀ (x0 : Nat) (x2 : Int32) (x3 : Int32) (I : zI) , z_is b0 S x0 6 → k7 x0 x2 x3 I = some X → ∀ ls : Array Slot, lv_has ls 4 [(0, .ref (x0)), (2, .int (x2)), (3, .int (x3))] → z_W p l e { frames := 2, cells := 0, slots := 0, locals := 61 } s m args below meth c D b0 S I 0 0 (MQ below (z_Q D b0 none S X) args s 0 0 (fun q => b0 ≤ q)) (F0 m 7 ls [])) (x0 : Nat) (x2 : Int32) (x3 : Int32) (I : zI) (h_x0 : z_is b0 S x0 6) (hz : z_X6_becomeCaught_7B F S k7 x0 x2 x3 I = some X) (ls : Array Slot) (hl : lv_has ls 4 [(0, .ref (x0)), (2, .int (x2)), (3, .int (x3))]) : z_W p l e { frames := 2, cells := 0, slots := 0, locals := 61 } s m args below meth c D b0 S I 0 0 (MQ below (z_Q D b0 none S X) args s 0 0 (fun q => b0 ≤ q)) (F0 m 7 ls []) := by
  unfold z_X6_becomeCaught_7B at hz
  refine z_iload_n hC dX6_becomeCaught_7 rfl (lv_at hl 2 rfl) ?_
  refine z_bipush (v := 8) hC dX6_becomeCaught_8 (by decide) ?_
  refine z_icmp_ge (tgt := 35) hC dX6_becomeCaught_10 (by decide) hz (fun hz => ?_) (fun hz => ?_)
  · skip
    refine z_aload_n hC dX6_becomeCaught_35 rfl (lv_at hl 0 rfl) ?_
    refine z_iconst (v := 0) hC dX6_becomeCaught_36 (by decide) ?_
    refine z_putI hC zc_6 2 (by decide) kw_59 dX6_becomeCaught_37 h_x0 rfl rfl rfl rfl ?_
    refine z_aload_n hC dX6_becomeCaught_40 rfl (lv_at hl 0 rfl) ?_
    refine z_bipush (v := 10) hC dX6_becomeCaught_41 (by decide) ?_
    refine z_iload_n hC dX6_becomeCaught_43 rfl (lv_at hl 1 rfl) ?_
    refine z_iadd hC dX6_becomeCaught_44 ?_
    obtain ⟨q1, hq_q1, hz⟩ := ob_some hz
    refine z_callV (As := [.int (10 + x2)]) hC hT (c_X6_push F x0 (10 + x2) h_x0 hq_q1) zy_X6_push zc_6 zv_X6_push kw_466 dX6_becomeCaught_45 h_x0 rfl rfl hl.1 (Nat.le_of_ble_eq_true rfl) (by decide) (by decide) ?_
    refine z_pop hC dX6_becomeCaught_48 rfl ?_
    obtain rfl := Option.some.inj hz
    exact z_vret hC hT dX6_becomeCaught_49 (by decide) (by decide)
  · skip
    refine z_aload_n hC dX6_becomeCaught_13 rfl (lv_at hl 0 rfl) ?_
    refine z_iload_n hC dX6_becomeCaught_14 rfl (lv_at hl 2 rfl) ?_
    obtain ⟨q2, hq_q2, hz⟩ := ob_some hz
    refine z_callV (As := [.int (x3)]) hC hT (c_X6_inPlace F x0 x3 h_x0 hq_q2) zy_X6_inPlace zc_6 zv_X6_inPlace kw_261 dX6_becomeCaught_15 h_x0 rfl rfl hl.1 (Nat.le_of_ble_eq_true rfl) (by decide) (by decide) ?_
    refine z_bipush (v := 100) hC dX6_becomeCaught_18 (by decide) ?_
    refine z_icmp_lt (tgt := 29) hC dX6_becomeCaught_20 (by decide) hz (fun hz => ?_) (fun hz => ?_)
    · skip
      refine z_iinc (k0 := 2) (v := x3 + 1) (lv' := [(3, .int (x3 + 1)), (0, .ref (x0)), (2, .int (x2))]) hC dX6_becomeCaught_29 hl rfl rfl (by decide) rfl (fun ls hl => ?_)
      refine z_goto (tgt := 7) hC dX6_becomeCaught_32 (by decide) ?_
      exact hk7 (x0) (x2) (x3 + 1) (I) h_x0 hz ls (lv_sub hl [1, 2, 0] rfl)
    · skip
      refine z_aload_n hC dX6_becomeCaught_23 rfl (lv_at hl 0 rfl) ?_
      refine z_iload_n hC dX6_becomeCaught_24 rfl (lv_at hl 2 rfl) ?_
      refine z_iconst (v := 0) hC dX6_becomeCaught_25 (by decide) ?_
      obtain ⟨q3, hq_q3, hz⟩ := ob_some hz
      refine z_callV (As := [.int (x3), .int (0)]) hC hT (c_X6_setPlace F x0 x3 0 h_x0 hq_q3) zy_X6_setPlace zc_6 zv_X6_setPlace kw_265 dX6_becomeCaught_26 h_x0 rfl rfl hl.1 (Nat.le_of_ble_eq_true rfl) (by decide) (by decide) ?_
      refine z_iinc (k0 := 2) (v := x3 + 1) (lv' := [(3, .int (x3 + 1)), (0, .ref (x0)), (2, .int (x2))]) hC dX6_becomeCaught_29 hl rfl rfl (by decide) rfl (fun ls hl => ?_)
      refine z_goto (tgt := 7) hC dX6_becomeCaught_32 (by decide) ?_
      exact hk7 (x0) (x2) (x3 + 1) (q3) h_x0 hz ls (lv_sub hl [1, 2, 0] rfl)
set_option maxRecDepth 100000 in
set_option maxHeartbeats 4000000 in
theorem b_X6_becomeCaught_7 {p : Program} {l : Launch} {e : Env} {s : State} {m : MethodId} {args : Array Value} {below : List Frame} {meth : Method} {c : Code} {D : zD} {b0 : Nat} {F : Nat} {S : zS} {X : zI} (hC : z_C p s m args meth c cX6_becomeCaught RX6 4 none D) (hT : z_T b0 S)   : ∀ (n : Nat) (x0 : Nat) (x2 : Int32) (x3 : Int32) (I : zI), z_is b0 S x0 6 → z_X6_becomeCaught_7 F S  n x0 x2 x3 I = some X → ∀ ls : Array Slot, lv_has ls 4 [(0, .ref (x0)), (2, .int (x2)), (3, .int (x3))] → z_W p l e { frames := 2, cells := 0, slots := 0, locals := 61 } s m args below meth c D b0 S I 0 0 (MQ below (z_Q D b0 none S X) args s 0 0 (fun q => b0 ≤ q)) (F0 m 7 ls []) := by
  intro n
  induction n with
  | zero => intro x0 x2 x3 I h_x0 hz; cases hz
  | succ n ih =>
    intro x0 x2 x3 I h_x0 hz ls hl
    exact bb_X6_becomeCaught_7 (F := F) hC hT  (z_X6_becomeCaught_7 F S  n)  ih x0 x2 x3 I h_x0 hz ls hl
set_option maxRecDepth 100000 in
set_option maxHeartbeats 4000000 in
theorem c_X6_becomeCaught {l : Launch} {D : zD} {b0 : Nat} {S : zS} {I : zI} {X : zI} (F : Nat) (x0 : Nat) (x1 : Nat) (x2 : Int32) (h_x0 : z_is b0 S x0 6) (h_x1 : z_is b0 S x1 6) (hz : z_X6_becomeCaught F S I x0 x1 x2 = some X) : z_M l D b0 yX6_becomeCaught cX6_becomeCaught 4 none { frames := 2, cells := 0, slots := 0, locals := 61 } [.ref (x0), .ref (x1), .int (x2)] S I none S X := by
  refine z_met (by decide) (Nat.le_of_ble_eq_true rfl) ?_
  intro p e s m below meth c hC hnm hT ls hl
  have hl : lv_has ls 4 [(0, .ref (x0)), (1, .ref (x1)), (2, .int (x2))] := hl
  unfold z_X6_becomeCaught at hz
  refine z_aload_n hC dX6_becomeCaught_0 rfl (lv_at hl 0 rfl) ?_
  refine z_aload_n hC dX6_becomeCaught_1 rfl (lv_at hl 1 rfl) ?_
  obtain ⟨q1, hq_q1, hz⟩ := ob_some hz
  refine z_callV (As := [.ref (x1)]) hC hT (c_X6_become F x0 x1 h_x0 h_x1 hq_q1) zy_X6_become zc_6 zv_X6_become kw_465 dX6_becomeCaught_2 h_x0 rfl rfl hl.1 (Nat.le_of_ble_eq_true rfl) (by decide) (by decide) ?_
  refine z_iconst (v := 0) hC dX6_becomeCaught_5 (by decide) ?_
  refine z_istore_n (lv' := [(3, .int (0)), (0, .ref (x0)), (1, .ref (x1)), (2, .int (x2))]) hC dX6_becomeCaught_6 rfl hl (by decide) rfl (fun ls hl => ?_)
  exact b_X6_becomeCaught_7 hC hT   F (x0) (x2) (0) (q1) h_x0 hz ls (lv_sub hl [1, 3, 0] rfl)
theorem zy_X2_sendToGuards : z_y yX2_sendToGuards cX2_sendToGuards 6 (some .int) 2 := ⟨kw_452, kw_6, by decide +kernel, by decide +kernel, by decide +kernel⟩
theorem zv_X2_sendToGuards : Cond.instanceMethod yX2_sendToGuards ∈ z_tbl ∧ Cond.selects RX2 yX2_sendToGuards yX2_sendToGuards ∈ z_tbl := ⟨kw_451, ks_6⟩
def z_X2_sendToGuards_2B (F : Nat) (S : zS) (k2 : Nat → Nat → Int32 → Int32 → zI → Option (Int32 × zI)) (x0 : Nat) (x1 : Nat) (x2 : Int32) (x3 : Int32) (I : zI) : Option (Int32 × zI) :=
  if x3 < (I x1 4) then (ob (z_X5_guardOver F S I x1 x3 x2) (fun q1 => ob2 (q1) (k2 (x0) (x1) (x2) (x3 + 1) (I)) (fun r2 => ob (S.1 x0 3) (fun r3 => ob (S.1 x0 2) (fun r4 => ob (z_X6_becomeCaught F S I r3 r4 (I r2 3)) (fun q5 => ob (z_X2_arrive F S q5 x0 x1 x2 (q5 r2 2) r3) (fun q6 => if (q6.1) = 0 then (k2 (x0) (x1) (x2) (x3 + 1) (q6.2)) else (some (q6.1, q6.2))))))))) else (some (0, I))
def z_X2_sendToGuards_2 (F : Nat) (S : zS)  : Nat → Nat → Nat → Int32 → Int32 → zI → Option (Int32 × zI)
  | 0 => fun _ _ _ _ _ => none
  | n + 1 => fun x0 x1 x2 x3 I => z_X2_sendToGuards_2B F S  (z_X2_sendToGuards_2 F S  n) x0 x1 x2 x3 I
def z_X2_sendToGuards (F : Nat) (S : zS) (I : zI) (x0 : Nat) (x1 : Nat) (x2 : Int32) : Option (Int32 × zI) :=
  z_X2_sendToGuards_2 F S  F (x0) (x1) (x2) (0) (I)
set_option maxRecDepth 100000 in
set_option maxHeartbeats 4000000 in
theorem bb_X2_sendToGuards_2 {p : Program} {l : Launch} {e : Env} {s : State} {m : MethodId} {args : Array Value} {below : List Frame} {meth : Method} {c : Code} {D : zD} {b0 : Nat} {F : Nat} {S : zS} {X : Int32 × zI} (hC : z_C p s m args meth c cX2_sendToGuards RX2 6 (some .int) D) (hT : z_T b0 S) (k2 : Nat → Nat → Int32 → Int32 → zI → Option (Int32 × zI)) (hk2 : ∀ (x0 : Nat) (x1 : Nat) (x2 : Int32) (x3 : Int32) (I : zI) , z_is b0 S x0 2 → z_is b0 S x1 5 → k2 x0 x1 x2 x3 I = some X → ∀ ls : Array Slot, lv_has ls 6 [(0, .ref (x0)), (1, .ref (x1)), (2, .int (x2)), (3, .int (x3))] → z_W p l e { frames := 4, cells := 0, slots := 0, locals := 99 } s m args below meth c D b0 S I 0 0 (MQ below (z_Q D b0 (some (.int (X.1))) S X.2) args s 0 0 (fun q => b0 ≤ q)) (F0 m 2 ls [])) (x0 : Nat) (x1 : Nat) (x2 : Int32) (x3 : Int32) (I : zI) (h_x0 : z_is b0 S x0 2) (h_x1 : z_is b0 S x1 5) (hz : z_X2_sendToGuards_2B F S k2 x0 x1 x2 x3 I = some X) (ls : Array Slot) (hl : lv_has ls 6 [(0, .ref (x0)), (1, .ref (x1)), (2, .int (x2)), (3, .int (x3))]) : z_W p l e { frames := 4, cells := 0, slots := 0, locals := 99 } s m args below meth c D b0 S I 0 0 (MQ below (z_Q D b0 (some (.int (X.1))) S X.2) args s 0 0 (fun q => b0 ≤ q)) (F0 m 2 ls []) := by
  unfold z_X2_sendToGuards_2B at hz
  refine z_iload_n hC dX2_sendToGuards_2 rfl (lv_at hl 3 rfl) ?_
  refine z_aload_n hC dX2_sendToGuards_3 rfl (lv_at hl 1 rfl) ?_
  refine z_getI hC zc_5 4 (by decide) kw_79 dX2_sendToGuards_4 h_x1 rfl ?_
  refine z_icmp_ge (tgt := 70) hC dX2_sendToGuards_7 (by decide) hz (fun hz => ?_) (fun hz => ?_)
  · skip
    refine z_iconst (v := 0) hC dX2_sendToGuards_70 (by decide) ?_
    obtain rfl := Option.some.inj hz
    exact z_iret hC hT dX2_sendToGuards_71 (by decide) (by decide)
  · skip
    refine z_aload_n hC dX2_sendToGuards_10 rfl (lv_at hl 1 rfl) ?_
    refine z_iload_n hC dX2_sendToGuards_11 rfl (lv_at hl 3 rfl) ?_
    refine z_iload_n hC dX2_sendToGuards_12 rfl (lv_at hl 2 rfl) ?_
    obtain ⟨q1, hq_q1, hz⟩ := ob_some hz
    refine z_callV (As := [.int (x3), .int (x2)]) hC hT (c_X5_guardOver F x1 x3 x2 h_x1 hq_q1) zy_X5_guardOver zc_5 zv_X5_guardOver kw_453 dX2_sendToGuards_13 h_x1 rfl rfl hl.1 (Nat.le_of_ble_eq_true rfl) (by decide) (by decide) ?_
    rcases ob2_some hz with ⟨ho_r2, hz⟩ | ⟨r2, ho_r2, hz⟩
    · try rw [ho_r2]
      try rw [ho_r2] at hl
      refine z_astoreN (lv' := [(4, .null), (0, .ref (x0)), (1, .ref (x1)), (2, .int (x2)), (3, .int (x3))]) hC dX2_sendToGuards_16 hl (by decide) rfl (fun ls hl => ?_)
      refine z_aloadN hC dX2_sendToGuards_18 (lv_at hl 0 rfl) ?_
      refine z_ifnullN (tgt := 64) hC dX2_sendToGuards_20 (by decide) ?_
      refine z_iinc (k0 := 4) (v := x3 + 1) (lv' := [(3, .int (x3 + 1)), (4, .null), (0, .ref (x0)), (1, .ref (x1)), (2, .int (x2))]) hC dX2_sendToGuards_64 hl rfl rfl (by decide) rfl (fun ls hl => ?_)
      refine z_goto (tgt := 2) hC dX2_sendToGuards_67 (by decide) ?_
      exact hk2 (x0) (x1) (x2) (x3 + 1) (I) h_x0 h_x1 hz ls (lv_sub hl [2, 3, 4, 0] rfl)
    · have hk_r2 : z_is b0 S r2 3 := (tk_X5_guardOver hT h_x1 hq_q1) _ ho_r2
      try rw [ho_r2]
      try rw [ho_r2] at hl
      refine z_astore (lv' := [(4, .ref (r2)), (0, .ref (x0)), (1, .ref (x1)), (2, .int (x2)), (3, .int (x3))]) hC dX2_sendToGuards_16 hl (by decide) rfl (fun ls hl => ?_)
      refine z_aload hC dX2_sendToGuards_18 (lv_at hl 0 rfl) ?_
      refine z_ifnull hC dX2_sendToGuards_20 ?_
      refine z_aload_n hC dX2_sendToGuards_23 rfl (lv_at hl 1 rfl) ?_
      obtain ⟨r3, hr_r3, hz⟩ := ob_some hz
      have hk_r3 : z_is b0 S r3 6 := hT.at h_x0 hr_r3
      refine z_getR hC zc_2 3 (by decide) kw_134 dX2_sendToGuards_24 h_x0 rfl hr_r3 ?_
      refine z_aload_n hC dX2_sendToGuards_27 rfl (lv_at hl 1 rfl) ?_
      obtain ⟨r4, hr_r4, hz⟩ := ob_some hz
      have hk_r4 : z_is b0 S r4 6 := hT.at h_x0 hr_r4
      refine z_getR hC zc_2 2 (by decide) kw_133 dX2_sendToGuards_28 h_x0 rfl hr_r4 ?_
      refine z_aload hC dX2_sendToGuards_31 (lv_at hl 0 rfl) ?_
      refine z_getI hC zc_3 3 (by decide) kw_360 dX2_sendToGuards_33 hk_r2 rfl ?_
      obtain ⟨q5, hq_q5, hz⟩ := ob_some hz
      refine z_callV (As := [.ref (r4), .int (I r2 3)]) hC hT (c_X6_becomeCaught F r3 r4 (I r2 3) hk_r3 hk_r4 hq_q5) zy_X6_becomeCaught zc_6 zv_X6_becomeCaught kw_461 dX2_sendToGuards_36 hk_r3 rfl rfl hl.1 (Nat.le_of_ble_eq_true rfl) (by decide) (by decide) ?_
      refine z_aload_n hC dX2_sendToGuards_39 rfl (lv_at hl 1 rfl) ?_
      refine z_aload_n hC dX2_sendToGuards_40 rfl (lv_at hl 2 rfl) ?_
      refine z_iload_n hC dX2_sendToGuards_41 rfl (lv_at hl 3 rfl) ?_
      refine z_aload hC dX2_sendToGuards_42 (lv_at hl 0 rfl) ?_
      refine z_getI hC zc_3 2 (by decide) kw_357 dX2_sendToGuards_44 hk_r2 rfl ?_
      refine z_aload_n hC dX2_sendToGuards_47 rfl (lv_at hl 1 rfl) ?_
      refine z_getR hC zc_2 3 (by decide) kw_134 dX2_sendToGuards_48 h_x0 rfl hr_r3 ?_
      obtain ⟨q6, hq_q6, hz⟩ := ob_some hz
      refine z_callV (As := [.ref (x1), .int (x2), .int (q5 r2 2), .ref (r3)]) hC hT (c_X2_arrive F x0 x1 x2 (q5 r2 2) r3 h_x0 h_x1 hk_r3 hq_q6) zy_X2_arrive zc_2 zv_X2_arrive kw_392 dX2_sendToGuards_51 h_x0 rfl rfl hl.1 (Nat.le_of_ble_eq_true rfl) (by decide) (by decide) ?_
      refine z_istore (lv' := [(5, .int (q6.1)), (4, .ref (r2)), (0, .ref (x0)), (1, .ref (x1)), (2, .int (x2)), (3, .int (x3))]) hC dX2_sendToGuards_54 hl (by decide) rfl (fun ls hl => ?_)
      refine z_iload hC dX2_sendToGuards_56 (lv_at hl 0 rfl) ?_
      refine z_if_eq (tgt := 64) hC dX2_sendToGuards_58 (by decide) hz (fun hz => ?_) (fun hz => ?_)
      · skip
        refine z_iinc (k0 := 5) (v := x3 + 1) (lv' := [(3, .int (x3 + 1)), (5, .int (q6.1)), (4, .ref (r2)), (0, .ref (x0)), (1, .ref (x1)), (2, .int (x2))]) hC dX2_sendToGuards_64 hl rfl rfl (by decide) rfl (fun ls hl => ?_)
        refine z_goto (tgt := 2) hC dX2_sendToGuards_67 (by decide) ?_
        exact hk2 (x0) (x1) (x2) (x3 + 1) (q6.2) h_x0 h_x1 hz ls (lv_sub hl [3, 4, 5, 0] rfl)
      · skip
        refine z_iload hC dX2_sendToGuards_61 (lv_at hl 0 rfl) ?_
        obtain rfl := Option.some.inj hz
        exact z_iret hC hT dX2_sendToGuards_63 (by decide) (by decide)
set_option maxRecDepth 100000 in
set_option maxHeartbeats 4000000 in
theorem b_X2_sendToGuards_2 {p : Program} {l : Launch} {e : Env} {s : State} {m : MethodId} {args : Array Value} {below : List Frame} {meth : Method} {c : Code} {D : zD} {b0 : Nat} {F : Nat} {S : zS} {X : Int32 × zI} (hC : z_C p s m args meth c cX2_sendToGuards RX2 6 (some .int) D) (hT : z_T b0 S)   : ∀ (n : Nat) (x0 : Nat) (x1 : Nat) (x2 : Int32) (x3 : Int32) (I : zI), z_is b0 S x0 2 → z_is b0 S x1 5 → z_X2_sendToGuards_2 F S  n x0 x1 x2 x3 I = some X → ∀ ls : Array Slot, lv_has ls 6 [(0, .ref (x0)), (1, .ref (x1)), (2, .int (x2)), (3, .int (x3))] → z_W p l e { frames := 4, cells := 0, slots := 0, locals := 99 } s m args below meth c D b0 S I 0 0 (MQ below (z_Q D b0 (some (.int (X.1))) S X.2) args s 0 0 (fun q => b0 ≤ q)) (F0 m 2 ls []) := by
  intro n
  induction n with
  | zero => intro x0 x1 x2 x3 I h_x0 h_x1 hz; cases hz
  | succ n ih =>
    intro x0 x1 x2 x3 I h_x0 h_x1 hz ls hl
    exact bb_X2_sendToGuards_2 (F := F) hC hT  (z_X2_sendToGuards_2 F S  n)  ih x0 x1 x2 x3 I h_x0 h_x1 hz ls hl
set_option maxRecDepth 100000 in
set_option maxHeartbeats 4000000 in
theorem c_X2_sendToGuards {l : Launch} {D : zD} {b0 : Nat} {S : zS} {I : zI} {X : Int32 × zI} (F : Nat) (x0 : Nat) (x1 : Nat) (x2 : Int32) (h_x0 : z_is b0 S x0 2) (h_x1 : z_is b0 S x1 5) (hz : z_X2_sendToGuards F S I x0 x1 x2 = some X) : z_M l D b0 yX2_sendToGuards cX2_sendToGuards 6 (some .int) { frames := 4, cells := 0, slots := 0, locals := 99 } [.ref (x0), .ref (x1), .int (x2)] S I (some (.int (X.1))) S X.2 := by
  refine z_met (by decide) (Nat.le_of_ble_eq_true rfl) ?_
  intro p e s m below meth c hC hnm hT ls hl
  have hl : lv_has ls 6 [(0, .ref (x0)), (1, .ref (x1)), (2, .int (x2))] := hl
  unfold z_X2_sendToGuards at hz
  refine z_iconst (v := 0) hC dX2_sendToGuards_0 (by decide) ?_
  refine z_istore_n (lv' := [(3, .int (0)), (0, .ref (x0)), (1, .ref (x1)), (2, .int (x2))]) hC dX2_sendToGuards_1 rfl hl (by decide) rfl (fun ls hl => ?_)
  exact b_X2_sendToGuards_2 hC hT   F (x0) (x1) (x2) (0) (I) h_x0 h_x1 hz ls (lv_sub hl [1, 2, 3, 0] rfl)
theorem zy_X5_hasPlace : z_y yX5_hasPlace cX5_hasPlace 2 (some .boolean) 1 := ⟨kw_485, kw_3, by decide +kernel, by decide +kernel, by decide +kernel⟩
theorem zv_X5_hasPlace : Cond.instanceMethod yX5_hasPlace ∈ z_tbl ∧ Cond.selects RX5 yX5_hasPlace yX5_hasPlace ∈ z_tbl := ⟨kw_483, kw_484⟩
def z_X5_hasPlace (F : Nat) (S : zS) (I : zI) (x0 : Nat) (x1 : Int32) : Option (Int32) :=
  if x1 < 0 then (some (0)) else (if x1 < (I x0 5) then (some (1)) else (some (0)))
set_option maxRecDepth 100000 in
set_option maxHeartbeats 4000000 in
theorem c_X5_hasPlace {l : Launch} {D : zD} {b0 : Nat} {S : zS} {I : zI} {X : Int32} (F : Nat) (x0 : Nat) (x1 : Int32) (h_x0 : z_is b0 S x0 5) (hz : z_X5_hasPlace F S I x0 x1 = some X) : z_M l D b0 yX5_hasPlace cX5_hasPlace 2 (some .boolean) { frames := 0, cells := 0, slots := 0, locals := 0 } [.ref (x0), .int (x1)] S I (some (.int (X))) S I := by
  refine z_met (by decide) (Nat.le_of_ble_eq_true rfl) ?_
  intro p e s m below meth c hC hnm hT ls hl
  have hl : lv_has ls 2 [(0, .ref (x0)), (1, .int (x1))] := hl
  unfold z_X5_hasPlace at hz
  refine z_iload_n hC dX5_hasPlace_0 rfl (lv_at hl 1 rfl) ?_
  refine z_if_lt (tgt := 16) hC dX5_hasPlace_1 (by decide) hz (fun hz => ?_) (fun hz => ?_)
  · skip
    refine z_iconst (v := 0) hC dX5_hasPlace_16 (by decide) ?_
    obtain rfl := Option.some.inj hz
    exact z_zret hC hT dX5_hasPlace_17 (Or.inl rfl) (by decide) (by decide)
  · skip
    refine z_iload_n hC dX5_hasPlace_4 rfl (lv_at hl 1 rfl) ?_
    refine z_aload_n hC dX5_hasPlace_5 rfl (lv_at hl 0 rfl) ?_
    refine z_getI hC zc_5 5 (by decide) kw_82 dX5_hasPlace_6 h_x0 rfl ?_
    refine z_icmp_ge (tgt := 16) hC dX5_hasPlace_9 (by decide) hz (fun hz => ?_) (fun hz => ?_)
    · skip
      refine z_iconst (v := 0) hC dX5_hasPlace_16 (by decide) ?_
      obtain rfl := Option.some.inj hz
      exact z_zret hC hT dX5_hasPlace_17 (Or.inl rfl) (by decide) (by decide)
    · skip
      refine z_iconst (v := 1) hC dX5_hasPlace_12 (by decide) ?_
      refine z_goto (tgt := 17) hC dX5_hasPlace_13 (by decide) ?_
      obtain rfl := Option.some.inj hz
      exact z_zret hC hT dX5_hasPlace_17 (Or.inr rfl) (by decide) (by decide)
theorem zy_X7_load : z_y yX7_load cX7_load 5 (some .int) 3 := ⟨kw_480, kw_5, by decide +kernel, by decide +kernel, by decide +kernel⟩
theorem zv_X7_load : Cond.instanceMethod yX7_load ∈ z_tbl ∧ Cond.selects RX7 yX7_load yX7_load ∈ z_tbl := ⟨kw_479, ks_7⟩
def z_X7_load (F : Nat) (S : zS) (I : zI) (x0 : Nat) (x1 : Nat) (x2 : Int32) (x3 : Nat) : Option (Int32 × zI) :=
  ob (z_X6_inPlace F S I x3 x2) (fun q1 => ob (z_X5_hasPlace F S I x1 x2) (fun q2 => if q2 = 0 then (some (7, I)) else (if q1 = 0 then (some (7, I)) else (if q1 = 3 then (some (7, I)) else (ob (z_X6_push F S I x3 q1) (fun q3 => some (q3.1, q3.2)))))))
set_option maxRecDepth 100000 in
set_option maxHeartbeats 4000000 in
theorem c_X7_load {l : Launch} {D : zD} {b0 : Nat} {S : zS} {I : zI} {X : Int32 × zI} (F : Nat) (x0 : Nat) (x1 : Nat) (x2 : Int32) (x3 : Nat) (h_x0 : z_is b0 S x0 7) (h_x1 : z_is b0 S x1 5) (h_x3 : z_is b0 S x3 6) (hz : z_X7_load F S I x0 x1 x2 x3 = some X) : z_M l D b0 yX7_load cX7_load 5 (some .int) { frames := 2, cells := 0, slots := 0, locals := 44 } [.ref (x0), .ref (x1), .int (x2), .ref (x3)] S I (some (.int (X.1))) S X.2 := by
  refine z_met (by decide) (Nat.le_of_ble_eq_true rfl) ?_
  intro p e s m below meth c hC hnm hT ls hl
  have hl : lv_has ls 5 [(0, .ref (x0)), (1, .ref (x1)), (2, .int (x2)), (3, .ref (x3))] := hl
  unfold z_X7_load at hz
  refine z_aload_n hC dX7_load_0 rfl (lv_at hl 3 rfl) ?_
  refine z_iload_n hC dX7_load_1 rfl (lv_at hl 2 rfl) ?_
  obtain ⟨q1, hq_q1, hz⟩ := ob_some hz
  refine z_callV (As := [.int (x2)]) hC hT (c_X6_inPlace F x3 x2 h_x3 hq_q1) zy_X6_inPlace zc_6 zv_X6_inPlace kw_481 dX7_load_2 h_x3 rfl rfl hl.1 (Nat.le_of_ble_eq_true rfl) (by decide) (by decide) ?_
  refine z_istore (lv' := [(4, .int (q1)), (0, .ref (x0)), (1, .ref (x1)), (2, .int (x2)), (3, .ref (x3))]) hC dX7_load_5 hl (by decide) rfl (fun ls hl => ?_)
  refine z_aload_n hC dX7_load_7 rfl (lv_at hl 2 rfl) ?_
  refine z_iload_n hC dX7_load_8 rfl (lv_at hl 3 rfl) ?_
  obtain ⟨q2, hq_q2, hz⟩ := ob_some hz
  refine z_callV (As := [.int (x2)]) hC hT (c_X5_hasPlace F x1 x2 h_x1 hq_q2) zy_X5_hasPlace zc_5 zv_X5_hasPlace kw_482 dX7_load_9 h_x1 rfl rfl hl.1 (Nat.le_of_ble_eq_true rfl) (by decide) (by decide) ?_
  refine z_if_eq (tgt := 26) hC dX7_load_12 (by decide) hz (fun hz => ?_) (fun hz => ?_)
  · skip
    refine z_bipush (v := 7) hC dX7_load_26 (by decide) ?_
    obtain rfl := Option.some.inj hz
    exact z_iret hC hT dX7_load_28 (by decide) (by decide)
  · skip
    refine z_iload hC dX7_load_15 (lv_at hl 0 rfl) ?_
    refine z_if_eq (tgt := 26) hC dX7_load_17 (by decide) hz (fun hz => ?_) (fun hz => ?_)
    · skip
      refine z_bipush (v := 7) hC dX7_load_26 (by decide) ?_
      obtain rfl := Option.some.inj hz
      exact z_iret hC hT dX7_load_28 (by decide) (by decide)
    · skip
      refine z_iload hC dX7_load_20 (lv_at hl 0 rfl) ?_
      refine z_iconst (v := 3) hC dX7_load_22 (by decide) ?_
      refine z_icmp_ne (tgt := 29) hC dX7_load_23 (by decide) hz (fun hz => ?_) (fun hz => ?_)
      · skip
        refine z_aload_n hC dX7_load_29 rfl (lv_at hl 4 rfl) ?_
        refine z_iload hC dX7_load_30 (lv_at hl 0 rfl) ?_
        obtain ⟨q3, hq_q3, hz⟩ := ob_some hz
        refine z_callV (As := [.int (q1)]) hC hT (c_X6_push F x3 q1 h_x3 hq_q3) zy_X6_push zc_6 zv_X6_push kw_476 dX7_load_32 h_x3 rfl rfl hl.1 (Nat.le_of_ble_eq_true rfl) (by decide) (by decide) ?_
        obtain rfl := Option.some.inj hz
        exact z_iret hC hT dX7_load_35 (by decide) (by decide)
      · skip
        refine z_bipush (v := 7) hC dX7_load_26 (by decide) ?_
        obtain rfl := Option.some.inj hz
        exact z_iret hC hT dX7_load_28 (by decide) (by decide)
theorem zy_X6_pop : z_y yX6_pop cX6_pop 2 (some .int) 0 := ⟨kw_493, kw_4, by decide +kernel, by decide +kernel, by decide +kernel⟩
theorem zv_X6_pop : Cond.instanceMethod yX6_pop ∈ z_tbl ∧ Cond.selects RX6 yX6_pop yX6_pop ∈ z_tbl := ⟨kw_491, kw_492⟩
def z_X6_pop (F : Nat) (S : zS) (I : zI) (x0 : Nat) : Option (Int32 × zI) :=
  ob (z_X6_onStack F S I x0 ((I x0 2) - 1)) (fun q1 => if q1 = (-1) then (some (q1, I)) else (some (q1, z_up I x0 2 ((I x0 2) - 1))))
set_option maxRecDepth 100000 in
set_option maxHeartbeats 4000000 in
theorem c_X6_pop {l : Launch} {D : zD} {b0 : Nat} {S : zS} {I : zI} {X : Int32 × zI} (F : Nat) (x0 : Nat) (h_x0 : z_is b0 S x0 6) (hz : z_X6_pop F S I x0 = some X) : z_M l D b0 yX6_pop cX6_pop 2 (some .int) { frames := 1, cells := 0, slots := 0, locals := 21 } [.ref (x0)] S I (some (.int (X.1))) S X.2 := by
  refine z_met (by decide) (Nat.le_of_ble_eq_true rfl) ?_
  intro p e s m below meth c hC hnm hT ls hl
  have hl : lv_has ls 2 [(0, .ref (x0))] := hl
  unfold z_X6_pop at hz
  refine z_aload_n hC dX6_pop_0 rfl (lv_at hl 0 rfl) ?_
  refine z_aload_n hC dX6_pop_1 rfl (lv_at hl 0 rfl) ?_
  refine z_getI hC zc_6 2 (by decide) kw_59 dX6_pop_2 h_x0 rfl ?_
  refine z_iconst (v := 1) hC dX6_pop_5 (by decide) ?_
  refine z_isub hC dX6_pop_6 ?_
  obtain ⟨q1, hq_q1, hz⟩ := ob_some hz
  refine z_callV (As := [.int ((I x0 2) - 1)]) hC hT (c_X6_onStack F x0 ((I x0 2) - 1) h_x0 hq_q1) zy_X6_onStack zc_6 zv_X6_onStack kw_401 dX6_pop_7 h_x0 rfl rfl hl.1 (Nat.le_of_ble_eq_true rfl) (by decide) (by decide) ?_
  refine z_istore_n (lv' := [(1, .int (q1)), (0, .ref (x0))]) hC dX6_pop_10 rfl hl (by decide) rfl (fun ls hl => ?_)
  refine z_iload_n hC dX6_pop_11 rfl (lv_at hl 0 rfl) ?_
  refine z_iconst (v := (-1)) hC dX6_pop_12 (by decide) ?_
  refine z_icmp_eq (tgt := 26) hC dX6_pop_13 (by decide) hz (fun hz => ?_) (fun hz => ?_)
  · skip
    refine z_iload_n hC dX6_pop_26 rfl (lv_at hl 0 rfl) ?_
    obtain rfl := Option.some.inj hz
    exact z_iret hC hT dX6_pop_27 (by decide) (by decide)
  · skip
    refine z_aload_n hC dX6_pop_16 rfl (lv_at hl 1 rfl) ?_
    refine z_dup hC dX6_pop_17 rfl ?_
    refine z_getI hC zc_6 2 (by decide) kw_59 dX6_pop_18 h_x0 rfl ?_
    refine z_iconst (v := 1) hC dX6_pop_21 (by decide) ?_
    refine z_isub hC dX6_pop_22 ?_
    refine z_putI hC zc_6 2 (by decide) kw_59 dX6_pop_23 h_x0 rfl rfl rfl rfl ?_
    refine z_iload_n hC dX6_pop_26 rfl (lv_at hl 0 rfl) ?_
    obtain rfl := Option.some.inj hz
    exact z_iret hC hT dX6_pop_27 (by decide) (by decide)
theorem zy_X6_breakWideAt : z_y yX6_breakWideAt cX6_breakWideAt 2 none 1 := ⟨kw_260, kw_4, by decide +kernel, by decide +kernel, by decide +kernel⟩
theorem zv_X6_breakWideAt : Cond.instanceMethod yX6_breakWideAt ∈ z_tbl ∧ Cond.selects RX6 yX6_breakWideAt yX6_breakWideAt ∈ z_tbl := ⟨kw_259, ks_1⟩
def z_X6_breakWideAt_17 (F : Nat) (S : zS)  (x0 : Nat) (x1 : Int32) (I : zI) : Option (zI) :=
  ob (z_X6_inPlace F S I x0 x1) (fun q1 => if q1 = 2 then (ob (z_X6_setPlace F S I x0 (x1 + 1) 0) (fun q2 => some (q2))) else (some (I)))
def z_X6_breakWideAt (F : Nat) (S : zS) (I : zI) (x0 : Nat) (x1 : Int32) : Option (zI) :=
  ob (z_X6_inPlace F S I x0 x1) (fun q1 => if q1 = 3 then (ob (z_X6_setPlace F S I x0 (x1 - 1) 0) (fun q2 => z_X6_breakWideAt_17 F S  (x0) (x1) (q2))) else (z_X6_breakWideAt_17 F S  (x0) (x1) (I)))
set_option maxRecDepth 100000 in
set_option maxHeartbeats 4000000 in
theorem b_X6_breakWideAt_17 {p : Program} {l : Launch} {e : Env} {s : State} {m : MethodId} {args : Array Value} {below : List Frame} {meth : Method} {c : Code} {D : zD} {b0 : Nat} {F : Nat} {S : zS} {X : zI} (hC : z_C p s m args meth c cX6_breakWideAt RX6 2 none D) (hT : z_T b0 S)   (x0 : Nat) (x1 : Int32) (I : zI) (h_x0 : z_is b0 S x0 6) (hz : z_X6_breakWideAt_17 F S  x0 x1 I = some X) (ls : Array Slot) (hl : lv_has ls 2 [(0, .ref (x0)), (1, .int (x1))]) : z_W p l e { frames := 1, cells := 0, slots := 0, locals := 22 } s m args below meth c D b0 S I 0 0 (MQ below (z_Q D b0 none S X) args s 0 0 (fun q => b0 ≤ q)) (F0 m 17 ls []) := by
  unfold z_X6_breakWideAt_17 at hz
  refine z_aload_n hC dX6_breakWideAt_17 rfl (lv_at hl 0 rfl) ?_
  refine z_iload_n hC dX6_breakWideAt_18 rfl (lv_at hl 1 rfl) ?_
  obtain ⟨q1, hq_q1, hz⟩ := ob_some hz
  refine z_callV (As := [.int (x1)]) hC hT (c_X6_inPlace F x0 x1 h_x0 hq_q1) zy_X6_inPlace zc_6 zv_X6_inPlace kw_261 dX6_breakWideAt_19 h_x0 rfl rfl hl.1 (Nat.le_of_ble_eq_true rfl) (by decide) (by decide) ?_
  refine z_iconst (v := 2) hC dX6_breakWideAt_22 (by decide) ?_
  refine z_icmp_ne (tgt := 34) hC dX6_breakWideAt_23 (by decide) hz (fun hz => ?_) (fun hz => ?_)
  · skip
    obtain rfl := Option.some.inj hz
    exact z_vret hC hT dX6_breakWideAt_34 (by decide) (by decide)
  · skip
    refine z_aload_n hC dX6_breakWideAt_26 rfl (lv_at hl 0 rfl) ?_
    refine z_iload_n hC dX6_breakWideAt_27 rfl (lv_at hl 1 rfl) ?_
    refine z_iconst (v := 1) hC dX6_breakWideAt_28 (by decide) ?_
    refine z_iadd hC dX6_breakWideAt_29 ?_
    refine z_iconst (v := 0) hC dX6_breakWideAt_30 (by decide) ?_
    obtain ⟨q2, hq_q2, hz⟩ := ob_some hz
    refine z_callV (As := [.int (x1 + 1), .int (0)]) hC hT (c_X6_setPlace F x0 (x1 + 1) 0 h_x0 hq_q2) zy_X6_setPlace zc_6 zv_X6_setPlace kw_265 dX6_breakWideAt_31 h_x0 rfl rfl hl.1 (Nat.le_of_ble_eq_true rfl) (by decide) (by decide) ?_
    obtain rfl := Option.some.inj hz
    exact z_vret hC hT dX6_breakWideAt_34 (by decide) (by decide)
set_option maxRecDepth 100000 in
set_option maxHeartbeats 4000000 in
theorem c_X6_breakWideAt {l : Launch} {D : zD} {b0 : Nat} {S : zS} {I : zI} {X : zI} (F : Nat) (x0 : Nat) (x1 : Int32) (h_x0 : z_is b0 S x0 6) (hz : z_X6_breakWideAt F S I x0 x1 = some X) : z_M l D b0 yX6_breakWideAt cX6_breakWideAt 2 none { frames := 1, cells := 0, slots := 0, locals := 22 } [.ref (x0), .int (x1)] S I none S X := by
  refine z_met (by decide) (Nat.le_of_ble_eq_true rfl) ?_
  intro p e s m below meth c hC hnm hT ls hl
  have hl : lv_has ls 2 [(0, .ref (x0)), (1, .int (x1))] := hl
  unfold z_X6_breakWideAt at hz
  refine z_aload_n hC dX6_breakWideAt_0 rfl (lv_at hl 0 rfl) ?_
  refine z_iload_n hC dX6_breakWideAt_1 rfl (lv_at hl 1 rfl) ?_
  obtain ⟨q1, hq_q1, hz⟩ := ob_some hz
  refine z_callV (As := [.int (x1)]) hC hT (c_X6_inPlace F x0 x1 h_x0 hq_q1) zy_X6_inPlace zc_6 zv_X6_inPlace kw_261 dX6_breakWideAt_2 h_x0 rfl rfl hl.1 (Nat.le_of_ble_eq_true rfl) (by decide) (by decide) ?_
  refine z_iconst (v := 3) hC dX6_breakWideAt_5 (by decide) ?_
  refine z_icmp_ne (tgt := 17) hC dX6_breakWideAt_6 (by decide) hz (fun hz => ?_) (fun hz => ?_)
  · skip
    exact b_X6_breakWideAt_17 hC hT   (x0) (x1) (I) h_x0 hz ls (lv_sub hl [0, 1] rfl)
  · skip
    refine z_aload_n hC dX6_breakWideAt_9 rfl (lv_at hl 0 rfl) ?_
    refine z_iload_n hC dX6_breakWideAt_10 rfl (lv_at hl 1 rfl) ?_
    refine z_iconst (v := 1) hC dX6_breakWideAt_11 (by decide) ?_
    refine z_isub hC dX6_breakWideAt_12 ?_
    refine z_iconst (v := 0) hC dX6_breakWideAt_13 (by decide) ?_
    obtain ⟨q2, hq_q2, hz⟩ := ob_some hz
    refine z_callV (As := [.int (x1 - 1), .int (0)]) hC hT (c_X6_setPlace F x0 (x1 - 1) 0 h_x0 hq_q2) zy_X6_setPlace zc_6 zv_X6_setPlace kw_265 dX6_breakWideAt_14 h_x0 rfl rfl hl.1 (Nat.le_of_ble_eq_true rfl) (by decide) (by decide) ?_
    exact b_X6_breakWideAt_17 hC hT   (x0) (x1) (q2) h_x0 hz ls (lv_sub hl [0, 1] rfl)
theorem zy_X6_store : z_y yX6_store cX6_store 3 none 2 := ⟨kw_256, kw_4, by decide +kernel, by decide +kernel, by decide +kernel⟩
theorem zv_X6_store : Cond.instanceMethod yX6_store ∈ z_tbl ∧ Cond.selects RX6 yX6_store yX6_store ∈ z_tbl := ⟨kw_254, kw_255⟩
def z_X6_store_25 (F : Nat) (S : zS)  (x0 : Nat) (x1 : Int32) (x2 : Int32) (I : zI) : Option (zI) :=
  ob (z_X6_setPlace F S I x0 x1 x2) (fun q1 => some (q1))
def z_X6_store (F : Nat) (S : zS) (I : zI) (x0 : Nat) (x1 : Int32) (x2 : Int32) : Option (zI) :=
  ob (z_X6_breakWideAt F S I x0 x1) (fun q1 => if x2 = 2 then (ob (z_X6_breakWideAt F S q1 x0 (x1 + 1)) (fun q2 => ob (z_X6_setPlace F S q2 x0 (x1 + 1) 3) (fun q3 => z_X6_store_25 F S  (x0) (x1) (x2) (q3)))) else (z_X6_store_25 F S  (x0) (x1) (x2) (q1)))
set_option maxRecDepth 100000 in
set_option maxHeartbeats 4000000 in
theorem b_X6_store_25 {p : Program} {l : Launch} {e : Env} {s : State} {m : MethodId} {args : Array Value} {below : List Frame} {meth : Method} {c : Code} {D : zD} {b0 : Nat} {F : Nat} {S : zS} {X : zI} (hC : z_C p s m args meth c cX6_store RX6 3 none D) (hT : z_T b0 S)   (x0 : Nat) (x1 : Int32) (x2 : Int32) (I : zI) (h_x0 : z_is b0 S x0 6) (hz : z_X6_store_25 F S  x0 x1 x2 I = some X) (ls : Array Slot) (hl : lv_has ls 3 [(0, .ref (x0)), (1, .int (x1)), (2, .int (x2))]) : z_W p l e { frames := 2, cells := 0, slots := 0, locals := 43 } s m args below meth c D b0 S I 0 0 (MQ below (z_Q D b0 none S X) args s 0 0 (fun q => b0 ≤ q)) (F0 m 25 ls []) := by
  unfold z_X6_store_25 at hz
  refine z_aload_n hC dX6_store_25 rfl (lv_at hl 0 rfl) ?_
  refine z_iload_n hC dX6_store_26 rfl (lv_at hl 1 rfl) ?_
  refine z_iload_n hC dX6_store_27 rfl (lv_at hl 2 rfl) ?_
  obtain ⟨q1, hq_q1, hz⟩ := ob_some hz
  refine z_callV (As := [.int (x1), .int (x2)]) hC hT (c_X6_setPlace F x0 x1 x2 h_x0 hq_q1) zy_X6_setPlace zc_6 zv_X6_setPlace kw_265 dX6_store_28 h_x0 rfl rfl hl.1 (Nat.le_of_ble_eq_true rfl) (by decide) (by decide) ?_
  obtain rfl := Option.some.inj hz
  exact z_vret hC hT dX6_store_31 (by decide) (by decide)
set_option maxRecDepth 100000 in
set_option maxHeartbeats 4000000 in
theorem c_X6_store {l : Launch} {D : zD} {b0 : Nat} {S : zS} {I : zI} {X : zI} (F : Nat) (x0 : Nat) (x1 : Int32) (x2 : Int32) (h_x0 : z_is b0 S x0 6) (hz : z_X6_store F S I x0 x1 x2 = some X) : z_M l D b0 yX6_store cX6_store 3 none { frames := 2, cells := 0, slots := 0, locals := 43 } [.ref (x0), .int (x1), .int (x2)] S I none S X := by
  refine z_met (by decide) (Nat.le_of_ble_eq_true rfl) ?_
  intro p e s m below meth c hC hnm hT ls hl
  have hl : lv_has ls 3 [(0, .ref (x0)), (1, .int (x1)), (2, .int (x2))] := hl
  unfold z_X6_store at hz
  refine z_aload_n hC dX6_store_0 rfl (lv_at hl 0 rfl) ?_
  refine z_iload_n hC dX6_store_1 rfl (lv_at hl 1 rfl) ?_
  obtain ⟨q1, hq_q1, hz⟩ := ob_some hz
  refine z_callV (As := [.int (x1)]) hC hT (c_X6_breakWideAt F x0 x1 h_x0 hq_q1) zy_X6_breakWideAt zc_6 zv_X6_breakWideAt kw_257 dX6_store_2 h_x0 rfl rfl hl.1 (Nat.le_of_ble_eq_true rfl) (by decide) (by decide) ?_
  refine z_iload_n hC dX6_store_5 rfl (lv_at hl 2 rfl) ?_
  refine z_iconst (v := 2) hC dX6_store_6 (by decide) ?_
  refine z_icmp_ne (tgt := 25) hC dX6_store_7 (by decide) hz (fun hz => ?_) (fun hz => ?_)
  · skip
    exact b_X6_store_25 hC hT   (x0) (x1) (x2) (q1) h_x0 hz ls (lv_sub hl [0, 1, 2] rfl)
  · skip
    refine z_aload_n hC dX6_store_10 rfl (lv_at hl 0 rfl) ?_
    refine z_iload_n hC dX6_store_11 rfl (lv_at hl 1 rfl) ?_
    refine z_iconst (v := 1) hC dX6_store_12 (by decide) ?_
    refine z_iadd hC dX6_store_13 ?_
    obtain ⟨q2, hq_q2, hz⟩ := ob_some hz
    refine z_callV (As := [.int (x1 + 1)]) hC hT (c_X6_breakWideAt F x0 (x1 + 1) h_x0 hq_q2) zy_X6_breakWideAt zc_6 zv_X6_breakWideAt kw_257 dX6_store_14 h_x0 rfl rfl hl.1 (Nat.le_of_ble_eq_true rfl) (by decide) (by decide) ?_
    refine z_aload_n hC dX6_store_17 rfl (lv_at hl 0 rfl) ?_
    refine z_iload_n hC dX6_store_18 rfl (lv_at hl 1 rfl) ?_
    refine z_iconst (v := 1) hC dX6_store_19 (by decide) ?_
    refine z_iadd hC dX6_store_20 ?_
    refine z_iconst (v := 3) hC dX6_store_21 (by decide) ?_
    obtain ⟨q3, hq_q3, hz⟩ := ob_some hz
    refine z_callV (As := [.int (x1 + 1), .int (3)]) hC hT (c_X6_setPlace F x0 (x1 + 1) 3 h_x0 hq_q3) zy_X6_setPlace zc_6 zv_X6_setPlace kw_265 dX6_store_22 h_x0 rfl rfl hl.1 (Nat.le_of_ble_eq_true rfl) (by decide) (by decide) ?_
    exact b_X6_store_25 hC hT   (x0) (x1) (x2) (q3) h_x0 hz ls (lv_sub hl [0, 1, 2] rfl)
theorem zy_X7_store : z_y yX7_store cX7_store 5 (some .int) 3 := ⟨kw_489, kw_5, by decide +kernel, by decide +kernel, by decide +kernel⟩
theorem zv_X7_store : Cond.instanceMethod yX7_store ∈ z_tbl ∧ Cond.selects RX7 yX7_store yX7_store ∈ z_tbl := ⟨kw_488, ks_8⟩
def z_X7_store_44 (F : Nat) (S : zS)  (x2 : Int32) (x3 : Nat) (x4 : Int32) (I : zI) : Option (Int32 × zI) :=
  ob (z_X6_store F S I x3 x2 x4) (fun q1 => some (0, q1))
def z_X7_store (F : Nat) (S : zS) (I : zI) (x0 : Nat) (x1 : Nat) (x2 : Int32) (x3 : Nat) : Option (Int32 × zI) :=
  ob (z_X5_hasPlace F S I x1 x2) (fun q1 => if q1 = 0 then (some (7, I)) else (ob (z_X6_pop F S I x3) (fun q2 => if (q2.1) = (-1) then (some (1, q2.2)) else (if (q2.1) = 2 then (ob (z_X5_hasPlace F S (q2.2) x1 (x2 + 1)) (fun q3 => if q3 = 0 then (some (7, q2.2)) else (z_X7_store_44 F S  (x2) (x3) (q2.1) (q2.2)))) else (z_X7_store_44 F S  (x2) (x3) (q2.1) (q2.2))))))
set_option maxRecDepth 100000 in
set_option maxHeartbeats 4000000 in
theorem b_X7_store_44 {p : Program} {l : Launch} {e : Env} {s : State} {m : MethodId} {args : Array Value} {below : List Frame} {meth : Method} {c : Code} {D : zD} {b0 : Nat} {F : Nat} {S : zS} {X : Int32 × zI} (hC : z_C p s m args meth c cX7_store RX7 5 (some .int) D) (hT : z_T b0 S)   (x2 : Int32) (x3 : Nat) (x4 : Int32) (I : zI) (h_x3 : z_is b0 S x3 6) (hz : z_X7_store_44 F S  x2 x3 x4 I = some X) (ls : Array Slot) (hl : lv_has ls 5 [(2, .int (x2)), (3, .ref (x3)), (4, .int (x4))]) : z_W p l e { frames := 3, cells := 0, slots := 0, locals := 65 } s m args below meth c D b0 S I 0 0 (MQ below (z_Q D b0 (some (.int (X.1))) S X.2) args s 0 0 (fun q => b0 ≤ q)) (F0 m 44 ls []) := by
  unfold z_X7_store_44 at hz
  refine z_aload_n hC dX7_store_44 rfl (lv_at hl 1 rfl) ?_
  refine z_iload_n hC dX7_store_45 rfl (lv_at hl 0 rfl) ?_
  refine z_iload hC dX7_store_46 (lv_at hl 2 rfl) ?_
  obtain ⟨q1, hq_q1, hz⟩ := ob_some hz
  refine z_callV (As := [.int (x2), .int (x4)]) hC hT (c_X6_store F x3 x2 x4 h_x3 hq_q1) zy_X6_store zc_6 zv_X6_store kw_494 dX7_store_48 h_x3 rfl rfl hl.1 (Nat.le_of_ble_eq_true rfl) (by decide) (by decide) ?_
  refine z_iconst (v := 0) hC dX7_store_51 (by decide) ?_
  obtain rfl := Option.some.inj hz
  exact z_iret hC hT dX7_store_52 (by decide) (by decide)
set_option maxRecDepth 100000 in
set_option maxHeartbeats 4000000 in
theorem c_X7_store {l : Launch} {D : zD} {b0 : Nat} {S : zS} {I : zI} {X : Int32 × zI} (F : Nat) (x0 : Nat) (x1 : Nat) (x2 : Int32) (x3 : Nat) (h_x0 : z_is b0 S x0 7) (h_x1 : z_is b0 S x1 5) (h_x3 : z_is b0 S x3 6) (hz : z_X7_store F S I x0 x1 x2 x3 = some X) : z_M l D b0 yX7_store cX7_store 5 (some .int) { frames := 3, cells := 0, slots := 0, locals := 65 } [.ref (x0), .ref (x1), .int (x2), .ref (x3)] S I (some (.int (X.1))) S X.2 := by
  refine z_met (by decide) (Nat.le_of_ble_eq_true rfl) ?_
  intro p e s m below meth c hC hnm hT ls hl
  have hl : lv_has ls 5 [(0, .ref (x0)), (1, .ref (x1)), (2, .int (x2)), (3, .ref (x3))] := hl
  unfold z_X7_store at hz
  refine z_aload_n hC dX7_store_0 rfl (lv_at hl 1 rfl) ?_
  refine z_iload_n hC dX7_store_1 rfl (lv_at hl 2 rfl) ?_
  obtain ⟨q1, hq_q1, hz⟩ := ob_some hz
  refine z_callV (As := [.int (x2)]) hC hT (c_X5_hasPlace F x1 x2 h_x1 hq_q1) zy_X5_hasPlace zc_5 zv_X5_hasPlace kw_482 dX7_store_2 h_x1 rfl rfl hl.1 (Nat.le_of_ble_eq_true rfl) (by decide) (by decide) ?_
  refine z_if_ne (tgt := 11) hC dX7_store_5 (by decide) hz (fun hz => ?_) (fun hz => ?_)
  · skip
    refine z_aload_n hC dX7_store_11 rfl (lv_at hl 3 rfl) ?_
    obtain ⟨q2, hq_q2, hz⟩ := ob_some hz
    refine z_callV (As := []) hC hT (c_X6_pop F x3 h_x3 hq_q2) zy_X6_pop zc_6 zv_X6_pop kw_490 dX7_store_12 h_x3 rfl rfl hl.1 (Nat.le_of_ble_eq_true rfl) (by decide) (by decide) ?_
    refine z_istore (lv' := [(4, .int (q2.1)), (0, .ref (x0)), (1, .ref (x1)), (2, .int (x2)), (3, .ref (x3))]) hC dX7_store_15 hl (by decide) rfl (fun ls hl => ?_)
    refine z_iload hC dX7_store_17 (lv_at hl 0 rfl) ?_
    refine z_iconst (v := (-1)) hC dX7_store_19 (by decide) ?_
    refine z_icmp_ne (tgt := 25) hC dX7_store_20 (by decide) hz (fun hz => ?_) (fun hz => ?_)
    · skip
      refine z_iload hC dX7_store_25 (lv_at hl 0 rfl) ?_
      refine z_iconst (v := 2) hC dX7_store_27 (by decide) ?_
      refine z_icmp_ne (tgt := 44) hC dX7_store_28 (by decide) hz (fun hz => ?_) (fun hz => ?_)
      · skip
        exact b_X7_store_44 hC hT   (x2) (x3) (q2.1) (q2.2) h_x3 hz ls (lv_sub hl [3, 4, 0] rfl)
      · skip
        refine z_aload_n hC dX7_store_31 rfl (lv_at hl 2 rfl) ?_
        refine z_iload_n hC dX7_store_32 rfl (lv_at hl 3 rfl) ?_
        refine z_iconst (v := 1) hC dX7_store_33 (by decide) ?_
        refine z_iadd hC dX7_store_34 ?_
        obtain ⟨q3, hq_q3, hz⟩ := ob_some hz
        refine z_callV (As := [.int (x2 + 1)]) hC hT (c_X5_hasPlace F x1 (x2 + 1) h_x1 hq_q3) zy_X5_hasPlace zc_5 zv_X5_hasPlace kw_482 dX7_store_35 h_x1 rfl rfl hl.1 (Nat.le_of_ble_eq_true rfl) (by decide) (by decide) ?_
        refine z_if_ne (tgt := 44) hC dX7_store_38 (by decide) hz (fun hz => ?_) (fun hz => ?_)
        · skip
          exact b_X7_store_44 hC hT   (x2) (x3) (q2.1) (q2.2) h_x3 hz ls (lv_sub hl [3, 4, 0] rfl)
        · skip
          refine z_bipush (v := 7) hC dX7_store_41 (by decide) ?_
          obtain rfl := Option.some.inj hz
          exact z_iret hC hT dX7_store_43 (by decide) (by decide)
    · skip
      refine z_iconst (v := 1) hC dX7_store_23 (by decide) ?_
      obtain rfl := Option.some.inj hz
      exact z_iret hC hT dX7_store_24 (by decide) (by decide)
  · skip
    refine z_bipush (v := 7) hC dX7_store_8 (by decide) ?_
    obtain rfl := Option.some.inj hz
    exact z_iret hC hT dX7_store_10 (by decide) (by decide)
theorem zy_X6_top : z_y yX6_top cX6_top 1 (some .int) 0 := ⟨kw_498, kw_4, by decide +kernel, by decide +kernel, by decide +kernel⟩
theorem zv_X6_top : Cond.instanceMethod yX6_top ∈ z_tbl ∧ Cond.selects RX6 yX6_top yX6_top ∈ z_tbl := ⟨kw_496, kw_497⟩
def z_X6_top (F : Nat) (S : zS) (I : zI) (x0 : Nat) : Option (Int32) :=
  ob (z_X6_onStack F S I x0 ((I x0 2) - 1)) (fun q1 => some (q1))
set_option maxRecDepth 100000 in
set_option maxHeartbeats 4000000 in
theorem c_X6_top {l : Launch} {D : zD} {b0 : Nat} {S : zS} {I : zI} {X : Int32} (F : Nat) (x0 : Nat) (h_x0 : z_is b0 S x0 6) (hz : z_X6_top F S I x0 = some X) : z_M l D b0 yX6_top cX6_top 1 (some .int) { frames := 1, cells := 0, slots := 0, locals := 21 } [.ref (x0)] S I (some (.int (X))) S I := by
  refine z_met (by decide) (Nat.le_of_ble_eq_true rfl) ?_
  intro p e s m below meth c hC hnm hT ls hl
  have hl : lv_has ls 1 [(0, .ref (x0))] := hl
  unfold z_X6_top at hz
  refine z_aload_n hC dX6_top_0 rfl (lv_at hl 0 rfl) ?_
  refine z_aload_n hC dX6_top_1 rfl (lv_at hl 0 rfl) ?_
  refine z_getI hC zc_6 2 (by decide) kw_59 dX6_top_2 h_x0 rfl ?_
  refine z_iconst (v := 1) hC dX6_top_5 (by decide) ?_
  refine z_isub hC dX6_top_6 ?_
  obtain ⟨q1, hq_q1, hz⟩ := ob_some hz
  refine z_callV (As := [.int ((I x0 2) - 1)]) hC hT (c_X6_onStack F x0 ((I x0 2) - 1) h_x0 hq_q1) zy_X6_onStack zc_6 zv_X6_onStack kw_401 dX6_top_7 h_x0 rfl rfl hl.1 (Nat.le_of_ble_eq_true rfl) (by decide) (by decide) ?_
  obtain rfl := Option.some.inj hz
  exact z_iret hC hT dX6_top_10 (by decide) (by decide)
theorem zy_X7_take : z_y yX7_take cX7_take 4 (some .int) 2 := ⟨kw_506, kw_5, by decide +kernel, by decide +kernel, by decide +kernel⟩
theorem zv_X7_take : Cond.instanceMethod yX7_take ∈ z_tbl ∧ Cond.selects RX7 yX7_take yX7_take ∈ z_tbl := ⟨kw_505, ks_10⟩
def z_X7_take (F : Nat) (S : zS) (I : zI) (x0 : Nat) (x1 : Nat) (x2 : Int32) : Option (Int32 × zI) :=
  ob (z_X6_pop F S I x1) (fun q1 => if (q1.1) = (-1) then (some (1, q1.2)) else (if (q1.1) = x2 then (some (0, q1.2)) else (some (2, q1.2))))
set_option maxRecDepth 100000 in
set_option maxHeartbeats 4000000 in
theorem c_X7_take {l : Launch} {D : zD} {b0 : Nat} {S : zS} {I : zI} {X : Int32 × zI} (F : Nat) (x0 : Nat) (x1 : Nat) (x2 : Int32) (h_x0 : z_is b0 S x0 7) (h_x1 : z_is b0 S x1 6) (hz : z_X7_take F S I x0 x1 x2 = some X) : z_M l D b0 yX7_take cX7_take 4 (some .int) { frames := 2, cells := 0, slots := 0, locals := 42 } [.ref (x0), .ref (x1), .int (x2)] S I (some (.int (X.1))) S X.2 := by
  refine z_met (by decide) (Nat.le_of_ble_eq_true rfl) ?_
  intro p e s m below meth c hC hnm hT ls hl
  have hl : lv_has ls 4 [(0, .ref (x0)), (1, .ref (x1)), (2, .int (x2))] := hl
  unfold z_X7_take at hz
  refine z_aload_n hC dX7_take_0 rfl (lv_at hl 1 rfl) ?_
  obtain ⟨q1, hq_q1, hz⟩ := ob_some hz
  refine z_callV (As := []) hC hT (c_X6_pop F x1 h_x1 hq_q1) zy_X6_pop zc_6 zv_X6_pop kw_490 dX7_take_1 h_x1 rfl rfl hl.1 (Nat.le_of_ble_eq_true rfl) (by decide) (by decide) ?_
  refine z_istore_n (lv' := [(3, .int (q1.1)), (0, .ref (x0)), (1, .ref (x1)), (2, .int (x2))]) hC dX7_take_4 rfl hl (by decide) rfl (fun ls hl => ?_)
  refine z_iload_n hC dX7_take_5 rfl (lv_at hl 0 rfl) ?_
  refine z_iconst (v := (-1)) hC dX7_take_6 (by decide) ?_
  refine z_icmp_ne (tgt := 12) hC dX7_take_7 (by decide) hz (fun hz => ?_) (fun hz => ?_)
  · skip
    refine z_iload_n hC dX7_take_12 rfl (lv_at hl 0 rfl) ?_
    refine z_iload_n hC dX7_take_13 rfl (lv_at hl 3 rfl) ?_
    refine z_icmp_ne (tgt := 21) hC dX7_take_14 (by decide) hz (fun hz => ?_) (fun hz => ?_)
    · skip
      refine z_iconst (v := 2) hC dX7_take_21 (by decide) ?_
      obtain rfl := Option.some.inj hz
      exact z_iret hC hT dX7_take_22 (by decide) (by decide)
    · skip
      refine z_iconst (v := 0) hC dX7_take_17 (by decide) ?_
      refine z_goto (tgt := 22) hC dX7_take_18 (by decide) ?_
      obtain rfl := Option.some.inj hz
      exact z_iret hC hT dX7_take_22 (by decide) (by decide)
  · skip
    refine z_iconst (v := 1) hC dX7_take_10 (by decide) ?_
    obtain rfl := Option.some.inj hz
    exact z_iret hC hT dX7_take_11 (by decide) (by decide)
theorem zy_X7_pushUnless : z_y yX7_pushUnless cX7_pushUnless 4 (some .int) 3 := ⟨kw_510, kw_5, by decide +kernel, by decide +kernel, by decide +kernel⟩
theorem zv_X7_pushUnless : Cond.instanceMethod yX7_pushUnless ∈ z_tbl ∧ Cond.selects RX7 yX7_pushUnless yX7_pushUnless ∈ z_tbl := ⟨kw_509, ks_11⟩
def z_X7_pushUnless (F : Nat) (S : zS) (I : zI) (x0 : Nat) (x1 : Int32) (x2 : Nat) (x3 : Int32) : Option (Int32 × zI) :=
  if x1 = 0 then (ob (z_X6_push F S I x2 x3) (fun q1 => some (q1.1, q1.2))) else (some (x1, I))
set_option maxRecDepth 100000 in
set_option maxHeartbeats 4000000 in
theorem c_X7_pushUnless {l : Launch} {D : zD} {b0 : Nat} {S : zS} {I : zI} {X : Int32 × zI} (F : Nat) (x0 : Nat) (x1 : Int32) (x2 : Nat) (x3 : Int32) (h_x0 : z_is b0 S x0 7) (h_x2 : z_is b0 S x2 6) (hz : z_X7_pushUnless F S I x0 x1 x2 x3 = some X) : z_M l D b0 yX7_pushUnless cX7_pushUnless 4 (some .int) { frames := 2, cells := 0, slots := 0, locals := 44 } [.ref (x0), .int (x1), .ref (x2), .int (x3)] S I (some (.int (X.1))) S X.2 := by
  refine z_met (by decide) (Nat.le_of_ble_eq_true rfl) ?_
  intro p e s m below meth c hC hnm hT ls hl
  have hl : lv_has ls 4 [(0, .ref (x0)), (1, .int (x1)), (2, .ref (x2)), (3, .int (x3))] := hl
  unfold z_X7_pushUnless at hz
  refine z_iload_n hC dX7_pushUnless_0 rfl (lv_at hl 1 rfl) ?_
  refine z_if_ne (tgt := 12) hC dX7_pushUnless_1 (by decide) hz (fun hz => ?_) (fun hz => ?_)
  · skip
    refine z_iload_n hC dX7_pushUnless_12 rfl (lv_at hl 1 rfl) ?_
    obtain rfl := Option.some.inj hz
    exact z_iret hC hT dX7_pushUnless_13 (by decide) (by decide)
  · skip
    refine z_aload_n hC dX7_pushUnless_4 rfl (lv_at hl 2 rfl) ?_
    refine z_iload_n hC dX7_pushUnless_5 rfl (lv_at hl 3 rfl) ?_
    obtain ⟨q1, hq_q1, hz⟩ := ob_some hz
    refine z_callV (As := [.int (x3)]) hC hT (c_X6_push F x2 x3 h_x2 hq_q1) zy_X6_push zc_6 zv_X6_push kw_476 dX7_pushUnless_6 h_x2 rfl rfl hl.1 (Nat.le_of_ble_eq_true rfl) (by decide) (by decide) ?_
    refine z_goto (tgt := 13) hC dX7_pushUnless_9 (by decide) ?_
    obtain rfl := Option.some.inj hz
    exact z_iret hC hT dX7_pushUnless_13 (by decide) (by decide)
theorem zy_X7_add : z_y yX7_add cX7_add 4 (some .int) 2 := ⟨kw_502, kw_5, by decide +kernel, by decide +kernel, by decide +kernel⟩
theorem zv_X7_add : Cond.instanceMethod yX7_add ∈ z_tbl ∧ Cond.selects RX7 yX7_add yX7_add ∈ z_tbl := ⟨kw_501, ks_9⟩
def z_X7_add_18 (F : Nat) (S : zS)  (x0 : Nat) (x1 : Nat) (x2 : Int32) (x3 : Int32) (I : zI) : Option (Int32 × zI) :=
  ob (z_X7_pushUnless F S I x0 x3 x1 x2) (fun q1 => some (q1.1, q1.2))
def z_X7_add (F : Nat) (S : zS) (I : zI) (x0 : Nat) (x1 : Nat) (x2 : Int32) : Option (Int32 × zI) :=
  ob (z_X7_take F S I x0 x1 x2) (fun q1 => if (q1.1) = 0 then (ob (z_X7_take F S (q1.2) x0 x1 x2) (fun q2 => z_X7_add_18 F S  (x0) (x1) (x2) (q2.1) (q2.2))) else (z_X7_add_18 F S  (x0) (x1) (x2) (q1.1) (q1.2)))
set_option maxRecDepth 100000 in
set_option maxHeartbeats 4000000 in
theorem b_X7_add_18 {p : Program} {l : Launch} {e : Env} {s : State} {m : MethodId} {args : Array Value} {below : List Frame} {meth : Method} {c : Code} {D : zD} {b0 : Nat} {F : Nat} {S : zS} {X : Int32 × zI} (hC : z_C p s m args meth c cX7_add RX7 4 (some .int) D) (hT : z_T b0 S)   (x0 : Nat) (x1 : Nat) (x2 : Int32) (x3 : Int32) (I : zI) (h_x0 : z_is b0 S x0 7) (h_x1 : z_is b0 S x1 6) (hz : z_X7_add_18 F S  x0 x1 x2 x3 I = some X) (ls : Array Slot) (hl : lv_has ls 4 [(0, .ref (x0)), (1, .ref (x1)), (2, .int (x2)), (3, .int (x3))]) : z_W p l e { frames := 3, cells := 0, slots := 0, locals := 67 } s m args below meth c D b0 S I 0 0 (MQ below (z_Q D b0 (some (.int (X.1))) S X.2) args s 0 0 (fun q => b0 ≤ q)) (F0 m 18 ls []) := by
  unfold z_X7_add_18 at hz
  refine z_aload_n hC dX7_add_18 rfl (lv_at hl 0 rfl) ?_
  refine z_iload_n hC dX7_add_19 rfl (lv_at hl 3 rfl) ?_
  refine z_aload_n hC dX7_add_20 rfl (lv_at hl 1 rfl) ?_
  refine z_iload_n hC dX7_add_21 rfl (lv_at hl 2 rfl) ?_
  obtain ⟨q1, hq_q1, hz⟩ := ob_some hz
  refine z_callV (As := [.int (x3), .ref (x1), .int (x2)]) hC hT (c_X7_pushUnless F x0 x3 x1 x2 h_x0 h_x1 hq_q1) zy_X7_pushUnless zc_7 zv_X7_pushUnless kw_507 dX7_add_22 h_x0 rfl rfl hl.1 (Nat.le_of_ble_eq_true rfl) (by decide) (by decide) ?_
  obtain rfl := Option.some.inj hz
  exact z_iret hC hT dX7_add_25 (by decide) (by decide)
set_option maxRecDepth 100000 in
set_option maxHeartbeats 4000000 in
theorem c_X7_add {l : Launch} {D : zD} {b0 : Nat} {S : zS} {I : zI} {X : Int32 × zI} (F : Nat) (x0 : Nat) (x1 : Nat) (x2 : Int32) (h_x0 : z_is b0 S x0 7) (h_x1 : z_is b0 S x1 6) (hz : z_X7_add F S I x0 x1 x2 = some X) : z_M l D b0 yX7_add cX7_add 4 (some .int) { frames := 3, cells := 0, slots := 0, locals := 67 } [.ref (x0), .ref (x1), .int (x2)] S I (some (.int (X.1))) S X.2 := by
  refine z_met (by decide) (Nat.le_of_ble_eq_true rfl) ?_
  intro p e s m below meth c hC hnm hT ls hl
  have hl : lv_has ls 4 [(0, .ref (x0)), (1, .ref (x1)), (2, .int (x2))] := hl
  unfold z_X7_add at hz
  refine z_aload_n hC dX7_add_0 rfl (lv_at hl 0 rfl) ?_
  refine z_aload_n hC dX7_add_1 rfl (lv_at hl 1 rfl) ?_
  refine z_iload_n hC dX7_add_2 rfl (lv_at hl 2 rfl) ?_
  obtain ⟨q1, hq_q1, hz⟩ := ob_some hz
  refine z_callV (As := [.ref (x1), .int (x2)]) hC hT (c_X7_take F x0 x1 x2 h_x0 h_x1 hq_q1) zy_X7_take zc_7 zv_X7_take kw_503 dX7_add_3 h_x0 rfl rfl hl.1 (Nat.le_of_ble_eq_true rfl) (by decide) (by decide) ?_
  refine z_istore_n (lv' := [(3, .int (q1.1)), (0, .ref (x0)), (1, .ref (x1)), (2, .int (x2))]) hC dX7_add_6 rfl hl (by decide) rfl (fun ls hl => ?_)
  refine z_iload_n hC dX7_add_7 rfl (lv_at hl 0 rfl) ?_
  refine z_if_ne (tgt := 18) hC dX7_add_8 (by decide) hz (fun hz => ?_) (fun hz => ?_)
  · skip
    exact b_X7_add_18 hC hT   (x0) (x1) (x2) (q1.1) (q1.2) h_x0 h_x1 hz ls (lv_sub hl [1, 2, 3, 0] rfl)
  · skip
    refine z_aload_n hC dX7_add_11 rfl (lv_at hl 1 rfl) ?_
    refine z_aload_n hC dX7_add_12 rfl (lv_at hl 2 rfl) ?_
    refine z_iload_n hC dX7_add_13 rfl (lv_at hl 3 rfl) ?_
    obtain ⟨q2, hq_q2, hz⟩ := ob_some hz
    refine z_callV (As := [.ref (x1), .int (x2)]) hC hT (c_X7_take F x0 x1 x2 h_x0 h_x1 hq_q2) zy_X7_take zc_7 zv_X7_take kw_503 dX7_add_14 h_x0 rfl rfl hl.1 (Nat.le_of_ble_eq_true rfl) (by decide) (by decide) ?_
    refine z_istore_n (lv' := [(3, .int (q2.1)), (0, .ref (x0)), (1, .ref (x1)), (2, .int (x2))]) hC dX7_add_17 rfl hl (by decide) rfl (fun ls hl => ?_)
    exact b_X7_add_18 hC hT   (x0) (x1) (x2) (q2.1) (q2.2) h_x0 h_x1 hz ls (lv_sub hl [1, 2, 3, 0] rfl)
theorem zy_X5_isUnmadeOf : z_y yX5_isUnmadeOf cX5_isUnmadeOf 4 (some .boolean) 2 := ⟨kw_518, kw_3, by decide +kernel, by decide +kernel, by decide +kernel⟩
theorem zv_X5_isUnmadeOf : Cond.instanceMethod yX5_isUnmadeOf ∈ z_tbl ∧ Cond.selects RX5 yX5_isUnmadeOf yX5_isUnmadeOf ∈ z_tbl := ⟨kw_516, kw_517⟩
def z_X5_isUnmadeOf (F : Nat) (S : zS) (I : zI) (x0 : Nat) (x1 : Int32) (x2 : Int32) : Option (Int32) :=
  ob (z_X5_actAt F S I x0 (x1 - 100)) (fun q1 => ob2 (q1) (some (0)) (fun r2 => if (I r2 0) = 9 then (if (I r2 1) = x2 then (some (1)) else (some (0))) else (some (0))))
set_option maxRecDepth 100000 in
set_option maxHeartbeats 4000000 in
theorem c_X5_isUnmadeOf {l : Launch} {D : zD} {b0 : Nat} {S : zS} {I : zI} {X : Int32} (F : Nat) (x0 : Nat) (x1 : Int32) (x2 : Int32) (h_x0 : z_is b0 S x0 5) (hz : z_X5_isUnmadeOf F S I x0 x1 x2 = some X) : z_M l D b0 yX5_isUnmadeOf cX5_isUnmadeOf 4 (some .boolean) { frames := 1, cells := 0, slots := 0, locals := 21 } [.ref (x0), .int (x1), .int (x2)] S I (some (.int (X))) S I := by
  refine z_met (by decide) (Nat.le_of_ble_eq_true rfl) ?_
  intro p e s m below meth c hC hnm hT ls hl
  have hl : lv_has ls 4 [(0, .ref (x0)), (1, .int (x1)), (2, .int (x2))] := hl
  unfold z_X5_isUnmadeOf at hz
  refine z_aload_n hC dX5_isUnmadeOf_0 rfl (lv_at hl 0 rfl) ?_
  refine z_iload_n hC dX5_isUnmadeOf_1 rfl (lv_at hl 1 rfl) ?_
  refine z_bipush (v := 100) hC dX5_isUnmadeOf_2 (by decide) ?_
  refine z_isub hC dX5_isUnmadeOf_4 ?_
  obtain ⟨q1, hq_q1, hz⟩ := ob_some hz
  refine z_callV (As := [.int (x1 - 100)]) hC hT (c_X5_actAt F x0 (x1 - 100) h_x0 hq_q1) zy_X5_actAt zc_5 zv_X5_actAt kw_384 dX5_isUnmadeOf_5 h_x0 rfl rfl hl.1 (Nat.le_of_ble_eq_true rfl) (by decide) (by decide) ?_
  rcases ob2_some hz with ⟨ho_r2, hz⟩ | ⟨r2, ho_r2, hz⟩
  · try rw [ho_r2]
    try rw [ho_r2] at hl
    refine z_astore_nN (lv' := [(3, .null), (0, .ref (x0)), (1, .int (x1)), (2, .int (x2))]) hC dX5_isUnmadeOf_8 rfl hl (by decide) rfl (fun ls hl => ?_)
    refine z_aload_nN hC dX5_isUnmadeOf_9 rfl (lv_at hl 0 rfl) ?_
    refine z_ifnullN (tgt := 34) hC dX5_isUnmadeOf_10 (by decide) ?_
    refine z_iconst (v := 0) hC dX5_isUnmadeOf_34 (by decide) ?_
    obtain rfl := Option.some.inj hz
    exact z_zret hC hT dX5_isUnmadeOf_35 (Or.inl rfl) (by decide) (by decide)
  · have hk_r2 : z_is b0 S r2 0 := (tk_X5_actAt hT h_x0 hq_q1) _ ho_r2
    try rw [ho_r2]
    try rw [ho_r2] at hl
    refine z_astore_n (lv' := [(3, .ref (r2)), (0, .ref (x0)), (1, .int (x1)), (2, .int (x2))]) hC dX5_isUnmadeOf_8 rfl hl (by decide) rfl (fun ls hl => ?_)
    refine z_aload_n hC dX5_isUnmadeOf_9 rfl (lv_at hl 0 rfl) ?_
    refine z_ifnull hC dX5_isUnmadeOf_10 ?_
    refine z_aload_n hC dX5_isUnmadeOf_13 rfl (lv_at hl 0 rfl) ?_
    refine z_getI hC zc_0 0 (by decide) kw_296 dX5_isUnmadeOf_14 hk_r2 rfl ?_
    refine z_bipush (v := 9) hC dX5_isUnmadeOf_17 (by decide) ?_
    refine z_icmp_ne (tgt := 34) hC dX5_isUnmadeOf_19 (by decide) hz (fun hz => ?_) (fun hz => ?_)
    · skip
      refine z_iconst (v := 0) hC dX5_isUnmadeOf_34 (by decide) ?_
      obtain rfl := Option.some.inj hz
      exact z_zret hC hT dX5_isUnmadeOf_35 (Or.inl rfl) (by decide) (by decide)
    · skip
      refine z_aload_n hC dX5_isUnmadeOf_22 rfl (lv_at hl 0 rfl) ?_
      refine z_getI hC zc_0 1 (by decide) kw_299 dX5_isUnmadeOf_23 hk_r2 rfl ?_
      refine z_iload_n hC dX5_isUnmadeOf_26 rfl (lv_at hl 3 rfl) ?_
      refine z_icmp_ne (tgt := 34) hC dX5_isUnmadeOf_27 (by decide) hz (fun hz => ?_) (fun hz => ?_)
      · skip
        refine z_iconst (v := 0) hC dX5_isUnmadeOf_34 (by decide) ?_
        obtain rfl := Option.some.inj hz
        exact z_zret hC hT dX5_isUnmadeOf_35 (Or.inl rfl) (by decide) (by decide)
      · skip
        refine z_iconst (v := 1) hC dX5_isUnmadeOf_30 (by decide) ?_
        refine z_goto (tgt := 35) hC dX5_isUnmadeOf_31 (by decide) ?_
        obtain rfl := Option.some.inj hz
        exact z_zret hC hT dX5_isUnmadeOf_35 (Or.inr rfl) (by decide) (by decide)
