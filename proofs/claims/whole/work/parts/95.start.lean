theorem z_arrP {s : State} {args : Array Value} {ty : FieldType} (hp : (∃ t, ty = .object t) → False) (h : (Cond.arrayClass ty).before args s = true) : ∃ cA, ArrOfT s cA ty ∧ va_RA s cA ty := by
  obtain ⟨cA, kA, comp, h1, h2, h3⟩ := Cond.arrayClass_spec h
  refine ⟨cA, fun n z => ⟨fun k h => (by cases h), kA, h2, comp, h3⟩, ?_⟩
  cases ty with
  | object t => exact (hp ⟨t, rfl⟩).elim
  | _ => exact h1
theorem z_arrO {s : State} {args : Array Value} {C : String} (h : (Cond.arrayOver (.object C)).before args s = true) : ∃ cA, ArrOfT s cA (.object C) ∧ va_RA s cA (.object C) := by
  obtain ⟨comp, cA, kA, h1, h2, h3, h4, h5⟩ := Cond.arrayOver_spec h
  exact ⟨cA, fun n z => ⟨fun k h => (by cases h), kA, h3, comp, h4⟩, kA, comp, h3, h4, h1, h5⟩
def z_S0 (b0 : Nat) : zS := (fun _ _ => none, fun _ => (0, 0), b0)
def z_I0 : zI := fun _ _ => 0
theorem va_AO_of {C : String} {A : Array Value} {U : State} (h : (Cond.arrayOver (.object C)).before A U = true) : va_AO C U := va_AO.of h
set_option maxRecDepth 100000 in
set_option maxHeartbeats 4000000 in
/-- the law, from its entry -/
theorem whole_start {p : Program} {e : Env} {s : State} {m : MethodId} {below : List Frame} {meth : Method} {c : Code} (l : Launch) {b L : Nat} {xs : Nat → Int32} (hL : L ≤ 3072) (C0 : lw_At p s m meth c b L xs) : W p l e room_1 s m #[Value.ref b] below meth c s.heap [] 0 0 (lw_Z below #[Value.ref b] s) (entryFrame m ([Value.ref b] : List Value).toArray 4) := by
  obtain ⟨hx, hb, hr, hml, hown, hts, hX, hbl, hlocks, hgv⟩ := C0
  obtain ⟨F, hz⟩ := law_pure s.heap.size L xs hL
  have htz : ∀ w ∈ z_tbl, w.before #[Value.ref b] s = true := fun w h => hts w (z_sub h)
  obtain ⟨c0, i0, k0⟩ := u_known (C := RX0) (T := TX0) (N := 8) (n := 8) htz zc_0.2.2.1 (htz _ kw_287)
  obtain ⟨c1, i1, k1⟩ := u_known (C := RX1) (T := TX1) (N := 3) (n := 3) htz zc_1.2.2.1 (htz _ kw_22)
  obtain ⟨c2, i2, k2⟩ := u_known (C := RX2) (T := TX2) (N := 5) (n := 5) htz zc_2.2.2.1 (htz _ kw_124)
  obtain ⟨c3, i3, k3⟩ := u_known (C := RX3) (T := TX3) (N := 4) (n := 4) htz zc_3.2.2.1 (htz _ kw_348)
  obtain ⟨c4, i4, k4⟩ := u_known (C := RX4) (T := TX4) (N := 6) (n := 6) htz zc_4.2.2.1 (htz _ kw_149)
  obtain ⟨c5, i5, k5⟩ := u_known (C := RX5) (T := TX5) (N := 10) (n := 10) htz zc_5.2.2.1 (htz _ kw_42)
  obtain ⟨c6, i6, k6⟩ := u_known (C := RX6) (T := TX6) (N := 3) (n := 3) htz zc_6.2.2.1 (htz _ kw_52)
  obtain ⟨c7, i7, k7⟩ := u_known (C := RX7) (T := TX7) (N := 1) (n := 1) htz zc_7.2.2.1 (htz _ kw_114)
  obtain ⟨c8, i8, k8⟩ := u_known (C := RX8) (T := TX8) (N := 5) (n := 5) htz zc_8.2.2.1 (htz _ kw_14)
  obtain ⟨c9, i9, k9⟩ := u_known (C := RX9) (T := TX9) (N := 29) (n := 29) htz zc_9.2.2.1 (htz _ kw_732)
  obtain ⟨a10, h10⟩ := z_arrP (fun ⟨_, h⟩ => by cases h) (htz _ kw_38)
  obtain ⟨a11, h11⟩ := z_arrP (fun ⟨_, h⟩ => by cases h) (htz _ kw_39)
  obtain ⟨a12, h12⟩ := z_arrO (C := RX0) (hts _ ko_48)
  obtain ⟨a13, h13⟩ := z_arrO (C := RX3) (hts _ ko_50)
  obtain ⟨a14, h14⟩ := z_arrO (C := RX5) (hts _ ko_41)
  obtain ⟨D, hD1, hD2⟩ : ∃ D : zD, (∀ (k : Nat) (q : vw_C), vwCl[k]? = some q → u_Kn s q.1 q.2.1 q.2.2 (D.1.1 k) (D.1.2 k)) ∧ (D.2 10 = a10 ∧ D.2 11 = a11 ∧ D.2 12 = a12 ∧ D.2 13 = a13 ∧ D.2 14 = a14) := by
    refine ⟨((fun k => if k = 0 then c0 else if k = 1 then c1 else if k = 2 then c2 else if k = 3 then c3 else if k = 4 then c4 else if k = 5 then c5 else if k = 6 then c6 else if k = 7 then c7 else if k = 8 then c8 else c9, fun k => if k = 0 then i0 else if k = 1 then i1 else if k = 2 then i2 else if k = 3 then i3 else if k = 4 then i4 else if k = 5 then i5 else if k = 6 then i6 else if k = 7 then i7 else if k = 8 then i8 else i9), fun k => if k = 10 then a10 else if k = 11 then a11 else if k = 12 then a12 else if k = 13 then a13 else a14), ?_, ⟨rfl, rfl, rfl, rfl, rfl⟩⟩
    intro k q hq
    match k, hq with
    | 0, hq => cases hq; exact k0
    | 1, hq => cases hq; exact k1
    | 2, hq => cases hq; exact k2
    | 3, hq => cases hq; exact k3
    | 4, hq => cases hq; exact k4
    | 5, hq => cases hq; exact k5
    | 6, hq => cases hq; exact k6
    | 7, hq => cases hq; exact k7
    | 8, hq => cases hq; exact k8
    | 9, hq => cases hq; exact k9
    | k + 10, hq => simp [vwCl] at hq
  obtain ⟨e10, e11, e12, e13, e14⟩ := hD2
  have hKv : va_K D.1 vwCl (z_tys D.2) s := by
    refine ⟨hD1, fun k q hq => ?_⟩
    match k, hq with
    | 0, hq => cases hq; rw [e10]; exact h10
    | 1, hq => cases hq; rw [e11]; exact h11
    | 2, hq => cases hq; rw [e12]; exact h12
    | 3, hq => cases hq; rw [e13]; exact h13
    | 4, hq => cases hq; rw [e14]; exact h14
    | k + 5, hq => simp [z_tys] at hq
  have hnst : ∀ w ∈ z_nst, w.onTables = true := by decide +kernel
  have hK : z_K D s := ⟨hKv, fun w hw => va_Nw.of (hnst w hw) (hts w (z_nst_in w hw)), va_AO_of (hts _ ko_48), va_AO_of (hts _ ko_50), va_AO_of (hts _ ko_41)⟩
  have hC : z_C p s m #[Value.ref b] meth c code RL 4 ret D := ⟨hx, hb, hml, hown, htz, hr, hlocks, hK⟩
  have hT : z_T s.heap.size (z_S0 s.heap.size) := fun a k q h1 h2 h3 => by cases h3
  have hH : z_H D s.heap.size (z_S0 s.heap.size) z_I0 s.heap := ⟨rfl, Nat.le_refl _, fun a h1 h2 => absurd h2 (Nat.not_lt.mpr h1)⟩
  have hl := lv_entry ([.ref b]) (n := 4) (Nat.le_of_ble_eq_true rfl)
  rw [lg_entry_eq]
  exact c_L_law (F := F) hC hX hbl (z_S0 s.heap.size) z_I0 (Nat.le_refl _) hT hz _ hl s.heap [] hH va_S.rf
