/-! ===== the flat picture of the heap: every cell from b0 on is ours; ints in I, references in S.1, kinds and lengths in S.2.1, the next address S.2.2 ===== -/
abbrev zI : Type := Nat → Nat → Int32
abbrev zS : Type := (Nat → Nat → Option Nat) × (Nat → Nat × Nat) × Nat
abbrev zD : Type := va_G × (Nat → ClassId)
/-- whether field k of an object of class c is an int (else a reference) -/
def z_sh : Nat → Nat → Bool := fun c k => match c with
  | 0 => decide (k < 6)
  | 1 => decide (k = 2)
  | 2 => decide (k = 4)
  | 3 => true
  | 4 => decide (4 ≤ k)
  | 5 => decide (3 ≤ k)
  | 6 => decide (k = 2)
  | 7 => false
  | 8 => decide (k = 4)
  | _ => decide (k = 0 ∨ k = 20 ∨ k = 21 ∨ k = 24)
def z_V (c : Nat) (i : Nat → Int32) (r : Nat → Option Nat) (k : Nat) : Value := if z_sh c k = true then .int (i k) else va_rf (r k)
theorem z_V_i {c k : Nat} {i : Nat → Int32} {r : Nat → Option Nat} (h : z_sh c k = true) : z_V c i r k = .int (i k) := by unfold z_V; rw [if_pos h]
theorem z_V_r {c k : Nat} {i : Nat → Int32} {r : Nat → Option Nat} (h : z_sh c k = false) : z_V c i r k = va_rf (r k) := by unfold z_V; rw [if_neg (by rw [h]; decide)]
def z_at (D : zD) (a : Nat) (k : Nat × Nat) (i : Nat → Int32) (r : Nat → Option Nat) (H : Heap) : Prop :=
  (k.1 < 10 → ∃ q : vw_C, vwCl[k.1]? = some q ∧ t_OB a (D.1.1 k.1) q.2.2 (D.1.2 k.1) H (z_V k.1 i r)) ∧
  (10 ≤ k.1 → k.1 < 12 → H[a]? = some (arrV (D.2 k.1) k.2 (fun j => .int (i j)))) ∧
  (12 ≤ k.1 → H[a]? = some (arrV (D.2 k.1) k.2 (fun j => va_rf (r j))))
def z_H (D : zD) (b0 : Nat) (S : zS) (I : zI) (H : Heap) : Prop := H.size = S.2.2 ∧ b0 ≤ S.2.2 ∧ ∀ a, b0 ≤ a → a < S.2.2 → z_at D a (S.2.1 a) (I a) (S.1 a) H
/-- a is ours, of kind c -/
def z_is (b0 : Nat) (S : zS) (a c : Nat) : Prop := b0 ≤ a ∧ a < S.2.2 ∧ (S.2.1 a).1 = c
/-- of which kind is what a field, or an array's place, refers to -/
def z_fk : Nat → Nat → Nat := fun c k => match c with
  | 0 => 6
  | 1 => if k = 0 then 10 else 11
  | 2 => if k = 0 then 1 else if k = 1 then 7 else 6
  | 4 => if k = 0 then 1 else if k = 1 then 7 else 6
  | 5 => if k = 0 then 12 else if k = 1 then 13 else 6
  | 6 => 10
  | 7 => 1
  | 8 => if k = 0 then 1 else if k = 1 then 14 else if k = 2 then 2 else 4
  | 9 => if k = 2 ∨ k = 15 ∨ k = 16 ∨ k = 18 ∨ k = 25 then 11 else 10
  | 12 => 0
  | 13 => 3
  | 14 => 5
  | _ => 99
def z_T (b0 : Nat) (S : zS) : Prop := ∀ a k b, b0 ≤ a → a < S.2.2 → S.1 a k = some b → z_is b0 S b (z_fk (S.2.1 a).1 k)
theorem z_T.at {b0 : Nat} {S : zS} (h : z_T b0 S) {a c k b : Nat} (ha : z_is b0 S a c) (hb : S.1 a k = some b) : z_is b0 S b (z_fk c k) := by
  have := h a k b ha.1 ha.2.1 hb
  rw [ha.2.2] at this
  exact this
def z_tys (cA : Nat → ClassId) : List (ClassId × FieldType) := [(cA 10, .int), (cA 11, .boolean), (cA 12, .object RX0), (cA 13, .object RX3), (cA 14, .object RX5)]
/-- what the tables say: classes, arrays' classes, links to nest mates -/
def z_K (D : zD) (U : State) : Prop := va_K D.1 vwCl (z_tys D.2) U ∧ (∀ w ∈ z_nst, va_Nw w U) ∧ va_AO RX0 U ∧ va_AO RX3 U ∧ va_AO RX5 U
theorem z_nst_warm {s U : State} (hW : s.WarmedH U.vm) (h : ∀ w ∈ z_nst, va_Nw w s) : ∀ w ∈ z_nst, va_Nw w U := by
  intro w hw
  have h1 := h w hw
  have h2 : ∀ w ∈ z_nst, ∃ a i x q, w = Cond.methodLinkNest a i x q := by
    intro w hw
    simp only [z_nst, List.mem_cons, List.not_mem_nil, or_false] at hw
    rcases hw with e | e | e | e | e | e | e | e | e <;> exact ⟨_, _, _, _, e⟩
  obtain ⟨a, i, x, q, e⟩ := h2 w hw
  subst e
  exact va_Nw.warmM hW h1
theorem z_K.warm {D : zD} {s U : State} (hW : s.WarmedH U.vm) (h : z_K D s) : z_K D U := ⟨va_K.moved hW.alike h.1, z_nst_warm hW h.2.1, h.2.2.1.moved hW.alike, h.2.2.2.1.moved hW.alike, h.2.2.2.2.moved hW.alike⟩
theorem z_K.same {D : zD} {u U : State} (hv : u.vm = U.vm) (h : z_K D u) : z_K D U := by
  have ha : u.vm.Alike U.vm := by rw [hv]; exact Vm.Alike.refl _
  refine ⟨va_K.moved ha h.1, fun w hw => ?_, h.2.2.1.moved ha, h.2.2.2.1.moved ha, h.2.2.2.2.moved ha⟩
  have h2 : ∀ w ∈ z_nst, w.onTables = true := by decide +kernel
  exact va_Nw.same (h2 w hw) hv (h.2.1 w hw)
def z_U (D : zD) (b0 : Nat) (S : zS) (I : zI) (U : State) : Prop := z_H D b0 S I U.heap ∧ z_T b0 S ∧ z_K D U
def z_up (I : zI) (a k : Nat) (x : Int32) : zI := fun b j => if b = a ∧ j = k then x else I b j
def z_upR (S : zS) (a k : Nat) (x : Option Nat) : zS := (fun b j => if b = a ∧ j = k then x else S.1 b j, S.2)
def z_new (S : zS) (c n : Nat) : zS := (fun b j => if b = S.2.2 then none else S.1 b j, fun b => if b = S.2.2 then (c, n) else S.2.1 b, S.2.2 + 1)
def z_newI (S : zS) (I : zI) : zI := fun b j => if b = S.2.2 then 0 else I b j
def z_cpy (I : zI) (a sp b dp n : Nat) : zI := fun q j => if q = b then va_cpy (I a) (I b) sp dp n j else I q j
def ob {α β : Type} (o : Option α) (k : α → Option β) : Option β := match o with | none => none | some x => k x
theorem ob_some {α β : Type} {o : Option α} {k : α → Option β} {x : β} (h : ob o k = some x) : ∃ y, o = some y ∧ k y = some x := by
  cases o with
  | none => cases h
  | some y => exact ⟨y, rfl, h⟩
theorem ob_mk {α β : Type} {o : Option α} {k : α → Option β} {y : α} (h : o = some y) : ob o k = k y := by rw [h]; rfl
/-- a class's number, name, fields and types -/
def z_cls (ci : Nat) (C : String) (T : u_T) (N : Nat) (ty : Nat → FieldType) : Prop := vwCl[ci]? = some (C, T, N) ∧ ci < 10 ∧ (∀ w ∈ u_ws C T N, w ∈ z_tbl) ∧ (∀ k, k < N → parseFieldDescriptor (T k).2.2.1 = some (ty k)) ∧ (∀ a, a < N → ∀ b, b < N → a ≠ b → (T a).2.1 ≠ (T b).2.1) ∧ (∀ k, k < N → (T k).1 = C)
theorem zc_0 : z_cls 0 RX0 TX0 8 tyX0 := ⟨rfl, by decide, by decide +kernel, tyX0_ok, nmX0, by decide +kernel⟩
theorem zc_1 : z_cls 1 RX1 TX1 3 tyX1 := ⟨rfl, by decide, by decide +kernel, tyX1_ok, nmX1, by decide +kernel⟩
theorem zc_2 : z_cls 2 RX2 TX2 5 tyX2 := ⟨rfl, by decide, by decide +kernel, tyX2_ok, nmX2, by decide +kernel⟩
theorem zc_3 : z_cls 3 RX3 TX3 4 tyX3 := ⟨rfl, by decide, by decide +kernel, tyX3_ok, nmX3, by decide +kernel⟩
theorem zc_4 : z_cls 4 RX4 TX4 6 tyX4 := ⟨rfl, by decide, by decide +kernel, tyX4_ok, nmX4, by decide +kernel⟩
theorem zc_5 : z_cls 5 RX5 TX5 10 tyX5 := ⟨rfl, by decide, by decide +kernel, tyX5_ok, nmX5, by decide +kernel⟩
theorem zc_6 : z_cls 6 RX6 TX6 3 tyX6 := ⟨rfl, by decide, by decide +kernel, tyX6_ok, nmX6, by decide +kernel⟩
theorem zc_7 : z_cls 7 RX7 TX7 1 tyX7 := ⟨rfl, by decide, by decide +kernel, tyX7_ok, nmX7, by decide +kernel⟩
theorem zc_8 : z_cls 8 RX8 TX8 5 tyX8 := ⟨rfl, by decide, by decide +kernel, tyX8_ok, nmX8, by decide +kernel⟩
theorem zc_9 : z_cls 9 RX9 TX9 29 tyX9 := ⟨rfl, by decide, by decide +kernel, tyX9_ok, nmX9, by decide +kernel⟩
section ZW
variable (p : Program) (l : Launch) (e : Env) (R : Room) (s : State) (m : MethodId) (args : Array Value) (below : List Frame) (meth : Method) (c : Code)
/-- what stays the same in a method's walk -/
def z_C (cc : ByteArray) (own : String) (nL : Nat) (ret : Option FieldType) (D : zD) : Prop := p.tables.exec = Jvm.exec ∧ c.code = cc ∧ c.maxLocals = nL ∧ s.vm.findClass own = some m.cls ∧ (∀ w ∈ z_tbl, w.before args s = true) ∧ meth.sig.returnType = ret ∧ meth.locks = false ∧ z_K D s
/-- the machine at frame g, with any heap that holds the picture -/
def z_W (D : zD) (b0 : Nat) (S : zS) (I : zI) (cells slots : Nat) (Q : State → Prop) (g : JFrame) : Prop := ∀ (H : Heap) (locs : List Loc), z_H D b0 S I H → va_S (fun q => b0 ≤ q) s.heap H locs → W p l e R s m args below meth c H locs cells slots Q g
end ZW
/-- a method's contract at one picture: what it answers and the picture behind it -/
def z_M (l : Launch) (D : zD) (b0 : Nat) (y : MethodName) (cc : ByteArray) (nL : Nat) (ret : Option FieldType) (rm : Room) (av : List Value) (S : zS) (I : zI) (rv : Option Value) (S' : zS) (I' : zI) : Prop :=
  Met l y (Cond.code y cc nL ret :: z_tbl) rm (va_Pc av (z_U D b0 S I)) (fun _ st oc t => oc = .returned rv ∧ z_U D b0 S' I' t ∧ va_F (fun q => b0 ≤ q) st t) rm.cells rm.slots (fun q => b0 ≤ q)
def z_Q (D : zD) (b0 : Nat) (rv : Option Value) (S' : zS) (I' : zI) : Array Value → State → Outcome → State → Prop := fun _ st oc t => oc = .returned rv ∧ z_U D b0 S' I' t ∧ va_F (fun q => b0 ≤ q) st t
