section ZR
variable {p : Program} {l : Launch} {e : Env} {R : Room} {s : State} {m : MethodId} {args : Array Value} {below : List Frame} {meth : Method} {c : Code} {cells slots : Nat} {Q : State → Prop}
variable {cc : ByteArray} {own : String} {nL : Nat} {ret : Option FieldType} {D : zD} {b0 : Nat} {S : zS} {I : zI} {pc : Nat} {ls : Array Slot} {rest : List Value}

theorem z_iconst (hC : z_C p s m args meth c cc own nL ret D) {n : Int} {v : Int32} (hd : decode cc pc = .ok (.iconst n, 1)) (hv : Int32.ofInt n = v) (k : z_W p l e R s m args below meth c D b0 S I cells slots Q (F0 m (pc + 1) ls (.int v :: rest))) : z_W p l e R s m args below meth c D b0 S I cells slots Q (F0 m pc ls (rest)) := fun H locs hH hS => lv_iconst hC.1 hC.2.1 hd hv (k H locs hH hS)
theorem z_bipush (hC : z_C p s m args meth c cc own nL ret D) {n : Int} {v : Int32} (hd : decode cc pc = .ok (.bipush n, 2)) (hv : (Int8.ofInt n).toInt32 = v) (k : z_W p l e R s m args below meth c D b0 S I cells slots Q (F0 m (pc + 2) ls (.int v :: rest))) : z_W p l e R s m args below meth c D b0 S I cells slots Q (F0 m pc ls (rest)) := fun H locs hH hS => lv_bipush hC.1 hC.2.1 hd hv (k H locs hH hS)
theorem z_sipush (hC : z_C p s m args meth c cc own nL ret D) {n : Int} {v : Int32} (hd : decode cc pc = .ok (.sipush n, 3)) (hv : (Int16.ofInt n).toInt32 = v) (k : z_W p l e R s m args below meth c D b0 S I cells slots Q (F0 m (pc + 3) ls (.int v :: rest))) : z_W p l e R s m args below meth c D b0 S I cells slots Q (F0 m pc ls (rest)) := fun H locs hH hS => lv_sipush hC.1 hC.2.1 hd hv (k H locs hH hS)
theorem z_iload_n (hC : z_C p s m args meth c cc own nL ret D) {k0 : Fin 4} {i : Nat} {x : Int32} (hd : decode cc pc = .ok (.iload_n k0, 1)) (hi : (k0 : Nat) = i) (hl : ls[i]? = some (.val (.int x))) (k : z_W p l e R s m args below meth c D b0 S I cells slots Q (F0 m (pc + 1) ls (.int x :: rest))) : z_W p l e R s m args below meth c D b0 S I cells slots Q (F0 m pc ls (rest)) := fun H locs hH hS => lv_iload_n hC.1 hC.2.1 hd hi hl (k H locs hH hS)
theorem z_iload (hC : z_C p s m args meth c cc own nL ret D) {i : Nat} {x : Int32} (hd : decode cc pc = .ok (.iload i, 2)) (hl : ls[i]? = some (.val (.int x))) (k : z_W p l e R s m args below meth c D b0 S I cells slots Q (F0 m (pc + 2) ls (.int x :: rest))) : z_W p l e R s m args below meth c D b0 S I cells slots Q (F0 m pc ls (rest)) := fun H locs hH hS => lv_iload hC.1 hC.2.1 hd hl (k H locs hH hS)
theorem z_aload_n (hC : z_C p s m args meth c cc own nL ret D) {k0 : Fin 4} {i : Nat} {x : Nat} (hd : decode cc pc = .ok (.aload_n k0, 1)) (hi : (k0 : Nat) = i) (hl : ls[i]? = some (.val (.ref x))) (k : z_W p l e R s m args below meth c D b0 S I cells slots Q (F0 m (pc + 1) ls (.ref x :: rest))) : z_W p l e R s m args below meth c D b0 S I cells slots Q (F0 m pc ls (rest)) := fun H locs hH hS => lv_aload_n hC.1 hC.2.1 hd hi hl (k H locs hH hS)
theorem z_aload (hC : z_C p s m args meth c cc own nL ret D) {i : Nat} {x : Nat} (hd : decode cc pc = .ok (.aload i, 2)) (hl : ls[i]? = some (.val (.ref x))) (k : z_W p l e R s m args below meth c D b0 S I cells slots Q (F0 m (pc + 2) ls (.ref x :: rest))) : z_W p l e R s m args below meth c D b0 S I cells slots Q (F0 m pc ls (rest)) := fun H locs hH hS => lv_aload hC.1 hC.2.1 hd hl (k H locs hH hS)
theorem z_aload_nN (hC : z_C p s m args meth c cc own nL ret D) {k0 : Fin 4} {i : Nat} (hd : decode cc pc = .ok (.aload_n k0, 1)) (hi : (k0 : Nat) = i) (hl : ls[i]? = some (.val .null)) (k : z_W p l e R s m args below meth c D b0 S I cells slots Q (F0 m (pc + 1) ls (.null :: rest))) : z_W p l e R s m args below meth c D b0 S I cells slots Q (F0 m pc ls (rest)) := fun H locs hH hS => lv_aload_nN hC.1 hC.2.1 hd hi hl (k H locs hH hS)
theorem z_aloadN (hC : z_C p s m args meth c cc own nL ret D) {i : Nat} (hd : decode cc pc = .ok (.aload i, 2)) (hl : ls[i]? = some (.val .null)) (k : z_W p l e R s m args below meth c D b0 S I cells slots Q (F0 m (pc + 2) ls (.null :: rest))) : z_W p l e R s m args below meth c D b0 S I cells slots Q (F0 m pc ls (rest)) := fun H locs hH hS => lv_aloadN hC.1 hC.2.1 hd hl (k H locs hH hS)
theorem z_istore_n (hC : z_C p s m args meth c cc own nL ret D) {k0 : Fin 4} {i nM : Nat} {x : Int32} {lv lv' : List (Nat × Value)} (hd : decode cc pc = .ok (.istore_n k0, 1)) (hi : (k0 : Nat) = i) (h : lv_has ls nM lv) (hn : i < nM) (hl : (i, Value.int x) :: lv.filter (fun q => !(q.1 == i) && !(q.1 + 1 == i && q.2.category == 2)) = lv') (k : ∀ ls' : Array Slot, lv_has ls' nM lv' → z_W p l e R s m args below meth c D b0 S I cells slots Q (F0 m (pc + 1) ls' rest)) : z_W p l e R s m args below meth c D b0 S I cells slots Q (F0 m pc ls (.int x :: rest)) := fun H locs hH hS => lv_istore_n hC.1 hC.2.1 hd hi h hn hl (fun ls' h' => k ls' h' H locs hH hS)
theorem z_istore (hC : z_C p s m args meth c cc own nL ret D) {i nM : Nat} {x : Int32} {lv lv' : List (Nat × Value)} (hd : decode cc pc = .ok (.istore i, 2)) (h : lv_has ls nM lv) (hn : i < nM) (hl : (i, Value.int x) :: lv.filter (fun q => !(q.1 == i) && !(q.1 + 1 == i && q.2.category == 2)) = lv') (k : ∀ ls' : Array Slot, lv_has ls' nM lv' → z_W p l e R s m args below meth c D b0 S I cells slots Q (F0 m (pc + 2) ls' rest)) : z_W p l e R s m args below meth c D b0 S I cells slots Q (F0 m pc ls (.int x :: rest)) := fun H locs hH hS => lv_istore hC.1 hC.2.1 hd h hn hl (fun ls' h' => k ls' h' H locs hH hS)
theorem z_astore_n (hC : z_C p s m args meth c cc own nL ret D) {k0 : Fin 4} {i nM : Nat} {x : Nat} {lv lv' : List (Nat × Value)} (hd : decode cc pc = .ok (.astore_n k0, 1)) (hi : (k0 : Nat) = i) (h : lv_has ls nM lv) (hn : i < nM) (hl : (i, Value.ref x) :: lv.filter (fun q => !(q.1 == i) && !(q.1 + 1 == i && q.2.category == 2)) = lv') (k : ∀ ls' : Array Slot, lv_has ls' nM lv' → z_W p l e R s m args below meth c D b0 S I cells slots Q (F0 m (pc + 1) ls' rest)) : z_W p l e R s m args below meth c D b0 S I cells slots Q (F0 m pc ls (.ref x :: rest)) := fun H locs hH hS => lv_astore_n hC.1 hC.2.1 hd hi h hn hl (fun ls' h' => k ls' h' H locs hH hS)
theorem z_astore (hC : z_C p s m args meth c cc own nL ret D) {i nM : Nat} {x : Nat} {lv lv' : List (Nat × Value)} (hd : decode cc pc = .ok (.astore i, 2)) (h : lv_has ls nM lv) (hn : i < nM) (hl : (i, Value.ref x) :: lv.filter (fun q => !(q.1 == i) && !(q.1 + 1 == i && q.2.category == 2)) = lv') (k : ∀ ls' : Array Slot, lv_has ls' nM lv' → z_W p l e R s m args below meth c D b0 S I cells slots Q (F0 m (pc + 2) ls' rest)) : z_W p l e R s m args below meth c D b0 S I cells slots Q (F0 m pc ls (.ref x :: rest)) := fun H locs hH hS => lv_astore hC.1 hC.2.1 hd h hn hl (fun ls' h' => k ls' h' H locs hH hS)
theorem z_astore_nN (hC : z_C p s m args meth c cc own nL ret D) {k0 : Fin 4} {i nM : Nat} {lv lv' : List (Nat × Value)} (hd : decode cc pc = .ok (.astore_n k0, 1)) (hi : (k0 : Nat) = i) (h : lv_has ls nM lv) (hn : i < nM) (hl : (i, Value.null) :: lv.filter (fun q => !(q.1 == i) && !(q.1 + 1 == i && q.2.category == 2)) = lv') (k : ∀ ls' : Array Slot, lv_has ls' nM lv' → z_W p l e R s m args below meth c D b0 S I cells slots Q (F0 m (pc + 1) ls' rest)) : z_W p l e R s m args below meth c D b0 S I cells slots Q (F0 m pc ls (.null :: rest)) := fun H locs hH hS => lv_astore_nN hC.1 hC.2.1 hd hi h hn hl (fun ls' h' => k ls' h' H locs hH hS)
theorem z_astoreN (hC : z_C p s m args meth c cc own nL ret D) {i nM : Nat} {lv lv' : List (Nat × Value)} (hd : decode cc pc = .ok (.astore i, 2)) (h : lv_has ls nM lv) (hn : i < nM) (hl : (i, Value.null) :: lv.filter (fun q => !(q.1 == i) && !(q.1 + 1 == i && q.2.category == 2)) = lv') (k : ∀ ls' : Array Slot, lv_has ls' nM lv' → z_W p l e R s m args below meth c D b0 S I cells slots Q (F0 m (pc + 2) ls' rest)) : z_W p l e R s m args below meth c D b0 S I cells slots Q (F0 m pc ls (.null :: rest)) := fun H locs hH hS => lv_astoreN hC.1 hC.2.1 hd h hn hl (fun ls' h' => k ls' h' H locs hH hS)
theorem z_iinc (hC : z_C p s m args meth c cc own nL ret D) {i nM k0 : Nat} {n : Int} {x v : Int32} {lv lv' : List (Nat × Value)} (hd : decode cc pc = .ok (.iinc i n, 3)) (h : lv_has ls nM lv) (hk : lv[k0]? = some (i, .int x)) (hv : x + Int32.ofInt n = v) (hn : i < nM) (hl : (i, Value.int v) :: lv.filter (fun q => !(q.1 == i) && !(q.1 + 1 == i && q.2.category == 2)) = lv') (k : ∀ ls' : Array Slot, lv_has ls' nM lv' → z_W p l e R s m args below meth c D b0 S I cells slots Q (F0 m (pc + 3) ls' rest)) : z_W p l e R s m args below meth c D b0 S I cells slots Q (F0 m pc ls rest) := fun H locs hH hS => lv_iinc hC.1 hC.2.1 hd h hk hv hn hl (fun ls' h' => k ls' h' H locs hH hS)
theorem z_iadd (hC : z_C p s m args meth c cc own nL ret D) {x y : Int32} (hd : decode cc pc = .ok (.iadd, 1))  (k : z_W p l e R s m args below meth c D b0 S I cells slots Q (F0 m (pc + 1) ls (.int (x + y) :: rest))) : z_W p l e R s m args below meth c D b0 S I cells slots Q (F0 m pc ls (.int y :: .int x :: rest)) := fun H locs hH hS => lv_iadd hC.1 hC.2.1 hd  (k H locs hH hS)
theorem z_isub (hC : z_C p s m args meth c cc own nL ret D) {x y : Int32} (hd : decode cc pc = .ok (.isub, 1))  (k : z_W p l e R s m args below meth c D b0 S I cells slots Q (F0 m (pc + 1) ls (.int (x - y) :: rest))) : z_W p l e R s m args below meth c D b0 S I cells slots Q (F0 m pc ls (.int y :: .int x :: rest)) := fun H locs hH hS => lv_isub hC.1 hC.2.1 hd  (k H locs hH hS)
theorem z_imul (hC : z_C p s m args meth c cc own nL ret D) {x y : Int32} (hd : decode cc pc = .ok (.imul, 1))  (k : z_W p l e R s m args below meth c D b0 S I cells slots Q (F0 m (pc + 1) ls (.int (x * y) :: rest))) : z_W p l e R s m args below meth c D b0 S I cells slots Q (F0 m pc ls (.int y :: .int x :: rest)) := fun H locs hH hS => lv_imul hC.1 hC.2.1 hd  (k H locs hH hS)
theorem z_iand (hC : z_C p s m args meth c cc own nL ret D) {x y : Int32} (hd : decode cc pc = .ok (.iand, 1))  (k : z_W p l e R s m args below meth c D b0 S I cells slots Q (F0 m (pc + 1) ls (.int (x &&& y) :: rest))) : z_W p l e R s m args below meth c D b0 S I cells slots Q (F0 m pc ls (.int y :: .int x :: rest)) := fun H locs hH hS => lv_iand hC.1 hC.2.1 hd  (k H locs hH hS)
theorem z_ior (hC : z_C p s m args meth c cc own nL ret D) {x y : Int32} (hd : decode cc pc = .ok (.ior, 1))  (k : z_W p l e R s m args below meth c D b0 S I cells slots Q (F0 m (pc + 1) ls (.int (x ||| y) :: rest))) : z_W p l e R s m args below meth c D b0 S I cells slots Q (F0 m pc ls (.int y :: .int x :: rest)) := fun H locs hH hS => lv_ior hC.1 hC.2.1 hd  (k H locs hH hS)
theorem z_ishl (hC : z_C p s m args meth c cc own nL ret D) {x y : Int32} (hd : decode cc pc = .ok (.ishl, 1))  (k : z_W p l e R s m args below meth c D b0 S I cells slots Q (F0 m (pc + 1) ls (.int (x <<< (y &&& 31)) :: rest))) : z_W p l e R s m args below meth c D b0 S I cells slots Q (F0 m pc ls (.int y :: .int x :: rest)) := fun H locs hH hS => lv_ishl hC.1 hC.2.1 hd  (k H locs hH hS)
theorem z_irem (hC : z_C p s m args meth c cc own nL ret D) {x y : Int32} (hd : decode cc pc = .ok (.irem, 1)) (hne : ¬ y = 0) (k : z_W p l e R s m args below meth c D b0 S I cells slots Q (F0 m (pc + 1) ls (.int (x - x / y * y) :: rest))) : z_W p l e R s m args below meth c D b0 S I cells slots Q (F0 m pc ls (.int y :: .int x :: rest)) := fun H locs hH hS => lv_irem hC.1 hC.2.1 hd hne (k H locs hH hS)
theorem z_dup (hC : z_C p s m args meth c cc own nL ret D) {va : Value} (hd : decode cc pc = .ok (.dup, 1)) (hva : va.category = 1) (k : z_W p l e R s m args below meth c D b0 S I cells slots Q (F0 m (pc + 1) ls (va :: va :: rest))) : z_W p l e R s m args below meth c D b0 S I cells slots Q (F0 m pc ls (va :: rest)) := fun H locs hH hS => lv_dup hC.1 hC.2.1 hd hva (k H locs hH hS)
theorem z_pop (hC : z_C p s m args meth c cc own nL ret D) {va : Value} (hd : decode cc pc = .ok (.pop, 1)) (hva : va.category = 1) (k : z_W p l e R s m args below meth c D b0 S I cells slots Q (F0 m (pc + 1) ls (rest))) : z_W p l e R s m args below meth c D b0 S I cells slots Q (F0 m pc ls (va :: rest)) := fun H locs hH hS => lv_pop hC.1 hC.2.1 hd hva (k H locs hH hS)
theorem z_dup2 (hC : z_C p s m args meth c cc own nL ret D) {va vb : Value} (hd : decode cc pc = .ok (.dup2, 1)) (hva : va.category = 1) (hvb : vb.category = 1) (k : z_W p l e R s m args below meth c D b0 S I cells slots Q (F0 m (pc + 1) ls (va :: vb :: va :: vb :: rest))) : z_W p l e R s m args below meth c D b0 S I cells slots Q (F0 m pc ls (va :: vb :: rest)) := fun H locs hH hS => lv_dup2_11 hC.1 hC.2.1 hd hva hvb (k H locs hH hS)
theorem z_if_eq (hC : z_C p s m args meth c cc own nL ret D) {β : Type} {A B : Option β} {X : β} {x : Int32} {off : Int} {tgt : Nat} (hd : decode cc pc = .ok (.ifCond .eq off, 3)) (ht : (pc : Int) + off = (tgt : Int)) (hz : (if x = 0 then A else B) = some X) (kt : A = some X → z_W p l e R s m args below meth c D b0 S I cells slots Q (F0 m tgt ls rest)) (kf : B = some X → z_W p l e R s m args below meth c D b0 S I cells slots Q (F0 m (pc + 3) ls rest)) : z_W p l e R s m args below meth c D b0 S I cells slots Q (F0 m pc ls (.int x :: rest)) := by
  intro H locs hH hS
  refine lv_if_eq hC.1 hC.2.1 hd ht (fun h => ?_) (fun h => ?_)
  · exact kt (by rw [if_pos h] at hz; exact hz) H locs hH hS
  · exact kf (by rw [if_neg h] at hz; exact hz) H locs hH hS
theorem z_if_ne (hC : z_C p s m args meth c cc own nL ret D) {β : Type} {A B : Option β} {X : β} {x : Int32} {off : Int} {tgt : Nat} (hd : decode cc pc = .ok (.ifCond .ne off, 3)) (ht : (pc : Int) + off = (tgt : Int)) (hz : (if x = 0 then B else A) = some X) (kt : A = some X → z_W p l e R s m args below meth c D b0 S I cells slots Q (F0 m tgt ls rest)) (kf : B = some X → z_W p l e R s m args below meth c D b0 S I cells slots Q (F0 m (pc + 3) ls rest)) : z_W p l e R s m args below meth c D b0 S I cells slots Q (F0 m pc ls (.int x :: rest)) := by
  intro H locs hH hS
  refine lv_if_ne hC.1 hC.2.1 hd ht (fun h => ?_) (fun h => ?_)
  · exact kt (by rw [if_neg h] at hz; exact hz) H locs hH hS
  · exact kf (by rw [if_pos h] at hz; exact hz) H locs hH hS
theorem z_if_lt (hC : z_C p s m args meth c cc own nL ret D) {β : Type} {A B : Option β} {X : β} {x : Int32} {off : Int} {tgt : Nat} (hd : decode cc pc = .ok (.ifCond .lt off, 3)) (ht : (pc : Int) + off = (tgt : Int)) (hz : (if x < 0 then A else B) = some X) (kt : A = some X → z_W p l e R s m args below meth c D b0 S I cells slots Q (F0 m tgt ls rest)) (kf : B = some X → z_W p l e R s m args below meth c D b0 S I cells slots Q (F0 m (pc + 3) ls rest)) : z_W p l e R s m args below meth c D b0 S I cells slots Q (F0 m pc ls (.int x :: rest)) := by
  intro H locs hH hS
  refine lv_if_lt hC.1 hC.2.1 hd ht (fun h => ?_) (fun h => ?_)
  · exact kt (by rw [if_pos h] at hz; exact hz) H locs hH hS
  · exact kf (by rw [if_neg h] at hz; exact hz) H locs hH hS
theorem z_if_ge (hC : z_C p s m args meth c cc own nL ret D) {β : Type} {A B : Option β} {X : β} {x : Int32} {off : Int} {tgt : Nat} (hd : decode cc pc = .ok (.ifCond .ge off, 3)) (ht : (pc : Int) + off = (tgt : Int)) (hz : (if x < 0 then B else A) = some X) (kt : A = some X → z_W p l e R s m args below meth c D b0 S I cells slots Q (F0 m tgt ls rest)) (kf : B = some X → z_W p l e R s m args below meth c D b0 S I cells slots Q (F0 m (pc + 3) ls rest)) : z_W p l e R s m args below meth c D b0 S I cells slots Q (F0 m pc ls (.int x :: rest)) := by
  intro H locs hH hS
  refine lv_if_ge hC.1 hC.2.1 hd ht (fun h => ?_) (fun h => ?_)
  · exact kt (by rw [if_neg (Int32.not_lt.mpr h)] at hz; exact hz) H locs hH hS
  · exact kf (by rw [if_pos (Int32.not_le.mp h)] at hz; exact hz) H locs hH hS
theorem z_if_gt (hC : z_C p s m args meth c cc own nL ret D) {β : Type} {A B : Option β} {X : β} {x : Int32} {off : Int} {tgt : Nat} (hd : decode cc pc = .ok (.ifCond .gt off, 3)) (ht : (pc : Int) + off = (tgt : Int)) (hz : (if 0 < x then A else B) = some X) (kt : A = some X → z_W p l e R s m args below meth c D b0 S I cells slots Q (F0 m tgt ls rest)) (kf : B = some X → z_W p l e R s m args below meth c D b0 S I cells slots Q (F0 m (pc + 3) ls rest)) : z_W p l e R s m args below meth c D b0 S I cells slots Q (F0 m pc ls (.int x :: rest)) := by
  intro H locs hH hS
  refine lv_if_gt hC.1 hC.2.1 hd ht (fun h => ?_) (fun h => ?_)
  · exact kt (by rw [if_pos h] at hz; exact hz) H locs hH hS
  · exact kf (by rw [if_neg h] at hz; exact hz) H locs hH hS
theorem z_if_le (hC : z_C p s m args meth c cc own nL ret D) {β : Type} {A B : Option β} {X : β} {x : Int32} {off : Int} {tgt : Nat} (hd : decode cc pc = .ok (.ifCond .le off, 3)) (ht : (pc : Int) + off = (tgt : Int)) (hz : (if 0 < x then B else A) = some X) (kt : A = some X → z_W p l e R s m args below meth c D b0 S I cells slots Q (F0 m tgt ls rest)) (kf : B = some X → z_W p l e R s m args below meth c D b0 S I cells slots Q (F0 m (pc + 3) ls rest)) : z_W p l e R s m args below meth c D b0 S I cells slots Q (F0 m pc ls (.int x :: rest)) := by
  intro H locs hH hS
  refine lv_if_le hC.1 hC.2.1 hd ht (fun h => ?_) (fun h => ?_)
  · exact kt (by rw [if_neg (Int32.not_lt.mpr h)] at hz; exact hz) H locs hH hS
  · exact kf (by rw [if_pos (Int32.not_le.mp h)] at hz; exact hz) H locs hH hS
theorem z_icmp_eq (hC : z_C p s m args meth c cc own nL ret D) {β : Type} {A B : Option β} {X : β} {x y : Int32} {off : Int} {tgt : Nat} (hd : decode cc pc = .ok (.if_icmp .eq off, 3)) (ht : (pc : Int) + off = (tgt : Int)) (hz : (if x = y then A else B) = some X) (kt : A = some X → z_W p l e R s m args below meth c D b0 S I cells slots Q (F0 m tgt ls rest)) (kf : B = some X → z_W p l e R s m args below meth c D b0 S I cells slots Q (F0 m (pc + 3) ls rest)) : z_W p l e R s m args below meth c D b0 S I cells slots Q (F0 m pc ls (.int y :: .int x :: rest)) := by
  intro H locs hH hS
  refine lv_icmp_eq hC.1 hC.2.1 hd ht (fun h => ?_) (fun h => ?_)
  · exact kt (by rw [if_pos h] at hz; exact hz) H locs hH hS
  · exact kf (by rw [if_neg h] at hz; exact hz) H locs hH hS
theorem z_icmp_ne (hC : z_C p s m args meth c cc own nL ret D) {β : Type} {A B : Option β} {X : β} {x y : Int32} {off : Int} {tgt : Nat} (hd : decode cc pc = .ok (.if_icmp .ne off, 3)) (ht : (pc : Int) + off = (tgt : Int)) (hz : (if x = y then B else A) = some X) (kt : A = some X → z_W p l e R s m args below meth c D b0 S I cells slots Q (F0 m tgt ls rest)) (kf : B = some X → z_W p l e R s m args below meth c D b0 S I cells slots Q (F0 m (pc + 3) ls rest)) : z_W p l e R s m args below meth c D b0 S I cells slots Q (F0 m pc ls (.int y :: .int x :: rest)) := by
  intro H locs hH hS
  refine lv_icmp_ne hC.1 hC.2.1 hd ht (fun h => ?_) (fun h => ?_)
  · exact kt (by rw [if_neg h] at hz; exact hz) H locs hH hS
  · exact kf (by rw [if_pos h] at hz; exact hz) H locs hH hS
theorem z_icmp_lt (hC : z_C p s m args meth c cc own nL ret D) {β : Type} {A B : Option β} {X : β} {x y : Int32} {off : Int} {tgt : Nat} (hd : decode cc pc = .ok (.if_icmp .lt off, 3)) (ht : (pc : Int) + off = (tgt : Int)) (hz : (if x < y then A else B) = some X) (kt : A = some X → z_W p l e R s m args below meth c D b0 S I cells slots Q (F0 m tgt ls rest)) (kf : B = some X → z_W p l e R s m args below meth c D b0 S I cells slots Q (F0 m (pc + 3) ls rest)) : z_W p l e R s m args below meth c D b0 S I cells slots Q (F0 m pc ls (.int y :: .int x :: rest)) := by
  intro H locs hH hS
  refine lv_icmp_lt hC.1 hC.2.1 hd ht (fun h => ?_) (fun h => ?_)
  · exact kt (by rw [if_pos h] at hz; exact hz) H locs hH hS
  · exact kf (by rw [if_neg h] at hz; exact hz) H locs hH hS
theorem z_icmp_ge (hC : z_C p s m args meth c cc own nL ret D) {β : Type} {A B : Option β} {X : β} {x y : Int32} {off : Int} {tgt : Nat} (hd : decode cc pc = .ok (.if_icmp .ge off, 3)) (ht : (pc : Int) + off = (tgt : Int)) (hz : (if x < y then B else A) = some X) (kt : A = some X → z_W p l e R s m args below meth c D b0 S I cells slots Q (F0 m tgt ls rest)) (kf : B = some X → z_W p l e R s m args below meth c D b0 S I cells slots Q (F0 m (pc + 3) ls rest)) : z_W p l e R s m args below meth c D b0 S I cells slots Q (F0 m pc ls (.int y :: .int x :: rest)) := by
  intro H locs hH hS
  refine lv_icmp_ge hC.1 hC.2.1 hd ht (fun h => ?_) (fun h => ?_)
  · exact kt (by rw [if_neg (Int32.not_lt.mpr h)] at hz; exact hz) H locs hH hS
  · exact kf (by rw [if_pos (Int32.not_le.mp h)] at hz; exact hz) H locs hH hS
theorem z_icmp_gt (hC : z_C p s m args meth c cc own nL ret D) {β : Type} {A B : Option β} {X : β} {x y : Int32} {off : Int} {tgt : Nat} (hd : decode cc pc = .ok (.if_icmp .gt off, 3)) (ht : (pc : Int) + off = (tgt : Int)) (hz : (if y < x then A else B) = some X) (kt : A = some X → z_W p l e R s m args below meth c D b0 S I cells slots Q (F0 m tgt ls rest)) (kf : B = some X → z_W p l e R s m args below meth c D b0 S I cells slots Q (F0 m (pc + 3) ls rest)) : z_W p l e R s m args below meth c D b0 S I cells slots Q (F0 m pc ls (.int y :: .int x :: rest)) := by
  intro H locs hH hS
  refine lv_icmp_gt hC.1 hC.2.1 hd ht (fun h => ?_) (fun h => ?_)
  · exact kt (by rw [if_pos h] at hz; exact hz) H locs hH hS
  · exact kf (by rw [if_neg h] at hz; exact hz) H locs hH hS
theorem z_icmp_le (hC : z_C p s m args meth c cc own nL ret D) {β : Type} {A B : Option β} {X : β} {x y : Int32} {off : Int} {tgt : Nat} (hd : decode cc pc = .ok (.if_icmp .le off, 3)) (ht : (pc : Int) + off = (tgt : Int)) (hz : (if y < x then B else A) = some X) (kt : A = some X → z_W p l e R s m args below meth c D b0 S I cells slots Q (F0 m tgt ls rest)) (kf : B = some X → z_W p l e R s m args below meth c D b0 S I cells slots Q (F0 m (pc + 3) ls rest)) : z_W p l e R s m args below meth c D b0 S I cells slots Q (F0 m pc ls (.int y :: .int x :: rest)) := by
  intro H locs hH hS
  refine lv_icmp_le hC.1 hC.2.1 hd ht (fun h => ?_) (fun h => ?_)
  · exact kt (by rw [if_neg (Int32.not_lt.mpr h)] at hz; exact hz) H locs hH hS
  · exact kf (by rw [if_pos (Int32.not_le.mp h)] at hz; exact hz) H locs hH hS
theorem z_goto (hC : z_C p s m args meth c cc own nL ret D) {off : Int} {tgt : Nat} (hd : decode cc pc = .ok (.goto off, 3)) (ht : (pc : Int) + off = (tgt : Int)) (k : z_W p l e R s m args below meth c D b0 S I cells slots Q (F0 m tgt ls rest)) : z_W p l e R s m args below meth c D b0 S I cells slots Q (F0 m pc ls rest) := fun H locs hH hS => lv_goto hC.1 hC.2.1 hd ht (k H locs hH hS)
theorem z_null (hC : z_C p s m args meth c cc own nL ret D) (hd : decode cc pc = .ok (.aconst_null, 1)) (k : z_W p l e R s m args below meth c D b0 S I cells slots Q (F0 m (pc + 1) ls (.null :: rest))) : z_W p l e R s m args below meth c D b0 S I cells slots Q (F0 m pc ls rest) := fun H locs hH hS => lv_null hC.1 hC.2.1 hd (k H locs hH hS)
theorem z_ifnull (hC : z_C p s m args meth c cc own nL ret D) {x : Nat} {off : Int} (hd : decode cc pc = .ok (.ifnull off, 3)) (k : z_W p l e R s m args below meth c D b0 S I cells slots Q (F0 m (pc + 3) ls rest)) : z_W p l e R s m args below meth c D b0 S I cells slots Q (F0 m pc ls (.ref x :: rest)) := fun H locs hH hS => lv_ifnull hC.1 hC.2.1 hd (k H locs hH hS)
theorem z_ifnullN (hC : z_C p s m args meth c cc own nL ret D) {off : Int} {tgt : Nat} (hd : decode cc pc = .ok (.ifnull off, 3)) (ht : (pc : Int) + off = (tgt : Int)) (k : z_W p l e R s m args below meth c D b0 S I cells slots Q (F0 m tgt ls rest)) : z_W p l e R s m args below meth c D b0 S I cells slots Q (F0 m pc ls (.null :: rest)) := fun H locs hH hS => lv_ifnullN hC.1 hC.2.1 hd ht (k H locs hH hS)
theorem z_ifnonnull (hC : z_C p s m args meth c cc own nL ret D) {x : Nat} {off : Int} {tgt : Nat} (hd : decode cc pc = .ok (.ifnonnull off, 3)) (ht : (pc : Int) + off = (tgt : Int)) (k : z_W p l e R s m args below meth c D b0 S I cells slots Q (F0 m tgt ls rest)) : z_W p l e R s m args below meth c D b0 S I cells slots Q (F0 m pc ls (.ref x :: rest)) := fun H locs hH hS => lv_ifnonnull hC.1 hC.2.1 hd ht (k H locs hH hS)
theorem z_ifnonnullN (hC : z_C p s m args meth c cc own nL ret D) {off : Int} (hd : decode cc pc = .ok (.ifnonnull off, 3)) (k : z_W p l e R s m args below meth c D b0 S I cells slots Q (F0 m (pc + 3) ls rest)) : z_W p l e R s m args below meth c D b0 S I cells slots Q (F0 m pc ls (.null :: rest)) := fun H locs hH hS => lv_ifnonnullN hC.1 hC.2.1 hd (k H locs hH hS)
theorem z_ldc (hC : z_C p s m args meth c cc own nL ret D) {index : Nat} {v : Int32} (hc : Cond.constant own index v ∈ z_tbl) (hd : decode cc pc = .ok (.ldc index, 2)) (k : z_W p l e R s m args below meth c D b0 S I cells slots Q (F0 m (pc + 2) ls (.int v :: rest))) : z_W p l e R s m args below meth c D b0 S I cells slots Q (F0 m pc ls rest) := fun H locs hH hS => lv_ldc hC.1 hC.2.1 hC.2.2.2.1 (hC.2.2.2.2.1 _ hc) hd (k H locs hH hS)
/-! heap rows -/
theorem z_at.kept {D : zD} {a : Nat} {k : Nat × Nat} {i : Nat → Int32} {r : Nat → Option Nat} {H H1 : Heap} (h : z_at D a k i r H) (e : H1[a]? = H[a]?) : z_at D a k i r H1 := by
  obtain ⟨h1, h2, h3⟩ := h
  refine ⟨fun g => ?_, fun g1 g2 => ?_, fun g => ?_⟩
  · obtain ⟨q, g1, g2⟩ := h1 g
    exact ⟨q, g1, g2.kept e⟩
  · rw [e]; exact h2 g1 g2
  · rw [e]; exact h3 g
theorem z_obj {D : zD} {b0 : Nat} {S : zS} {I : zI} {H : Heap} (hH : z_H D b0 S I H) {a ci : Nat} {C : String} {T : u_T} {N : Nat} {ty : Nat → FieldType} (hc : z_cls ci C T N ty) (ha : z_is b0 S a ci) : t_OB a (D.1.1 ci) N (D.1.2 ci) H (z_V ci (I a) (S.1 a)) := by
  have h := (hH.2.2 a ha.1 ha.2.1).1
  rw [ha.2.2] at h
  obtain ⟨q, g1, g2⟩ := h hc.2.1
  have hq : q = (C, T, N) := Option.some.inj (g1.symm.trans hc.1)
  subst hq
  exact g2
theorem z_H.set {D : zD} {b0 : Nat} {S S' : zS} {I I' : zI} {H H1 : Heap} {a : Nat} (hH : z_H D b0 S I H) (z : H1.size = H.size) (oq : ∀ q : Nat, q ≠ a → H1[q]? = H[q]?) (e2 : S'.2 = S.2) (eI : ∀ b, b ≠ a → I' b = I b) (eR : ∀ b, b ≠ a → S'.1 b = S.1 b) (ha : z_at D a (S.2.1 a) (I' a) (S'.1 a) H1) : z_H D b0 S' I' H1 := by
  refine ⟨by rw [z, e2]; exact hH.1, by rw [e2]; exact hH.2.1, fun b h1 h2 => ?_⟩
  rw [e2] at h2 ⊢
  by_cases hb : b = a
  · subst hb; exact ha
  · rw [eI b hb, eR b hb]
    exact (hH.2.2 b h1 h2).kept (oq b hb)
theorem z_at.obj {D : zD} {a : Nat} {k : Nat × Nat} {i : Nat → Int32} {r : Nat → Option Nat} {H : Heap} {ci : Nat} {C : String} {T : u_T} {N : Nat} {ty : Nat → FieldType} (hc : z_cls ci C T N ty) (hk : k.1 = ci) (h : t_OB a (D.1.1 ci) N (D.1.2 ci) H (z_V ci i r)) : z_at D a k i r H := by
  have hl := hc.2.1
  refine ⟨fun _ => ⟨(C, T, N), by rw [hk]; exact hc.1, by rw [hk]; exact h⟩, fun g _ => absurd g (by omega), fun g => absurd g (by omega)⟩
theorem z_arrI {D : zD} {b0 : Nat} {S : zS} {I : zI} {H : Heap} (hH : z_H D b0 S I H) {a k : Nat} (ha : z_is b0 S a k) (h1 : 10 ≤ k) (h2 : k < 12) : H[a]? = some (arrV (D.2 k) (S.2.1 a).2 (fun j => .int (I a j))) := by
  have h := (hH.2.2 a ha.1 ha.2.1).2.1
  rw [ha.2.2] at h
  exact h h1 h2
theorem z_arrR {D : zD} {b0 : Nat} {S : zS} {I : zI} {H : Heap} (hH : z_H D b0 S I H) {a k : Nat} (ha : z_is b0 S a k) (h1 : 12 ≤ k) : H[a]? = some (arrV (D.2 k) (S.2.1 a).2 (fun j => va_rf (S.1 a j))) := by
  have h := (hH.2.2 a ha.1 ha.2.1).2.2
  rw [ha.2.2] at h
  exact h h1
theorem z_up_self (I : zI) (a k : Nat) (x : Int32) : z_up I a k x a = fun j => if j = k then x else I a j := by funext j; simp [z_up]
theorem z_up_off {I : zI} {a k b : Nat} {x : Int32} (h : b ≠ a) : z_up I a k x b = I b := by funext j; simp [z_up, h]
theorem z_upR_self (S : zS) (a k : Nat) (x : Option Nat) : (z_upR S a k x).1 a = fun j => if j = k then x else S.1 a j := by funext j; simp [z_upR]
theorem z_upR_off {S : zS} {a k b : Nat} {x : Option Nat} (h : b ≠ a) : (z_upR S a k x).1 b = S.1 b := by funext j; simp [z_upR, h]
theorem z_getV (hC : z_C p s m args meth c cc own nL ret D) {ci : Nat} {C : String} {T : u_T} {N : Nat} {ty : Nat → FieldType} (hc : z_cls ci C T N ty) (k : Nat) (hk : k < N) {index : Nat} (hlink : Cond.fieldLink own index C (T k).2.1 (T k).2.2.1 ∈ z_tbl) (hd : decode cc pc = .ok (.getfield index, 3)) {a : Nat} (ha : z_is b0 S a ci) {v : Value} (hv : z_V ci (I a) (S.1 a) k = v) (kk : z_W p l e R s m args below meth c D b0 S I cells slots Q (F0 m (pc + 3) ls (v :: rest))) : z_W p l e R s m args below meth c D b0 S I cells slots Q (F0 m pc ls (.ref a :: rest)) := by
  intro H locs hH hS
  obtain ⟨hx, hb, hml, hown, hts, -, -, hK, -⟩ := hC
  obtain ⟨cell, q1, q2, q3, q4⟩ := z_obj hH hc ha
  obtain ⟨hSl, hfc, kC, hkC, hkind⟩ := hK.1 ci _ hc.1
  obtain ⟨cf, kf, fi, f, hi, hsl⟩ := hSl k hk
  have hi2 := hi
  simp only [hc.2.2.2.2.2 k hk] at hi2
  refine W.getf hx hb hown (hts _ hlink) hi2 (u_facts hfc hkC (u_lays hts hc.2.2.1 hk) hi).1 q1 (by rw [q3]; exact fun h => by cases h) (v := v) ?_ rfl rfl hd (kk H locs hH hS)
  rw [hsl, q4 k hk, hv]
theorem z_getI (hC : z_C p s m args meth c cc own nL ret D) {ci : Nat} {C : String} {T : u_T} {N : Nat} {ty : Nat → FieldType} (hc : z_cls ci C T N ty) (k : Nat) (hk : k < N) {index : Nat} (hlink : Cond.fieldLink own index C (T k).2.1 (T k).2.2.1 ∈ z_tbl) (hd : decode cc pc = .ok (.getfield index, 3)) {a : Nat} (ha : z_is b0 S a ci) (hv : z_sh ci k = true) (kk : z_W p l e R s m args below meth c D b0 S I cells slots Q (F0 m (pc + 3) ls (.int (I a k) :: rest))) : z_W p l e R s m args below meth c D b0 S I cells slots Q (F0 m pc ls (.ref a :: rest)) := z_getV hC hc k hk hlink hd ha (z_V_i hv) kk
theorem z_getR (hC : z_C p s m args meth c cc own nL ret D) {ci : Nat} {C : String} {T : u_T} {N : Nat} {ty : Nat → FieldType} (hc : z_cls ci C T N ty) (k : Nat) (hk : k < N) {index : Nat} (hlink : Cond.fieldLink own index C (T k).2.1 (T k).2.2.1 ∈ z_tbl) (hd : decode cc pc = .ok (.getfield index, 3)) {a : Nat} (ha : z_is b0 S a ci) (hv : z_sh ci k = false) {r : Nat} (hr : S.1 a k = some r) (kk : z_W p l e R s m args below meth c D b0 S I cells slots Q (F0 m (pc + 3) ls (.ref r :: rest))) : z_W p l e R s m args below meth c D b0 S I cells slots Q (F0 m pc ls (.ref a :: rest)) := z_getV hC hc k hk hlink hd ha (by rw [z_V_r hv, hr]; rfl) kk
theorem z_putI (hC : z_C p s m args meth c cc own nL ret D) {ci : Nat} {C : String} {T : u_T} {N : Nat} {ty : Nat → FieldType} (hc : z_cls ci C T N ty) (k : Nat) (hk : k < N) {index : Nat} (hlink : Cond.fieldLink own index C (T k).2.1 (T k).2.2.1 ∈ z_tbl) (hd : decode cc pc = .ok (.putfield index, 3)) {a : Nat} (ha : z_is b0 S a ci) (hv : z_sh ci k = true) (hfin : (T k).2.2.2 = false) {x : Int32} (hn : narrow (ty k) (.int x) = .int x) (hfit : fits (ty k) (.int x) = true) (kk : z_W p l e R s m args below meth c D b0 S (z_up I a k x) cells slots Q (F0 m (pc + 3) ls rest)) : z_W p l e R s m args below meth c D b0 S I cells slots Q (F0 m pc ls (.int x :: .ref a :: rest)) := by
  intro H locs hH hS
  obtain ⟨hx, hb, hml, hown, hts, -, -, hK, -⟩ := hC
  obtain ⟨cell, q1, q2, q3, q4⟩ := z_obj hH hc ha
  obtain ⟨hSl, hfc, kC, hkC, hkind⟩ := hK.1 ci _ hc.1
  obtain ⟨cf, kf, fi, f, hi, hsl⟩ := hSl k hk
  have hi2 := hi
  simp only [hc.2.2.2.2.2 k hk] at hi2
  have hap := va_apart (own := own) hts hc.2.2.1 ty hc.2.2.2.1 hc.2.2.2.2.1 hK hc.1
  have hlay := hts _ (hc.2.2.1 _ (u_in_lay hk))
  unfold u_lay at hlay
  rw [if_neg (by rw [hfin]; decide)] at hlay
  have hst := (u_facts hfc hkC (u_lays hts hc.2.2.1 hk) hi).1
  have h6 := u_store hfc hkC hkind hlay hi (hc.2.2.2.1 k hk) hn hfit
  refine W.putK hx hb (f := f) ⟨hown, hts _ hlink, ⟨_, _, _, hi2⟩, hst⟩ (by rw [q2]; exact h6) q1 q3 (by rw [hsl]; exact k2_hasslot (q4 k hk)) rfl rfl hd fun H' e1 e2 e3 => ?_
  rw [hsl] at e1
  refine kk H' _ (hH.set e2 e3 rfl (fun b hb => z_up_off hb) (fun b _ => rfl) (z_at.obj hc ha.2.2 ?_)) (hS.put e2 e3 ha.1)
  refine t_OB.to (V := updV (z_V ci (I a) (S.1 a)) k (.int x)) ⟨_, e1, q2, q3, t_set q4 hap hk _⟩ (fun j _ => ?_)
  rw [z_up_self]
  by_cases hj : j = k
  · subst hj; simp [updV, z_V, hv]
  · simp [updV, z_V, hj]
theorem z_putR (hC : z_C p s m args meth c cc own nL ret D) {ci : Nat} {C : String} {T : u_T} {N : Nat} {ty : Nat → FieldType} (hc : z_cls ci C T N ty) (k : Nat) (hk : k < N) {index : Nat} (hlink : Cond.fieldLink own index C (T k).2.1 (T k).2.2.1 ∈ z_tbl) (hd : decode cc pc = .ok (.putfield index, 3)) {a : Nat} (ha : z_is b0 S a ci) (hv : z_sh ci k = false) (hfin : (T k).2.2.2 = true) (hin : meth.name = "<init>") (hoc : own = C) {x : Nat} (hn : narrow (ty k) (.ref x) = .ref x) (hfit : fits (ty k) (.ref x) = true) (kk : z_W p l e R s m args below meth c D b0 (z_upR S a k (some x)) I cells slots Q (F0 m (pc + 3) ls rest)) : z_W p l e R s m args below meth c D b0 S I cells slots Q (F0 m pc ls (.ref x :: .ref a :: rest)) := by
  intro H locs hH hS
  obtain ⟨hx, hb, hml, hown, hts, -, -, hK, -⟩ := hC
  obtain ⟨cell, q1, q2, q3, q4⟩ := z_obj hH hc ha
  obtain ⟨hSl, hfc, kC, hkC, hkind⟩ := hK.1 ci _ hc.1
  obtain ⟨cf, kf, fi, f, hi, hsl⟩ := hSl k hk
  have hdc := hc.2.2.2.2.2 k hk
  have hi2 := hi
  simp only [hdc] at hi2
  have hap := va_apart (own := own) hts hc.2.2.1 ty hc.2.2.2.1 hc.2.2.2.2.1 hK hc.1
  have hlay := hts _ (hc.2.2.1 _ (u_in_lay hk))
  unfold u_lay at hlay
  rw [if_pos hfin] at hlay
  have hst := (u_facts hfc hkC (u_lays hts hc.2.2.1 hk) hi).1
  have hcf : m.cls = cf := by
    obtain ⟨_, _, c', _, _, _, -, -, hf', -, -, -, hown2, -⟩ := Cond.laysFinal_spec hlay
    have e1 : c' = cf := by have := hi.symm.trans hf'; simp at this; exact this.1.symm
    rw [hdc, ← hoc] at hown2
    rw [← e1]; exact Option.some.inj (hown.symm.trans hown2)
  have h6 := u_fits hfc hkC hkind (Or.inr hlay) hi (hc.2.2.2.1 k hk) hn hfit
  refine W.putFinK hx hb hown (hts _ hlink) hi2 hst hcf hin (by rw [q2]; exact h6) q1 q3 (by rw [hsl]; exact k2_hasslot (q4 k hk)) rfl rfl hd fun H' e1 e2 e3 => ?_
  rw [hsl] at e1
  refine kk H' _ (hH.set e2 e3 rfl (fun b _ => rfl) (fun b hb => z_upR_off hb) (z_at.obj hc ha.2.2 ?_)) (hS.put e2 e3 ha.1)
  refine t_OB.to (V := updV (z_V ci (I a) (S.1 a)) k (.ref x)) ⟨_, e1, q2, q3, t_set q4 hap hk _⟩ (fun j _ => ?_)
  rw [z_upR_self]
  by_cases hj : j = k
  · subst hj; simp [updV, z_V, hv, va_rf]
  · simp [updV, z_V, hj]
theorem z_ofI {cA : Nat → ClassId} {G : va_G} {U : State} (h : va_K G vwCl (z_tys cA) U) (k : Nat) (hk : k = 10) : ArrOfT U (cA k) .int := by subst hk; exact (h.2 0 _ rfl).1
theorem z_ofZ {cA : Nat → ClassId} {G : va_G} {U : State} (h : va_K G vwCl (z_tys cA) U) (k : Nat) (hk : k = 11) : ArrOfT U (cA k) .boolean := by subst hk; exact (h.2 1 _ rfl).1
theorem z_iald (hC : z_C p s m args meth c cc own nL ret D) (hd : decode cc pc = .ok (.iaload, 1)) {a : Nat} (ha : z_is b0 S a 10) {i : Int32} (hin : ¬ (i < 0 ∨ (S.2.1 a).2 ≤ i.toNatClampNeg)) (kk : z_W p l e R s m args below meth c D b0 S I cells slots Q (F0 m (pc + 1) ls (.int (I a i.toNatClampNeg) :: rest))) : z_W p l e R s m args below meth c D b0 S I cells slots Q (F0 m pc ls (.int i :: .ref a :: rest)) := by
  intro H locs hH hS
  have hlt : i.toNatClampNeg < (S.2.1 a).2 := Nat.not_le.mp fun q => hin (Or.inr q)
  exact W.iald (v := .int (I a i.toNatClampNeg)) hC.1 hC.2.1 (z_arrI hH ha (by decide) (by decide)) ((z_ofI hC.2.2.2.2.2.2.2.1 10 rfl) _ (fun j => .int (I a j))) (fun q => by cases q) (by rw [arrV_size]; exact hin) (by rw [arrV_read _ _ hlt]) rfl rfl hd (kk H locs hH hS)
theorem z_zald (hC : z_C p s m args meth c cc own nL ret D) (hd : decode cc pc = .ok (.baload, 1)) {a : Nat} (ha : z_is b0 S a 11) {i : Int32} (hin : ¬ (i < 0 ∨ (S.2.1 a).2 ≤ i.toNatClampNeg)) (kk : z_W p l e R s m args below meth c D b0 S I cells slots Q (F0 m (pc + 1) ls (.int (I a i.toNatClampNeg) :: rest))) : z_W p l e R s m args below meth c D b0 S I cells slots Q (F0 m pc ls (.int i :: .ref a :: rest)) := by
  intro H locs hH hS
  have hlt : i.toNatClampNeg < (S.2.1 a).2 := Nat.not_le.mp fun q => hin (Or.inr q)
  exact W.zald (v := .int (I a i.toNatClampNeg)) hC.1 hC.2.1 (z_arrI hH ha (by decide) (by decide)) ((z_ofZ hC.2.2.2.2.2.2.2.1 11 rfl) _ (fun j => .int (I a j))) (fun q => by cases q) (by rw [arrV_size]; exact hin) (by rw [arrV_read _ _ hlt]) rfl rfl hd (kk H locs hH hS)
theorem z_upA {I : zI} {a k : Nat} {x : Int32} : (fun j => Value.int (z_up I a k x a j)) = updV (fun j => .int (I a j)) k (.int x) := by
  funext j
  by_cases hj : j = k
  · subst hj; simp [updV, z_up]
  · simp [updV, z_up, hj]
theorem z_iast (hC : z_C p s m args meth c cc own nL ret D) (hd : decode cc pc = .ok (.iastore, 1)) {a : Nat} (ha : z_is b0 S a 10) {i x : Int32} (hin : ¬ (i < 0 ∨ (S.2.1 a).2 ≤ i.toNatClampNeg)) (kk : z_W p l e R s m args below meth c D b0 S (z_up I a i.toNatClampNeg x) cells slots Q (F0 m (pc + 1) ls rest)) : z_W p l e R s m args below meth c D b0 S I cells slots Q (F0 m pc ls (.int x :: .int i :: .ref a :: rest)) := by
  intro H locs hH hS
  refine W.iast hC.1 hC.2.1 (z_arrI hH ha (by decide) (by decide)) ((z_ofI hC.2.2.2.2.2.2.2.1 10 rfl) _ (fun j => .int (I a j))) (fun q => by cases q) (by rw [arrV_size]; exact hin) rfl rfl hd fun H1 e1 z oq => ?_
  refine kk H1 _ (hH.set z oq rfl (fun b hb => z_up_off hb) (fun b _ => rfl) ?_) (hS.put z oq ha.1)
  rw [arrV_store, ← z_upA] at e1
  exact ⟨fun g => absurd g (by rw [ha.2.2]; decide), fun _ _ => by rw [ha.2.2]; exact e1, fun g => absurd g (by rw [ha.2.2]; decide)⟩
theorem z_zast (hC : z_C p s m args meth c cc own nL ret D) (hd : decode cc pc = .ok (.bastore, 1)) {a : Nat} (ha : z_is b0 S a 11) {i x : Int32} (hin : ¬ (i < 0 ∨ (S.2.1 a).2 ≤ i.toNatClampNeg)) (hn : narrow .boolean (.int x) = .int x) (kk : z_W p l e R s m args below meth c D b0 S (z_up I a i.toNatClampNeg x) cells slots Q (F0 m (pc + 1) ls rest)) : z_W p l e R s m args below meth c D b0 S I cells slots Q (F0 m pc ls (.int x :: .int i :: .ref a :: rest)) := by
  intro H locs hH hS
  refine W.zast hC.1 hC.2.1 (z_arrI hH ha (by decide) (by decide)) ((z_ofZ hC.2.2.2.2.2.2.2.1 11 rfl) _ (fun j => .int (I a j))) (fun q => by cases q) (by rw [arrV_size]; exact hin) rfl rfl hd fun H1 e1 z oq => ?_
  refine kk H1 _ (hH.set z oq rfl (fun b hb => z_up_off hb) (fun b _ => rfl) ?_) (hS.put z oq ha.1)
  rw [hn, arrV_store, ← z_upA] at e1
  exact ⟨fun g => absurd g (by rw [ha.2.2]; decide), fun _ _ => by rw [ha.2.2]; exact e1, fun g => absurd g (by rw [ha.2.2]; decide)⟩
theorem z_bool {x : Int32} (h : x = 0 ∨ x = 1) : narrow .boolean (.int x) = .int x := by rcases h with rfl | rfl <;> decide
theorem z_boolf {x : Int32} (h : x = 0 ∨ x = 1) : fits .boolean (.int x) = true := by rcases h with rfl | rfl <;> decide
def z_ec : Nat → String := fun k => if k = 12 then RX0 else if k = 13 then RX3 else RX5
def z_ek : Nat → Nat := fun k => if k = 12 then 0 else if k = 13 then 3 else 5
theorem z_ofR {cA : Nat → ClassId} {G : va_G} {U : State} (h : va_K G vwCl (z_tys cA) U) (k : Nat) (h1 : 12 ≤ k) (h2 : k < 15) : ArrOfT U (cA k) (.object (z_ec k)) ∧ va_RA U (cA k) (.object (z_ec k)) := by
  rcases (show k = 12 ∨ k = 13 ∨ k = 14 by omega) with rfl | rfl | rfl
  · exact h.2 2 _ rfl
  · exact h.2 3 _ rfl
  · exact h.2 4 _ rfl
theorem z_aald (hC : z_C p s m args meth c cc own nL ret D) (hd : decode cc pc = .ok (.aaload, 1)) {a k : Nat} (ha : z_is b0 S a k) (h1 : 12 ≤ k) (h2 : k < 15) {i : Int32} (hin : ¬ (i < 0 ∨ (S.2.1 a).2 ≤ i.toNatClampNeg)) (kk : z_W p l e R s m args below meth c D b0 S I cells slots Q (F0 m (pc + 1) ls (va_rf (S.1 a i.toNatClampNeg) :: rest))) : z_W p l e R s m args below meth c D b0 S I cells slots Q (F0 m pc ls (.int i :: .ref a :: rest)) := by
  intro H locs hH hS
  have hlt : i.toNatClampNeg < (S.2.1 a).2 := Nat.not_le.mp fun q => hin (Or.inr q)
  exact W.aald (v := va_rf (S.1 a i.toNatClampNeg)) (ty := .object (z_ec k)) hC.1 hC.2.1 (z_arrR hH ha h1) ((z_ofR hC.2.2.2.2.2.2.2.1 k h1 h2).1 _ (fun j => va_rf (S.1 a j))) rfl (fun q => by cases q) (by rw [arrV_size]; exact hin) (by rw [arrV_read _ _ hlt]) rfl rfl hd (kk H locs hH hS)
theorem z_upRA {S : zS} {a k x : Nat} : (fun j => va_rf ((z_upR S a k (some x)).1 a j)) = updV (fun j => va_rf (S.1 a j)) k (.ref x) := by
  funext j
  by_cases hj : j = k
  · subst hj; simp [updV, z_upR, va_rf]
  · simp [updV, z_upR, hj]
theorem z_aast (hC : z_C p s m args meth c cc own nL ret D) (hd : decode cc pc = .ok (.aastore, 1)) {a k : Nat} (ha : z_is b0 S a k) (h1 : 12 ≤ k) (h2 : k < 15) {ci : Nat} {C : String} {T : u_T} {N : Nat} {ty : Nat → FieldType} (hc : z_cls ci C T N ty) (hec : z_ec k = C) {i : Int32} {x : Nat} (hxk : z_is b0 S x ci) (hin : ¬ (i < 0 ∨ (S.2.1 a).2 ≤ i.toNatClampNeg)) (kk : z_W p l e R s m args below meth c D b0 (z_upR S a i.toNatClampNeg (some x)) I cells slots Q (F0 m (pc + 1) ls rest)) : z_W p l e R s m args below meth c D b0 S I cells slots Q (F0 m pc ls (.ref x :: .int i :: .ref a :: rest)) := by
  intro H locs hH hS
  have hlt : i.toNatClampNeg < (S.2.1 a).2 := Nat.not_le.mp fun q => hin (Or.inr q)
  have h0 : ¬ i < 0 := fun q => hin (Or.inl q)
  obtain ⟨cellV, g1, g2, g3, -⟩ := z_obj hH hc hxk
  have hK := hC.2.2.2.2.2.2.2.1
  have hcls := (hK.1 ci _ hc.1).2
  have hra := (z_ofR hK k h1 h2).2
  rw [hec] at hra
  obtain ⟨kA, comp, k1, k2, k3, -⟩ := hra
  have hcomp : comp = D.1.1 ci := Option.some.inj (k3.symm.trans hcls.1)
  subst hcomp
  obtain ⟨kC, hkC, -⟩ := hcls.2
  refine W.aast hC.1 hC.2.1 (z_arrR hH ha h1) (fun q h => by cases h) (fun h => by cases h) k1 k2 rfl hkC ⟨h0, by rw [arrV_size]; exact hlt⟩ g1 (fun q h => by rw [g3] at h; cases h) (by rw [g2]; exact hkC) (by rw [g2]; exact va_assign hcls) rfl rfl hd fun H1 e1 z oq => ?_
  refine kk H1 _ (hH.set z oq rfl (fun b _ => rfl) (fun b hb => z_upR_off hb) ?_) (hS.put z oq ha.1)
  rw [arrV_store, ← z_upRA] at e1
  exact ⟨fun g => absurd g (by rw [ha.2.2]; omega), fun _ g => absurd g (by rw [ha.2.2]; omega), fun _ => by rw [ha.2.2]; exact e1⟩
theorem z_H.push {D : zD} {b0 : Nat} {S : zS} {I : zI} {H H1 : Heap} {k n : Nat} (hH : z_H D b0 S I H) (z : H1.size = H.size + 1) (oq : ∀ q : Nat, q < H.size → H1[q]? = H[q]?) (ha : z_at D S.2.2 (k, n) (fun _ => 0) (fun _ => none) H1) : z_H D b0 (z_new S k n) (z_newI S I) H1 := by
  refine ⟨by rw [z, hH.1]; rfl, Nat.le_succ_of_le hH.2.1, fun b h1 h2 => ?_⟩
  have h2 : b < S.2.2 + 1 := h2
  by_cases hb : b = S.2.2
  · subst hb
    have e1 : z_newI S I S.2.2 = fun _ => 0 := by funext j; simp [z_newI]
    have e2 : (z_new S k n).1 S.2.2 = fun _ => none := by funext j; simp [z_new]
    have e3 : (z_new S k n).2.1 S.2.2 = (k, n) := by simp [z_new]
    rw [e1, e2, e3]; exact ha
  · have h3 : b < S.2.2 := by omega
    have h4 := (hH.2.2 b h1 h3).kept (oq b (by rw [hH.1]; exact h3))
    have e1 : z_newI S I b = I b := by funext j; simp [z_newI, hb]
    have e2 : (z_new S k n).1 b = S.1 b := by funext j; simp [z_new, hb]
    have e3 : (z_new S k n).2.1 b = S.2.1 b := by simp [z_new, hb]
    rw [e1, e2, e3]; exact h4
theorem z_S.push {A : Nat → Prop} {H0 H H1 : Heap} {locs : List Loc} (h : va_S A H0 H locs) (z : H1.size = H.size + 1) (oq : ∀ q : Nat, q < H.size → H1[q]? = H[q]?) : va_S A H0 H1 locs := ⟨by rw [z]; exact Nat.le_succ_of_le h.1, fun x h1 h2 => (oq x (Nat.lt_of_lt_of_le h1 h.1)).trans (h.2.1 x h1 h2), h.2.2⟩
theorem z_newc (hC : z_C p s m args meth c cc own nL ret D) {ci : Nat} {C : String} {T : u_T} {N : Nat} {ty : Nat → FieldType} (hc : z_cls ci C T N ty) {index : Nat} (hlink : Cond.classLink own index C ∈ z_tbl) (hins : Cond.instantiable C N ∈ z_tbl) (hini : Cond.initialized C ∈ z_tbl) (hd : decode cc pc = .ok (.new index, 3)) (hdef : ∀ k, k < N → defaultValue (ty k) = z_V ci (fun _ => 0) (fun _ => none) k) (hcells : cells + 1 ≤ R.cells) (hslots : slots + N ≤ R.slots) (kk : z_W p l e R s m args below meth c D b0 (z_new S ci 0) (z_newI S I) (cells + 1) (slots + N) Q (F0 m (pc + 3) ls (.ref S.2.2 :: rest))) : z_W p l e R s m args below meth c D b0 S I cells slots Q (F0 m pc ls rest) := by
  intro H locs hH hS
  obtain ⟨hx, hb, hml, hown, hts, -, -, hK, -⟩ := hC
  have hKn := hK.1 ci _ hc.1
  have hsz := hH.1
  refine W.newcK hx hb hown (hts _ hlink) (hts _ hins) (hts _ hini) rfl hd hcells hslots hKn.2.1 rfl fun H1 kC hkC e1 z1 o1 => ?_
  rw [show F0 m (pc + 3) ls (.ref S.2.2 :: rest) = F0 m (pc + 3) ls (.ref H.size :: rest) by rw [hsz]] at kk
  refine kk H1 locs (hH.push z1 o1 (z_at.obj hc rfl ?_)) (z_S.push hS z1 o1)
  rw [hsz] at e1
  exact (u_born ty hts hc.2.2.1 hKn hkC e1 hc.2.2.2.1).to hdef
theorem z_newI10 (hC : z_C p s m args meth c cc own nL ret D) (hw : Cond.arrayClass .int ∈ z_tbl) (hd : decode cc pc = .ok (.newarray .int, 2)) {n : Int32} {N : Nat} (hn : ¬ n < 0) (hN : n.toNatClampNeg = N) (hby : N * 4 ≤ 536870912) (hcells : cells + 1 ≤ R.cells) (hslots : slots + N ≤ R.slots) (kk : z_W p l e R s m args below meth c D b0 (z_new S 10 N) (z_newI S I) (cells + 1) (slots + N) Q (F0 m (pc + 2) ls (.ref S.2.2 :: rest))) : z_W p l e R s m args below meth c D b0 S I cells slots Q (F0 m pc ls (.int n :: rest)) := by
  intro H locs hH hS
  obtain ⟨hx, hb, hml, hown, hts, -, -, hK, -⟩ := hC
  have hsz := hH.1
  refine va_newaK hx hb (atype := .int) (hts _ hw) rfl hd rfl hn hN hby hcells hslots rfl fun H1 cA e1 z1 o1 hAr hNm => ?_
  have hcA : cA = D.2 10 := by
    have h2 : s.vm.findClass ("[" ++ (FieldType.int).toString) = some (D.2 10) := (hK.2 0 _ rfl).2
    exact Option.some.inj (hNm.symm.trans h2)
  subst hcA
  rw [show F0 m (pc + 2) ls (.ref S.2.2 :: rest) = F0 m (pc + 2) ls (.ref H.size :: rest) by rw [hsz]] at kk
  refine kk H1 locs (hH.push z1 o1 ⟨fun g => absurd g (show ¬ 10 < 10 by decide), fun _ _ => ?_, fun g => absurd g (show ¬ 12 ≤ 10 by decide)⟩) (z_S.push hS z1 o1)
  rw [hsz] at e1
  exact e1
theorem z_newI11 (hC : z_C p s m args meth c cc own nL ret D) (hw : Cond.arrayClass .boolean ∈ z_tbl) (hd : decode cc pc = .ok (.newarray .boolean, 2)) {n : Int32} {N : Nat} (hn : ¬ n < 0) (hN : n.toNatClampNeg = N) (hby : N * 1 ≤ 536870912) (hcells : cells + 1 ≤ R.cells) (hslots : slots + N ≤ R.slots) (kk : z_W p l e R s m args below meth c D b0 (z_new S 11 N) (z_newI S I) (cells + 1) (slots + N) Q (F0 m (pc + 2) ls (.ref S.2.2 :: rest))) : z_W p l e R s m args below meth c D b0 S I cells slots Q (F0 m pc ls (.int n :: rest)) := by
  intro H locs hH hS
  obtain ⟨hx, hb, hml, hown, hts, -, -, hK, -⟩ := hC
  have hsz := hH.1
  refine va_newaK hx hb (atype := .boolean) (hts _ hw) rfl hd rfl hn hN hby hcells hslots rfl fun H1 cA e1 z1 o1 hAr hNm => ?_
  have hcA : cA = D.2 11 := by
    have h2 : s.vm.findClass ("[" ++ (FieldType.boolean).toString) = some (D.2 11) := (hK.2 1 _ rfl).2
    exact Option.some.inj (hNm.symm.trans h2)
  subst hcA
  rw [show F0 m (pc + 2) ls (.ref S.2.2 :: rest) = F0 m (pc + 2) ls (.ref H.size :: rest) by rw [hsz]] at kk
  refine kk H1 locs (hH.push z1 o1 ⟨fun g => absurd g (show ¬ 11 < 10 by decide), fun _ _ => ?_, fun g => absurd g (show ¬ 12 ≤ 11 by decide)⟩) (z_S.push hS z1 o1)
  rw [hsz] at e1
  exact e1
theorem z_anew (hC : z_C p s m args meth c cc own nL ret D) {k : Nat} (h1 : 12 ≤ k) (h2 : k < 15) {index : Nat} (hlink : Cond.classLink own index (z_ec k) ∈ z_tbl) (hov : va_AO (z_ec k) s) (hd : decode cc pc = .ok (.anewarray index, 3)) {n : Int32} {N : Nat} (hn : ¬ n < 0) (hN : n.toNatClampNeg = N) (hby : N * 4 ≤ 536870912) (hcells : cells + 1 ≤ R.cells) (hslots : slots + N ≤ R.slots) (kk : z_W p l e R s m args below meth c D b0 (z_new S k N) (z_newI S I) (cells + 1) (slots + N) Q (F0 m (pc + 3) ls (.ref S.2.2 :: rest))) : z_W p l e R s m args below meth c D b0 S I cells slots Q (F0 m pc ls (.int n :: rest)) := by
  intro H locs hH hS
  obtain ⟨hx, hb, hml, hown, hts, -, -, hK, -⟩ := hC
  have hsz := hH.1
  subst hN
  refine W.anew hx hb hown (hts _ hlink) (va_AO.use hov) rfl hd rfl hn hby hcells hslots fun cA kA comp f1 f2 f3 f4 => ?_
  have hcA : cA = D.2 k := by
    obtain ⟨_, _, _, _, _, g4⟩ := (z_ofR hK k h1 h2).2
    exact Option.some.inj (f1.symm.trans g4)
  subst hcA
  rw [show F0 m (pc + 3) ls (.ref S.2.2 :: rest) = F0 m (pc + 3) ls (.ref H.size :: rest) by rw [hsz]] at kk
  generalize hH1 : H.push ({ cls := D.2 k, slots := Array.replicate n.toNatClampNeg .null, vm := .none } : Cell) = H1
  have z1 : H1.size = H.size + 1 := by rw [← hH1, Array.size_push]
  have e1 : H1[H.size]? = some (arrV (D.2 k) n.toNatClampNeg (fun _ => .null)) := by rw [← hH1, Array.getElem?_push_size, ← arrV_new]
  have o1 : ∀ q : Nat, q < H.size → H1[q]? = H[q]? := fun q hq => by rw [← hH1, Array.getElem?_push, if_neg (Nat.ne_of_lt hq)]
  refine kk H1 locs (hH.push z1 o1 ⟨fun g => absurd g (show ¬ k < 10 by omega), fun _ g => absurd g (show ¬ k < 12 by omega), fun _ => ?_⟩) (z_S.push hS z1 o1)
  rw [hsz] at e1
  exact e1
theorem z_T.new {b0 : Nat} {S : zS} (h : z_T b0 S) (k n : Nat) : z_T b0 (z_new S k n) := by
  intro a j b h1 h2 h3
  have h2 : a < S.2.2 + 1 := h2
  by_cases ha : a = S.2.2
  · simp [z_new, ha] at h3
  · simp only [z_new, if_neg ha] at h3
    obtain ⟨g1, g2, g3⟩ := h a j b h1 (by omega) h3
    refine ⟨g1, Nat.lt_succ_of_lt g2, ?_⟩
    simp only [z_new, if_neg ha, if_neg (show b ≠ S.2.2 by omega)]
    exact g3
theorem z_T.upR {b0 : Nat} {S : zS} (h : z_T b0 S) {a c k x : Nat} (ha : z_is b0 S a c) (hx : z_is b0 S x (z_fk c k)) : z_T b0 (z_upR S a k (some x)) := by
  intro q j b h1 h2 h3
  by_cases hq : q = a ∧ j = k
  · obtain ⟨rfl, rfl⟩ := hq
    simp [z_upR] at h3
    subst h3
    show z_is b0 S x (z_fk (S.2.1 q).1 j)
    rw [ha.2.2]
    exact hx
  · simp only [z_upR, if_neg hq] at h3
    exact h q j b h1 h2 h3
theorem z_is.new {b0 : Nat} {S : zS} {a k c n : Nat} (h : z_is b0 S a c) : z_is b0 (z_new S k n) a c := by
  obtain ⟨h1, h2, h3⟩ := h
  exact ⟨h1, Nat.lt_succ_of_lt h2, by simp only [z_new, if_neg (show a ≠ S.2.2 by omega)]; exact h3⟩
theorem z_is.fresh {b0 : Nat} {S : zS} (h : b0 ≤ S.2.2) (k n : Nat) : z_is b0 (z_new S k n) S.2.2 k := ⟨h, Nat.lt_succ_self _, by simp [z_new]⟩
theorem z_is.upR {b0 : Nat} {S : zS} {a k c j : Nat} {x : Option Nat} (h : z_is b0 S a c) : z_is b0 (z_upR S k j x) a c := h

/-! calls -/
theorem z_blind {D : zD} {b0 : Nat} {S : zS} {I : zI} {av : List Value} : FrameBlind (va_Pc av (z_U D b0 S I)) := fun a U g mk q => ⟨q.1, q.2.1, q.2.2.1, z_K.same (u := U) rfl q.2.2.2⟩
/-- a method that the tables know -/
def z_y (y : MethodName) (cb : ByteArray) (maxL : Nat) (ret : Option FieldType) (n : Nat) : Prop := Cond.code y cb maxL ret ∈ z_tbl ∧ Cond.initialized y.cls ∈ z_tbl ∧ (y.cls ≠ "java/lang/invoke/MethodHandle" ∧ y.cls ≠ "java/lang/invoke/VarHandle" ∧ (parseMethodDescriptor y.desc).map (fun d => d.parameters.length) = some n)
theorem z_gIn {y : MethodName} {b2 : ByteArray} {n2 : Nat} {r2 : Option FieldType} (h : Cond.code y b2 n2 r2 ∈ z_tbl) : GoodIn z_tbl (Cond.code y b2 n2 r2 :: z_tbl) := fun w hw => by
  rcases List.mem_cons.mp hw with e | e
  · rw [e]; exact ⟨h, z_good _ h⟩
  · exact ⟨e, z_good _ e⟩
section ZCALL
variable {y : MethodName} {cb : ByteArray} {maxL n index : Nat} {rt : Option FieldType} {rm : Room} {As st : List Value} {rv : Option Value} {S' : zS} {I' : zI}
theorem z_go {H : Heap} {locs : List Loc} {mc ms : Nat} {av : Array Value} (hH : z_H D b0 S I H) (hS : va_S (fun q => b0 ≤ q) s.heap H locs) (hr : va_Run p l e R s m args below meth c H locs cells slots mc ms (F0 m pc ls st) rest (fun st₀ oc t => oc = .returned rv ∧ z_U D b0 S' I' t ∧ va_F (fun q => b0 ≤ q) st₀ t) (fun q => b0 ≤ q)) (k : z_W p l e R s m args below meth c D b0 S' I' (cells + mc) (slots + ms) Q (F0 m (pc + 3) ls (rv.toList ++ rest))) : W p l e R s m args below meth c H locs cells slots Q (F0 m pc ls st) := by
  intro T hT X
  obtain ⟨v, st₀, t, T', L, h0, X', hL, e1, e2, ⟨hv, hU, hF⟩, stp⟩ := hr T hT X
  cases hv
  rw [va_F, h0] at hF
  obtain ⟨t2, a1, b1⟩ := k T'.heap (locs ++ L) (by rw [e1]; exact hU.1) ⟨by rw [e1]; exact Nat.le_trans hS.1 hF.1, fun q h1 h2 => by rw [e1, hF.2 q (Nat.lt_of_lt_of_le h1 hS.1) h2]; exact hS.2.1 q h1 h2, fun q hq => by
      rcases List.mem_append.mp hq with h | h
      · exact hS.2.2 q h
      · exact hL q h⟩ T' rfl X'
  exact ⟨t2, stp t2 a1, b1⟩
theorem z_callV (hC : z_C p s m args meth c cc own nL ret D) (hT : z_T b0 S) {b : Nat} (hM : z_M l D b0 y cb maxL rt rm (.ref b :: As) S I rv S' I') (hy : z_y y cb maxL rt n) {ci : Nat} {C : String} {T : u_T} {N : Nat} {ty : Nat → FieldType} (hc : z_cls ci C T N ty) (hv : Cond.instanceMethod y ∈ z_tbl ∧ Cond.selects C y y ∈ z_tbl) (hlink : Cond.methodLink own index y ∈ z_tbl) (hd : decode cc pc = .ok (.invokevirtual index, 3)) (hb : z_is b0 S b ci) (hst : st = As.reverse ++ .ref b :: rest) (hn : As.length = n) (hsize : ls.size = nL) (hW : (rest.map fun v => v.category).sum ≤ 8) (hR : rm.frames + 1 ≤ R.frames ∧ 8 + (maxL + 11) + rm.locals ≤ R.locals) (hf : cells + rm.cells ≤ R.cells ∧ slots + rm.slots ≤ R.slots)
    (k : z_W p l e R s m args below meth c D b0 S' I' (cells + rm.cells) (slots + rm.slots) Q (F0 m (pc + 3) ls (rv.toList ++ rest))) : z_W p l e R s m args below meth c D b0 S I cells slots Q (F0 m pc ls st) := by
  intro H locs hH hS
  obtain ⟨hx, hbb, hml, hown, hts, -, -, hK⟩ := hC
  have hKn := hK.1.1 ci _ hc.1
  obtain ⟨cell, q1, q2, q3, q4⟩ := z_obj hH hc hb
  refine z_go (av := (Value.ref b :: As).toArray) hH hS (va_runV (Ts := z_tbl) (C := C) ⟨hx, hbb, hml, hown, hts⟩ hM ⟨callB_of n hts (z_gIn hy.1) rfl rfl rfl (hts _ hy.2.1) (hts _ hlink) hy.2.2 hR, hts _ hv.1, hts _ hv.2⟩ ⟨z_blind, ⟨cell, q1, by rw [q3]; rfl, by rw [q2]; exact hKn.2.1⟩, fun U hU hWu => ⟨rfl, by rw [hU]; exact hH, hT, hK.warm hWu⟩⟩ rfl hn hsize hst (lv_room hW) hd hf) k
theorem z_callS (hC : z_C p s m args meth c cc own nL ret D) (hT : z_T b0 S) (hM : z_M l D b0 y cb maxL rt rm As S I rv S' I') (hy : z_y y cb maxL rt n) (hv : Cond.static y ∈ z_tbl) (hlink : Cond.methodLink own index y ∈ z_tbl) (hd : decode cc pc = .ok (.invokestatic index, 3)) (hst : st = As.reverse ++ rest) (hn : As.length = n) (hsize : ls.size = nL) (hW : (rest.map fun v => v.category).sum ≤ 8) (hR : rm.frames + 1 ≤ R.frames ∧ 8 + (maxL + 11) + rm.locals ≤ R.locals) (hf : cells + rm.cells ≤ R.cells ∧ slots + rm.slots ≤ R.slots)
    (k : z_W p l e R s m args below meth c D b0 S' I' (cells + rm.cells) (slots + rm.slots) Q (F0 m (pc + 3) ls (rv.toList ++ rest))) : z_W p l e R s m args below meth c D b0 S I cells slots Q (F0 m pc ls st) := by
  intro H locs hH hS
  obtain ⟨hx, hbb, hml, hown, hts, -, -, hK⟩ := hC
  refine z_go (av := As.toArray) hH hS (va_runS (Ts := z_tbl) ⟨hx, hbb, hml, hown, hts⟩ hM ⟨callB_of n hts (z_gIn hy.1) rfl rfl rfl (hts _ hy.2.1) (hts _ hlink) hy.2.2 hR, hts _ hv⟩ ⟨z_blind, fun U hU hWu => ⟨rfl, by rw [hU]; exact hH, hT, hK.warm hWu⟩⟩ rfl hn hsize hst (lv_room hW) hd hf) k
theorem z_callSN (hC : z_C p s m args meth c cc own nL ret D) (hT : z_T b0 S) {host : String} (hM : z_M l D b0 y cb maxL rt rm As S I rv S' I') (hy : z_y y cb maxL rt n) (hv : Cond.static y ∈ z_tbl) (hlink : Cond.methodLinkNest own index y host ∈ z_nst) (hd : decode cc pc = .ok (.invokestatic index, 3)) (hst : st = As.reverse ++ rest) (hn : As.length = n) (hsize : ls.size = nL) (hW : (rest.map fun v => v.category).sum ≤ 8) (hR : rm.frames + 1 ≤ R.frames ∧ 8 + (maxL + 11) + rm.locals ≤ R.locals) (hf : cells + rm.cells ≤ R.cells ∧ slots + rm.slots ≤ R.slots)
    (k : z_W p l e R s m args below meth c D b0 S' I' (cells + rm.cells) (slots + rm.slots) Q (F0 m (pc + 3) ls (rv.toList ++ rest))) : z_W p l e R s m args below meth c D b0 S I cells slots Q (F0 m pc ls st) := by
  intro H locs hH hS
  obtain ⟨hx, hbb, hml, hown, hts, -, -, hK⟩ := hC
  refine z_go (av := As.toArray) hH hS (va_runSN (Ts := z_tbl) ⟨hx, hbb, hml, hown, hts⟩ hM ⟨va_cnB n hts (z_gIn hy.1) rfl rfl rfl (hK.2.1 _ hlink) (hts _ hy.2.1) hy.2.2 hR, hts _ hv, trivial⟩ ⟨z_blind, fun U hU hWu => ⟨rfl, by rw [hU]; exact hH, hT, hK.warm hWu⟩⟩ rfl hn hsize hst (lv_room hW) hd hf) k
theorem z_callI (hC : z_C p s m args meth c cc own nL ret D) (hT : z_T b0 S) {b : Nat} (hM : z_M l D b0 y cb maxL none rm (.ref b :: As) S I rv S' I') (hy : z_y y cb maxL none n) (hyi : y.name = "<init>") (hv : Cond.instanceMethod y ∈ z_tbl) (hlink : Cond.methodLink own index y ∈ z_tbl) (hd : decode cc pc = .ok (.invokespecial index, 3)) (hst : st = As.reverse ++ .ref b :: rest) (hn : As.length = n) (hsize : ls.size = nL) (hW : (rest.map fun v => v.category).sum ≤ 8) (hR : rm.frames + 1 ≤ R.frames ∧ 8 + (maxL + 11) + rm.locals ≤ R.locals) (hf : cells + rm.cells ≤ R.cells ∧ slots + rm.slots ≤ R.slots)
    (k : z_W p l e R s m args below meth c D b0 S' I' (cells + rm.cells) (slots + rm.slots) Q (F0 m (pc + 3) ls (rv.toList ++ rest))) : z_W p l e R s m args below meth c D b0 S I cells slots Q (F0 m pc ls st) := by
  intro H locs hH hS
  obtain ⟨hx, hbb, hml, hown, hts, -, -, hK⟩ := hC
  refine z_go (av := (Value.ref b :: As).toArray) hH hS (va_runI (Ts := z_tbl) ⟨hx, hbb, hml, hown, hts⟩ hM ⟨callB_of n hts (z_gIn hy.1) rfl rfl rfl (hts _ hy.2.1) (hts _ hlink) hy.2.2 hR, hyi, hts _ hv⟩ ⟨z_blind, fun U hU hWu => ⟨rfl, by rw [hU]; exact hH, hT, hK.warm hWu⟩⟩ rfl hn hsize hst (lv_room hW) hd hf) k
theorem z_callIN (hC : z_C p s m args meth c cc own nL ret D) (hT : z_T b0 S) {b : Nat} {host : String} (hM : z_M l D b0 y cb maxL none rm (.ref b :: As) S I rv S' I') (hy : z_y y cb maxL none n) (hyi : y.name = "<init>") (hv : Cond.instanceMethod y ∈ z_tbl) (hlink : Cond.methodLinkNest own index y host ∈ z_nst) (hd : decode cc pc = .ok (.invokespecial index, 3)) (hst : st = As.reverse ++ .ref b :: rest) (hn : As.length = n) (hsize : ls.size = nL) (hW : (rest.map fun v => v.category).sum ≤ 8) (hR : rm.frames + 1 ≤ R.frames ∧ 8 + (maxL + 11) + rm.locals ≤ R.locals) (hf : cells + rm.cells ≤ R.cells ∧ slots + rm.slots ≤ R.slots)
    (k : z_W p l e R s m args below meth c D b0 S' I' (cells + rm.cells) (slots + rm.slots) Q (F0 m (pc + 3) ls (rv.toList ++ rest))) : z_W p l e R s m args below meth c D b0 S I cells slots Q (F0 m pc ls st) := by
  intro H locs hH hS
  obtain ⟨hx, hbb, hml, hown, hts, -, -, hK⟩ := hC
  refine z_go (av := (Value.ref b :: As).toArray) hH hS (va_runIN (Ts := z_tbl) ⟨hx, hbb, hml, hown, hts⟩ hM ⟨va_cnB n hts (z_gIn hy.1) rfl rfl rfl (hK.2.1 _ hlink) (hts _ hy.2.1) hy.2.2 hR, hyi, hts _ hv⟩ ⟨z_blind, fun U hU hWu => ⟨rfl, by rw [hU]; exact hH, hT, hK.warm hWu⟩⟩ rfl hn hsize hst (lv_room hW) hd hf) k
end ZCALL
theorem z_objInit (hC : z_C p s m args meth c cc own nL ret D) {index : Nat} (hlink : Cond.methodLink own index objectInit ∈ z_tbl) (hinst : Cond.instanceMethod objectInit ∈ z_tbl) (hcode : Cond.code objectInit ⟨#[0xb1]⟩ 1 none ∈ z_tbl) (hd : decode cc pc = .ok (.invokespecial index, 3)) {a : Nat} (hsize : ls.size = nL) (hfr : 1 ≤ R.frames) (hlo : 2 * (F0 m pc ls (.ref a :: rest)).monitorRoom + (rest.map fun v => v.category).sum + 12 ≤ R.locals) (k : z_W p l e R s m args below meth c D b0 S I cells slots Q (F0 m (pc + 3) ls rest)) : z_W p l e R s m args below meth c D b0 S I cells slots Q (F0 m pc ls (.ref a :: rest)) := by
  intro H locs hH hS
  obtain ⟨hx, hbb, hml, hown, hts, -, -, hK⟩ := hC
  exact W.objInit hx hbb hown (hts _ hlink) (hts _ hinst) (hts _ hcode) rfl (by rw [hml]; exact hsize) rfl hd hfr hlo (k H locs hH hS)
theorem z_mmax (hC : z_C p s m args meth c cc own nL ret D) {index : Nat} (hlink : Cond.methodLink own index Lib.Math.max.name ∈ z_tbl) (hst : Cond.static Lib.Math.max.name ∈ z_tbl) (hini : Cond.initialized "java/lang/Math" ∈ z_tbl) (hcode : Cond.code Lib.Math.max.name Lib.Math.max.code 2 (some .int) ∈ z_tbl) (hd : decode cc pc = .ok (.invokestatic index, 3)) (hsize : ls.size = nL) (hfr : 1 ≤ R.frames) (hlo : (rest.map fun v => v.category).sum + 13 ≤ R.locals) (hce : cells ≤ R.cells) (hsl : slots ≤ R.slots) {x y : Int32} (k : z_W p l e R s m args below meth c D b0 S I cells slots Q (F0 m (pc + 3) ls (.int (if x < y then y else x) :: rest))) : z_W p l e R s m args below meth c D b0 S I cells slots Q (F0 m pc ls (.int y :: .int x :: rest)) := by
  intro H locs hH hS
  obtain ⟨hx, hbb, hml, hown, hts, -, -, hK⟩ := hC
  exact va_mmax hx hbb (by rw [hml, hsize]) hown (hts _ hlink) (hts _ hst) (hts _ hini) (hts _ hcode) hfr hlo hce hsl hd (k H locs hH hS)
theorem z_mmin (hC : z_C p s m args meth c cc own nL ret D) {index : Nat} (hlink : Cond.methodLink own index Lib.Math.min.name ∈ z_tbl) (hst : Cond.static Lib.Math.min.name ∈ z_tbl) (hini : Cond.initialized "java/lang/Math" ∈ z_tbl) (hcode : Cond.code Lib.Math.min.name Lib.Math.min.code 2 (some .int) ∈ z_tbl) (hd : decode cc pc = .ok (.invokestatic index, 3)) (hsize : ls.size = nL) (hfr : 1 ≤ R.frames) (hlo : (rest.map fun v => v.category).sum + 13 ≤ R.locals) (hce : cells ≤ R.cells) (hsl : slots ≤ R.slots) {x y : Int32} (k : z_W p l e R s m args below meth c D b0 S I cells slots Q (F0 m (pc + 3) ls (.int (if y < x then y else x) :: rest))) : z_W p l e R s m args below meth c D b0 S I cells slots Q (F0 m pc ls (.int y :: .int x :: rest)) := by
  intro H locs hH hS
  obtain ⟨hx, hbb, hml, hown, hts, -, -, hK⟩ := hC
  exact va_mmin hx hbb (by rw [hml, hsize]) hown (hts _ hlink) (hts _ hst) (hts _ hini) (hts _ hcode) hfr hlo hce hsl hd (k H locs hH hS)
/-! ends and beginnings -/
theorem z_fin {H : Heap} {locs : List Loc} {rv : Option Value} (hK : z_K D s) (hT : z_T b0 S) (hH : z_H D b0 S I H) (hS : va_S (fun q => b0 ≤ q) s.heap H locs) : ∀ t : State, t.heap = H → s.WarmedH t.vm → z_Q D b0 rv S I args s (.returned rv) t := fun t ht hW => ⟨rfl, ⟨by rw [ht]; exact hH, hT, hK.warm hW⟩, hS.F ht⟩
theorem z_iret (hC : z_C p s m args meth c cc own nL (some .int) D) (hT : z_T b0 S) (hd : decode cc pc = .ok (.ireturn, 1)) {v : Int32} {mc ms : Nat} (h1 : cells ≤ mc) (h2 : slots ≤ ms) : z_W p l e R s m args below meth c D b0 S I cells slots (MQ below (z_Q D b0 (some (.int v)) S I) args s mc ms (fun q => b0 ≤ q)) (F0 m pc ls [.int v]) := by
  intro H locs hH hS
  refine W.widen (k := mc) (n := ms) h1 h2 ?_
  exact W.iret (v := v) hC.1 hC.2.1 hC.2.2.2.2.2.1 (z_fin hC.2.2.2.2.2.2.2 hT hH hS) hS.2.2 hd hC.2.2.2.2.2.2.1
theorem z_zret (hC : z_C p s m args meth c cc own nL (some .boolean) D) (hT : z_T b0 S) (hd : decode cc pc = .ok (.ireturn, 1)) {v : Int32} (hv : v = 0 ∨ v = 1) {mc ms : Nat} (h1 : cells ≤ mc) (h2 : slots ≤ ms) : z_W p l e R s m args below meth c D b0 S I cells slots (MQ below (z_Q D b0 (some (.int v)) S I) args s mc ms (fun q => b0 ≤ q)) (F0 m pc ls [.int v]) := by
  intro H locs hH hS
  refine W.widen (k := mc) (n := ms) h1 h2 ?_
  exact W.zret (v := v) (ty := .boolean) hC.1 hC.2.1 hC.2.2.2.2.2.1 (z_bool hv) (z_fin hC.2.2.2.2.2.2.2 hT hH hS) hS.2.2 hd hC.2.2.2.2.2.2.1
theorem z_vret (hC : z_C p s m args meth c cc own nL none D) (hT : z_T b0 S) (hd : decode cc pc = .ok (.return_, 1)) {mc ms : Nat} (h1 : cells ≤ mc) (h2 : slots ≤ ms) : z_W p l e R s m args below meth c D b0 S I cells slots (MQ below (z_Q D b0 none S I) args s mc ms (fun q => b0 ≤ q)) (F0 m pc ls []) := by
  intro H locs hH hS
  refine W.widen (k := mc) (n := ms) h1 h2 ?_
  exact W.vret hC.1 hC.2.1 hC.2.2.2.2.2.1 (z_fin hC.2.2.2.2.2.2.2 hT hH hS) hS.2.2 hd hC.2.2.2.2.2.2.1
theorem z_aret {N : String} (hC : z_C p s m args meth c cc own nL (some (.object N)) D) (hT : z_T b0 S) (hd : decode cc pc = .ok (.areturn, 1)) {o : Option Nat} {mc ms : Nat} (h1 : cells ≤ mc) (h2 : slots ≤ ms) : z_W p l e R s m args below meth c D b0 S I cells slots (MQ below (z_Q D b0 (some (va_rf o)) S I) args s mc ms (fun q => b0 ≤ q)) (F0 m pc ls [va_rf o]) := by
  intro H locs hH hS
  refine W.widen (k := mc) (n := ms) h1 h2 ?_
  exact W.aret (v := va_rf o) hC.1 hC.2.1 hC.2.2.2.2.2.1 (Or.inl ⟨_, rfl⟩) (va_rf_or o) (z_fin hC.2.2.2.2.2.2.2 hT hH hS) hS.2.2 hd hC.2.2.2.2.2.2.1
theorem z_met {y : MethodName} {rm : Room} {av : List Value} {rv : Option Value} {S' : zS} {I' : zI} (hy : plainName y.cls = true) (hlen : (lg_sl av).length ≤ nL) (body : ∀ (p : Program) (e : Env) (s : State) (m : MethodId) (below : List Frame) (meth : Method) (c : Code), z_C p s m av.toArray meth c cc y.cls nL ret D → meth.name = y.name → z_T b0 S → ∀ ls : Array Slot, lv_has ls nL (lv_args 0 av) → z_W p l e rm s m av.toArray below meth c D b0 S I 0 0 (MQ below (z_Q D b0 rv S' I') av.toArray s rm.cells rm.slots (fun q => b0 ≤ q)) (F0 m 0 ls [])) : z_M l D b0 y cc nL ret rm av S I rv S' I' := by
  refine Met.ofW (cc := cc) (maxL := nL) (ret := ret) hy rfl ?_
  intro p e s m args below meth c s₁ B hml hv
  obtain ⟨rfl, hH, hT, hK⟩ := hv
  have hts := atoms_spec (ws := Cond.code y cc nL ret :: z_tbl) B.pre
  have hC : z_C p s m av.toArray meth c cc y.cls nL ret D := ⟨B.exec, B.bytes, hml, findClass_of_methodNamed B.named, fun w hw => hts w (List.mem_cons_of_mem _ hw), B.returns, B.notSynchronized, hK⟩
  rw [lg_entry_eq]
  exact body p e s m below meth c hC (name_of_methodNamed B.named B.method).1 hT _ (lv_entry av hlen) s.heap [] hH va_S.rf
theorem ifn_some {α : Type} {c : Prop} [Decidable c] {K : Option α} {x : α} (h : (if c then none else K) = some x) : ¬ c ∧ K = some x := by
  by_cases hc : c
  · rw [if_pos hc] at h; cases h
  · rw [if_neg hc] at h; exact ⟨hc, h⟩
theorem ifp_some {α : Type} {c : Prop} [Decidable c] {K : Option α} {x : α} (h : (if c then K else none) = some x) : c ∧ K = some x := by
  by_cases hc : c
  · rw [if_pos hc] at h; exact ⟨hc, h⟩
  · rw [if_neg hc] at h; cases h
def ob2 {α β : Type} (o : Option α) (a : Option β) (k : α → Option β) : Option β := match o with | none => a | some x => k x
theorem ob2_some {α β : Type} {o : Option α} {a : Option β} {k : α → Option β} {x : β} (h : ob2 o a k = some x) : (o = none ∧ a = some x) ∨ ∃ y, o = some y ∧ k y = some x := by
  cases o with
  | none => exact Or.inl ⟨rfl, h⟩
  | some y => exact Or.inr ⟨y, rfl, h⟩
theorem ob2_none {α β : Type} {a : Option β} {k : α → Option β} : ob2 (none : Option α) a k = a := rfl
theorem ob2_mk {α β : Type} {o : Option α} {a : Option β} {k : α → Option β} {y : α} (h : o = some y) : ob2 o a k = k y := by rw [h]; rfl
theorem z_out {x : Int32} {lo hi : Int} (h : ∀ k : Int, lo ≤ k → k ≤ hi → ¬ x.toInt = k) : x.toInt < lo ∨ hi < x.toInt := by
  by_cases h1 : x.toInt < lo
  · exact Or.inl h1
  · by_cases h2 : hi < x.toInt
    · exact Or.inr h2
    · exact absurd rfl (h x.toInt (by omega) (by omega))
theorem z_tabIn (hC : z_C p s m args meth c cc own nL ret D) {dflt lo hi : Int} {offs : Array Int} {len : Nat} {x : Int32} {off : Int} {tgt : Nat} (hd : decode cc pc = .ok (.tableswitch dflt lo hi offs, len)) (h1 : ¬ x.toInt < lo) (h2 : ¬ hi < x.toInt) (ho : offs[(x.toInt - lo).toNat]? = some off) (ht : (pc : Int) + off = (tgt : Int)) (k : z_W p l e R s m args below meth c D b0 S I cells slots Q (F0 m tgt ls rest)) : z_W p l e R s m args below meth c D b0 S I cells slots Q (F0 m pc ls (.int x :: rest)) := fun H locs hH hS => lv_tableIn hC.1 hC.2.1 hd h1 h2 ho ht (k H locs hH hS)
theorem z_tabOut (hC : z_C p s m args meth c cc own nL ret D) {dflt lo hi : Int} {offs : Array Int} {len : Nat} {x : Int32} {tgt : Nat} (hd : decode cc pc = .ok (.tableswitch dflt lo hi offs, len)) (h : x.toInt < lo ∨ hi < x.toInt) (ht : (pc : Int) + dflt = (tgt : Int)) (k : z_W p l e R s m args below meth c D b0 S I cells slots Q (F0 m tgt ls rest)) : z_W p l e R s m args below meth c D b0 S I cells slots Q (F0 m pc ls (.int x :: rest)) := fun H locs hH hS => lv_tableOut hC.1 hC.2.1 hd h ht (k H locs hH hS)
theorem z_copy (hC : z_C p s m args meth c cc own nL ret D) {index : Nat} (hlink : Cond.methodLink own index arraycopyName ∈ z_tbl) (hnat : Cond.native arraycopyName ∈ z_tbl) (hstat : Cond.static arraycopyName ∈ z_tbl) (hini : Cond.initialized "java/lang/System" ∈ z_tbl) (hd : decode cc pc = .ok (.invokestatic index, 3)) (hsize : ls.size = nL) {a b : Nat} (ha : z_is b0 S a 10) (hb : z_is b0 S b 10) {sp dp n : Int32} (h1 : ¬ (sp < 0 ∨ dp < 0 ∨ n < 0 ∨ (S.2.1 a).2 < sp.toNatClampNeg + n.toNatClampNeg ∨ (S.2.1 b).2 < dp.toNatClampNeg + n.toNatClampNeg)) (hfr : 1 ≤ R.frames) (hlo : (rest.map fun v => v.category).sum + (nativeFrameWords "java/lang/System" "arraycopy" 5 + 11) ≤ R.locals)
    (k : z_W p l e R s m args below meth c D b0 S (z_cpy I a sp.toNatClampNeg b dp.toNatClampNeg n.toNatClampNeg) cells slots Q (F0 m (pc + 3) ls rest)) : z_W p l e R s m args below meth c D b0 S I cells slots Q (F0 m pc ls (.int n :: .int dp :: .ref b :: .int sp :: .ref a :: rest)) := by
  intro H locs hH hS T hT X
  obtain ⟨hx, hbb, hml, hown, hts, -, -, hK⟩ := hC
  have hc0 := z_arrI hH ha (by decide) (by decide)
  have hc1 := z_arrI hH hb (by decide) (by decide)
  have nn : ∀ z : Int32, ¬ z < 0 → z.toInt = (z.toNatClampNeg : Int) := by
    intro z hz
    have hz0 : (0 : Int) ≤ z.toInt := by simpa using Int32.le_iff_toInt_le.mp (Int32.not_lt.mp hz)
    show z.toInt = ((z.toInt.toNat : Nat) : Int)
    omega
  have p1 : ¬ sp < 0 := fun q => h1 (Or.inl q)
  have p2 : ¬ dp < 0 := fun q => h1 (Or.inr (Or.inl q))
  have p3 : ¬ n < 0 := fun q => h1 (Or.inr (Or.inr (Or.inl q)))
  have p4 : sp.toNatClampNeg + n.toNatClampNeg ≤ (S.2.1 a).2 := Nat.not_lt.mp fun q => h1 (Or.inr (Or.inr (Or.inr (Or.inl q))))
  have p5 : dp.toNatClampNeg + n.toNatClampNeg ≤ (S.2.1 b).2 := Nat.not_lt.mp fun q => h1 (Or.inr (Or.inr (Or.inr (Or.inr q))))
  obtain ⟨-, k0, hk0, cm0, hkk0⟩ := (z_ofI hK.1 10 rfl) (S.2.1 a).2 (fun j => .int (I a j))
  obtain ⟨-, k1, hk1, cm1, hkk1⟩ := (z_ofI hK.1 10 rfl) (S.2.1 b).2 (fun j => .int (I b j))
  obtain ⟨vm', X', step⟩ := X.arraycopy hx hown (hts _ hlink) (hts _ hnat) (hts _ hstat) (hts _ hini) (src := a) (dst := b) (cs := arrV (D.2 10) (S.2.1 a).2 (fun j => .int (I a j))) (cd := arrV (D.2 10) (S.2.1 b).2 (fun j => .int (I b j))) (srcPos := sp) (destPos := dp) (n := n) (by rw [hT]; exact hc0) (by rw [hT]; exact hc1)
    (fun _ h => by cases h) (fun _ h => by cases h) (fun h => by cases h) (fun h => by cases h) hk0 hk1 hkk0 hkk1 (by simp [refKind]) p1 p2 p3
    (by rw [nn sp p1, nn n p3, arrV_size]; omega) (by rw [nn dp p2, nn n p3, arrV_size]; omega)
    (fun vm₁ _ i hi => by
      have e : (arrV (D.2 10) (S.2.1 a).2 (fun j => Value.int (I a j))).slots.getD (sp.toNatClampNeg + i) .null = .int (I a (sp.toNatClampNeg + i)) := by
        rw [Array.getD_eq_getD_getElem?, arrV_read _ _ (by omega)]
        rfl
      rw [e]
      exact ⟨rfl, trivial⟩)
    (g := F0 m pc ls (.int n :: .int dp :: .ref b :: .int sp :: .ref a :: rest)) rfl (by rw [hml]; exact hsize) (rest := rest) rfl (by rw [hbb]; exact hd) hfr (by show 2 * 0 + _ + _ ≤ _; omega)
  have e1 : copied (arrV (D.2 10) (S.2.1 a).2 (fun j => .int (I a j))) (arrV (D.2 10) (S.2.1 b).2 (fun j => .int (I b j))) sp dp n = arrV (D.2 10) (S.2.1 b).2 (fun j => .int (va_cpy (I a) (I b) sp.toNatClampNeg dp.toNatClampNeg n.toNatClampNeg j)) := va_copied (fun z => .int z) _ _ (I a) (I b) p4
  rw [e1] at X' step
  have hl : b < H.size := (Array.getElem?_eq_some_iff.mp hc1).1
  generalize hcell : arrV (D.2 10) (S.2.1 b).2 (fun j => Value.int (va_cpy (I a) (I b) sp.toNatClampNeg dp.toNatClampNeg n.toNatClampNeg j)) = cell at X' step
  have hheap : ((T.setVm vm').setCell b cell).heap = H.setIfInBounds b cell := by rw [← hT]; rfl
  have oq : ∀ q : Nat, q ≠ b → (H.setIfInBounds b cell)[q]? = H[q]? := fun q hq => by simp [Array.getElem?_setIfInBounds, Ne.symm hq]
  have ec : (H.setIfInBounds b cell)[b]? = some cell := by simp [Array.getElem?_setIfInBounds, hl]
  have eI : z_cpy I a sp.toNatClampNeg b dp.toNatClampNeg n.toNatClampNeg b = va_cpy (I a) (I b) sp.toNatClampNeg dp.toNatClampNeg n.toNatClampNeg := by funext j; simp [z_cpy]
  obtain ⟨t, a1, b1⟩ := k _ _ (hH.set (a := b) (H1 := H.setIfInBounds b cell) (by simp) oq rfl (fun q hq => by funext j; simp [z_cpy, hq]) (fun _ _ => rfl) ⟨fun g => absurd g (by rw [hb.2.2]; decide), fun _ _ => by rw [hb.2.2, eI, ec, ← hcell], fun g => absurd g (by rw [hb.2.2]; decide)⟩) ⟨by simp; exact hS.1, fun q g1 g2 => by
      rw [oq q (fun e => g2 (by rw [e]; exact hb.1))]
      exact hS.2.1 q g1 g2, fun q hq => by
      rcases List.mem_append.mp hq with h | h
      · exact hS.2.2 q h
      · obtain ⟨z, -, hz⟩ := List.mem_map.mp h
        rw [← hz]
        exact hb.1⟩ _ hheap X'
  exact ⟨t, step t a1, b1⟩
theorem z_ofT {x v : Int32} {k : Int} (h : x.toInt = k) (hv : v.toInt = k) : x = v := Int32.toInt_inj.mp (h.trans hv.symm)

end ZR
