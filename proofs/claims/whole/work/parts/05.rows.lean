section ZR
variable {p : Program} {l : Launch} {e : Env} {R : Room} {s : State} {m : MethodId} {args : Array Value} {below : List Frame} {meth : Method} {c : Code} {cells slots : Nat} {Q : State → Prop}
variable {cc : ByteArray} {own : String} {nL : Nat} {ret : Option FieldType} {D : zD} {b0 : Nat} {S : zS} {I : zI} {pc : Nat} {ls : Array Slot} {rest : List Value}

theorem z_iconst (hC : z_C p s m args meth c cc own nL ret D) {n : Int} {v : Int32} (hd : decode cc pc = .ok (.iconst n, 1)) (hv : Int32.ofInt n = v) (k : z_W p l e R s m args below meth c D b0 S I cells slots Q (F0 m (pc + 1) ls (.int v :: rest))) : z_W p l e R s m args below meth c D b0 S I cells slots Q (F0 m pc ls (rest)) := fun H locs hH hS => lv_iconst hC.1 hC.2.1 hd hv (k H locs hH hS)
theorem z_bipush (hC : z_C p s m args meth c cc own nL ret D) {n : Int} {v : Int32} (hd : decode cc pc = .ok (.bipush n, 2)) (hv : (Int8.ofInt n).toInt32 = v) (k : z_W p l e R s m args below meth c D b0 S I cells slots Q (F0 m (pc + 2) ls (.int v :: rest))) : z_W p l e R s m args below meth c D b0 S I cells slots Q (F0 m pc ls (rest)) := fun H locs hH hS => lv_bipush hC.1 hC.2.1 hd hv (k H locs hH hS)
theorem z_sipush (hC : z_C p s m args meth c cc own nL ret D) {n : Int} {v : Int32} (hd : decode cc pc = .ok (.sipush n, 3)) (hv : (Int16.ofInt n).toInt32 = v) (k : z_W p l e R s m args below meth c D b0 S I cells slots Q (F0 m (pc + 3) ls (.int v :: rest))) : z_W p l e R s m args below meth c D b0 S I cells slots Q (F0 m pc ls (rest)) := fun H locs hH hS => lv_sipush hC.1 hC.2.1 hd hv (k H locs hH hS)
theorem z_iload_n (hC : z_C p s m args meth c cc own nL ret D) {k0 : Fin 4} {i : Nat} {x : Int32} (hd : decode cc pc = .ok (.iload_n k0, 1)) (hi : (k0 : Nat) = i) (hl : ls[i]? = some (.val (.int x))) (k : z_W p l e R s m args below meth c D b0 S I cells slots Q (F0 m (pc + 1) ls (.int x :: rest))) : z_W p l e R s m args below meth c D b0 S I cells slots Q (F0 m pc ls (rest)) := fun H locs hH hS => lv_iload_n hC.1 hC.2.1 hd hi hl (k H locs hH hS)
theorem z_iload (hC : z_C p s m args meth c cc own nL ret D) {i : Nat} {x : Int32} (hd : decode cc pc = .ok (.iload i, 2)) (hl : ls[i]? = some (.val (.int x))) (k : z_W p l e R s m args below meth c D b0 S I cells slots Q (F0 m (pc + 2) ls (.int x :: rest))) : z_W p l e R s m args below meth c D b0 S I cells slots Q (F0 m pc ls (rest)) := fun H locs hH hS => lv_iload hC.1 hC.2.1 hd hl (k H locs hH hS)
theorem z_aload_n (hC : z_C p s m args meth c cc own nL ret D) {k0 : Fin 4} {i : Nat} {x : Nat} (hd : decode cc pc = .ok (.aload_n k0, 1)) (hi : (k0 : Nat) = i) (hl : ls[i]? = some (.val (.ref x))) (k : z_W p l e R s m args below meth c D b0 S I cells slots Q (F0 m (pc + 1) ls (.ref x :: rest))) : z_W p l e R s m args below meth c D b0 S I cells slots Q (F0 m pc ls (rest)) := fun H locs hH hS => lv_aload_n hC.1 hC.2.1 hd hi hl (k H locs hH hS)
theorem z_aload (hC : z_C p s m args meth c cc own nL ret D) {i : Nat} {x : Nat} (hd : decode cc pc = .ok (.aload i, 2)) (hl : ls[i]? = some (.val (.ref x))) (k : z_W p l e R s m args below meth c D b0 S I cells slots Q (F0 m (pc + 2) ls (.ref x :: rest))) : z_W p l e R s m args below meth c D b0 S I cells slots Q (F0 m pc ls (rest)) := fun H locs hH hS => lv_aload hC.1 hC.2.1 hd hl (k H locs hH hS)
theorem z_aload_nN (hC : z_C p s m args meth c cc own nL ret D) {k0 : Fin 4} {i : Nat} (hd : decode cc pc = .ok (.aload_n k0, 1)) (hi : (k0 : Nat) = i) (hl : ls[i]? = some (.val .null)) (k : z_W p l e R s m args below meth c D b0 S I cells slots Q (F0 m (pc + 1) ls (.null :: rest))) : z_W p l e R s m args below meth c D b0 S I cells slots Q (F0 m pc ls (rest)) := fun H locs hH hS => lv_aload_nN hC.1 hC.2.1 hd hi hl (k H locs hH hS)
theorem z_aloadN (hC : z_C p s m args meth c cc own nL ret D) {i : Nat} (hd : decode cc pc = .ok (.aload i, 2)) (hl : ls[i]? = some (.val .null)) (k : z_W p l e R s m args below meth c D b0 S I cells slots Q (F0 m (pc + 2) ls (.null :: rest))) : z_W p l e R s m args below meth c D b0 S I cells slots Q (F0 m pc ls (rest)) := fun H locs hH hS => lv_aloadN hC.1 hC.2.1 hd hl (k H locs hH hS)
theorem z_istore_n (hC : z_C p s m args meth c cc own nL ret D) {k0 : Fin 4} {i nM : Nat} {x : Int32} {lv lv' : List (Nat × Value)} (hd : decode cc pc = .ok (.istore_n k0, 1)) (hi : (k0 : Nat) = i) (h : lv_has ls nM lv) (hn : i < nM) (hl : (i, Value.int x) :: lv.filter (fun q => !(q.1 == i) && !(q.1 + 1 == i && q.2.category == 2)) = lv') (k : ∀ ls' : Array Slot, lv_has ls' nM lv' → z_W p l e R s m args below meth c D b0 S I cells slots Q (F0 m (pc + 1) ls' rest)) : z_W p l e R s m args below meth c D b0 S I cells slots Q (F0 m pc ls (.int x :: rest)) := fun H locs hH hS => lv_istore_n hC.1 hC.2.1 hd hi h hn hl (fun ls' h' => k ls' h' H locs hH hS)
theorem z_istore (hC : z_C p s m args meth c cc own nL ret D) {i nM : Nat} {x : Int32} {lv lv' : List (Nat × Value)} (hd : decode cc pc = .ok (.istore i, 2)) (h : lv_has ls nM lv) (hn : i < nM) (hl : (i, Value.int x) :: lv.filter (fun q => !(q.1 == i) && !(q.1 + 1 == i && q.2.category == 2)) = lv') (k : ∀ ls' : Array Slot, lv_has ls' nM lv' → z_W p l e R s m args below meth c D b0 S I cells slots Q (F0 m (pc + 2) ls' rest)) : z_W p l e R s m args below meth c D b0 S I cells slots Q (F0 m pc ls (.int x :: rest)) := fun H locs hH hS => lv_istore hC.1 hC.2.1 hd h hn hl (fun ls' h' => k ls' h' H locs hH hS)
theorem z_astore_n (hC : z_C p s m args meth c cc own nL ret D) {k0 : Fin 4} {i nM : Nat} {x : Nat} {lv lv' : List (Nat × Value)} (hd : decode cc pc = .ok (.astore_n k0, 1)) (hi : (k0 : Nat) = i) (h : lv_has ls nM lv) (hn : i < nM) (hl : (i, Value.ref x) :: lv.filter (fun q => !(q.1 == i) && !(q.1 + 1 == i && q.2.category == 2)) = lv') (k : ∀ ls' : Array Slot, lv_has ls' nM lv' → z_W p l e R s m args below meth c D b0 S I cells slots Q (F0 m (pc + 1) ls' rest)) : z_W p l e R s m args below meth c D b0 S I cells slots Q (F0 m pc ls (.ref x :: rest)) := fun H locs hH hS => lv_astore_n hC.1 hC.2.1 hd hi h hn hl (fun ls' h' => k ls' h' H locs hH hS)
theorem z_astore (hC : z_C p s m args meth c cc own nL ret D) {i nM : Nat} {x : Nat} {lv lv' : List (Nat × Value)} (hd : decode cc pc = .ok (.astore i, 2)) (h : lv_has ls nM lv) (hn : i < nM) (hl : (i, Value.ref x) :: lv.filter (fun q => !(q.1 == i) && !(q.1 + 1 == i && q.2.category == 2)) = lv') (k : ∀ ls' : Array Slot, lv_has ls' nM lv' → z_W p l e R s m args below meth c D b0 S I cells slots Q (F0 m (pc + 2) ls' rest)) : z_W p l e R s m args below meth c D b0 S I cells slots Q (F0 m pc ls (.ref x :: rest)) := fun H locs hH hS => lv_astore hC.1 hC.2.1 hd h hn hl (fun ls' h' => k ls' h' H locs hH hS)
theorem z_astore_nN (hC : z_C p s m args meth c cc own nL ret D) {k0 : Fin 4} {i nM : Nat} {lv lv' : List (Nat × Value)} (hd : decode cc pc = .ok (.astore_n k0, 1)) (hi : (k0 : Nat) = i) (h : lv_has ls nM lv) (hn : i < nM) (hl : (i, Value.null) :: lv.filter (fun q => !(q.1 == i) && !(q.1 + 1 == i && q.2.category == 2)) = lv') (k : ∀ ls' : Array Slot, lv_has ls' nM lv' → z_W p l e R s m args below meth c D b0 S I cells slots Q (F0 m (pc + 1) ls' rest)) : z_W p l e R s m args below meth c D b0 S I cells slots Q (F0 m pc ls (.null :: rest)) := fun H locs hH hS => lv_astore_nN hC.1 hC.2.1 hd hi h hn hl (fun ls' h' => k ls' h' H locs hH hS)
theorem z_astoreN (hC : z_C p s m args meth c cc own nL ret D) {i nM : Nat} {lv lv' : List (Nat × Value)} (hd : decode cc pc = .ok (.astore i, 2)) (h : lv_has ls nM lv) (hn : i < nM) (hl : (i, Value.null) :: lv.filter (fun q => !(q.1 == i) && !(q.1 + 1 == i && q.2.category == 2)) = lv') (k : ∀ ls' : Array Slot, lv_has ls' nM lv' → z_W p l e R s m args below meth c D b0 S I cells slots Q (F0 m (pc + 2) ls' rest)) : z_W p l e R s m args below meth c D b0 S I cells slots Q (F0 m pc ls (.null :: rest)) := fun H locs hH hS => lv_astoreN hC.1 hC.2.1 hd h hn hl (fun ls' h' => k ls' h' H locs hH hS)
theorem z_iinc (hC : z_C p s m args meth c cc own nL ret D) {i nM k0 : Nat} {n : Int} {x v : Int32} {lv lv' : List (Nat × Value)} (hd : decode cc pc = .ok (.iinc i n, 3)) (h : lv_has ls nM lv) (hk : lv[k0]? = some (i, .int x)) (hv : x + Int32.ofInt n = v) (hn : i < nM) (hl : (i, Value.int v) :: lv.filter (fun q => !(q.1 == i) && !(q.1 + 1 == i && q.2.category == 2)) = lv') (k : ∀ ls' : Array Slot, lv_has ls' nM lv' → z_W p l e R s m args below meth c D b0 S I cells slots Q (F0 m (pc + 3) ls' rest)) : z_W p l e R s m args below meth c D b0 S I cells slots Q (F0 m pc ls rest) := fun H locs hH hS => lv_iinc hC.1 hC.2.1 hd h hk hv hn hl (fun ls' h' => k ls' h' H locs hH hS)
theorem z_iadd (hC : z_C p s m args meth c cc own nL ret D) {x y : Int32} (hd : decode cc pc = .ok (.iadd, 1))  (k : z_W p l e R s m args below meth c D b0 S I cells slots Q (F0 m (pc + 1) ls (.int (x + y) :: rest))) : z_W p l e R s m args below meth c D b0 S I cells slots Q (F0 m pc ls (.int y :: .int x :: rest)) := fun H locs hH hS => lv_iadd hC.1 hC.2.1 hd  (k H locs hH hS)
theorem z_isub (hC : z_C p s m args meth c cc own nL ret D) {x y : Int32} (hd : decode cc pc = .ok (.isub, 1))  (k : z_W p l e R s m args below meth c D b0 S I cells slots Q (F0 m (pc + 1) ls (.int (x - y) :: rest))) : z_W p l e R s m args below meth c D b0 S I cells slots Q (F0 m pc ls (.int y :: .int x :: rest)) := fun H locs hH hS => lv_isub hC.1 hC.2.1 hd  (k H locs hH hS)
theorem z_imul (hC : z_C p s m args meth c cc own nL ret D) {x y : Int32} (hd : decode cc pc = .ok (.imul, 1))  (k : z_W p l e R s m args below meth c D b0 S I cells slots Q (F0 m (pc + 1) ls (.int (x * y) :: rest))) : z_W p l e R s m args below meth c D b0 S I cells slots Q (F0 m pc ls (.int y :: .int x :: rest)) := fun H locs hH hS => lv_imul hC.1 hC.2.1 hd  (k H locs hH hS)
theorem z_iand (hC : z_C p s m args meth c cc own nL ret D) {x y : Int32} (hd : decode cc pc = .ok (.iand, 1))  (k : z_W p l e R s m args below meth c D b0 S I cells slots Q (F0 m (pc + 1) ls (.int (x &&& y) :: rest))) : z_W p l e R s m args below meth c D b0 S I cells slots Q (F0 m pc ls (.int y :: .int x :: rest)) := fun H locs hH hS => lv_iand hC.1 hC.2.1 hd  (k H locs hH hS)
theorem z_ior (hC : z_C p s m args meth c cc own nL ret D) {x y : Int32} (hd : decode cc pc = .ok (.ior, 1))  (k : z_W p l e R s m args below meth c D b0 S I cells slots Q (F0 m (pc + 1) ls (.int (x ||| y) :: rest))) : z_W p l e R s m args below meth c D b0 S I cells slots Q (F0 m pc ls (.int y :: .int x :: rest)) := fun H locs hH hS => lv_ior hC.1 hC.2.1 hd  (k H locs hH hS)
theorem z_ishl (hC : z_C p s m args meth c cc own nL ret D) {x y : Int32} (hd : decode cc pc = .ok (.ishl, 1))  (k : z_W p l e R s m args below meth c D b0 S I cells slots Q (F0 m (pc + 1) ls (.int (x <<< (y &&& 31)) :: rest))) : z_W p l e R s m args below meth c D b0 S I cells slots Q (F0 m pc ls (.int y :: .int x :: rest)) := fun H locs hH hS => lv_ishl hC.1 hC.2.1 hd  (k H locs hH hS)
theorem z_irem (hC : z_C p s m args meth c cc own nL ret D) {x y : Int32} (hd : decode cc pc = .ok (.irem, 1)) (hne : ¬ y = 0) (k : z_W p l e R s m args below meth c D b0 S I cells slots Q (F0 m (pc + 1) ls (.int (x - x / y * y) :: rest))) : z_W p l e R s m args below meth c D b0 S I cells slots Q (F0 m pc ls (.int y :: .int x :: rest)) := fun H locs hH hS => lv_irem hC.1 hC.2.1 hd hne (k H locs hH hS)
theorem z_dup (hC : z_C p s m args meth c cc own nL ret D) {va : Value} (hd : decode cc pc = .ok (.dup, 1)) (hva : va.category = 1) (k : z_W p l e R s m args below meth c D b0 S I cells slots Q (F0 m (pc + 1) ls (va :: va :: rest))) : z_W p l e R s m args below meth c D b0 S I cells slots Q (F0 m pc ls (va :: rest)) := fun H locs hH hS => lv_dup hC.1 hC.2.1 hd hva (k H locs hH hS)
theorem z_pop (hC : z_C p s m args meth c cc own nL ret D) {va : Value} (hd : decode cc pc = .ok (.pop, 1)) (hva : va.category = 1) (k : z_W p l e R s m args below meth c D b0 S I cells slots Q (F0 m (pc + 1) ls (rest))) : z_W p l e R s m args below meth c D b0 S I cells slots Q (F0 m pc ls (va :: rest)) := fun H locs hH hS => lv_pop hC.1 hC.2.1 hd hva (k H locs hH hS)
theorem z_dup2 (hC : z_C p s m args meth c cc own nL ret D) {va vb : Value} (hd : decode cc pc = .ok (.dup2, 1)) (hva : va.category = 1) (hvb : vb.category = 1) (k : z_W p l e R s m args below meth c D b0 S I cells slots Q (F0 m (pc + 1) ls (va :: vb :: va :: vb :: rest))) : z_W p l e R s m args below meth c D b0 S I cells slots Q (F0 m pc ls (va :: vb :: rest)) := fun H locs hH hS => lv_dup2_11 hC.1 hC.2.1 hd hva hvb (k H locs hH hS)
theorem z_if_eq (hC : z_C p s m args meth c cc own nL ret D) {β : Type} {A B : Option β} {X : β} {x : Int32} {off : Int} {tgt : Nat} (hd : decode cc pc = .ok (.ifCond .eq off, 3)) (ht : (pc : Int) + off = (tgt : Int)) (hz : (if x = 0 then A else B) = some X) (kt : A = some X → z_W p l e R s m args below meth c D b0 S I cells slots Q (F0 m tgt ls rest)) (kf : B = some X → z_W p l e R s m args below meth c D b0 S I cells slots Q (F0 m (pc + 3) ls rest)) : z_W p l e R s m args below meth c D b0 S I cells slots Q (F0 m pc ls (.int x :: rest)) := by
  intro H locs hH hS
  refine lv_if_eq hC.1 hC.2.1 hd ht (fun h => ?_) (fun h => ?_)
  · exact kt (by rw [if_pos h] at hz; exact hz) H locs hH hS
  · exact kf (by rw [if_neg h] at hz; exact hz) H locs hH hS
theorem z_if_ne (hC : z_C p s m args meth c cc own nL ret D) {β : Type} {A B : Option β} {X : β} {x : Int32} {off : Int} {tgt : Nat} (hd : decode cc pc = .ok (.ifCond .ne off, 3)) (ht : (pc : Int) + off = (tgt : Int)) (hz : (if x = 0 then B else A) = some X) (kt : A = some X → z_W p l e R s m args below meth c D b0 S I cells slots Q (F0 m tgt ls rest)) (kf : B = some X → z_W p l e R s m args below meth c D b0 S I cells slots Q (F0 m (pc + 3) ls rest)) : z_W p l e R s m args below meth c D b0 S I cells slots Q (F0 m pc ls (.int x :: rest)) := by
  intro H locs hH hS
  refine lv_if_ne hC.1 hC.2.1 hd ht (fun h => ?_) (fun h => ?_)
  · exact kt (by rw [if_neg h] at hz; exact hz) H locs hH hS
  · exact kf (by rw [if_pos h] at hz; exact hz) H locs hH hS
theorem z_if_lt (hC : z_C p s m args meth c cc own nL ret D) {β : Type} {A B : Option β} {X : β} {x : Int32} {off : Int} {tgt : Nat} (hd : decode cc pc = .ok (.ifCond .lt off, 3)) (ht : (pc : Int) + off = (tgt : Int)) (hz : (if x < 0 then A else B) = some X) (kt : A = some X → z_W p l e R s m args below meth c D b0 S I cells slots Q (F0 m tgt ls rest)) (kf : B = some X → z_W p l e R s m args below meth c D b0 S I cells slots Q (F0 m (pc + 3) ls rest)) : z_W p l e R s m args below meth c D b0 S I cells slots Q (F0 m pc ls (.int x :: rest)) := by
  intro H locs hH hS
  refine lv_if_lt hC.1 hC.2.1 hd ht (fun h => ?_) (fun h => ?_)
  · exact kt (by rw [if_pos h] at hz; exact hz) H locs hH hS
  · exact kf (by rw [if_neg h] at hz; exact hz) H locs hH hS
theorem z_if_ge (hC : z_C p s m args meth c cc own nL ret D) {β : Type} {A B : Option β} {X : β} {x : Int32} {off : Int} {tgt : Nat} (hd : decode cc pc = .ok (.ifCond .ge off, 3)) (ht : (pc : Int) + off = (tgt : Int)) (hz : (if x < 0 then B else A) = some X) (kt : A = some X → z_W p l e R s m args below meth c D b0 S I cells slots Q (F0 m tgt ls rest)) (kf : B = some X → z_W p l e R s m args below meth c D b0 S I cells slots Q (F0 m (pc + 3) ls rest)) : z_W p l e R s m args below meth c D b0 S I cells slots Q (F0 m pc ls (.int x :: rest)) := by
  intro H locs hH hS
  refine lv_if_ge hC.1 hC.2.1 hd ht (fun h => ?_) (fun h => ?_)
  · exact kt (by rw [if_neg (Int32.not_lt.mpr h)] at hz; exact hz) H locs hH hS
  · exact kf (by rw [if_pos (Int32.not_le.mp h)] at hz; exact hz) H locs hH hS
theorem z_if_gt (hC : z_C p s m args meth c cc own nL ret D) {β : Type} {A B : Option β} {X : β} {x : Int32} {off : Int} {tgt : Nat} (hd : decode cc pc = .ok (.ifCond .gt off, 3)) (ht : (pc : Int) + off = (tgt : Int)) (hz : (if 0 < x then A else B) = some X) (kt : A = some X → z_W p l e R s m args below meth c D b0 S I cells slots Q (F0 m tgt ls rest)) (kf : B = some X → z_W p l e R s m args below meth c D b0 S I cells slots Q (F0 m (pc + 3) ls rest)) : z_W p l e R s m args below meth c D b0 S I cells slots Q (F0 m pc ls (.int x :: rest)) := by
  intro H locs hH hS
  refine lv_if_gt hC.1 hC.2.1 hd ht (fun h => ?_) (fun h => ?_)
  · exact kt (by rw [if_pos h] at hz; exact hz) H locs hH hS
  · exact kf (by rw [if_neg h] at hz; exact hz) H locs hH hS
theorem z_if_le (hC : z_C p s m args meth c cc own nL ret D) {β : Type} {A B : Option β} {X : β} {x : Int32} {off : Int} {tgt : Nat} (hd : decode cc pc = .ok (.ifCond .le off, 3)) (ht : (pc : Int) + off = (tgt : Int)) (hz : (if 0 < x then B else A) = some X) (kt : A = some X → z_W p l e R s m args below meth c D b0 S I cells slots Q (F0 m tgt ls rest)) (kf : B = some X → z_W p l e R s m args below meth c D b0 S I cells slots Q (F0 m (pc + 3) ls rest)) : z_W p l e R s m args below meth c D b0 S I cells slots Q (F0 m pc ls (.int x :: rest)) := by
  intro H locs hH hS
  refine lv_if_le hC.1 hC.2.1 hd ht (fun h => ?_) (fun h => ?_)
  · exact kt (by rw [if_neg (Int32.not_lt.mpr h)] at hz; exact hz) H locs hH hS
  · exact kf (by rw [if_pos (Int32.not_le.mp h)] at hz; exact hz) H locs hH hS
theorem z_icmp_eq (hC : z_C p s m args meth c cc own nL ret D) {β : Type} {A B : Option β} {X : β} {x y : Int32} {off : Int} {tgt : Nat} (hd : decode cc pc = .ok (.if_icmp .eq off, 3)) (ht : (pc : Int) + off = (tgt : Int)) (hz : (if x = y then A else B) = some X) (kt : A = some X → z_W p l e R s m args below meth c D b0 S I cells slots Q (F0 m tgt ls rest)) (kf : B = some X → z_W p l e R s m args below meth c D b0 S I cells slots Q (F0 m (pc + 3) ls rest)) : z_W p l e R s m args below meth c D b0 S I cells slots Q (F0 m pc ls (.int y :: .int x :: rest)) := by
  intro H locs hH hS
  refine lv_icmp_eq hC.1 hC.2.1 hd ht (fun h => ?_) (fun h => ?_)
  · exact kt (by rw [if_pos h] at hz; exact hz) H locs hH hS
  · exact kf (by rw [if_neg h] at hz; exact hz) H locs hH hS
theorem z_icmp_ne (hC : z_C p s m args meth c cc own nL ret D) {β : Type} {A B : Option β} {X : β} {x y : Int32} {off : Int} {tgt : Nat} (hd : decode cc pc = .ok (.if_icmp .ne off, 3)) (ht : (pc : Int) + off = (tgt : Int)) (hz : (if x = y then B else A) = some X) (kt : A = some X → z_W p l e R s m args below meth c D b0 S I cells slots Q (F0 m tgt ls rest)) (kf : B = some X → z_W p l e R s m args below meth c D b0 S I cells slots Q (F0 m (pc + 3) ls rest)) : z_W p l e R s m args below meth c D b0 S I cells slots Q (F0 m pc ls (.int y :: .int x :: rest)) := by
  intro H locs hH hS
  refine lv_icmp_ne hC.1 hC.2.1 hd ht (fun h => ?_) (fun h => ?_)
  · exact kt (by rw [if_neg h] at hz; exact hz) H locs hH hS
  · exact kf (by rw [if_pos h] at hz; exact hz) H locs hH hS
theorem z_icmp_lt (hC : z_C p s m args meth c cc own nL ret D) {β : Type} {A B : Option β} {X : β} {x y : Int32} {off : Int} {tgt : Nat} (hd : decode cc pc = .ok (.if_icmp .lt off, 3)) (ht : (pc : Int) + off = (tgt : Int)) (hz : (if x < y then A else B) = some X) (kt : A = some X → z_W p l e R s m args below meth c D b0 S I cells slots Q (F0 m tgt ls rest)) (kf : B = some X → z_W p l e R s m args below meth c D b0 S I cells slots Q (F0 m (pc + 3) ls rest)) : z_W p l e R s m args below meth c D b0 S I cells slots Q (F0 m pc ls (.int y :: .int x :: rest)) := by
  intro H locs hH hS
  refine lv_icmp_lt hC.1 hC.2.1 hd ht (fun h => ?_) (fun h => ?_)
  · exact kt (by rw [if_pos h] at hz; exact hz) H locs hH hS
  · exact kf (by rw [if_neg h] at hz; exact hz) H locs hH hS
theorem z_icmp_ge (hC : z_C p s m args meth c cc own nL ret D) {β : Type} {A B : Option β} {X : β} {x y : Int32} {off : Int} {tgt : Nat} (hd : decode cc pc = .ok (.if_icmp .ge off, 3)) (ht : (pc : Int) + off = (tgt : Int)) (hz : (if x < y then B else A) = some X) (kt : A = some X → z_W p l e R s m args below meth c D b0 S I cells slots Q (F0 m tgt ls rest)) (kf : B = some X → z_W p l e R s m args below meth c D b0 S I cells slots Q (F0 m (pc + 3) ls rest)) : z_W p l e R s m args below meth c D b0 S I cells slots Q (F0 m pc ls (.int y :: .int x :: rest)) := by
  intro H locs hH hS
  refine lv_icmp_ge hC.1 hC.2.1 hd ht (fun h => ?_) (fun h => ?_)
  · exact kt (by rw [if_neg (Int32.not_lt.mpr h)] at hz; exact hz) H locs hH hS
  · exact kf (by rw [if_pos (Int32.not_le.mp h)] at hz; exact hz) H locs hH hS
theorem z_icmp_gt (hC : z_C p s m args meth c cc own nL ret D) {β : Type} {A B : Option β} {X : β} {x y : Int32} {off : Int} {tgt : Nat} (hd : decode cc pc = .ok (.if_icmp .gt off, 3)) (ht : (pc : Int) + off = (tgt : Int)) (hz : (if y < x then A else B) = some X) (kt : A = some X → z_W p l e R s m args below meth c D b0 S I cells slots Q (F0 m tgt ls rest)) (kf : B = some X → z_W p l e R s m args below meth c D b0 S I cells slots Q (F0 m (pc + 3) ls rest)) : z_W p l e R s m args below meth c D b0 S I cells slots Q (F0 m pc ls (.int y :: .int x :: rest)) := by
  intro H locs hH hS
  refine lv_icmp_gt hC.1 hC.2.1 hd ht (fun h => ?_) (fun h => ?_)
  · exact kt (by rw [if_pos h] at hz; exact hz) H locs hH hS
  · exact kf (by rw [if_neg h] at hz; exact hz) H locs hH hS
theorem z_icmp_le (hC : z_C p s m args meth c cc own nL ret D) {β : Type} {A B : Option β} {X : β} {x y : Int32} {off : Int} {tgt : Nat} (hd : decode cc pc = .ok (.if_icmp .le off, 3)) (ht : (pc : Int) + off = (tgt : Int)) (hz : (if y < x then B else A) = some X) (kt : A = some X → z_W p l e R s m args below meth c D b0 S I cells slots Q (F0 m tgt ls rest)) (kf : B = some X → z_W p l e R s m args below meth c D b0 S I cells slots Q (F0 m (pc + 3) ls rest)) : z_W p l e R s m args below meth c D b0 S I cells slots Q (F0 m pc ls (.int y :: .int x :: rest)) := by
  intro H locs hH hS
  refine lv_icmp_le hC.1 hC.2.1 hd ht (fun h => ?_) (fun h => ?_)
  · exact kt (by rw [if_neg (Int32.not_lt.mpr h)] at hz; exact hz) H locs hH hS
  · exact kf (by rw [if_pos (Int32.not_le.mp h)] at hz; exact hz) H locs hH hS
theorem z_goto (hC : z_C p s m args meth c cc own nL ret D) {off : Int} {tgt : Nat} (hd : decode cc pc = .ok (.goto off, 3)) (ht : (pc : Int) + off = (tgt : Int)) (k : z_W p l e R s m args below meth c D b0 S I cells slots Q (F0 m tgt ls rest)) : z_W p l e R s m args below meth c D b0 S I cells slots Q (F0 m pc ls rest) := fun H locs hH hS => lv_goto hC.1 hC.2.1 hd ht (k H locs hH hS)
theorem z_null (hC : z_C p s m args meth c cc own nL ret D) (hd : decode cc pc = .ok (.aconst_null, 1)) (k : z_W p l e R s m args below meth c D b0 S I cells slots Q (F0 m (pc + 1) ls (.null :: rest))) : z_W p l e R s m args below meth c D b0 S I cells slots Q (F0 m pc ls rest) := fun H locs hH hS => lv_null hC.1 hC.2.1 hd (k H locs hH hS)
theorem z_ifnull (hC : z_C p s m args meth c cc own nL ret D) {x : Nat} {off : Int} (hd : decode cc pc = .ok (.ifnull off, 3)) (k : z_W p l e R s m args below meth c D b0 S I cells slots Q (F0 m (pc + 3) ls rest)) : z_W p l e R s m args below meth c D b0 S I cells slots Q (F0 m pc ls (.ref x :: rest)) := fun H locs hH hS => lv_ifnull hC.1 hC.2.1 hd (k H locs hH hS)
theorem z_ifnullN (hC : z_C p s m args meth c cc own nL ret D) {off : Int} {tgt : Nat} (hd : decode cc pc = .ok (.ifnull off, 3)) (ht : (pc : Int) + off = (tgt : Int)) (k : z_W p l e R s m args below meth c D b0 S I cells slots Q (F0 m tgt ls rest)) : z_W p l e R s m args below meth c D b0 S I cells slots Q (F0 m pc ls (.null :: rest)) := fun H locs hH hS => lv_ifnullN hC.1 hC.2.1 hd ht (k H locs hH hS)
theorem z_ifnonnull (hC : z_C p s m args meth c cc own nL ret D) {x : Nat} {off : Int} {tgt : Nat} (hd : decode cc pc = .ok (.ifnonnull off, 3)) (ht : (pc : Int) + off = (tgt : Int)) (k : z_W p l e R s m args below meth c D b0 S I cells slots Q (F0 m tgt ls rest)) : z_W p l e R s m args below meth c D b0 S I cells slots Q (F0 m pc ls (.ref x :: rest)) := fun H locs hH hS => lv_ifnonnull hC.1 hC.2.1 hd ht (k H locs hH hS)
theorem z_ifnonnullN (hC : z_C p s m args meth c cc own nL ret D) {off : Int} (hd : decode cc pc = .ok (.ifnonnull off, 3)) (k : z_W p l e R s m args below meth c D b0 S I cells slots Q (F0 m (pc + 3) ls rest)) : z_W p l e R s m args below meth c D b0 S I cells slots Q (F0 m pc ls (.null :: rest)) := fun H locs hH hS => lv_ifnonnullN hC.1 hC.2.1 hd (k H locs hH hS)
theorem z_ldc (hC : z_C p s m args meth c cc own nL ret D) {index : Nat} {v : Int32} (hc : Cond.constant own index v ∈ z_tbl) (hd : decode cc pc = .ok (.ldc index, 2)) (k : z_W p l e R s m args below meth c D b0 S I cells slots Q (F0 m (pc + 2) ls (.int v :: rest))) : z_W p l e R s m args below meth c D b0 S I cells slots Q (F0 m pc ls rest) := fun H locs hH hS => lv_ldc hC.1 hC.2.1 hC.2.2.2.1 (hC.2.2.2.2.1 _ hc) hd (k H locs hH hS)
/-! heap rows -/
theorem z_at.kept {D : zD} {a : Nat} {k : Nat × Nat} {i : Nat → Int32} {r : Nat → Option Nat} {H H1 : Heap} (h : z_at D a k i r H) (e : H1[a]? = H[a]?) : z_at D a k i r H1 := by
  obtain ⟨h1, h2, h3⟩ := h
  refine ⟨fun g => ?_, fun g1 g2 => ?_, fun g => ?_⟩
  · obtain ⟨q, g1, g2⟩ := h1 g
    exact ⟨q, g1, g2.kept e⟩
  · rw [e]; exact h2 g1 g2
  · rw [e]; exact h3 g
theorem z_obj {D : zD} {b0 : Nat} {S : zS} {I : zI} {H : Heap} (hH : z_H D b0 S I H) {a ci : Nat} {C : String} {T : u_T} {N : Nat} {ty : Nat → FieldType} (hc : z_cls ci C T N ty) (ha : z_is b0 S a ci) : t_OB a (D.1.1 ci) N (D.1.2 ci) H (z_V ci (I a) (S.1 a)) := by
  have h := (hH.2.2 a ha.1 ha.2.1).1
  rw [ha.2.2] at h
  obtain ⟨q, g1, g2⟩ := h hc.2.1
  have hq : q = (C, T, N) := Option.some.inj (g1.symm.trans hc.1)
  subst hq
  exact g2
theorem z_H.set {D : zD} {b0 : Nat} {S S' : zS} {I I' : zI} {H H1 : Heap} {a : Nat} (hH : z_H D b0 S I H) (z : H1.size = H.size) (oq : ∀ q : Nat, q ≠ a → H1[q]? = H[q]?) (e2 : S'.2 = S.2) (eI : ∀ b, b ≠ a → I' b = I b) (eR : ∀ b, b ≠ a → S'.1 b = S.1 b) (ha : z_at D a (S.2.1 a) (I' a) (S'.1 a) H1) : z_H D b0 S' I' H1 := by
  refine ⟨by rw [z, e2]; exact hH.1, by rw [e2]; exact hH.2.1, fun b h1 h2 => ?_⟩
  rw [e2] at h2 ⊢
  by_cases hb : b = a
  · subst hb; exact ha
  · rw [eI b hb, eR b hb]
    exact (hH.2.2 b h1 h2).kept (oq b hb)
theorem z_at.obj {D : zD} {a : Nat} {k : Nat × Nat} {i : Nat → Int32} {r : Nat → Option Nat} {H : Heap} {ci : Nat} {C : String} {T : u_T} {N : Nat} {ty : Nat → FieldType} (hc : z_cls ci C T N ty) (hk : k.1 = ci) (h : t_OB a (D.1.1 ci) N (D.1.2 ci) H (z_V ci i r)) : z_at D a k i r H := by
  have hl := hc.2.1
  refine ⟨fun _ => ⟨(C, T, N), by rw [hk]; exact hc.1, by rw [hk]; exact h⟩, fun g _ => absurd g (by omega), fun g => absurd g (by omega)⟩
theorem z_arrI {D : zD} {b0 : Nat} {S : zS} {I : zI} {H : Heap} (hH : z_H D b0 S I H) {a k : Nat} (ha : z_is b0 S a k) (h1 : 10 ≤ k) (h2 : k < 12) : H[a]? = some (arrV (D.2 k) (S.2.1 a).2 (fun j => .int (I a j))) := by
  have h := (hH.2.2 a ha.1 ha.2.1).2.1
  rw [ha.2.2] at h
  exact h h1 h2
theorem z_arrR {D : zD} {b0 : Nat} {S : zS} {I : zI} {H : Heap} (hH : z_H D b0 S I H) {a k : Nat} (ha : z_is b0 S a k) (h1 : 12 ≤ k) : H[a]? = some (arrV (D.2 k) (S.2.1 a).2 (fun j => va_rf (S.1 a j))) := by
  have h := (hH.2.2 a ha.1 ha.2.1).2.2
  rw [ha.2.2] at h
  exact h h1
theorem z_up_self (I : zI) (a k : Nat) (x : Int32) : z_up I a k x a = fun j => if j = k then x else I a j := by funext j; simp [z_up]
theorem z_up_off {I : zI} {a k b : Nat} {x : Int32} (h : b ≠ a) : z_up I a k x b = I b := by funext j; simp [z_up, h]
theorem z_upR_self (S : zS) (a k : Nat) (x : Option Nat) : (z_upR S a k x).1 a = fun j => if j = k then x else S.1 a j := by funext j; simp [z_upR]
theorem z_upR_off {S : zS} {a k b : Nat} {x : Option Nat} (h : b ≠ a) : (z_upR S a k x).1 b = S.1 b := by funext j; simp [z_upR, h]
theorem z_getV (hC : z_C p s m args meth c cc own nL ret D) {ci : Nat} {C : String} {T : u_T} {N : Nat} {ty : Nat → FieldType} (hc : z_cls ci C T N ty) (k : Nat) (hk : k < N) {index : Nat} (hlink : Cond.fieldLink own index C (T k).2.1 (T k).2.2.1 ∈ z_tbl) (hd : decode cc pc = .ok (.getfield index, 3)) {a : Nat} (ha : z_is b0 S a ci) {v : Value} (hv : z_V ci (I a) (S.1 a) k = v) (kk : z_W p l e R s m args below meth c D b0 S I cells slots Q (F0 m (pc + 3) ls (v :: rest))) : z_W p l e R s m args below meth c D b0 S I cells slots Q (F0 m pc ls (.ref a :: rest)) := by
  intro H locs hH hS
  obtain ⟨hx, hb, hml, hown, hts, -, -, hK, -⟩ := hC
  obtain ⟨cell, q1, q2, q3, q4⟩ := z_obj hH hc ha
  obtain ⟨hSl, hfc, kC, hkC, hkind⟩ := hK.1 ci _ hc.1
  obtain ⟨cf, kf, fi, f, hi, hsl⟩ := hSl k hk
  have hi2 := hi
  simp only [hc.2.2.2.2.2 k hk] at hi2
  refine W.getf hx hb hown (hts _ hlink) hi2 (u_facts hfc hkC (u_lays hts hc.2.2.1 hk) hi).1 q1 (by rw [q3]; exact fun h => by cases h) (v := v) ?_ rfl rfl hd (kk H locs hH hS)
  rw [hsl, q4 k hk, hv]
theorem z_getI (hC : z_C p s m args meth c cc own nL ret D) {ci : Nat} {C : String} {T : u_T} {N : Nat} {ty : Nat → FieldType} (hc : z_cls ci C T N ty) (k : Nat) (hk : k < N) {index : Nat} (hlink : Cond.fieldLink own index C (T k).2.1 (T k).2.2.1 ∈ z_tbl) (hd : decode cc pc = .ok (.getfield index, 3)) {a : Nat} (ha : z_is b0 S a ci) (hv : z_sh ci k = true) (kk : z_W p l e R s m args below meth c D b0 S I cells slots Q (F0 m (pc + 3) ls (.int (I a k) :: rest))) : z_W p l e R s m args below meth c D b0 S I cells slots Q (F0 m pc ls (.ref a :: rest)) := z_getV hC hc k hk hlink hd ha (z_V_i hv) kk
theorem z_getR (hC : z_C p s m args meth c cc own nL ret D) {ci : Nat} {C : String} {T : u_T} {N : Nat} {ty : Nat → FieldType} (hc : z_cls ci C T N ty) (k : Nat) (hk : k < N) {index : Nat} (hlink : Cond.fieldLink own index C (T k).2.1 (T k).2.2.1 ∈ z_tbl) (hd : decode cc pc = .ok (.getfield index, 3)) {a : Nat} (ha : z_is b0 S a ci) (hv : z_sh ci k = false) {r : Nat} (hr : S.1 a k = some r) (kk : z_W p l e R s m args below meth c D b0 S I cells slots Q (F0 m (pc + 3) ls (.ref r :: rest))) : z_W p l e R s m args below meth c D b0 S I cells slots Q (F0 m pc ls (.ref a :: rest)) := z_getV hC hc k hk hlink hd ha (by rw [z_V_r hv, hr]; rfl) kk
theorem z_putI (hC : z_C p s m args meth c cc own nL ret D) {ci : Nat} {C : String} {T : u_T} {N : Nat} {ty : Nat → FieldType} (hc : z_cls ci C T N ty) (k : Nat) (hk : k < N) {index : Nat} (hlink : Cond.fieldLink own index C (T k).2.1 (T k).2.2.1 ∈ z_tbl) (hd : decode cc pc = .ok (.putfield index, 3)) {a : Nat} (ha : z_is b0 S a ci) (hv : z_sh ci k = true) (hfin : (T k).2.2.2 = false) {x : Int32} (hn : narrow (ty k) (.int x) = .int x) (hfit : fits (ty k) (.int x) = true) (kk : z_W p l e R s m args below meth c D b0 S (z_up I a k x) cells slots Q (F0 m (pc + 3) ls rest)) : z_W p l e R s m args below meth c D b0 S I cells slots Q (F0 m pc ls (.int x :: .ref a :: rest)) := by
  intro H locs hH hS
  obtain ⟨hx, hb, hml, hown, hts, -, -, hK, -⟩ := hC
  obtain ⟨cell, q1, q2, q3, q4⟩ := z_obj hH hc ha
  obtain ⟨hSl, hfc, kC, hkC, hkind⟩ := hK.1 ci _ hc.1
  obtain ⟨cf, kf, fi, f, hi, hsl⟩ := hSl k hk
  have hi2 := hi
  simp only [hc.2.2.2.2.2 k hk] at hi2
  have hap := va_apart (own := own) hts hc.2.2.1 ty hc.2.2.2.1 hc.2.2.2.2.1 hK hc.1
  have hlay := hts _ (hc.2.2.1 _ (u_in_lay hk))
  unfold u_lay at hlay
  rw [if_neg (by rw [hfin]; decide)] at hlay
  have hst := (u_facts hfc hkC (u_lays hts hc.2.2.1 hk) hi).1
  have h6 := u_store hfc hkC hkind hlay hi (hc.2.2.2.1 k hk) hn hfit
  refine W.putK hx hb (f := f) ⟨hown, hts _ hlink, ⟨_, _, _, hi2⟩, hst⟩ (by rw [q2]; exact h6) q1 q3 (by rw [hsl]; exact k2_hasslot (q4 k hk)) rfl rfl hd fun H' e1 e2 e3 => ?_
  rw [hsl] at e1
  refine kk H' _ (hH.set e2 e3 rfl (fun b hb => z_up_off hb) (fun b _ => rfl) (z_at.obj hc ha.2.2 ?_)) (hS.put e2 e3 ha.1)
  refine t_OB.to (V := updV (z_V ci (I a) (S.1 a)) k (.int x)) ⟨_, e1, q2, q3, t_set q4 hap hk _⟩ (fun j _ => ?_)
  rw [z_up_self]
  by_cases hj : j = k
  · subst hj; simp [updV, z_V, hv]
  · simp [updV, z_V, hj]
theorem z_putR (hC : z_C p s m args meth c cc own nL ret D) {ci : Nat} {C : String} {T : u_T} {N : Nat} {ty : Nat → FieldType} (hc : z_cls ci C T N ty) (k : Nat) (hk : k < N) {index : Nat} (hlink : Cond.fieldLink own index C (T k).2.1 (T k).2.2.1 ∈ z_tbl) (hd : decode cc pc = .ok (.putfield index, 3)) {a : Nat} (ha : z_is b0 S a ci) (hv : z_sh ci k = false) (hfin : (T k).2.2.2 = true) (hin : meth.name = "<init>") (hoc : own = C) {x : Nat} (hn : narrow (ty k) (.ref x) = .ref x) (hfit : fits (ty k) (.ref x) = true) (kk : z_W p l e R s m args below meth c D b0 (z_upR S a k (some x)) I cells slots Q (F0 m (pc + 3) ls rest)) : z_W p l e R s m args below meth c D b0 S I cells slots Q (F0 m pc ls (.ref x :: .ref a :: rest)) := by
  intro H locs hH hS
  obtain ⟨hx, hb, hml, hown, hts, -, -, hK, -⟩ := hC
  obtain ⟨cell, q1, q2, q3, q4⟩ := z_obj hH hc ha
  obtain ⟨hSl, hfc, kC, hkC, hkind⟩ := hK.1 ci _ hc.1
  obtain ⟨cf, kf, fi, f, hi, hsl⟩ := hSl k hk
  have hdc := hc.2.2.2.2.2 k hk
  have hi2 := hi
  simp only [hdc] at hi2
  have hap := va_apart (own := own) hts hc.2.2.1 ty hc.2.2.2.1 hc.2.2.2.2.1 hK hc.1
  have hlay := hts _ (hc.2.2.1 _ (u_in_lay hk))
  unfold u_lay at hlay
  rw [if_pos hfin] at hlay
  have hst := (u_facts hfc hkC (u_lays hts hc.2.2.1 hk) hi).1
  have hcf : m.cls = cf := by
    obtain ⟨_, _, c', _, _, _, -, -, hf', -, -, -, hown2, -⟩ := Cond.laysFinal_spec hlay
    have e1 : c' = cf := by have := hi.symm.trans hf'; simp at this; exact this.1.symm
    rw [hdc, ← hoc] at hown2
    rw [← e1]; exact Option.some.inj (hown.symm.trans hown2)
  have h6 := u_fits hfc hkC hkind (Or.inr hlay) hi (hc.2.2.2.1 k hk) hn hfit
  refine W.putFinK hx hb hown (hts _ hlink) hi2 hst hcf hin (by rw [q2]; exact h6) q1 q3 (by rw [hsl]; exact k2_hasslot (q4 k hk)) rfl rfl hd fun H' e1 e2 e3 => ?_
  rw [hsl] at e1
  refine kk H' _ (hH.set e2 e3 rfl (fun b _ => rfl) (fun b hb => z_upR_off hb) (z_at.obj hc ha.2.2 ?_)) (hS.put e2 e3 ha.1)
  refine t_OB.to (V := updV (z_V ci (I a) (S.1 a)) k (.ref x)) ⟨_, e1, q2, q3, t_set q4 hap hk _⟩ (fun j _ => ?_)
  rw [z_upR_self]
  by_cases hj : j = k
  · subst hj; simp [updV, z_V, hv, va_rf]
  · simp [updV, z_V, hj]
theorem z_ofI {cA : Nat → ClassId} {G : va_G} {U : State} (h : va_K G vwCl (z_tys cA) U) (k : Nat) (hk : k = 10) : ArrOfT U (cA k) .int := by subst hk; exact (h.2 0 _ rfl).1
theorem z_ofZ {cA : Nat → ClassId} {G : va_G} {U : State} (h : va_K G vwCl (z_tys cA) U) (k : Nat) (hk : k = 11) : ArrOfT U (cA k) .boolean := by subst hk; exact (h.2 1 _ rfl).1
theorem z_iald (hC : z_C p s m args meth c cc own nL ret D) (hd : decode cc pc = .ok (.iaload, 1)) {a : Nat} (ha : z_is b0 S a 10) {i : Int32} (hin : ¬ (i < 0 ∨ (S.2.1 a).2 ≤ i.toNatClampNeg)) (kk : z_W p l e R s m args below meth c D b0 S I cells slots Q (F0 m (pc + 1) ls (.int (I a i.toNatClampNeg) :: rest))) : z_W p l e R s m args below meth c D b0 S I cells slots Q (F0 m pc ls (.int i :: .ref a :: rest)) := by
  intro H locs hH hS
  have hlt : i.toNatClampNeg < (S.2.1 a).2 := Nat.not_le.mp fun q => hin (Or.inr q)
  exact W.iald (v := .int (I a i.toNatClampNeg)) hC.1 hC.2.1 (z_arrI hH ha (by decide) (by decide)) ((z_ofI hC.2.2.2.2.2.2.2.1 10 rfl) _ (fun j => .int (I a j))) (fun q => by cases q) (by rw [arrV_size]; exact hin) (by rw [arrV_read _ _ hlt]) rfl rfl hd (kk H locs hH hS)
theorem z_zald (hC : z_C p s m args meth c cc own nL ret D) (hd : decode cc pc = .ok (.baload, 1)) {a : Nat} (ha : z_is b0 S a 11) {i : Int32} (hin : ¬ (i < 0 ∨ (S.2.1 a).2 ≤ i.toNatClampNeg)) (kk : z_W p l e R s m args below meth c D b0 S I cells slots Q (F0 m (pc + 1) ls (.int (I a i.toNatClampNeg) :: rest))) : z_W p l e R s m args below meth c D b0 S I cells slots Q (F0 m pc ls (.int i :: .ref a :: rest)) := by
  intro H locs hH hS
  have hlt : i.toNatClampNeg < (S.2.1 a).2 := Nat.not_le.mp fun q => hin (Or.inr q)
  exact W.zald (v := .int (I a i.toNatClampNeg)) hC.1 hC.2.1 (z_arrI hH ha (by decide) (by decide)) ((z_ofZ hC.2.2.2.2.2.2.2.1 11 rfl) _ (fun j => .int (I a j))) (fun q => by cases q) (by rw [arrV_size]; exact hin) (by rw [arrV_read _ _ hlt]) rfl rfl hd (kk H locs hH hS)
theorem z_upA {I : zI} {a k : Nat} {x : Int32} : (fun j => Value.int (z_up I a k x a j)) = updV (fun j => .int (I a j)) k (.int x) := by
  funext j
  by_cases hj : j = k
  · subst hj; simp [updV, z_up]
  · simp [updV, z_up, hj]
theorem z_iast (hC : z_C p s m args meth c cc own nL ret D) (hd : decode cc pc = .ok (.iastore, 1)) {a : Nat} (ha : z_is b0 S a 10) {i x : Int32} (hin : ¬ (i < 0 ∨ (S.2.1 a).2 ≤ i.toNatClampNeg)) (kk : z_W p l e R s m args below meth c D b0 S (z_up I a i.toNatClampNeg x) cells slots Q (F0 m (pc + 1) ls rest)) : z_W p l e R s m args below meth c D b0 S I cells slots Q (F0 m pc ls (.int x :: .int i :: .ref a :: rest)) := by
  intro H locs hH hS
  refine W.iast hC.1 hC.2.1 (z_arrI hH ha (by decide) (by decide)) ((z_ofI hC.2.2.2.2.2.2.2.1 10 rfl) _ (fun j => .int (I a j))) (fun q => by cases q) (by rw [arrV_size]; exact hin) rfl rfl hd fun H1 e1 z oq => ?_
  refine kk H1 _ (hH.set z oq rfl (fun b hb => z_up_off hb) (fun b _ => rfl) ?_) (hS.put z oq ha.1)
  rw [arrV_store, ← z_upA] at e1
  exact ⟨fun g => absurd g (by rw [ha.2.2]; decide), fun _ _ => by rw [ha.2.2]; exact e1, fun g => absurd g (by rw [ha.2.2]; decide)⟩
theorem z_zast (hC : z_C p s m args meth c cc own nL ret D) (hd : decode cc pc = .ok (.bastore, 1)) {a : Nat} (ha : z_is b0 S a 11) {i x : Int32} (hin : ¬ (i < 0 ∨ (S.2.1 a).2 ≤ i.toNatClampNeg)) (hn : narrow .boolean (.int x) = .int x) (kk : z_W p l e R s m args below meth c D b0 S (z_up I a i.toNatClampNeg x) cells slots Q (F0 m (pc + 1) ls rest)) : z_W p l e R s m args below meth c D b0 S I cells slots Q (F0 m pc ls (.int x :: .int i :: .ref a :: rest)) := by
  intro H locs hH hS
  refine W.zast hC.1 hC.2.1 (z_arrI hH ha (by decide) (by decide)) ((z_ofZ hC.2.2.2.2.2.2.2.1 11 rfl) _ (fun j => .int (I a j))) (fun q => by cases q) (by rw [arrV_size]; exact hin) rfl rfl hd fun H1 e1 z oq => ?_
  refine kk H1 _ (hH.set z oq rfl (fun b hb => z_up_off hb) (fun b _ => rfl) ?_) (hS.put z oq ha.1)
  rw [hn, arrV_store, ← z_upA] at e1
  exact ⟨fun g => absurd g (by rw [ha.2.2]; decide), fun _ _ => by rw [ha.2.2]; exact e1, fun g => absurd g (by rw [ha.2.2]; decide)⟩
theorem z_bool {x : Int32} (h : x = 0 ∨ x = 1) : narrow .boolean (.int x) = .int x := by rcases h with rfl | rfl <;> decide
theorem z_boolf {x : Int32} (h : x = 0 ∨ x = 1) : fits .boolean (.int x) = true := by rcases h with rfl | rfl <;> decide
def z_ec : Nat → String := fun k => if k = 12 then RX0 else if k = 13 then RX3 else RX5
def z_ek : Nat → Nat := fun k => if k = 12 then 0 else if k = 13 then 3 else 5
theorem z_ofR {cA : Nat → ClassId} {G : va_G} {U : State} (h : va_K G vwCl (z_tys cA) U) (k : Nat) (h1 : 12 ≤ k) (h2 : k < 15) : ArrOfT U (cA k) (.object (z_ec k)) ∧ va_RA U (cA k) (.object (z_ec k)) := by
  rcases (show k = 12 ∨ k = 13 ∨ k = 14 by omega) with rfl | rfl | rfl
  · exact h.2 2 _ rfl
  · exact h.2 3 _ rfl
  · exact h.2 4 _ rfl
theorem z_aald (hC : z_C p s m args meth c cc own nL ret D) (hd : decode cc pc = .ok (.aaload, 1)) {a k : Nat} (ha : z_is b0 S a k) (h1 : 12 ≤ k) (h2 : k < 15) {i : Int32} (hin : ¬ (i < 0 ∨ (S.2.1 a).2 ≤ i.toNatClampNeg)) (kk : z_W p l e R s m args below meth c D b0 S I cells slots Q (F0 m (pc + 1) ls (va_rf (S.1 a i.toNatClampNeg) :: rest))) : z_W p l e R s m args below meth c D b0 S I cells slots Q (F0 m pc ls (.int i :: .ref a :: rest)) := by
  intro H locs hH hS
  have hlt : i.toNatClampNeg < (S.2.1 a).2 := Nat.not_le.mp fun q => hin (Or.inr q)
  exact W.aald (v := va_rf (S.1 a i.toNatClampNeg)) (ty := .object (z_ec k)) hC.1 hC.2.1 (z_arrR hH ha h1) ((z_ofR hC.2.2.2.2.2.2.2.1 k h1 h2).1 _ (fun j => va_rf (S.1 a j))) rfl (fun q => by cases q) (by rw [arrV_size]; exact hin) (by rw [arrV_read _ _ hlt]) rfl rfl hd (kk H locs hH hS)
theorem z_upRA {S : zS} {a k x : Nat} : (fun j => va_rf ((z_upR S a k (some x)).1 a j)) = updV (fun j => va_rf (S.1 a j)) k (.ref x) := by
  funext j
  by_cases hj : j = k
  · subst hj; simp [updV, z_upR, va_rf]
  · simp [updV, z_upR, hj]
theorem z_aast (hC : z_C p s m args meth c cc own nL ret D) (hd : decode cc pc = .ok (.aastore, 1)) {a k : Nat} (ha : z_is b0 S a k) (h1 : 12 ≤ k) (h2 : k < 15) {ci : Nat} {C : String} {T : u_T} {N : Nat} {ty : Nat → FieldType} (hc : z_cls ci C T N ty) (hec : z_ec k = C) {i : Int32} {x : Nat} (hxk : z_is b0 S x ci) (hin : ¬ (i < 0 ∨ (S.2.1 a).2 ≤ i.toNatClampNeg)) (kk : z_W p l e R s m args below meth c D b0 (z_upR S a i.toNatClampNeg (some x)) I cells slots Q (F0 m (pc + 1) ls rest)) : z_W p l e R s m args below meth c D b0 S I cells slots Q (F0 m pc ls (.ref x :: .int i :: .ref a :: rest)) := by
  intro H locs hH hS
  have hlt : i.toNatClampNeg < (S.2.1 a).2 := Nat.not_le.mp fun q => hin (Or.inr q)
  have h0 : ¬ i < 0 := fun q => hin (Or.inl q)
  obtain ⟨cellV, g1, g2, g3, -⟩ := z_obj hH hc hxk
  have hK := hC.2.2.2.2.2.2.2.1
  have hcls := (hK.1 ci _ hc.1).2
  have hra := (z_ofR hK k h1 h2).2
  rw [hec] at hra
  obtain ⟨kA, comp, k1, k2, k3, -⟩ := hra
  have hcomp : comp = D.1.1 ci := Option.some.inj (k3.symm.trans hcls.1)
  subst hcomp
  obtain ⟨kC, hkC, -⟩ := hcls.2
  refine W.aast hC.1 hC.2.1 (z_arrR hH ha h1) (fun q h => by cases h) (fun h => by cases h) k1 k2 rfl hkC ⟨h0, by rw [arrV_size]; exact hlt⟩ g1 (fun q h => by rw [g3] at h; cases h) (by rw [g2]; exact hkC) (by rw [g2]; exact va_assign hcls) rfl rfl hd fun H1 e1 z oq => ?_
  refine kk H1 _ (hH.set z oq rfl (fun b _ => rfl) (fun b hb => z_upR_off hb) ?_) (hS.put z oq ha.1)
  rw [arrV_store, ← z_upRA] at e1
  exact ⟨fun g => absurd g (by rw [ha.2.2]; omega), fun _ g => absurd g (by rw [ha.2.2]; omega), fun _ => by rw [ha.2.2]; exact e1⟩
theorem z_H.push {D : zD} {b0 : Nat} {S : zS} {I : zI} {H H1 : Heap} {k n : Nat} (hH : z_H D b0 S I H) (z : H1.size = H.size + 1) (oq : ∀ q : Nat, q < H.size → H1[q]? = H[q]?) (ha : z_at D S.2.2 (k, n) (fun _ => 0) (fun _ => none) H1) : z_H D b0 (z_new S k n) (z_newI S I) H1 := by
  refine ⟨by rw [z, hH.1]; rfl, Nat.le_succ_of_le hH.2.1, fun b h1 h2 => ?_⟩
  have h2 : b < S.2.2 + 1 := h2
  by_cases hb : b = S.2.2
  · subst hb
    simpa [z_new, z_newI] using ha
  · have h3 : b < S.2.2 := by omega
    have h4 := (hH.2.2 b h1 h3).kept (oq b (by rw [hH.1]; exact h3))
    simpa [z_new, z_newI, hb] using h4
theorem z_S.push {A : Nat → Prop} {H0 H H1 : Heap} {locs : List Loc} (h : va_S A H0 H locs) (z : H1.size = H.size + 1) (oq : ∀ q : Nat, q < H.size → H1[q]? = H[q]?) : va_S A H0 H1 locs := ⟨by rw [z]; exact Nat.le_succ_of_le h.1, fun x h1 h2 => (oq x (Nat.lt_of_lt_of_le h1 h.1)).trans (h.2.1 x h1 h2), h.2.2⟩
theorem z_newc (hC : z_C p s m args meth c cc own nL ret D) {ci : Nat} {C : String} {T : u_T} {N : Nat} {ty : Nat → FieldType} (hc : z_cls ci C T N ty) {index : Nat} (hlink : Cond.classLink own index C ∈ z_tbl) (hins : Cond.instantiable C N ∈ z_tbl) (hini : Cond.initialized C ∈ z_tbl) (hd : decode cc pc = .ok (.new index, 3)) (hdef : ∀ k, k < N → defaultValue (ty k) = z_V ci (fun _ => 0) (fun _ => none) k) (hcells : cells + 1 ≤ R.cells) (hslots : slots + N ≤ R.slots) (kk : z_W p l e R s m args below meth c D b0 (z_new S ci 0) (z_newI S I) (cells + 1) (slots + N) Q (F0 m (pc + 3) ls (.ref S.2.2 :: rest))) : z_W p l e R s m args below meth c D b0 S I cells slots Q (F0 m pc ls rest) := by
  intro H locs hH hS
  obtain ⟨hx, hb, hml, hown, hts, -, -, hK, -⟩ := hC
  have hKn := hK.1 ci _ hc.1
  have hsz := hH.1
  refine W.newcK hx hb hown (hts _ hlink) (hts _ hins) (hts _ hini) rfl hd hcells hslots hKn.2.1 rfl fun H1 kC hkC e1 z1 o1 => ?_
  rw [show F0 m (pc + 3) ls (.ref S.2.2 :: rest) = F0 m (pc + 3) ls (.ref H.size :: rest) by rw [hsz]] at kk
  refine kk H1 locs (hH.push z1 o1 (z_at.obj hc rfl ?_)) (z_S.push hS z1 o1)
  rw [hsz] at e1
  exact (u_born ty hts hc.2.2.1 hKn hkC e1 hc.2.2.2.1).to hdef
theorem z_newI10 (hC : z_C p s m args meth c cc own nL ret D) (hw : Cond.arrayClass .int ∈ z_tbl) (hd : decode cc pc = .ok (.newarray .int, 2)) {n : Int32} {N : Nat} (hn : ¬ n < 0) (hN : n.toNatClampNeg = N) (hby : N * 4 ≤ 536870912) (hcells : cells + 1 ≤ R.cells) (hslots : slots + N ≤ R.slots) (kk : z_W p l e R s m args below meth c D b0 (z_new S 10 N) (z_newI S I) (cells + 1) (slots + N) Q (F0 m (pc + 2) ls (.ref S.2.2 :: rest))) : z_W p l e R s m args below meth c D b0 S I cells slots Q (F0 m pc ls (.int n :: rest)) := by
  intro H locs hH hS
  obtain ⟨hx, hb, hml, hown, hts, -, -, hK, -⟩ := hC
  have hsz := hH.1
  refine va_newaK hx hb (atype := .int) (hts _ hw) rfl hd rfl hn hN hby hcells hslots rfl fun H1 cA e1 z1 o1 hAr hNm => ?_
  have hcA : cA = D.2 10 := by
    have h2 : s.vm.findClass ("[" ++ (FieldType.int).toString) = some (D.2 10) := (hK.2 0 _ rfl).2
    exact Option.some.inj (hNm.symm.trans h2)
  subst hcA
  rw [show F0 m (pc + 2) ls (.ref S.2.2 :: rest) = F0 m (pc + 2) ls (.ref H.size :: rest) by rw [hsz]] at kk
  refine kk H1 locs (hH.push z1 o1 ⟨fun g => absurd g (by decide), fun _ _ => ?_, fun g => absurd g (by decide)⟩) (z_S.push hS z1 o1)
  rw [hsz] at e1
  exact e1
theorem z_newI11 (hC : z_C p s m args meth c cc own nL ret D) (hw : Cond.arrayClass .boolean ∈ z_tbl) (hd : decode cc pc = .ok (.newarray .boolean, 2)) {n : Int32} {N : Nat} (hn : ¬ n < 0) (hN : n.toNatClampNeg = N) (hby : N * 1 ≤ 536870912) (hcells : cells + 1 ≤ R.cells) (hslots : slots + N ≤ R.slots) (kk : z_W p l e R s m args below meth c D b0 (z_new S 11 N) (z_newI S I) (cells + 1) (slots + N) Q (F0 m (pc + 2) ls (.ref S.2.2 :: rest))) : z_W p l e R s m args below meth c D b0 S I cells slots Q (F0 m pc ls (.int n :: rest)) := by
  intro H locs hH hS
  obtain ⟨hx, hb, hml, hown, hts, -, -, hK, -⟩ := hC
  have hsz := hH.1
  refine va_newaK hx hb (atype := .boolean) (hts _ hw) rfl hd rfl hn hN hby hcells hslots rfl fun H1 cA e1 z1 o1 hAr hNm => ?_
  have hcA : cA = D.2 11 := by
    have h2 : s.vm.findClass ("[" ++ (FieldType.boolean).toString) = some (D.2 11) := (hK.2 1 _ rfl).2
    exact Option.some.inj (hNm.symm.trans h2)
  subst hcA
  rw [show F0 m (pc + 2) ls (.ref S.2.2 :: rest) = F0 m (pc + 2) ls (.ref H.size :: rest) by rw [hsz]] at kk
  refine kk H1 locs (hH.push z1 o1 ⟨fun g => absurd g (by decide), fun _ _ => ?_, fun g => absurd g (by decide)⟩) (z_S.push hS z1 o1)
  rw [hsz] at e1
  exact e1
theorem z_anew (hC : z_C p s m args meth c cc own nL ret D) {k : Nat} (h1 : 12 ≤ k) (h2 : k < 15) {index : Nat} (hlink : Cond.classLink own index (z_ec k) ∈ z_tbl) (hov : va_AO (z_ec k) s) (hd : decode cc pc = .ok (.anewarray index, 3)) {n : Int32} {N : Nat} (hn : ¬ n < 0) (hN : n.toNatClampNeg = N) (hby : N * 4 ≤ 536870912) (hcells : cells + 1 ≤ R.cells) (hslots : slots + N ≤ R.slots) (kk : z_W p l e R s m args below meth c D b0 (z_new S k N) (z_newI S I) (cells + 1) (slots + N) Q (F0 m (pc + 3) ls (.ref S.2.2 :: rest))) : z_W p l e R s m args below meth c D b0 S I cells slots Q (F0 m pc ls (.int n :: rest)) := by
  intro H locs hH hS
  obtain ⟨hx, hb, hml, hown, hts, -, -, hK, -⟩ := hC
  have hsz := hH.1
  subst hN
  refine W.anew hx hb hown (hts _ hlink) (va_AO.use hov) rfl hd rfl hn hby hcells hslots fun cA kA comp f1 f2 f3 f4 => ?_
  have hcA : cA = D.2 k := by
    obtain ⟨_, _, _, _, _, g4⟩ := (z_ofR hK k h1 h2).2
    exact Option.some.inj (f1.symm.trans g4)
  subst hcA
  rw [show F0 m (pc + 3) ls (.ref S.2.2 :: rest) = F0 m (pc + 3) ls (.ref H.size :: rest) by rw [hsz]] at kk
  generalize hH1 : H.push ({ cls := D.2 k, slots := Array.replicate n.toNatClampNeg .null, vm := .none } : Cell) = H1
  have z1 : H1.size = H.size + 1 := by rw [← hH1, Array.size_push]
  have e1 : H1[H.size]? = some (arrV (D.2 k) n.toNatClampNeg (fun _ => .null)) := by rw [← hH1, Array.getElem?_push_size, ← arrV_new]
  have o1 : ∀ q : Nat, q < H.size → H1[q]? = H[q]? := fun q hq => by rw [← hH1, Array.getElem?_push, if_neg (Nat.ne_of_lt hq)]
  refine kk H1 locs (hH.push z1 o1 ⟨fun g => absurd g (show ¬ k < 10 by omega), fun _ g => absurd g (show ¬ k < 12 by omega), fun _ => ?_⟩) (z_S.push hS z1 o1)
  rw [hsz] at e1
  exact e1
theorem z_T.new {b0 : Nat} {S : zS} (h : z_T b0 S) (k n : Nat) : z_T b0 (z_new S k n) := by
  intro a j b h1 h2 h3
  have h2 : a < S.2.2 + 1 := h2
  by_cases ha : a = S.2.2
  · simp [z_new, ha] at h3
  · simp only [z_new, if_neg ha] at h3
    obtain ⟨g1, g2, g3⟩ := h a j b h1 (by omega) h3
    refine ⟨g1, Nat.lt_succ_of_lt g2, ?_⟩
    simp only [z_new, if_neg ha, if_neg (show b ≠ S.2.2 by omega)]
    exact g3
theorem z_T.upR {b0 : Nat} {S : zS} (h : z_T b0 S) {a c k x : Nat} (ha : z_is b0 S a c) (hx : z_is b0 S x (z_fk c k)) : z_T b0 (z_upR S a k (some x)) := by
  intro q j b h1 h2 h3
  by_cases hq : q = a ∧ j = k
  · obtain ⟨rfl, rfl⟩ := hq
    simp [z_upR] at h3
    subst h3
    show z_is b0 S x (z_fk (S.2.1 q).1 j)
    rw [ha.2.2]
    exact hx
  · simp only [z_upR, if_neg hq] at h3
    exact h q j b h1 h2 h3
theorem z_is.new {b0 : Nat} {S : zS} {a k c n : Nat} (h : z_is b0 S a c) : z_is b0 (z_new S k n) a c := by
  obtain ⟨h1, h2, h3⟩ := h
  exact ⟨h1, Nat.lt_succ_of_lt h2, by simp only [z_new, if_neg (show a ≠ S.2.2 by omega)]; exact h3⟩
theorem z_is.fresh {b0 : Nat} {S : zS} (h : b0 ≤ S.2.2) (k n : Nat) : z_is b0 (z_new S k n) S.2.2 k := ⟨h, Nat.lt_succ_self _, by simp [z_new]⟩
theorem z_is.upR {b0 : Nat} {S : zS} {a k c j : Nat} {x : Option Nat} (h : z_is b0 S a c) : z_is b0 (z_upR S k j x) a c := h

end ZR
