/-! ROWS OF THE ABSTRACT MACHINE: one an instruction -/
section Rows
variable {E : EN} {d : MD} {pc q k n : Nat} {ls : List (Nat × Value)} {st : List Value} {σ : SG} {Q : Option Value → SG → Prop}
theorem Cx.x {p : Program} {s : State} {m : MethodId} {args : Array Value} {meth : Method} {c : Code} (C : Cx E d p s m args meth c) : p.tables.exec = Jvm.exec := C.1
theorem Cx.b {p : Program} {s : State} {m : MethodId} {args : Array Value} {meth : Method} {c : Code} (C : Cx E d p s m args meth c) : c.code = mB d := C.2.1
theorem Cx.r {p : Program} {s : State} {m : MethodId} {args : Array Value} {meth : Method} {c : Code} (C : Cx E d p s m args meth c) : meth.sig.returnType = mT d := C.2.2.1
theorem Cx.ml {p : Program} {s : State} {m : MethodId} {args : Array Value} {meth : Method} {c : Code} (C : Cx E d p s m args meth c) : c.maxLocals = mL d := C.2.2.2.1
theorem Cx.o {p : Program} {s : State} {m : MethodId} {args : Array Value} {meth : Method} {c : Code} (C : Cx E d p s m args meth c) : s.vm.findClass (mY d).cls = some m.cls := C.2.2.2.2.1
theorem Cx.lk {p : Program} {s : State} {m : MethodId} {args : Array Value} {meth : Method} {c : Code} (C : Cx E d p s m args meth c) : meth.locks = false := C.2.2.2.2.2.1
theorem Cx.nm {p : Program} {s : State} {m : MethodId} {args : Array Value} {meth : Method} {c : Code} (C : Cx E d p s m args meth c) : meth.name = (mY d).name := C.2.2.2.2.2.2.1
theorem Cx.t {p : Program} {s : State} {m : MethodId} {args : Array Value} {meth : Method} {c : Code} (C : Cx E d p s m args meth c) : ∀ w ∈ TB, w.before args s = true := C.2.2.2.2.2.2.2.1
theorem Cx.K {p : Program} {s : State} {m : MethodId} {args : Array Value} {meth : Method} {c : Code} (C : Cx E d p s m args meth c) : KK E s := C.2.2.2.2.2.2.2.2.1
theorem Cx.h {p : Program} {s : State} {m : MethodId} {args : Array Value} {meth : Method} {c : Code} (C : Cx E d p s m args meth c) : ∀ q : Nat, q < (eH E).size → s.heap[q]? = (eH E)[q]? := C.2.2.2.2.2.2.2.2.2.1
theorem Cx.hz {p : Program} {s : State} {m : MethodId} {args : Array Value} {meth : Method} {c : Code} (C : Cx E d p s m args meth c) : (eH E).size ≤ s.heap.size := C.2.2.2.2.2.2.2.2.2.2.1
theorem Cx.dc {p : Program} {s : State} {m : MethodId} {args : Array Value} {meth : Method} {c : Code} (C : Cx E d p s m args meth c) {i : Instr × Nat} (h : mI d pc = some i) : decode (mB d) pc = .ok i := C.2.2.2.2.2.2.2.2.2.2.2 _ _ h
theorem lsc_mem {i : Nat} {v : Value} (h : (i, v) ∈ ls) {la : Array Slot} {nL : Nat} (hl : lv_has la nL (lsc E ls)) : la[i]? = some (.val (cv E v)) := hl.2.2 (i, cv E v) (List.mem_map.mpr ⟨_, h, rfl⟩)
def sto (i : Nat) (v : Value) (ls : List (Nat × Value)) : List (Nat × Value) := (i, v) :: ls.filter (fun q => !(q.1 == i) && !(q.1 + 1 == i && q.2.category == 2))
def stoL (i : Nat) (v : Value) (ls : List (Nat × Value)) : List (Nat × Value) := (i, v) :: ls.filter (fun q => !(q.1 == i) && (!(q.1 == i + 1) && !(q.1 + 1 == i && q.2.category == 2)))
theorem lsc_sto (i : Nat) (v : Value) : (i, cv E v) :: (lsc E ls).filter (fun q => !(q.1 == i) && !(q.1 + 1 == i && q.2.category == 2)) = lsc E (sto i v ls) := by
  simp only [lsc, sto, List.map_cons, List.filter_map]
  congr 2
  refine List.filter_congr (fun q _ => ?_)
  simp [cv_cat]
theorem lsc_stoL (i : Nat) (v : Value) : (i, cv E v) :: (lsc E ls).filter (fun q => !(q.1 == i) && (!(q.1 == i + 1) && !(q.1 + 1 == i && q.2.category == 2))) = lsc E (stoL i v ls) := by
  simp only [lsc, stoL, List.map_cons, List.filter_map]
  congr 2
  refine List.filter_congr (fun q _ => ?_)
  simp [cv_cat]
/-- fewer locals, in any order -/
theorem aw_ls {ls' : List (Nat × Value)} (ks : List Nat) (hk : lv_pick ls ks = ls') (h : AWP E d pc k n ls' st σ Q) : AWP E d pc k n ls st σ Q := by
  intro p e s m args below meth c H locs la C hS hR hl
  refine h p e s m args below meth c H locs la C hS hR ⟨hl.1, hl.2.1, fun q hq => ?_⟩
  obtain ⟨q', hq', rfl⟩ := List.mem_map.mp hq
  rw [← hk] at hq'
  obtain ⟨k, -, hk'⟩ := List.mem_filterMap.mp hq'
  exact hl.2.2 _ (List.mem_map.mpr ⟨_, List.mem_of_getElem? hk', rfl⟩)
theorem aw_iconst {i : Int} {v : Int32} (hd : mI d pc = some (.iconst i, 1)) (hq : pc + 1 = q) (hv : Int32.ofInt i = v) (h : AWP E d q k n ls (.int v :: st) σ Q) : AWP E d pc k n ls (st) σ Q := by
  intro p e s m args below meth c H locs la C hS hR hl
  subst hq
  exact lv_iconst C.x C.b (C.dc hd) hv (h p e s m args below meth c H locs la C hS hR hl)
theorem aw_bipush {i : Int} {v : Int32} (hd : mI d pc = some (.bipush i, 2)) (hq : pc + 2 = q) (hv : (Int8.ofInt i).toInt32 = v) (h : AWP E d q k n ls (.int v :: st) σ Q) : AWP E d pc k n ls (st) σ Q := by
  intro p e s m args below meth c H locs la C hS hR hl
  subst hq
  exact lv_bipush C.x C.b (C.dc hd) hv (h p e s m args below meth c H locs la C hS hR hl)
theorem aw_sipush {i : Int} {v : Int32} (hd : mI d pc = some (.sipush i, 3)) (hq : pc + 3 = q) (hv : (Int16.ofInt i).toInt32 = v) (h : AWP E d q k n ls (.int v :: st) σ Q) : AWP E d pc k n ls (st) σ Q := by
  intro p e s m args below meth c H locs la C hS hR hl
  subst hq
  exact lv_sipush C.x C.b (C.dc hd) hv (h p e s m args below meth c H locs la C hS hR hl)
theorem aw_lconst {i : Fin 2} {v : Int64} (hd : mI d pc = some (.lconst i, 1)) (hq : pc + 1 = q) (hv : Int64.ofNat (i : Nat) = v) (h : AWP E d q k n ls (.long v :: st) σ Q) : AWP E d pc k n ls (st) σ Q := by
  intro p e s m args below meth c H locs la C hS hR hl
  subst hq
  exact lv_lconst C.x C.b (C.dc hd) hv (h p e s m args below meth c H locs la C hS hR hl)
theorem aw_iload_n {i : Fin 4} {j : Nat} {x : Int32} (hd : mI d pc = some (.iload_n i, 1)) (hq : pc + 1 = q) (hi : (i : Nat) = j) (hm : (j, Value.int x) ∈ ls) (h : AWP E d q k n ls (.int x :: st) σ Q) : AWP E d pc k n ls (st) σ Q := by
  intro p e s m args below meth c H locs la C hS hR hl
  subst hq
  exact lv_iload_n C.x C.b (C.dc hd) hi (lsc_mem hm hl) (h p e s m args below meth c H locs la C hS hR hl)
theorem aw_iload {j : Nat} {x : Int32} (hd : mI d pc = some (.iload j, 2)) (hq : pc + 2 = q) (hm : (j, Value.int x) ∈ ls) (h : AWP E d q k n ls (.int x :: st) σ Q) : AWP E d pc k n ls (st) σ Q := by
  intro p e s m args below meth c H locs la C hS hR hl
  subst hq
  exact lv_iload C.x C.b (C.dc hd) (lsc_mem hm hl) (h p e s m args below meth c H locs la C hS hR hl)
theorem aw_lload_n {i : Fin 4} {j : Nat} {x : Int64} (hd : mI d pc = some (.lload_n i, 1)) (hq : pc + 1 = q) (hi : (i : Nat) = j) (hm : (j, Value.long x) ∈ ls) (h : AWP E d q k n ls (.long x :: st) σ Q) : AWP E d pc k n ls (st) σ Q := by
  intro p e s m args below meth c H locs la C hS hR hl
  subst hq
  exact lv_lload_n C.x C.b (C.dc hd) hi (lsc_mem hm hl) (h p e s m args below meth c H locs la C hS hR hl)
theorem aw_lload {j : Nat} {x : Int64} (hd : mI d pc = some (.lload j, 2)) (hq : pc + 2 = q) (hm : (j, Value.long x) ∈ ls) (h : AWP E d q k n ls (.long x :: st) σ Q) : AWP E d pc k n ls (st) σ Q := by
  intro p e s m args below meth c H locs la C hS hR hl
  subst hq
  exact lv_lload C.x C.b (C.dc hd) (lsc_mem hm hl) (h p e s m args below meth c H locs la C hS hR hl)
theorem aw_aload_n {i : Fin 4} {j : Nat} {x : Nat} (hd : mI d pc = some (.aload_n i, 1)) (hq : pc + 1 = q) (hi : (i : Nat) = j) (hm : (j, Value.ref x) ∈ ls) (h : AWP E d q k n ls (.ref x :: st) σ Q) : AWP E d pc k n ls (st) σ Q := by
  intro p e s m args below meth c H locs la C hS hR hl
  subst hq
  exact lv_aload_n C.x C.b (C.dc hd) hi (lsc_mem hm hl) (h p e s m args below meth c H locs la C hS hR hl)
theorem aw_aload {j : Nat} {x : Nat} (hd : mI d pc = some (.aload j, 2)) (hq : pc + 2 = q) (hm : (j, Value.ref x) ∈ ls) (h : AWP E d q k n ls (.ref x :: st) σ Q) : AWP E d pc k n ls (st) σ Q := by
  intro p e s m args below meth c H locs la C hS hR hl
  subst hq
  exact lv_aload C.x C.b (C.dc hd) (lsc_mem hm hl) (h p e s m args below meth c H locs la C hS hR hl)
theorem aw_istore_n {i : Fin 4} {j : Nat} {x : Int32} {ls' : List (Nat × Value)} (hd : mI d pc = some (.istore_n i, 1)) (hq : pc + 1 = q) (hi : (i : Nat) = j) (hj : j < mL d) (hs : sto j (.int x) ls = ls') (h : AWP E d q k n ls' st σ Q) : AWP E d pc k n ls (.int x :: st) σ Q := by
  intro p e s m args below meth c H locs la C hS hR hl
  subst hq
  exact lv_istore_n C.x C.b (C.dc hd) hi hl hj (lsc_sto j (.int x)) (fun la' hl' => h p e s m args below meth c H locs la' C hS hR (hs ▸ hl'))
theorem aw_istore {j : Nat} {x : Int32} {ls' : List (Nat × Value)} (hd : mI d pc = some (.istore j, 2)) (hq : pc + 2 = q) (hj : j < mL d) (hs : sto j (.int x) ls = ls') (h : AWP E d q k n ls' st σ Q) : AWP E d pc k n ls (.int x :: st) σ Q := by
  intro p e s m args below meth c H locs la C hS hR hl
  subst hq
  exact lv_istore C.x C.b (C.dc hd) hl hj (lsc_sto j (.int x)) (fun la' hl' => h p e s m args below meth c H locs la' C hS hR (hs ▸ hl'))
theorem aw_astore_n {i : Fin 4} {j : Nat} {x : Nat} {ls' : List (Nat × Value)} (hd : mI d pc = some (.astore_n i, 1)) (hq : pc + 1 = q) (hi : (i : Nat) = j) (hj : j < mL d) (hs : sto j (.ref x) ls = ls') (h : AWP E d q k n ls' st σ Q) : AWP E d pc k n ls (.ref x :: st) σ Q := by
  intro p e s m args below meth c H locs la C hS hR hl
  subst hq
  exact lv_astore_n C.x C.b (C.dc hd) hi hl hj (lsc_sto j (.ref x)) (fun la' hl' => h p e s m args below meth c H locs la' C hS hR (hs ▸ hl'))
theorem aw_astore {j : Nat} {x : Nat} {ls' : List (Nat × Value)} (hd : mI d pc = some (.astore j, 2)) (hq : pc + 2 = q) (hj : j < mL d) (hs : sto j (.ref x) ls = ls') (h : AWP E d q k n ls' st σ Q) : AWP E d pc k n ls (.ref x :: st) σ Q := by
  intro p e s m args below meth c H locs la C hS hR hl
  subst hq
  exact lv_astore C.x C.b (C.dc hd) hl hj (lsc_sto j (.ref x)) (fun la' hl' => h p e s m args below meth c H locs la' C hS hR (hs ▸ hl'))
theorem aw_lstore_n {i : Fin 4} {j : Nat} {x : Int64} {ls' : List (Nat × Value)} (hd : mI d pc = some (.lstore_n i, 1)) (hq : pc + 1 = q) (hi : (i : Nat) = j) (hj : j + 1 < mL d) (hs : stoL j (.long x) ls = ls') (h : AWP E d q k n ls' st σ Q) : AWP E d pc k n ls (.long x :: st) σ Q := by
  intro p e s m args below meth c H locs la C hS hR hl
  subst hq
  exact lv_lstore_n C.x C.b (C.dc hd) hi hl hj (lsc_stoL j (.long x)) (fun la' hl' => h p e s m args below meth c H locs la' C hS hR (hs ▸ hl'))
theorem aw_lstore {j : Nat} {x : Int64} {ls' : List (Nat × Value)} (hd : mI d pc = some (.lstore j, 2)) (hq : pc + 2 = q) (hj : j + 1 < mL d) (hs : stoL j (.long x) ls = ls') (h : AWP E d q k n ls' st σ Q) : AWP E d pc k n ls (.long x :: st) σ Q := by
  intro p e s m args below meth c H locs la C hS hR hl
  subst hq
  exact lv_lstore C.x C.b (C.dc hd) hl hj (lsc_stoL j (.long x)) (fun la' hl' => h p e s m args below meth c H locs la' C hS hR (hs ▸ hl'))
theorem aw_iinc {j : Nat} {i : Int} {x v : Int32} {ls' : List (Nat × Value)} (hd : mI d pc = some (.iinc j i, 3)) (hq : pc + 3 = q) (hm : (j, Value.int x) ∈ ls) (hv : x + Int32.ofInt i = v) (hj : j < mL d) (hs : sto j (.int v) ls = ls') (h : AWP E d q k n ls' st σ Q) : AWP E d pc k n ls st σ Q := by
  intro p e s m args below meth c H locs la C hS hR hl
  subst hq
  obtain ⟨k0, hk0⟩ := List.getElem?_of_mem (List.mem_map.mpr ⟨_, hm, rfl⟩ : (j, cv E (.int x)) ∈ lsc E ls)
  exact lv_iinc C.x C.b (C.dc hd) hl hk0 hv hj (lsc_sto j (.int v)) (fun la' hl' => h p e s m args below meth c H locs la' C hS hR (hs ▸ hl'))
theorem aw_iadd {x y : Int32} (hd : mI d pc = some (.iadd, 1)) (hq : pc + 1 = q) (h : AWP E d q k n ls (.int (x + y) :: st) σ Q) : AWP E d pc k n ls (.int y :: .int x :: st) σ Q := by
  intro p e s m args below meth c H locs la C hS hR hl
  subst hq
  exact lv_iadd C.x C.b (C.dc hd) (h p e s m args below meth c H locs la C hS hR hl)
theorem aw_isub {x y : Int32} (hd : mI d pc = some (.isub, 1)) (hq : pc + 1 = q) (h : AWP E d q k n ls (.int (x - y) :: st) σ Q) : AWP E d pc k n ls (.int y :: .int x :: st) σ Q := by
  intro p e s m args below meth c H locs la C hS hR hl
  subst hq
  exact lv_isub C.x C.b (C.dc hd) (h p e s m args below meth c H locs la C hS hR hl)
theorem aw_imul {x y : Int32} (hd : mI d pc = some (.imul, 1)) (hq : pc + 1 = q) (h : AWP E d q k n ls (.int (x * y) :: st) σ Q) : AWP E d pc k n ls (.int y :: .int x :: st) σ Q := by
  intro p e s m args below meth c H locs la C hS hR hl
  subst hq
  exact lv_imul C.x C.b (C.dc hd) (h p e s m args below meth c H locs la C hS hR hl)
theorem aw_iand {x y : Int32} (hd : mI d pc = some (.iand, 1)) (hq : pc + 1 = q) (h : AWP E d q k n ls (.int (x &&& y) :: st) σ Q) : AWP E d pc k n ls (.int y :: .int x :: st) σ Q := by
  intro p e s m args below meth c H locs la C hS hR hl
  subst hq
  exact lv_iand C.x C.b (C.dc hd) (h p e s m args below meth c H locs la C hS hR hl)
theorem aw_ior {x y : Int32} (hd : mI d pc = some (.ior, 1)) (hq : pc + 1 = q) (h : AWP E d q k n ls (.int (x ||| y) :: st) σ Q) : AWP E d pc k n ls (.int y :: .int x :: st) σ Q := by
  intro p e s m args below meth c H locs la C hS hR hl
  subst hq
  exact lv_ior C.x C.b (C.dc hd) (h p e s m args below meth c H locs la C hS hR hl)
theorem aw_ixor {x y : Int32} (hd : mI d pc = some (.ixor, 1)) (hq : pc + 1 = q) (h : AWP E d q k n ls (.int (x ^^^ y) :: st) σ Q) : AWP E d pc k n ls (.int y :: .int x :: st) σ Q := by
  intro p e s m args below meth c H locs la C hS hR hl
  subst hq
  exact lv_ixor C.x C.b (C.dc hd) (h p e s m args below meth c H locs la C hS hR hl)
theorem aw_ishl {x y : Int32} (hd : mI d pc = some (.ishl, 1)) (hq : pc + 1 = q) (h : AWP E d q k n ls (.int (x <<< (y &&& 31)) :: st) σ Q) : AWP E d pc k n ls (.int y :: .int x :: st) σ Q := by
  intro p e s m args below meth c H locs la C hS hR hl
  subst hq
  exact lv_ishl C.x C.b (C.dc hd) (h p e s m args below meth c H locs la C hS hR hl)
theorem aw_ishr {x y : Int32} (hd : mI d pc = some (.ishr, 1)) (hq : pc + 1 = q) (h : AWP E d q k n ls (.int (x >>> (y &&& 31)) :: st) σ Q) : AWP E d pc k n ls (.int y :: .int x :: st) σ Q := by
  intro p e s m args below meth c H locs la C hS hR hl
  subst hq
  exact lv_ishr C.x C.b (C.dc hd) (h p e s m args below meth c H locs la C hS hR hl)
theorem aw_idiv {x y : Int32} (hd : mI d pc = some (.idiv, 1)) (hq : pc + 1 = q) (hne : ¬ y = 0) (h : AWP E d q k n ls (.int (x / y) :: st) σ Q) : AWP E d pc k n ls (.int y :: .int x :: st) σ Q := by
  intro p e s m args below meth c H locs la C hS hR hl
  subst hq
  exact lv_idiv C.x C.b (C.dc hd) hne (h p e s m args below meth c H locs la C hS hR hl)
theorem aw_irem {x y : Int32} (hd : mI d pc = some (.irem, 1)) (hq : pc + 1 = q) (hne : ¬ y = 0) (h : AWP E d q k n ls (.int (x - x / y * y) :: st) σ Q) : AWP E d pc k n ls (.int y :: .int x :: st) σ Q := by
  intro p e s m args below meth c H locs la C hS hR hl
  subst hq
  exact lv_irem C.x C.b (C.dc hd) hne (h p e s m args below meth c H locs la C hS hR hl)
theorem aw_ineg {x : Int32} (hd : mI d pc = some (.ineg, 1)) (hq : pc + 1 = q) (h : AWP E d q k n ls (.int (-x) :: st) σ Q) : AWP E d pc k n ls (.int x :: st) σ Q := by
  intro p e s m args below meth c H locs la C hS hR hl
  subst hq
  exact lv_ineg C.x C.b (C.dc hd) (h p e s m args below meth c H locs la C hS hR hl)
theorem aw_iushr {x y : Int32} (hd : mI d pc = some (.iushr, 1)) (hq : pc + 1 = q) (h : AWP E d q k n ls (.int (x.toUInt32 >>> (y.toUInt32 &&& Int32.toUInt32 31)).toInt32 :: st) σ Q) : AWP E d pc k n ls (.int y :: .int x :: st) σ Q := by
  intro p e s m args below meth c H locs la C hS hR hl
  subst hq
  exact lv_iushr C.x C.b (C.dc hd) rfl (h p e s m args below meth c H locs la C hS hR hl)
theorem aw_ladd {x y : Int64} (hd : mI d pc = some (.ladd, 1)) (hq : pc + 1 = q) (h : AWP E d q k n ls (.long (x + y) :: st) σ Q) : AWP E d pc k n ls (.long y :: .long x :: st) σ Q := by
  intro p e s m args below meth c H locs la C hS hR hl
  subst hq
  exact lv_ladd C.x C.b (C.dc hd) (h p e s m args below meth c H locs la C hS hR hl)
theorem aw_lmul {x y : Int64} (hd : mI d pc = some (.lmul, 1)) (hq : pc + 1 = q) (h : AWP E d q k n ls (.long (x * y) :: st) σ Q) : AWP E d pc k n ls (.long y :: .long x :: st) σ Q := by
  intro p e s m args below meth c H locs la C hS hR hl
  subst hq
  exact lv_lmul C.x C.b (C.dc hd) (h p e s m args below meth c H locs la C hS hR hl)
theorem aw_i2l {x : Int32} (hd : mI d pc = some (.i2l, 1)) (hq : pc + 1 = q) (h : AWP E d q k n ls (.long x.toInt64 :: st) σ Q) : AWP E d pc k n ls (.int x :: st) σ Q := by
  intro p e s m args below meth c H locs la C hS hR hl
  subst hq
  exact lv_i2l C.x C.b (C.dc hd) rfl (h p e s m args below meth c H locs la C hS hR hl)
theorem aw_l2i {x : Int64} (hd : mI d pc = some (.l2i, 1)) (hq : pc + 1 = q) (h : AWP E d q k n ls (.int x.toInt32 :: st) σ Q) : AWP E d pc k n ls (.long x :: st) σ Q := by
  intro p e s m args below meth c H locs la C hS hR hl
  subst hq
  exact lv_l2i C.x C.b (C.dc hd) rfl (h p e s m args below meth c H locs la C hS hR hl)
theorem aw_i2b {x : Int32} (hd : mI d pc = some (.i2b, 1)) (hq : pc + 1 = q) (h : AWP E d q k n ls (.int x.toInt8.toInt32 :: st) σ Q) : AWP E d pc k n ls (.int x :: st) σ Q := by
  intro p e s m args below meth c H locs la C hS hR hl
  subst hq
  exact lv_i2b C.x C.b (C.dc hd) rfl (h p e s m args below meth c H locs la C hS hR hl)
theorem aw_i2c {x : Int32} (hd : mI d pc = some (.i2c, 1)) (hq : pc + 1 = q) (h : AWP E d q k n ls (.int (x.toUInt32 % 65536).toInt32 :: st) σ Q) : AWP E d pc k n ls (.int x :: st) σ Q := by
  intro p e s m args below meth c H locs la C hS hR hl
  subst hq
  exact lv_i2c C.x C.b (C.dc hd) rfl (h p e s m args below meth c H locs la C hS hR hl)
theorem aw_dup {v : Value} (hd : mI d pc = some (.dup, 1)) (hq : pc + 1 = q) (hv : v.category = 1) (h : AWP E d q k n ls (v :: v :: st) σ Q) : AWP E d pc k n ls (v :: st) σ Q := by
  intro p e s m args below meth c H locs la C hS hR hl
  subst hq
  exact lv_dup C.x C.b (C.dc hd) (by rw [cv_cat]; exact hv) (h p e s m args below meth c H locs la C hS hR hl)
theorem aw_dup2 {v w : Value} (hd : mI d pc = some (.dup2, 1)) (hq : pc + 1 = q) (hv : v.category = 1) (hw : w.category = 1) (h : AWP E d q k n ls (v :: w :: v :: w :: st) σ Q) : AWP E d pc k n ls (v :: w :: st) σ Q := by
  intro p e s m args below meth c H locs la C hS hR hl
  subst hq
  exact lv_dup2_11 C.x C.b (C.dc hd) (by rw [cv_cat]; exact hv) (by rw [cv_cat]; exact hw) (h p e s m args below meth c H locs la C hS hR hl)
theorem aw_lcmp {x y : Int64} (hd : mI d pc = some (.lcmp, 1)) (hq : pc + 1 = q) (h : AWP E d q k n ls (.int (lg_cmp x y) :: st) σ Q) : AWP E d pc k n ls (.long y :: .long x :: st) σ Q := by
  intro p e s m args below meth c H locs la C hS hR hl
  subst hq
  exact W.lcmp C.x C.b (C.dc hd) (h p e s m args below meth c H locs la C hS hR hl)
theorem aw_icmp_eq {x y : Int32} {off : Int} {tgt : Nat} (hd : mI d pc = some (.if_icmp .eq off, 3)) (hq : pc + 3 = q) (ht : (pc : Int) + off = (tgt : Int)) (h : (x = y → AWP E d tgt k n ls st σ Q) ∧ (¬ x = y → AWP E d q k n ls st σ Q)) : AWP E d pc k n ls (.int y :: .int x :: st) σ Q := by
  intro p e s m args below meth c H locs la C hS hR hl
  subst hq
  exact lv_icmp_eq C.x C.b (C.dc hd) ht (fun g => h.1 g p e s m args below meth c H locs la C hS hR hl) (fun g => h.2 g p e s m args below meth c H locs la C hS hR hl)
theorem aw_if_eq {x : Int32} {off : Int} {tgt : Nat} (hd : mI d pc = some (.ifCond .eq off, 3)) (hq : pc + 3 = q) (ht : (pc : Int) + off = (tgt : Int)) (h : (x = 0 → AWP E d tgt k n ls st σ Q) ∧ (¬ x = 0 → AWP E d q k n ls st σ Q)) : AWP E d pc k n ls (.int x :: st) σ Q := by
  intro p e s m args below meth c H locs la C hS hR hl
  subst hq
  exact lv_if_eq C.x C.b (C.dc hd) ht (fun g => h.1 g p e s m args below meth c H locs la C hS hR hl) (fun g => h.2 g p e s m args below meth c H locs la C hS hR hl)
theorem aw_icmp_ne {x y : Int32} {off : Int} {tgt : Nat} (hd : mI d pc = some (.if_icmp .ne off, 3)) (hq : pc + 3 = q) (ht : (pc : Int) + off = (tgt : Int)) (h : (x = y → AWP E d q k n ls st σ Q) ∧ (¬ x = y → AWP E d tgt k n ls st σ Q)) : AWP E d pc k n ls (.int y :: .int x :: st) σ Q := by
  intro p e s m args below meth c H locs la C hS hR hl
  subst hq
  exact lv_icmp_ne C.x C.b (C.dc hd) ht (fun g => h.2 g p e s m args below meth c H locs la C hS hR hl) (fun g => h.1 g p e s m args below meth c H locs la C hS hR hl)
theorem aw_if_ne {x : Int32} {off : Int} {tgt : Nat} (hd : mI d pc = some (.ifCond .ne off, 3)) (hq : pc + 3 = q) (ht : (pc : Int) + off = (tgt : Int)) (h : (x = 0 → AWP E d q k n ls st σ Q) ∧ (¬ x = 0 → AWP E d tgt k n ls st σ Q)) : AWP E d pc k n ls (.int x :: st) σ Q := by
  intro p e s m args below meth c H locs la C hS hR hl
  subst hq
  exact lv_if_ne C.x C.b (C.dc hd) ht (fun g => h.2 g p e s m args below meth c H locs la C hS hR hl) (fun g => h.1 g p e s m args below meth c H locs la C hS hR hl)
theorem aw_icmp_lt {x y : Int32} {off : Int} {tgt : Nat} (hd : mI d pc = some (.if_icmp .lt off, 3)) (hq : pc + 3 = q) (ht : (pc : Int) + off = (tgt : Int)) (h : (x < y → AWP E d tgt k n ls st σ Q) ∧ (¬ x < y → AWP E d q k n ls st σ Q)) : AWP E d pc k n ls (.int y :: .int x :: st) σ Q := by
  intro p e s m args below meth c H locs la C hS hR hl
  subst hq
  exact lv_icmp_lt C.x C.b (C.dc hd) ht (fun g => h.1 g p e s m args below meth c H locs la C hS hR hl) (fun g => h.2 g p e s m args below meth c H locs la C hS hR hl)
theorem aw_if_lt {x : Int32} {off : Int} {tgt : Nat} (hd : mI d pc = some (.ifCond .lt off, 3)) (hq : pc + 3 = q) (ht : (pc : Int) + off = (tgt : Int)) (h : (x < 0 → AWP E d tgt k n ls st σ Q) ∧ (¬ x < 0 → AWP E d q k n ls st σ Q)) : AWP E d pc k n ls (.int x :: st) σ Q := by
  intro p e s m args below meth c H locs la C hS hR hl
  subst hq
  exact lv_if_lt C.x C.b (C.dc hd) ht (fun g => h.1 g p e s m args below meth c H locs la C hS hR hl) (fun g => h.2 g p e s m args below meth c H locs la C hS hR hl)
theorem aw_icmp_ge {x y : Int32} {off : Int} {tgt : Nat} (hd : mI d pc = some (.if_icmp .ge off, 3)) (hq : pc + 3 = q) (ht : (pc : Int) + off = (tgt : Int)) (h : (y ≤ x → AWP E d tgt k n ls st σ Q) ∧ (¬ y ≤ x → AWP E d q k n ls st σ Q)) : AWP E d pc k n ls (.int y :: .int x :: st) σ Q := by
  intro p e s m args below meth c H locs la C hS hR hl
  subst hq
  exact lv_icmp_ge C.x C.b (C.dc hd) ht (fun g => h.1 g p e s m args below meth c H locs la C hS hR hl) (fun g => h.2 g p e s m args below meth c H locs la C hS hR hl)
theorem aw_if_ge {x : Int32} {off : Int} {tgt : Nat} (hd : mI d pc = some (.ifCond .ge off, 3)) (hq : pc + 3 = q) (ht : (pc : Int) + off = (tgt : Int)) (h : (0 ≤ x → AWP E d tgt k n ls st σ Q) ∧ (¬ 0 ≤ x → AWP E d q k n ls st σ Q)) : AWP E d pc k n ls (.int x :: st) σ Q := by
  intro p e s m args below meth c H locs la C hS hR hl
  subst hq
  exact lv_if_ge C.x C.b (C.dc hd) ht (fun g => h.1 g p e s m args below meth c H locs la C hS hR hl) (fun g => h.2 g p e s m args below meth c H locs la C hS hR hl)
theorem aw_icmp_gt {x y : Int32} {off : Int} {tgt : Nat} (hd : mI d pc = some (.if_icmp .gt off, 3)) (hq : pc + 3 = q) (ht : (pc : Int) + off = (tgt : Int)) (h : (y < x → AWP E d tgt k n ls st σ Q) ∧ (¬ y < x → AWP E d q k n ls st σ Q)) : AWP E d pc k n ls (.int y :: .int x :: st) σ Q := by
  intro p e s m args below meth c H locs la C hS hR hl
  subst hq
  exact lv_icmp_gt C.x C.b (C.dc hd) ht (fun g => h.1 g p e s m args below meth c H locs la C hS hR hl) (fun g => h.2 g p e s m args below meth c H locs la C hS hR hl)
theorem aw_if_gt {x : Int32} {off : Int} {tgt : Nat} (hd : mI d pc = some (.ifCond .gt off, 3)) (hq : pc + 3 = q) (ht : (pc : Int) + off = (tgt : Int)) (h : (0 < x → AWP E d tgt k n ls st σ Q) ∧ (¬ 0 < x → AWP E d q k n ls st σ Q)) : AWP E d pc k n ls (.int x :: st) σ Q := by
  intro p e s m args below meth c H locs la C hS hR hl
  subst hq
  exact lv_if_gt C.x C.b (C.dc hd) ht (fun g => h.1 g p e s m args below meth c H locs la C hS hR hl) (fun g => h.2 g p e s m args below meth c H locs la C hS hR hl)
theorem aw_icmp_le {x y : Int32} {off : Int} {tgt : Nat} (hd : mI d pc = some (.if_icmp .le off, 3)) (hq : pc + 3 = q) (ht : (pc : Int) + off = (tgt : Int)) (h : (x ≤ y → AWP E d tgt k n ls st σ Q) ∧ (¬ x ≤ y → AWP E d q k n ls st σ Q)) : AWP E d pc k n ls (.int y :: .int x :: st) σ Q := by
  intro p e s m args below meth c H locs la C hS hR hl
  subst hq
  exact lv_icmp_le C.x C.b (C.dc hd) ht (fun g => h.1 g p e s m args below meth c H locs la C hS hR hl) (fun g => h.2 g p e s m args below meth c H locs la C hS hR hl)
theorem aw_if_le {x : Int32} {off : Int} {tgt : Nat} (hd : mI d pc = some (.ifCond .le off, 3)) (hq : pc + 3 = q) (ht : (pc : Int) + off = (tgt : Int)) (h : (x ≤ 0 → AWP E d tgt k n ls st σ Q) ∧ (¬ x ≤ 0 → AWP E d q k n ls st σ Q)) : AWP E d pc k n ls (.int x :: st) σ Q := by
  intro p e s m args below meth c H locs la C hS hR hl
  subst hq
  exact lv_if_le C.x C.b (C.dc hd) ht (fun g => h.1 g p e s m args below meth c H locs la C hS hR hl) (fun g => h.2 g p e s m args below meth c H locs la C hS hR hl)
theorem aw_goto {off : Int} {tgt : Nat} (hd : mI d pc = some (.goto off, 3)) (ht : (pc : Int) + off = (tgt : Int)) (h : AWP E d tgt k n ls st σ Q) : AWP E d pc k n ls st σ Q := by
  intro p e s m args below meth c H locs la C hS hR hl
  exact lv_goto C.x C.b (C.dc hd) ht (h p e s m args below meth c H locs la C hS hR hl)
theorem aw_ifnonnull {x : Nat} {off : Int} {tgt : Nat} (hd : mI d pc = some (.ifnonnull off, 3)) (ht : (pc : Int) + off = (tgt : Int)) (h : AWP E d tgt k n ls st σ Q) : AWP E d pc k n ls (.ref x :: st) σ Q := by
  intro p e s m args below meth c H locs la C hS hR hl
  exact lv_ifnonnull C.x C.b (C.dc hd) ht (h p e s m args below meth c H locs la C hS hR hl)
theorem aw_tableIn {dflt lo hi : Int} {offs : Array Int} {len : Nat} {x : Int32} {off : Int} {tgt : Nat} (hd : mI d pc = some (.tableswitch dflt lo hi offs, len)) (h1 : ¬ x.toInt < lo) (h2 : ¬ hi < x.toInt) (ho : offs[(x.toInt - lo).toNat]? = some off) (ht : (pc : Int) + off = (tgt : Int)) (h : AWP E d tgt k n ls st σ Q) : AWP E d pc k n ls (.int x :: st) σ Q := by
  intro p e s m args below meth c H locs la C hS hR hl
  exact lv_tableIn C.x C.b (C.dc hd) h1 h2 ho ht (h p e s m args below meth c H locs la C hS hR hl)
theorem aw_tableOut {dflt lo hi : Int} {offs : Array Int} {len : Nat} {x : Int32} {tgt : Nat} (hd : mI d pc = some (.tableswitch dflt lo hi offs, len)) (h1 : x.toInt < lo ∨ hi < x.toInt) (ht : (pc : Int) + dflt = (tgt : Int)) (h : AWP E d tgt k n ls st σ Q) : AWP E d pc k n ls (.int x :: st) σ Q := by
  intro p e s m args below meth c H locs la C hS hR hl
  exact lv_tableOut C.x C.b (C.dc hd) h1 ht (h p e s m args below meth c H locs la C hS hR hl)
theorem aw_ldc {i : Nat} {v : Int32} (hd : mI d pc = some (.ldc i, 2)) (hq : pc + 2 = q) (hc : Cond.constant (mY d).cls i v ∈ TB) (h : AWP E d q k n ls (.int v :: st) σ Q) : AWP E d pc k n ls st σ Q := by
  intro p e s m args below meth c H locs la C hS hR hl
  subst hq
  exact lv_ldc C.x C.b C.o (C.t _ hc) (C.dc hd) (h p e s m args below meth c H locs la C hS hR hl)
theorem aw_ldcw {i : Nat} {v : Int32} (hd : mI d pc = some (.ldc_w i, 3)) (hq : pc + 3 = q) (hc : Cond.constant (mY d).cls i v ∈ TB) (h : AWP E d q k n ls (.int v :: st) σ Q) : AWP E d pc k n ls st σ Q := by
  intro p e s m args below meth c H locs la C hS hR hl
  subst hq
  exact lv_ldcw C.x C.b C.o (C.t _ hc) (C.dc hd) (h p e s m args below meth c H locs la C hS hR hl)
theorem aw_ldc2 {i : Nat} {v : Int64} (hd : mI d pc = some (.ldc2_w i, 3)) (hq : pc + 3 = q) (hc : Cond.constantLong (mY d).cls i v ∈ TB) (h : AWP E d q k n ls (.long v :: st) σ Q) : AWP E d pc k n ls st σ Q := by
  intro p e s m args below meth c H locs la C hS hR hl
  subst hq
  exact lv_ldc2 C.x C.b C.o (C.t _ hc) (C.dc hd) (h p e s m args below meth c H locs la C hS hR hl)
end Rows
