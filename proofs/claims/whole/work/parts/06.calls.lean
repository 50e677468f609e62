/-! ROWS OF THE ABSTRACT MACHINE: calls; the outer cells (script, UNTOLD, strings); System.arraycopy -/
section Calls
variable {E : EN} {d z : MD} {pc q k n k' n' : Nat} {ls : List (Nat × Value)} {st stk : List Value} {σ : SG} {Q : Option Value → SG → Prop}
def CI (z : MD) (np : Nat) : Prop := Cond.code (mY z) (mB z) (mL z) (mT z) ∈ TB ∧ Cond.initialized (mY z).cls ∈ TB ∧ ((mY z).cls ≠ "java/lang/invoke/MethodHandle" ∧ (mY z).cls ≠ "java/lang/invoke/VarHandle") ∧ (parseMethodDescriptor (mY z).desc).map (fun d => d.parameters.length) = some np
def CV (own : String) (idx : Nat) (z : MD) (np : Nat) : Prop := CI z np ∧ Cond.methodLink own idx (mY z) ∈ TB ∧ Cond.instanceMethod (mY z) ∈ TB ∧ Cond.selects (mY z).cls (mY z) (mY z) ∈ TB
def CS (own : String) (idx : Nat) (z : MD) (np : Nat) : Prop := CI z np ∧ Cond.methodLink own idx (mY z) ∈ TB ∧ Cond.static (mY z) ∈ TB
def CN (own : String) (idx : Nat) (z : MD) (np : Nat) : Prop := CI z np ∧ (Cond.methodLink own idx (mY z) ∈ TB ∨ ∃ host, Cond.methodLinkNest own idx (mY z) host ∈ nestW) ∧ (mY z).name = "<init>" ∧ Cond.instanceMethod (mY z) ∈ TB ∧ mT z = none
def RM (z d : MD) : Prop := (mR z).frames + 1 ≤ (mR d).frames ∧ 8 + (mL z + 11) + (mR z).locals ≤ (mR d).locals
theorem tb_good {w : Cond} (h : w ∈ TB) : (w.onTables && w.keeps) = true ∨ ∃ ty, w = .arrayClass ty := good_of_word (List.mem_filter.mp h).2
theorem goodTB {z : MD} (h : Cond.code (mY z) (mB z) (mL z) (mT z) ∈ TB) : GoodIn TB (mW z) := by
  intro w hw
  rcases List.mem_cons.mp hw with rfl | hw
  · exact ⟨h, tb_good h⟩
  · exact ⟨hw, tb_good hw⟩
theorem callB {p : Program} {s : State} {m : MethodId} {args : Array Value} {meth : Method} {c : Code} {idx np : Nat} (C : Cx E d p s m args meth c) (h : CI z np) (hl : Cond.methodLink (mY d).cls idx (mY z) ∈ TB) (hr : RM z d) : CallB (mR d) s args (mY d).cls idx (mY z) (mB z) (mL z) (mT z) (mW z) (mR z) (mR z).cells (mR z).slots np :=
  callB_of (Ts := TB) np C.t (goodTB h.1) rfl rfl rfl (C.t _ h.2.1) (C.t _ hl) ⟨h.2.2.1.1, h.2.2.1.2, h.2.2.2⟩ hr
theorem blind {av : List Value} : FrameBlind (aPc E av σ) := fun a U g mk q => ⟨q.1, q.2.1, KK.same (s := U) (U := U.calling g mk a) rfl q.2.2⟩
theorem call_key {p : Program} {e : Env} {s : State} {m : MethodId} {args : Array Value} {below : List Frame} {meth : Method} {c : Code} {H : Heap} {locs : List Loc} {la : Array Slot} {R : Option Value → SG → Prop} {a : Array Value} {stc : List Value} (C : Cx E d p s m args meth c) (hS : va_S (eA E) s.heap H locs) (hl : lv_has la (mL d) (lsc E ls)) (hq : pc + 3 = q) (hk : k + (mR z).cells = k') (hn : n + (mR z).slots = n')
    (hrun : va_Run p (eL E) e (mR d) s m args below meth c H locs k n (mR z).cells (mR z).slots (F0 m pc la stc) (st.map (cv E)) (aQc E R a) (eA E)) (h : ∀ v τ, R v τ → AWP E d q k' n' ls (v.toList ++ st) τ Q) :
    W p (eL E) e (mR d) s m args below meth c H locs k n (MQ below (aQc E Q) args s (mR d).cells (mR d).slots (eA E)) (F0 m pc la stc) := by
  subst hq; subst hk; subst hn
  intro T hT X
  obtain ⟨v, s0, t, T', L, h0, X', hL, e1, e2, ⟨v', τ, hv, hR', hQ, hsz⟩, stp⟩ := hrun T hT X
  cases Outcome.returned.inj hv
  rw [h0] at hsz
  rw [← e1] at hR' hsz
  have hS' : va_S (eA E) s.heap T'.heap (locs ++ L) := by
    refine ⟨Nat.le_trans hS.1 hsz, fun q h1 h2 => ?_, fun q hq => ?_⟩
    · have hq' : q < (eH E).size := Nat.not_le.mp h2
      rw [hR'.2.2.1 q hq', C.h q hq']
    · rcases List.mem_append.mp hq with h | h
      · exact hS.2.2 q h
      · exact hL q h
  obtain ⟨t2, a1, b1⟩ := h v' τ hQ p e s m args below meth c T'.heap (locs ++ L) la C hS' hR' hl T' rfl X'
  refine ⟨t2, stp t2 ?_, b1⟩
  have he : (v'.toList ++ st).map (cv E) = (Option.map (cv E) v').toList ++ st.map (cv E) := by cases v' <;> simp
  rw [he] at a1
  exact a1
theorem cat_map (st : List Value) : ((st.map (cv E)).map fun v => v.category) = st.map fun v => v.category := by
  rw [List.map_map]
  exact List.map_congr_left (fun v _ => cv_cat E v)
theorem aw_cv {idx np a ci : Nat} {av : List Value} {R : Option Value → SG → Prop} (hd : mI d pc = some (.invokevirtual idx, 3)) (hq : pc + 3 = q) (hc : CV (mY d).cls idx z np) (hr : RM z d) (hk : k + (mR z).cells = k') (hn : n + (mR z).slots = n') (hk' : k' ≤ (mR d).cells) (hn' : n' ≤ (mR d).slots) (ho : OB σ a ci) (hci : (classes[ci]?).map (fun q => q.1) = some (mY z).cls) (hs : stk = av.reverse ++ .ref a :: st) (hln : av.length = np) (hw : (st.map fun v => v.category).sum ≤ 8) (hm : AMet E z (.ref a :: av) σ R) (h : ∀ v τ, R v τ → AWP E d q k' n' ls (v.toList ++ st) τ Q) : AWP E d pc k n ls stk σ Q := by
  intro p e s m args below meth c H locs la C hS hR hl
  subst hs
  have hrecv : ∃ cellB : Cell, H[ad E a]? = some cellB ∧ cellB.vm.isStatics = false ∧ s.vm.findClass (mY z).cls = some cellB.cls := by
    obtain ⟨r, hc0, cell, g1, g2, g3, -⟩ := hR.ob ho
    rw [hc0] at hci
    have hcn : r.1 = (mY z).cls := Option.some.inj hci
    exact ⟨cell, g1, by rw [g3]; rfl, by rw [g2, ← hcn]; exact (C.K.1.1 ci r hc0).2.1⟩
  refine call_key (z := z) (R := R) C hS hl hq hk hn (va_runV (Ts := TB) (As := av.map (cv E)) (b := ad E a) (nL := mL d) ⟨C.x, C.b, C.ml, C.o, C.t⟩ hm ⟨callB C hc.1 hc.2.1 hr, C.t _ hc.2.2.1, C.t _ hc.2.2.2⟩ ⟨blind, hrecv, fun U hU hW => ⟨rfl, by rw [hU]; exact hR, C.K.warm hW⟩⟩ rfl (by simpa using hln) hl.1 ?_ (lv_room (by rw [cat_map]; exact hw)) (C.dc hd) ⟨by omega, by omega⟩) h
  simp [cv]
theorem aw_cs {idx np : Nat} {av : List Value} {R : Option Value → SG → Prop} (hd : mI d pc = some (.invokestatic idx, 3)) (hq : pc + 3 = q) (hc : CS (mY d).cls idx z np) (hr : RM z d) (hk : k + (mR z).cells = k') (hn : n + (mR z).slots = n') (hk' : k' ≤ (mR d).cells) (hn' : n' ≤ (mR d).slots) (hs : stk = av.reverse ++ st) (hln : av.length = np) (hw : (st.map fun v => v.category).sum ≤ 8) (hm : AMet E z av σ R) (h : ∀ v τ, R v τ → AWP E d q k' n' ls (v.toList ++ st) τ Q) : AWP E d pc k n ls stk σ Q := by
  intro p e s m args below meth c H locs la C hS hR hl
  subst hs
  refine call_key (z := z) (R := R) C hS hl hq hk hn (va_runS (Ts := TB) (As := av.map (cv E)) (nL := mL d) ⟨C.x, C.b, C.ml, C.o, C.t⟩ hm ⟨callB C hc.1 hc.2.1 hr, C.t _ hc.2.2⟩ ⟨blind, fun U hU hW => ⟨rfl, by rw [hU]; exact hR, C.K.warm hW⟩⟩ rfl (by simpa using hln) hl.1 ?_ (lv_room (by rw [cat_map]; exact hw)) (C.dc hd) ⟨by omega, by omega⟩) h
  simp
theorem aw_cn {idx np a : Nat} {av : List Value} {R : Option Value → SG → Prop} (hd : mI d pc = some (.invokespecial idx, 3)) (hq : pc + 3 = q) (hc : CN (mY d).cls idx z np) (hr : RM z d) (hk : k + (mR z).cells = k') (hn : n + (mR z).slots = n') (hk' : k' ≤ (mR d).cells) (hn' : n' ≤ (mR d).slots) (hs : stk = av.reverse ++ .ref a :: st) (hln : av.length = np) (hw : (st.map fun v => v.category).sum ≤ 8) (hm : AMet E z (.ref a :: av) σ R) (h : ∀ v τ, R v τ → AWP E d q k' n' ls (v.toList ++ st) τ Q) : AWP E d pc k n ls stk σ Q := by
  intro p e s m args below meth c H locs la C hS hR hl
  subst hs
  obtain ⟨h1, h2, h3, h4, h5⟩ := hc
  have hm' : Met (eL E) (mY z) (mW z) (mR z) (aPc E (.ref a :: av) σ) (aQc E R) (mR z).cells (mR z).slots (eA E) := hm
  have hst : (F0 m pc la ((av.reverse ++ .ref a :: st).map (cv E))).stack = (av.map (cv E)).reverse ++ .ref (ad E a) :: st.map (cv E) := by simp [cv]
  have hp : PreS s H (aPc E (.ref a :: av) σ) (.ref (ad E a) :: av.map (cv E)) := ⟨blind, fun U hU hW => ⟨rfl, by rw [hU]; exact hR, C.K.warm hW⟩⟩
  rcases h2 with h2 | ⟨host, h2⟩
  · have hB := callB (idx := idx) C h1 h2 hr
    rw [h5] at hB
    exact call_key (z := z) (R := R) C hS hl hq hk hn (va_runI (Ts := TB) (As := av.map (cv E)) (b := ad E a) (nL := mL d) ⟨C.x, C.b, C.ml, C.o, C.t⟩ hm' ⟨hB, h3, C.t _ h4⟩ hp rfl (by simpa using hln) hl.1 hst (lv_room (by rw [cat_map]; exact hw)) (C.dc hd) ⟨by omega, by omega⟩) h
  · have hB := va_cnB (R := mR d) (own := (mY d).cls) (host := host) (index := idx) (Ts := TB) (ws := mW z) (rm := mR z) np C.t (goodTB h1.1) rfl rfl rfl (C.K.2.1.1 _ h2) (C.t _ h1.2.1) ⟨h1.2.2.1.1, h1.2.2.1.2, h1.2.2.2⟩ hr
    rw [h5] at hB
    exact call_key (z := z) (R := R) C hS hl hq hk hn (va_runIN (Ts := TB) (As := av.map (cv E)) (b := ad E a) (nL := mL d) ⟨C.x, C.b, C.ml, C.o, C.t⟩ hm' ⟨hB, h3, C.t _ h4⟩ hp rfl (by simpa using hln) hl.1 hst (lv_room (by rw [cat_map]; exact hw)) (C.dc hd) ⟨by omega, by omega⟩) h
/-- Object.<init> -/
theorem aw_oinit {idx a : Nat} (hd : mI d pc = some (.invokespecial idx, 3)) (hq : pc + 3 = q) (h1 : Cond.methodLink (mY d).cls idx objectInit ∈ TB) (h2 : Cond.instanceMethod objectInit ∈ TB) (h3 : Cond.code objectInit ⟨#[0xb1]⟩ 1 none ∈ TB) (hr : 1 ≤ (mR d).frames) (hw : (st.map fun v => v.category).sum ≤ 8) (hr2 : 20 ≤ (mR d).locals) (h : AWP E d q k n ls st σ Q) : AWP E d pc k n ls (.ref a :: st) σ Q := by
  intro p e s m args below meth c H locs la C hS hR hl
  subst hq
  refine W.objInit C.x C.b C.o (C.t _ h1) (C.t _ h2) (C.t _ h3) rfl (by rw [C.ml]; exact hl.1) rfl (C.dc hd) hr ?_ (h p e s m args below meth c H locs la C hS hR hl)
  show 2 * 0 + _ + 12 ≤ _
  rw [cat_map]
  omega
/-- contracts by the kind of answer -/
def MI (E : EN) (z : MD) (av : List Value) (σ : SG) (R : Int32 → SG → Prop) : Prop := AMet E z av σ (fun v τ => ∃ r, v = some (.int r) ∧ R r τ)
def ML (E : EN) (z : MD) (av : List Value) (σ : SG) (R : Int64 → SG → Prop) : Prop := AMet E z av σ (fun v τ => ∃ r, v = some (.long r) ∧ R r τ)
def MA (E : EN) (z : MD) (av : List Value) (σ : SG) (R : Nat → SG → Prop) : Prop := AMet E z av σ (fun v τ => ∃ r, v = some (.ref r) ∧ R r τ)
def MV (E : EN) (z : MD) (av : List Value) (σ : SG) (R : SG → Prop) : Prop := AMet E z av σ (fun v τ => v = none ∧ R τ)
theorem aw_cvI {idx np a ci : Nat} {av : List Value} (hd : mI d pc = some (.invokevirtual idx, 3)) (hq : pc + 3 = q) (hc : CV (mY d).cls idx z np) (hr : RM z d) (hk : k + (mR z).cells = k') (hn : n + (mR z).slots = n') (hk' : k' ≤ (mR d).cells) (hn' : n' ≤ (mR d).slots) (ho : OB σ a ci) (hci : (classes[ci]?).map (fun q => q.1) = some (mY z).cls) (hs : stk = av.reverse ++ .ref a :: st) (hln : av.length = np) (hw : (st.map fun v => v.category).sum ≤ 8) (h : MI E z (.ref a :: av) σ (fun r τ => AWP E d q k' n' ls (.int r :: st) τ Q)) : AWP E d pc k n ls stk σ Q :=
  aw_cv hd hq hc hr hk hn hk' hn' ho hci hs hln hw h (fun v τ hv => by obtain ⟨r, rfl, h⟩ := hv; exact h)
theorem aw_cvL {idx np a ci : Nat} {av : List Value} (hd : mI d pc = some (.invokevirtual idx, 3)) (hq : pc + 3 = q) (hc : CV (mY d).cls idx z np) (hr : RM z d) (hk : k + (mR z).cells = k') (hn : n + (mR z).slots = n') (hk' : k' ≤ (mR d).cells) (hn' : n' ≤ (mR d).slots) (ho : OB σ a ci) (hci : (classes[ci]?).map (fun q => q.1) = some (mY z).cls) (hs : stk = av.reverse ++ .ref a :: st) (hln : av.length = np) (hw : (st.map fun v => v.category).sum ≤ 8) (h : ML E z (.ref a :: av) σ (fun r τ => AWP E d q k' n' ls (.long r :: st) τ Q)) : AWP E d pc k n ls stk σ Q :=
  aw_cv hd hq hc hr hk hn hk' hn' ho hci hs hln hw h (fun v τ hv => by obtain ⟨r, rfl, h⟩ := hv; exact h)
theorem aw_cvA {idx np a ci : Nat} {av : List Value} (hd : mI d pc = some (.invokevirtual idx, 3)) (hq : pc + 3 = q) (hc : CV (mY d).cls idx z np) (hr : RM z d) (hk : k + (mR z).cells = k') (hn : n + (mR z).slots = n') (hk' : k' ≤ (mR d).cells) (hn' : n' ≤ (mR d).slots) (ho : OB σ a ci) (hci : (classes[ci]?).map (fun q => q.1) = some (mY z).cls) (hs : stk = av.reverse ++ .ref a :: st) (hln : av.length = np) (hw : (st.map fun v => v.category).sum ≤ 8) (h : MA E z (.ref a :: av) σ (fun r τ => AWP E d q k' n' ls (.ref r :: st) τ Q)) : AWP E d pc k n ls stk σ Q :=
  aw_cv hd hq hc hr hk hn hk' hn' ho hci hs hln hw h (fun v τ hv => by obtain ⟨r, rfl, h⟩ := hv; exact h)
theorem aw_cvV {idx np a ci : Nat} {av : List Value} (hd : mI d pc = some (.invokevirtual idx, 3)) (hq : pc + 3 = q) (hc : CV (mY d).cls idx z np) (hr : RM z d) (hk : k + (mR z).cells = k') (hn : n + (mR z).slots = n') (hk' : k' ≤ (mR d).cells) (hn' : n' ≤ (mR d).slots) (ho : OB σ a ci) (hci : (classes[ci]?).map (fun q => q.1) = some (mY z).cls) (hs : stk = av.reverse ++ .ref a :: st) (hln : av.length = np) (hw : (st.map fun v => v.category).sum ≤ 8) (h : MV E z (.ref a :: av) σ (fun τ => AWP E d q k' n' ls st τ Q)) : AWP E d pc k n ls stk σ Q :=
  aw_cv hd hq hc hr hk hn hk' hn' ho hci hs hln hw h (fun v τ hv => by obtain ⟨rfl, h⟩ := hv; exact h)
theorem aw_csI {idx np : Nat} {av : List Value} (hd : mI d pc = some (.invokestatic idx, 3)) (hq : pc + 3 = q) (hc : CS (mY d).cls idx z np) (hr : RM z d) (hk : k + (mR z).cells = k') (hn : n + (mR z).slots = n') (hk' : k' ≤ (mR d).cells) (hn' : n' ≤ (mR d).slots) (hs : stk = av.reverse ++ st) (hln : av.length = np) (hw : (st.map fun v => v.category).sum ≤ 8) (h : MI E z av σ (fun r τ => AWP E d q k' n' ls (.int r :: st) τ Q)) : AWP E d pc k n ls stk σ Q :=
  aw_cs hd hq hc hr hk hn hk' hn' hs hln hw h (fun v τ hv => by obtain ⟨r, rfl, h⟩ := hv; exact h)
theorem aw_csL {idx np : Nat} {av : List Value} (hd : mI d pc = some (.invokestatic idx, 3)) (hq : pc + 3 = q) (hc : CS (mY d).cls idx z np) (hr : RM z d) (hk : k + (mR z).cells = k') (hn : n + (mR z).slots = n') (hk' : k' ≤ (mR d).cells) (hn' : n' ≤ (mR d).slots) (hs : stk = av.reverse ++ st) (hln : av.length = np) (hw : (st.map fun v => v.category).sum ≤ 8) (h : ML E z av σ (fun r τ => AWP E d q k' n' ls (.long r :: st) τ Q)) : AWP E d pc k n ls stk σ Q :=
  aw_cs hd hq hc hr hk hn hk' hn' hs hln hw h (fun v τ hv => by obtain ⟨r, rfl, h⟩ := hv; exact h)
theorem aw_csV {idx np : Nat} {av : List Value} (hd : mI d pc = some (.invokestatic idx, 3)) (hq : pc + 3 = q) (hc : CS (mY d).cls idx z np) (hr : RM z d) (hk : k + (mR z).cells = k') (hn : n + (mR z).slots = n') (hk' : k' ≤ (mR d).cells) (hn' : n' ≤ (mR d).slots) (hs : stk = av.reverse ++ st) (hln : av.length = np) (hw : (st.map fun v => v.category).sum ≤ 8) (h : MV E z av σ (fun τ => AWP E d q k' n' ls st τ Q)) : AWP E d pc k n ls stk σ Q :=
  aw_cs hd hq hc hr hk hn hk' hn' hs hln hw h (fun v τ hv => by obtain ⟨rfl, h⟩ := hv; exact h)
theorem aw_cnV {idx np a : Nat} {av : List Value} (hd : mI d pc = some (.invokespecial idx, 3)) (hq : pc + 3 = q) (hc : CN (mY d).cls idx z np) (hr : RM z d) (hk : k + (mR z).cells = k') (hn : n + (mR z).slots = n') (hk' : k' ≤ (mR d).cells) (hn' : n' ≤ (mR d).slots) (hs : stk = av.reverse ++ .ref a :: st) (hln : av.length = np) (hw : (st.map fun v => v.category).sum ≤ 8) (h : MV E z (.ref a :: av) σ (fun τ => AWP E d q k' n' ls st τ Q)) : AWP E d pc k n ls stk σ Q :=
  aw_cn hd hq hc hr hk hn hk' hn' hs hln hw h (fun v τ hv => by obtain ⟨rfl, h⟩ := hv; exact h)
/-- the outer cells -/
theorem out_h {p : Program} {s : State} {m : MethodId} {args : Array Value} {meth : Method} {c : Code} (C : Cx E d p s m args meth c) : ∀ a : Nat, a < (eH E).size → ¬ eA E a → s.heap[a]? = (eH E)[a]? := fun a h _ => C.h a h
theorem aw_xiaload {a N : Nat} {i : Int32} (hd : mI d pc = some (.iaload, 1)) (hq : pc + 1 = q) (ha : a < 2) (hN : (sK σ a).2 = N) (hi : vp_in i N) (h : AWP E d q k n ls (.int (sI σ a i.toNatClampNeg) :: st) σ Q) : AWP E d pc k n ls (.int i :: .ref a :: st) σ Q := by
  intro p e s m args below meth c H locs la C hS hR hl
  subst hq
  obtain ⟨x1, x2, -⟩ := hR.2.2.2.2 a (by omega)
  have hT := ((C.K.2.2.1 a ha).kept (out_h C))
  rw [← x1, hN, ← x2] at hT
  exact va_ti C.x C.b hT hS hi rfl (C.dc hd) (h p e s m args below meth c H locs la C hS hR hl)
theorem aw_xalen {a N : Nat} {v : Int32} (hd : mI d pc = some (.arraylength, 1)) (hq : pc + 1 = q) (ha : a < 2) (hN : (sK σ a).2 = N) (hv : Int32.ofNat N = v) (h : AWP E d q k n ls (.int v :: st) σ Q) : AWP E d pc k n ls (.ref a :: st) σ Q := by
  intro p e s m args below meth c H locs la C hS hR hl
  subst hq
  obtain ⟨x1, x2, -⟩ := hR.2.2.2.2 a (by omega)
  have hT := ((C.K.2.2.1 a ha).kept (out_h C))
  rw [← x1, hN, ← x2] at hT
  exact va_tlen C.x C.b hT hS hv (C.dc hd) (h p e s m args below meth c H locs la C hS hR hl)
theorem aw_untold {idx : Nat} (hd : mI d pc = some (.getstatic idx, 3)) (hq : pc + 3 = q) (hf : Cond.fieldLink (mY d).cls idx "RatSorters$Laws" "UNTOLD" "[I" ∈ TB) (h : AWP E d q k n ls (.ref 1 :: st) σ Q) : AWP E d pc k n ls st σ Q := by
  intro p e s m args below meth c H locs la C hS hR hl
  subst hq
  exact va_gets C.x C.b (C.K.2.2.2.2.2.1.kept (out_h C)) hS C.o (C.t _ hf) (fun _ h => h) (C.dc hd) (h p e s m args below meth c H locs la C hS hR hl)
theorem aw_compact {idx : Nat} (hd : mI d pc = some (.getstatic idx, 3)) (hq : pc + 3 = q) (hf : Cond.fieldLink (mY d).cls idx "java/lang/String" "COMPACT_STRINGS" "Z" ∈ TB) (h : AWP E d q k n ls (.int 1 :: st) σ Q) : AWP E d pc k n ls st σ Q := by
  intro p e s m args below meth c H locs la C hS hR hl
  subst hq
  exact va_gets C.x C.b (C.K.2.2.2.2.2.2.1.1.kept (out_h C)) hS C.o (C.t _ hf) (fun _ h => h) (C.dc hd) (h p e s m args below meth c H locs la C hS hR hl)
theorem aw_ldcS {idx i : Nat} {tx : String} (hd : mI d pc = some (.ldc idx, 2)) (hq : pc + 2 = q) (hf : strT[i]? = some ((mY d).cls, idx, tx)) (h : AWP E d q k n ls (.ref (2 + i) :: st) σ Q) : AWP E d pc k n ls st σ Q := by
  intro p e s m args below meth c H locs la C hS hR hl
  subst hq
  exact va_ldcS C.x C.b C.o (C.K.2.2.2.2.1 i _ hf) (C.dc hd) (h p e s m args below meth c H locs la C hS hR hl)
theorem aw_sval {idx i : Nat} (hd : mI d pc = some (.getfield idx, 3)) (hq : pc + 3 = q) (hi : i < 6) (hf : Cond.fieldLink (mY d).cls idx "java/lang/String" "value" "[B" ∈ TB) (h : AWP E d q k n ls (.ref (8 + i) :: st) σ Q) : AWP E d pc k n ls (.ref (2 + i) :: st) σ Q := by
  intro p e s m args below meth c H locs la C hS hR hl
  subst hq
  exact vk_getf C.x C.b ((C.K.2.2.2.1.1 i hi).2.2.1.kept (out_h C)) hS C.o (C.t _ hf) (fun _ h => h) (C.dc hd) (h p e s m args below meth c H locs la C hS hR hl)
theorem aw_scod {idx i : Nat} (hd : mI d pc = some (.getfield idx, 3)) (hq : pc + 3 = q) (hi : i < 6) (hf : Cond.fieldLink (mY d).cls idx "java/lang/String" "coder" "B" ∈ TB) (h : AWP E d q k n ls (.int 0 :: st) σ Q) : AWP E d pc k n ls (.ref (2 + i) :: st) σ Q := by
  intro p e s m args below meth c H locs la C hS hR hl
  subst hq
  exact vk_getf C.x C.b ((C.K.2.2.2.1.1 i hi).2.1.kept (out_h C)) hS C.o (C.t _ hf) (fun _ h => h) (C.dc hd) (h p e s m args below meth c H locs la C hS hR hl)
theorem aw_sbal {i N : Nat} {j : Int32} (hd : mI d pc = some (.baload, 1)) (hq : pc + 1 = q) (hi : i < 6) (hN : strN.getD i 0 = N) (hj : vp_in j N) (h : AWP E d q k n ls (.int ((strBs.getD i []).getD j.toNatClampNeg 0) :: st) σ Q) : AWP E d pc k n ls (.int j :: .ref (8 + i) :: st) σ Q := by
  intro p e s m args below meth c H locs la C hS hR hl
  subst hq; subst hN
  exact va_tb C.x C.b ((C.K.2.2.2.1.1 i hi).2.2.2.kept (out_h C)) hS hj rfl (C.dc hd) (h p e s m args below meth c H locs la C hS hR hl)
theorem aw_slen {i N : Nat} {v : Int32} (hd : mI d pc = some (.arraylength, 1)) (hq : pc + 1 = q) (hi : i < 6) (hN : strN.getD i 0 = N) (hv : Int32.ofNat N = v) (h : AWP E d q k n ls (.int v :: st) σ Q) : AWP E d pc k n ls (.ref (8 + i) :: st) σ Q := by
  intro p e s m args below meth c H locs la C hS hR hl
  subst hq; subst hN
  exact va_tlen C.x C.b ((C.K.2.2.2.1.1 i hi).2.2.2.kept (out_h C)) hS hv (C.dc hd) (h p e s m args below meth c H locs la C hS hR hl)
/-- a method of a string constant -/
theorem aw_cvS {idx np i : Nat} {av : List Value} (hd : mI d pc = some (.invokevirtual idx, 3)) (hq : pc + 3 = q) (hc : CV (mY d).cls idx z np) (hr : RM z d) (hk : k + (mR z).cells = k') (hn : n + (mR z).slots = n') (hk' : k' ≤ (mR d).cells) (hn' : n' ≤ (mR d).slots) (hi : i < 6) (hci : (mY z).cls = "java/lang/String") (hs : stk = av.reverse ++ .ref (2 + i) :: st) (hln : av.length = np) (hw : (st.map fun v => v.category).sum ≤ 8) (h : MI E z (.ref (2 + i) :: av) σ (fun r τ => AWP E d q k' n' ls (.int r :: st) τ Q)) : AWP E d pc k n ls stk σ Q := by
  intro p e s m args below meth c H locs la C hS hR hl
  subst hs
  have hrecv : ∃ cellB : Cell, H[ad E (2 + i)]? = some cellB ∧ cellB.vm.isStatics = false ∧ s.vm.findClass (mY z).cls = some cellB.cls := by
    rw [hci]
    exact vk_recv (adK := fun i => ad E (2 + i)) (adV := fun i => ad E (8 + i)) (i := i) (C.K.2.2.2.1.kept (out_h C)) hi hS
  refine call_key (z := z) C hS hl hq hk hn (va_runV (Ts := TB) (As := av.map (cv E)) (b := ad E (2 + i)) (nL := mL d) ⟨C.x, C.b, C.ml, C.o, C.t⟩ h ⟨callB C hc.1 hc.2.1 hr, C.t _ hc.2.2.1, C.t _ hc.2.2.2⟩ ⟨blind, hrecv, fun U hU hW => ⟨rfl, by rw [hU]; exact hR, C.K.warm hW⟩⟩ rfl (by simpa using hln) hl.1 ?_ (lv_room (by rw [cat_map]; exact hw)) (C.dc hd) ⟨by omega, by omega⟩) (fun v τ hv => by obtain ⟨r, rfl, h⟩ := hv; exact h)
  simp [cv]
end Calls
