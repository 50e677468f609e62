/-! THE ABSTRACT MACHINE: memory by cells, values with abstract addresses, worlds; a walk (AWP) and a contract (AMet) over it -/
abbrev SG : Type := Nat × (Nat → Nat × Nat) × (Nat → Nat → Int32) × (Nat → Nat → Int64) × (Nat → Nat → Option Nat)
def sN (σ : SG) : Nat := σ.1
def sK (σ : SG) : Nat → Nat × Nat := σ.2.1
def sI (σ : SG) : Nat → Nat → Int32 := σ.2.2.1
def sL (σ : SG) : Nat → Nat → Int64 := σ.2.2.2.1
def sR (σ : SG) : Nat → Nat → Option Nat := σ.2.2.2.2
def stI (σ : SG) (a : Nat) (f : Nat → Int32) : SG := (σ.1, σ.2.1, (fun x => if x = a then f else σ.2.2.1 x), σ.2.2.2.1, σ.2.2.2.2)
def stL (σ : SG) (a : Nat) (f : Nat → Int64) : SG := (σ.1, σ.2.1, σ.2.2.1, (fun x => if x = a then f else σ.2.2.2.1 x), σ.2.2.2.2)
def stR (σ : SG) (a : Nat) (f : Nat → Option Nat) : SG := (σ.1, σ.2.1, σ.2.2.1, σ.2.2.2.1, (fun x => if x = a then f else σ.2.2.2.2 x))
def wI (σ : SG) (a k : Nat) (v : Int32) : SG := stI σ a (upd (sI σ a) k v)
def wL (σ : SG) (a k : Nat) (v : Int64) : SG := stL σ a (vp_updL (sL σ a) k v)
def wR (σ : SG) (a k : Nat) (v : Option Nat) : SG := stR σ a (va_up (sR σ a) k v)
def nw (σ : SG) (kd : Nat × Nat) : SG := (σ.1 + 1, (fun x => if x = σ.1 then kd else σ.2.1 x), (fun x => if x = σ.1 then (fun _ => 0) else σ.2.2.1 x), (fun x => if x = σ.1 then (fun _ => 0) else σ.2.2.2.1 x), (fun x => if x = σ.1 then (fun _ => none) else σ.2.2.2.2 x))
theorem sI_stI_s (σ : SG) (a : Nat) (f : Nat → Int32) : sI (stI σ a f) a = f := by simp [sI, stI]
theorem sI_stI_n (σ : SG) {a b : Nat} (f : Nat → Int32) (h : b ≠ a) : sI (stI σ a f) b = sI σ b := by simp [sI, stI, h]
theorem sR_stR_s (σ : SG) (a : Nat) (f : Nat → Option Nat) : sR (stR σ a f) a = f := by simp [sR, stR]
theorem sR_stR_n (σ : SG) {a b : Nat} (f : Nat → Option Nat) (h : b ≠ a) : sR (stR σ a f) b = sR σ b := by simp [sR, stR, h]
theorem sL_stL_s (σ : SG) (a : Nat) (f : Nat → Int64) : sL (stL σ a f) a = f := by simp [sL, stL]
theorem sL_stL_n (σ : SG) {a b : Nat} (f : Nat → Int64) (h : b ≠ a) : sL (stL σ a f) b = sL σ b := by simp [sL, stL, h]
abbrev EN : Type := Launch × va_G × (Nat → ClassId) × Heap × (Nat → Nat) × SG
def eL (E : EN) : Launch := E.1
def eD (E : EN) : va_G := E.2.1
def eC (E : EN) : Nat → ClassId := E.2.2.1
def eH (E : EN) : Heap := E.2.2.2.1
def ad (E : EN) : Nat → Nat := E.2.2.2.2.1
def eX (E : EN) : SG := E.2.2.2.2.2
def cv (E : EN) (v : Value) : Value := match v with
  | .ref i => .ref (ad E i)
  | w => w
theorem cv_cat (E : EN) (v : Value) : (cv E v).category = v.category := by cases v <;> rfl
def isRf (ty : FieldType) : Bool := match ty with
  | .object _ => true
  | .array _ => true
  | _ => false
def fv (E : EN) (σ : SG) (i ci k : Nat) : Value := if isRf (tyf ci k) then va_rf ((sR σ i k).map (ad E)) else .int (sI σ i k)
def flds (E : EN) (σ : SG) (i ci : Nat) : List Value := (List.range (nfc ci)).map (fv E σ i ci)
def acn (E : EN) (σ : SG) (i t : Nat) : (Nat → Int32) ⊕ (Nat → Int64) ⊕ (Nat → UInt32) ⊕ (Nat → UInt64) ⊕ (Nat → Option Nat) :=
  if t < 4 then .inl (sI σ i) else if t = 4 then .inr (.inl (sL σ i)) else .inr (.inr (.inr (.inr (fun j => (sR σ i j).map (ad E)))))
def cnk (E : EN) (σ : SG) (i : Nat) (kd : Nat × Nat) : va_E := match kd.1 with
  | 0 => .inr (kd.2, flds E σ i kd.2)
  | t + 1 => .inl (eC E t, kd.2, acn E σ i t)
def cnc (E : EN) (σ : SG) (i : Nat) : va_E := cnk E σ i (sK σ i)
def aty (t : Nat) : FieldType := match t with
  | 0 => .int
  | 1 => .byte
  | 2 => .boolean
  | 3 => .char
  | 4 => .long
  | 5 => .object Rc2
  | _ => .object Rc6
def tysE (E : EN) : List (ClassId × FieldType) := (List.range 7).map fun t => (eC E t, aty t)
theorem tysE_at (E : EN) {t : Nat} (h : t < 7) : (tysE E)[t]? = some (eC E t, aty t) := by simp [tysE, h]
def eA (E : EN) : Nat → Prop := fun q => (eH E).size ≤ q
/-- where cells lie: those that are not made yet will lie in the order of making -/
def RA (E : EN) (n : Nat) : Prop := 16 ≤ n ∧ (∀ i, n ≤ i → ad E i = (eH E).size + (i - 16)) ∧ ∀ i, 16 ≤ i → i < n → ad E i + 16 < (eH E).size + n
theorem RA.succ {E : EN} {n : Nat} (h : RA E n) : RA E (n + 1) := by
  obtain ⟨h1, h2, h3⟩ := h
  refine ⟨by omega, fun i hi => h2 i (by omega), fun i h16 hi => ?_⟩
  by_cases z : i = n
  · rw [z, h2 n (Nat.le_refl n)]; omega
  · have := h3 i h16 (by omega); omega
def Rep (E : EN) (σ : SG) (H : Heap) : Prop := (∀ i, 16 ≤ i → i < sN σ → va_at (eD E) classes (ad E i, cnc E σ i) H) ∧ H.size + 16 = (eH E).size + sN σ ∧ (∀ q : Nat, q < (eH E).size → H[q]? = (eH E)[q]?) ∧ RA E (sN σ) ∧ ∀ i, i < 16 → sK σ i = sK (eX E) i ∧ sI σ i = sI (eX E) i ∧ sR σ i = sR (eX E) i
/-- the strings: their owners' entries, texts, bytes -/
def strT : List (String × Nat × String) := [("RatSorters$Tokens", 75, "grain  hole   rat    load   eats   errs   wants  lamp   odd    seed   if     then   else   hunger fat    much   dark   far    know   trips  "), ("RatSorters$Tokens", 60, ";=+-*/<()"), ("RatSorters$Grammar", 46, "nii;"), ("RatSorters$Grammar", 52, "nin;"), ("RatSorters$Grammar", 54, "nnnii;"), ("RatSorters$Grammar", 62, "i;")]
def strB (t : String) : List Int32 := t.toList.map fun c => Int32.ofNat c.toNat
def strN : List Nat := strT.map fun q => q.2.2.length
def strBs : List (List Int32) := strT.map fun q => strB q.2.2
def nestW : List Cond := [.methodLinkNest "RatSorters" 15 ⟨"RatSorters$Tokens", "<init>", "()V"⟩ "RatSorters", .methodLinkNest "RatSorters" 31 ⟨"RatSorters$Planner", "<init>", "()V"⟩ "RatSorters", .methodLinkNest "RatSorters" 38 ⟨"RatSorters$Facts", "<init>", "()V"⟩ "RatSorters", .methodLinkNest "RatSorters" 59 ⟨"RatSorters$Text", "<init>", "()V"⟩ "RatSorters", .methodLinkNest "RatSorters$House" 24 ⟨"RatSorters$Rat", "<init>", "()V"⟩ "RatSorters", .methodLinkNest "RatSorters$Text" 44 ⟨"RatSorters$Laws", "<init>", "()V"⟩ "RatSorters"]
/-- what the tables and the outer cells say at a state -/
def KK (E : EN) (U : State) : Prop := va_K (eD E) classes (tysE E) U ∧ ((∀ w ∈ nestW, va_Nw w U) ∧ va_AO Rc2 U ∧ va_AO Rc6 U) ∧
  (∀ i, i < 2 → va_T .int (ad E i) (sK (eX E) i).2 (fun j => .int (sI (eX E) i j)) (eA E) U (eH E)) ∧
  vk_S 6 strN strBs (fun i => ad E (2 + i)) (fun i => ad E (8 + i)) (eA E) U (eH E) ∧
  (∀ i q, strT[i]? = some q → vk_R q.1 q.2.1 q.2.2 (ad E (2 + i)) U) ∧
  va_Z "RatSorters$Laws" "UNTOLD" "[I" (.ref (ad E 1)) (eA E) U (eH E) ∧ (va_Z "java/lang/String" "COMPACT_STRINGS" "Z" (.int 1) (eA E) U (eH E) ∧ va_Z "jdk/internal/util/Preconditions" "SIOOBE_FORMATTER" "Ljava/util/function/BiFunction;" (va_rf ((sR (eX E) 14 0).map (ad E))) (eA E) U (eH E)) ∧
  ((∀ i, 16 ≤ i → (eH E).size ≤ ad E i) ∧ ∀ i j, 16 ≤ i → 16 ≤ j → ad E i = ad E j → i = j) ∧ (∀ i, i < 16 → ad E i < (eH E).size)
theorem nest_warm {w : Cond} (h : w ∈ nestW) {s U : State} (hW : s.WarmedH U.vm) (hZ : va_Nw w s) : va_Nw w U := by
  simp only [nestW, List.mem_cons, List.not_mem_nil, or_false] at h
  rcases h with rfl | rfl | rfl | rfl | rfl | rfl <;> exact va_Nw.warmM hW hZ
theorem nest_same {w : Cond} (h : w ∈ nestW) {s U : State} (hv : s.vm = U.vm) (hZ : va_Nw w s) : va_Nw w U := by
  simp only [nestW, List.mem_cons, List.not_mem_nil, or_false] at h
  rcases h with rfl | rfl | rfl | rfl | rfl | rfl <;> exact va_Nw.same rfl hv hZ
theorem KK.warm {E : EN} {s U : State} (hW : s.WarmedH U.vm) (h : KK E s) : KK E U := by
  obtain ⟨h1, h2, h3, h4, h5, h6, h7, h8⟩ := h
  exact ⟨va_K.moved hW.alike h1, ⟨fun w hw => nest_warm hw hW (h2.1 w hw), h2.2.1.moved hW.alike, h2.2.2.moved hW.alike⟩, fun i hi => (h3 i hi).moved hW.alike, h4.moved hW.alike, fun i q hq => (h5 i q hq).warm hW, h6.moved hW.alike, ⟨h7.1.moved hW.alike, h7.2.moved hW.alike⟩, h8⟩
theorem KK.same {E : EN} {s U : State} (hv : U.vm = s.vm) (h : KK E s) : KK E U := by
  have ha : s.vm.Alike U.vm := by rw [hv]; exact Vm.Alike.refl _
  obtain ⟨h1, h2, h3, h4, h5, h6, h7, h8⟩ := h
  exact ⟨va_K.moved ha h1, ⟨fun w hw => nest_same hw hv.symm (h2.1 w hw), h2.2.1.moved ha, h2.2.2.moved ha⟩, fun i hi => (h3 i hi).moved ha, h4.moved ha, fun i q hq => (h5 i q hq).same hv, h6.moved ha, ⟨h7.1.moved ha, h7.2.moved ha⟩, h8⟩
def lsc (E : EN) (ls : List (Nat × Value)) : List (Nat × Value) := ls.map fun q => (q.1, cv E q.2)
def aQc (E : EN) (Q : Option Value → SG → Prop) : Array Value → State → Outcome → State → Prop := fun _ s0 o t => ∃ (v : Option Value) (σ : SG), o = .returned (v.map (cv E)) ∧ Rep E σ t.heap ∧ Q v σ ∧ s0.heap.size ≤ t.heap.size
def aPc (E : EN) (av : List Value) (σ : SG) : Array Value → State → Prop := fun v U => v = (av.map (cv E)).toArray ∧ Rep E σ U.heap ∧ KK E U
def AMet (E : EN) (d : MD) (av : List Value) (σ : SG) (Q : Option Value → SG → Prop) : Prop :=
  Met (eL E) (mY d) (mW d) (mR d) (aPc E av σ) (aQc E Q) (mR d).cells (mR d).slots (eA E)
def Cx (E : EN) (d : MD) (p : Program) (s : State) (m : MethodId) (args : Array Value) (meth : Method) (c : Code) : Prop :=
  p.tables.exec = Jvm.exec ∧ c.code = mB d ∧ meth.sig.returnType = mT d ∧ c.maxLocals = mL d ∧ s.vm.findClass (mY d).cls = some m.cls ∧ meth.locks = false ∧ meth.name = (mY d).name ∧ (∀ w ∈ TB, w.before args s = true) ∧ KK E s ∧ (∀ q : Nat, q < (eH E).size → s.heap[q]? = (eH E)[q]?) ∧ (eH E).size ≤ s.heap.size ∧ mOk d
def AWP (E : EN) (d : MD) (pc k n : Nat) (ls : List (Nat × Value)) (st : List Value) (σ : SG) (Q : Option Value → SG → Prop) : Prop :=
  ∀ (p : Program) (e : Env) (s : State) (m : MethodId) (args : Array Value) (below : List Frame) (meth : Method) (c : Code) (H : Heap) (locs : List Loc) (la : Array Slot),
    Cx E d p s m args meth c → va_S (eA E) s.heap H locs → Rep E σ H → lv_has la (mL d) (lsc E ls) →
    W p (eL E) e (mR d) s m args below meth c H locs k n (MQ below (aQc E Q) args s (mR d).cells (mR d).slots (eA E)) (F0 m pc la (st.map (cv E)))
theorem AWP.mono {E : EN} {d : MD} {pc k n : Nat} {ls : List (Nat × Value)} {st : List Value} {σ : SG} {Q Q' : Option Value → SG → Prop} (h : AWP E d pc k n ls st σ Q) (hq : ∀ v t, Q v t → Q' v t) : AWP E d pc k n ls st σ Q' := by
  intro p e s m args below meth c H locs la C hS hR hl
  intro T hT X
  obtain ⟨t, a, o, b1, b2, ⟨v, σ', c1, c2, c3, c4⟩, b4⟩ := h p e s m args below meth c H locs la C hS hR hl T hT X
  exact ⟨t, a, o, b1, b2, ⟨v, σ', c1, c2, hq _ _ c3, c4⟩, b4⟩
/-- a contract out of a walk from its entry -/
theorem AMet.of {E : EN} {d : MD} {av : List Value} {σ : SG} {Q : Option Value → SG → Prop} (hpl : plainName (mY d).cls = true) (hok : mOk d) (ls : List (Nat × Value)) (hn : (lg_sl av).length ≤ mL d) (hl : lv_args 0 av = ls) (h : AWP E d 0 0 0 ls [] σ Q) : AMet E d av σ Q := by
  have hcat : ∀ (vs : List Value) (i : Nat), lv_args i (vs.map (cv E)) = lsc E (lv_args i vs) := by
    intro vs
    induction vs with
    | nil => intro i; rfl
    | cons v t ih => intro i; simp [lv_args, lsc, cv_cat] at ih ⊢; rw [ih]
  have hsl : ∀ (vs : List Value), (lg_sl (vs.map (cv E))).length = (lg_sl vs).length := by
    intro vs
    induction vs with
    | nil => rfl
    | cons v t ih => cases v <;> simp_all [lg_sl, cv, Value.category]
  refine Met.ofW (cc := mB d) (maxL := mL d) (ret := mT d) hpl rfl ?_
  intro p e s m args below meth c s₁ B hml hv
  obtain ⟨rfl, hR, hK⟩ := hv
  have hts := atoms_spec (ws := mW d) B.pre
  have hown : s.vm.findClass (mY d).cls = some m.cls := findClass_of_methodNamed B.named
  have hent := lv_entry (av.map (cv E)) (n := mL d) (by rw [hsl]; exact hn)
  rw [lg_entry_eq]
  rw [hcat, hl] at hent
  have hsz : (eH E).size ≤ s.heap.size := by have := hR.2.1; have := hR.2.2.2.1.1; omega
  exact h p e s m _ below meth c s.heap [] _ ⟨B.exec, B.bytes, B.returns, hml, hown, B.notSynchronized, (name_of_methodNamed B.named B.method).1, fun w hw => hts w (List.mem_cons_of_mem _ hw), hK, hR.2.2.1, hsz, hok⟩ va_S.rf hR hent
