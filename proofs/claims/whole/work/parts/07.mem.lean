/-! SHAPE AND MEMORY APART: g is what cells there are and what they refer to, s is numbers -/
abbrev GS : Type := Nat × (Nat → Nat × Nat) × (Nat → Nat → Option Nat)
abbrev MS : Type := (Nat → Nat → Int32) × (Nat → Nat → Int64)
def mk (g : GS) (s : MS) : SG := (g.1, g.2.1, s.1, s.2, g.2.2)
def si (s : MS) (a : Nat) (f : Nat → Int32) : MS := ((fun x => if x = a then f else s.1 x), s.2)
def sl (s : MS) (a : Nat) (f : Nat → Int64) : MS := (s.1, (fun x => if x = a then f else s.2 x))
def wi (s : MS) (a k : Nat) (v : Int32) : MS := si s a (upd (s.1 a) k v)
def wl (s : MS) (a k : Nat) (v : Int64) : MS := sl s a (vp_updL (s.2 a) k v)
def gr (g : GS) (a f : Nat) (b : Option Nat) : GS := (g.1, g.2.1, fun x => if x = a then va_up (g.2.2 a) f b else g.2.2 x)
def gn (g : GS) (kd : Nat × Nat) : GS := (g.1 + 1, (fun x => if x = g.1 then kd else g.2.1 x), fun x => if x = g.1 then (fun _ => none) else g.2.2 x)
def sn (s : MS) (a : Nat) : MS := ((fun x => if x = a then (fun _ => 0) else s.1 x), fun x => if x = a then (fun _ => 0) else s.2 x)
theorem si_1 (s : MS) (a b : Nat) (f : Nat → Int32) : (si s a f).1 b = if b = a then f else s.1 b := rfl
theorem si_2 (s : MS) (a : Nat) (f : Nat → Int32) : (si s a f).2 = s.2 := rfl
theorem sl_1 (s : MS) (a : Nat) (f : Nat → Int64) : (sl s a f).1 = s.1 := rfl
theorem sl_2 (s : MS) (a b : Nat) (f : Nat → Int64) : (sl s a f).2 b = if b = a then f else s.2 b := rfl
theorem wi_1 (s : MS) (a k b : Nat) (v : Int32) : (wi s a k v).1 b = if b = a then upd (s.1 a) k v else s.1 b := rfl
theorem wi_2 (s : MS) (a k : Nat) (v : Int32) : (wi s a k v).2 = s.2 := rfl
theorem wl_1 (s : MS) (a k : Nat) (v : Int64) : (wl s a k v).1 = s.1 := rfl
theorem wl_2 (s : MS) (a k b : Nat) (v : Int64) : (wl s a k v).2 b = if b = a then vp_updL (s.2 a) k v else s.2 b := rfl
theorem wi_s (s : MS) (a k : Nat) (v : Int32) : (wi s a k v).1 a = upd (s.1 a) k v := by simp [wi_1]
theorem wi_n (s : MS) {a b : Nat} (k : Nat) (v : Int32) (h : b ≠ a) : (wi s a k v).1 b = s.1 b := by simp [wi_1, h]
theorem si_self (s : MS) (a : Nat) : si s a (s.1 a) = s := by
  refine Prod.ext ?_ rfl
  funext x
  by_cases h : x = a
  · simp [si, h]
  · simp [si, h]
theorem si_si (s : MS) (a : Nat) (f f' : Nat → Int32) : si (si s a f) a f' = si s a f' := by
  refine Prod.ext ?_ rfl
  funext x
  by_cases h : x = a
  · simp [si, h]
  · simp [si, h]
theorem si_cm (s : MS) {a b : Nat} (f f' : Nat → Int32) (h : a ≠ b) : si (si s a f) b f' = si (si s b f') a f := by
  refine Prod.ext ?_ rfl
  funext x
  by_cases h1 : x = a
  · subst h1; simp [si, h]
  · by_cases h2 : x = b
    · subst h2; simp [si, h1]
    · simp [si, h1, h2]
theorem upd_s (f : Nat → Int32) (k : Nat) (v : Int32) : upd f k v k = v := by simp [upd]
theorem upd_n (f : Nat → Int32) {k j : Nat} (v : Int32) (h : j ≠ k) : upd f k v j = f j := by simp [upd, h]
theorem upd_a (f : Nat → Int32) (k j : Nat) (v : Int32) : upd f k v j = if j = k then v else f j := rfl
theorem upd_u (f : Nat → Int32) (k : Nat) (v w : Int32) : upd (upd f k v) k w = upd f k w := by
  funext j
  by_cases h : j = k <;> simp [upd, h]
theorem upd_cm (f : Nat → Int32) {j k : Nat} (v w : Int32) (h : j ≠ k) : upd (upd f j v) k w = upd (upd f k w) j v := by
  funext x
  by_cases h1 : x = j
  · subst h1; simp [upd, h]
  · by_cases h2 : x = k
    · subst h2; simp [upd, h1]
    · simp [upd, h1, h2]
def OG (g : GS) (a ci : Nat) : Prop := g.2.1 a = (0, ci) ∧ 16 ≤ a ∧ a < g.1
def AG (g : GS) (a t N : Nat) : Prop := g.2.1 a = (t + 1, N) ∧ 16 ≤ a ∧ a < g.1
theorem AMet.mono {E : EN} {z : MD} {av : List Value} {σ : SG} {R R' : Option Value → SG → Prop} (h : AMet E z av σ R) (hr : ∀ v τ, R v τ → R' v τ) : AMet E z av σ R' := by
  intro p e ha hc2 hk2 S m args below h1 h2 h3 h4
  obtain ⟨n, o, a1, a2, a3, ⟨v, σ', b1, b2, b3, b4⟩, b5⟩ := h p e ha hc2 hk2 S m args below h1 h2 h3 h4
  exact ⟨n, o, a1, a2, a3, ⟨v, σ', b1, b2, hr _ _ b3, b4⟩, b5⟩
section Mem
variable {E : EN} {d z : MD} {pc q k n k' n' : Nat} {ls : List (Nat × Value)} {st stk : List Value} {g : GS} {s : MS} {Q : Option Value → SG → Prop}
theorem ag_getI {i ci f a : Nat} (hd : mI d pc = some (.getfield i, 3)) (hq : pc + 3 = q) (hf : FL (mY d).cls i ci f) (ht : isRf (tyf ci f) = false) (ho : OG g a ci) (h : AWP E d q k n ls (.int (s.1 a f) :: st) (mk g s) Q) : AWP E d pc k n ls (.ref a :: st) (mk g s) Q := aw_getI (σ := mk g s) hd hq hf ht ho h
theorem ag_getR {i ci f a b : Nat} (hd : mI d pc = some (.getfield i, 3)) (hq : pc + 3 = q) (hf : FL (mY d).cls i ci f) (ht : isRf (tyf ci f) = true) (ho : OG g a ci) (hb : g.2.2 a f = some b) (h : AWP E d q k n ls (.ref b :: st) (mk g s) Q) : AWP E d pc k n ls (.ref a :: st) (mk g s) Q := aw_getR (σ := mk g s) hd hq hf ht ho hb h
theorem ag_putI {i ci f a : Nat} {v : Int32} (hd : mI d pc = some (.putfield i, 3)) (hq : pc + 3 = q) (hf : FL (mY d).cls i ci f) (hfin : finOk d ci f = true) (ht : tyf ci f = .int) (ho : OG g a ci) (h : AWP E d q k n ls st (mk g (wi s a f v)) Q) : AWP E d pc k n ls (.int v :: .ref a :: st) (mk g s) Q := aw_putI (σ := mk g s) hd hq hf hfin (Or.inl ht) ho h
theorem ag_putZ {i ci f a : Nat} {v : Int32} (hd : mI d pc = some (.putfield i, 3)) (hq : pc + 3 = q) (hf : FL (mY d).cls i ci f) (hfin : finOk d ci f = true) (ht : tyf ci f = .boolean) (hv : v = 0 ∨ v = 1) (ho : OG g a ci) (h : AWP E d q k n ls st (mk g (wi s a f v)) Q) : AWP E d pc k n ls (.int v :: .ref a :: st) (mk g s) Q := aw_putI (σ := mk g s) hd hq hf hfin (Or.inr ⟨ht, hv⟩) ho h
theorem ag_putR {i ci f a b : Nat} (hd : mI d pc = some (.putfield i, 3)) (hq : pc + 3 = q) (hf : FL (mY d).cls i ci f) (hfin : finOk d ci f = true) (hr : isRf (tyf ci f) = true) (ho : OG g a ci) (h : AWP E d q k n ls st (mk (gr g a f (some b)) s) Q) : AWP E d pc k n ls (.ref b :: .ref a :: st) (mk g s) Q := aw_putR (σ := mk g s) hd hq hf hfin hr ho h
theorem ag_iaload {a N : Nat} {i : Int32} (hd : mI d pc = some (.iaload, 1)) (hq : pc + 1 = q) (ho : AG g a 0 N) (hi : vp_in i N) (h : AWP E d q k n ls (.int (s.1 a i.toNatClampNeg) :: st) (mk g s) Q) : AWP E d pc k n ls (.int i :: .ref a :: st) (mk g s) Q := aw_iaload (σ := mk g s) hd hq ho hi h
theorem ag_baload {a N : Nat} {i : Int32} (hd : mI d pc = some (.baload, 1)) (hq : pc + 1 = q) (ho : AG g a 1 N) (hi : vp_in i N) (h : AWP E d q k n ls (.int (s.1 a i.toNatClampNeg) :: st) (mk g s) Q) : AWP E d pc k n ls (.int i :: .ref a :: st) (mk g s) Q := aw_baload (σ := mk g s) hd hq ho hi h
theorem ag_zaload {a N : Nat} {i : Int32} (hd : mI d pc = some (.baload, 1)) (hq : pc + 1 = q) (ho : AG g a 2 N) (hi : vp_in i N) (h : AWP E d q k n ls (.int (s.1 a i.toNatClampNeg) :: st) (mk g s) Q) : AWP E d pc k n ls (.int i :: .ref a :: st) (mk g s) Q := aw_zaload (σ := mk g s) hd hq ho hi h
theorem ag_caload {a N : Nat} {i : Int32} (hd : mI d pc = some (.caload, 1)) (hq : pc + 1 = q) (ho : AG g a 3 N) (hi : vp_in i N) (h : AWP E d q k n ls (.int (s.1 a i.toNatClampNeg) :: st) (mk g s) Q) : AWP E d pc k n ls (.int i :: .ref a :: st) (mk g s) Q := aw_caload (σ := mk g s) hd hq ho hi h
theorem ag_laload {a N : Nat} {i : Int32} (hd : mI d pc = some (.laload, 1)) (hq : pc + 1 = q) (ho : AG g a 4 N) (hi : vp_in i N) (h : AWP E d q k n ls (.long (s.2 a i.toNatClampNeg) :: st) (mk g s) Q) : AWP E d pc k n ls (.int i :: .ref a :: st) (mk g s) Q := aw_laload (σ := mk g s) hd hq ho hi h
theorem ag_aaload {a t N b : Nat} {i : Int32} (hd : mI d pc = some (.aaload, 1)) (hq : pc + 1 = q) (ht : t = 5 ∨ t = 6) (ho : AG g a t N) (hi : vp_in i N) (hb : g.2.2 a i.toNatClampNeg = some b) (h : AWP E d q k n ls (.ref b :: st) (mk g s) Q) : AWP E d pc k n ls (.int i :: .ref a :: st) (mk g s) Q := aw_aaload (σ := mk g s) hd hq ht ho hi hb h
theorem ag_aaloadN {a t N : Nat} {i : Int32} (hd : mI d pc = some (.aaload, 1)) (hq : pc + 1 = q) (ht : t = 5 ∨ t = 6) (ho : AG g a t N) (hi : vp_in i N) (hb : g.2.2 a i.toNatClampNeg = none) (h : AWP E d q k n ls (.null :: st) (mk g s) Q) : AWP E d pc k n ls (.int i :: .ref a :: st) (mk g s) Q := aw_aaload (σ := mk g s) hd hq ht ho hi hb h
theorem ag_alen {a t N : Nat} {v : Int32} (hd : mI d pc = some (.arraylength, 1)) (hq : pc + 1 = q) (ht : t < 7) (ho : AG g a t N) (hv : Int32.ofNat N = v) (h : AWP E d q k n ls (.int v :: st) (mk g s) Q) : AWP E d pc k n ls (.ref a :: st) (mk g s) Q := aw_alen (σ := mk g s) hd hq ht ho hv h
theorem ag_iastore {a N : Nat} {i v : Int32} (hd : mI d pc = some (.iastore, 1)) (hq : pc + 1 = q) (ho : AG g a 0 N) (hi : vp_in i N) (h : AWP E d q k n ls st (mk g (wi s a i.toNatClampNeg v)) Q) : AWP E d pc k n ls (.int v :: .int i :: .ref a :: st) (mk g s) Q := aw_iastore (σ := mk g s) hd hq ho hi h
theorem ag_bastore {a N : Nat} {i v : Int32} (hd : mI d pc = some (.bastore, 1)) (hq : pc + 1 = q) (ho : AG g a 1 N) (hi : vp_in i N) (h : AWP E d q k n ls st (mk g (wi s a i.toNatClampNeg (vp_nar .byte v))) Q) : AWP E d pc k n ls (.int v :: .int i :: .ref a :: st) (mk g s) Q := aw_bastore (σ := mk g s) hd hq ho hi h
theorem ag_zastore {a N : Nat} {i v : Int32} (hd : mI d pc = some (.bastore, 1)) (hq : pc + 1 = q) (ho : AG g a 2 N) (hi : vp_in i N) (h : AWP E d q k n ls st (mk g (wi s a i.toNatClampNeg (vp_nar .boolean v))) Q) : AWP E d pc k n ls (.int v :: .int i :: .ref a :: st) (mk g s) Q := aw_zastore (σ := mk g s) hd hq ho hi h
theorem ag_castore {a N : Nat} {i v : Int32} (hd : mI d pc = some (.castore, 1)) (hq : pc + 1 = q) (ho : AG g a 3 N) (hi : vp_in i N) (h : AWP E d q k n ls st (mk g (wi s a i.toNatClampNeg (vp_nar .char v))) Q) : AWP E d pc k n ls (.int v :: .int i :: .ref a :: st) (mk g s) Q := aw_castore (σ := mk g s) hd hq ho hi h
theorem ag_lastore {a N : Nat} {i : Int32} {v : Int64} (hd : mI d pc = some (.lastore, 1)) (hq : pc + 1 = q) (ho : AG g a 4 N) (hi : vp_in i N) (h : AWP E d q k n ls st (mk g (wl s a i.toNatClampNeg v)) Q) : AWP E d pc k n ls (.long v :: .int i :: .ref a :: st) (mk g s) Q := aw_lastore (σ := mk g s) hd hq ho hi h
theorem ag_aastore {a t N ci b : Nat} {i : Int32} (hd : mI d pc = some (.aastore, 1)) (hq : pc + 1 = q) (ht : (t = 5 ∧ ci = 2) ∨ (t = 6 ∧ ci = 6)) (ho : AG g a t N) (hi : vp_in i N) (hv : OG g b ci) (h : AWP E d q k n ls st (mk (gr g a i.toNatClampNeg (some b)) s) Q) : AWP E d pc k n ls (.ref b :: .int i :: .ref a :: st) (mk g s) Q := aw_aastore (σ := mk g s) hd hq ht ho hi hv h
theorem ag_new {i ci : Nat} (hd : mI d pc = some (.new i, 3)) (hq : pc + 3 = q) (hc : NC (mY d).cls i ci) (hk : k + 1 = k') (hn : n + nfc ci = n') (hk' : k' ≤ (mR d).cells) (hn' : n' ≤ (mR d).slots) (h : AWP E d q k' n' ls (.ref g.1 :: st) (mk (gn g (0, ci)) (sn s g.1)) Q) : AWP E d pc k n ls st (mk g s) Q := aw_new (σ := mk g s) hd hq hc hk hn hk' hn' h
theorem ag_newarray {t N : Nat} {aT : ArrayType} {v : Int32} (hd : mI d pc = some (.newarray aT, 2)) (hq : pc + 2 = q) (ht : t < 5) (hT : newarray.typeOf aT = aty t) (hw : Cond.arrayClass (aty t) ∈ TB) (h0 : ¬ v < 0) (hv : v.toNatClampNeg = N) (hN : N ≤ 10000) (hk : k + 1 = k') (hn : n + N = n') (hk' : k' ≤ (mR d).cells) (hn' : n' ≤ (mR d).slots) (h : AWP E d q k' n' ls (.ref g.1 :: st) (mk (gn g (t + 1, N)) (sn s g.1)) Q) : AWP E d pc k n ls (.int v :: st) (mk g s) Q := aw_newarray (σ := mk g s) hd hq ht hT hw h0 hv hN hk hn hk' hn' h
theorem ag_anewarray {i t N : Nat} {v : Int32} {C0 : String} (hd : mI d pc = some (.anewarray i, 3)) (hq : pc + 3 = q) (ht : (t = 5 ∧ C0 = Rc2) ∨ (t = 6 ∧ C0 = Rc6)) (hw : Cond.classLink (mY d).cls i C0 ∈ TB) (h0 : ¬ v < 0) (hv : v.toNatClampNeg = N) (hN : N ≤ 10000) (hk : k + 1 = k') (hn : n + N = n') (hk' : k' ≤ (mR d).cells) (hn' : n' ≤ (mR d).slots) (h : AWP E d q k' n' ls (.ref g.1 :: st) (mk (gn g (t + 1, N)) (sn s g.1)) Q) : AWP E d pc k n ls (.int v :: st) (mk g s) Q := aw_anewarray (σ := mk g s) hd hq ht hw h0 hv hN hk hn hk' hn' h
/-- contracts that keep the shape -/
def GI (E : EN) (z : MD) (av : List Value) (g : GS) (s : MS) (R : Int32 → MS → Prop) : Prop := AMet E z av (mk g s) (fun v τ => ∃ r t, v = some (.int r) ∧ τ = mk g t ∧ R r t)
def GL (E : EN) (z : MD) (av : List Value) (g : GS) (s : MS) (R : Int64 → MS → Prop) : Prop := AMet E z av (mk g s) (fun v τ => ∃ r t, v = some (.long r) ∧ τ = mk g t ∧ R r t)
def GA (E : EN) (z : MD) (av : List Value) (g : GS) (s : MS) (R : Nat → MS → Prop) : Prop := AMet E z av (mk g s) (fun v τ => ∃ r t, v = some (.ref r) ∧ τ = mk g t ∧ R r t)
def GV (E : EN) (z : MD) (av : List Value) (g : GS) (s : MS) (R : MS → Prop) : Prop := AMet E z av (mk g s) (fun v τ => ∃ t, v = none ∧ τ = mk g t ∧ R t)
/-- contracts that may change it -/
def XI (E : EN) (z : MD) (av : List Value) (g : GS) (s : MS) (R : Int32 → GS → MS → Prop) : Prop := AMet E z av (mk g s) (fun v τ => ∃ r g' t, v = some (.int r) ∧ τ = mk g' t ∧ R r g' t)
def XV (E : EN) (z : MD) (av : List Value) (g : GS) (s : MS) (R : GS → MS → Prop) : Prop := AMet E z av (mk g s) (fun v τ => ∃ g' t, v = none ∧ τ = mk g' t ∧ R g' t)
def qI (g : GS) (R : Int32 → MS → Prop) : Option Value → SG → Prop := fun v τ => ∃ r t, v = some (.int r) ∧ τ = mk g t ∧ R r t
def qL (g : GS) (R : Int64 → MS → Prop) : Option Value → SG → Prop := fun v τ => ∃ r t, v = some (.long r) ∧ τ = mk g t ∧ R r t
def qA (g : GS) (R : Nat → MS → Prop) : Option Value → SG → Prop := fun v τ => ∃ r t, v = some (.ref r) ∧ τ = mk g t ∧ R r t
def qV (g : GS) (R : MS → Prop) : Option Value → SG → Prop := fun v τ => ∃ t, v = none ∧ τ = mk g t ∧ R t
def rI (R : Int32 → GS → MS → Prop) : Option Value → SG → Prop := fun v τ => ∃ r g' t, v = some (.int r) ∧ τ = mk g' t ∧ R r g' t
def rV (R : GS → MS → Prop) : Option Value → SG → Prop := fun v τ => ∃ g' t, v = none ∧ τ = mk g' t ∧ R g' t
theorem qI.mk {R : Int32 → MS → Prop} {r : Int32} (h : R r s) : qI g R (some (.int r)) (mk g s) := ⟨r, s, rfl, rfl, h⟩
theorem qL.mk {R : Int64 → MS → Prop} {r : Int64} (h : R r s) : qL g R (some (.long r)) (mk g s) := ⟨r, s, rfl, rfl, h⟩
theorem qA.mk {R : Nat → MS → Prop} {r : Nat} (h : R r s) : qA g R (some (.ref r)) (mk g s) := ⟨r, s, rfl, rfl, h⟩
theorem qV.mk {R : MS → Prop} (h : R s) : qV g R none (mk g s) := ⟨s, rfl, rfl, h⟩
theorem rI.mk {R : Int32 → GS → MS → Prop} {r : Int32} (h : R r g s) : rI R (some (.int r)) (mk g s) := ⟨r, g, s, rfl, rfl, h⟩
theorem rV.mk {R : GS → MS → Prop} (h : R g s) : rV R none (mk g s) := ⟨g, s, rfl, rfl, h⟩
section CallsG
variable {idx np a ci : Nat} {av : List Value}
theorem ag_cvI (hd : mI d pc = some (.invokevirtual idx, 3)) (hq : pc + 3 = q) (hc : CV (mY d).cls idx z np) (hr : RM z d) (hk : k + (mR z).cells = k') (hn : n + (mR z).slots = n') (hk' : k' ≤ (mR d).cells) (hn' : n' ≤ (mR d).slots) (ho : OG g a ci) (hci : (classes[ci]?).map (fun q => q.1) = some (mY z).cls) (hs : stk = av.reverse ++ .ref a :: st) (hln : av.length = np) (hw : (st.map fun v => v.category).sum ≤ 8) (h : GI E z (.ref a :: av) g s (fun r t => AWP E d q k' n' ls (.int r :: st) (mk g t) Q)) : AWP E d pc k n ls stk (mk g s) Q :=
  aw_cv (σ := mk g s) hd hq hc hr hk hn hk' hn' ho hci hs hln hw h (fun v τ hv => by obtain ⟨r, t, rfl, rfl, h⟩ := hv; exact h)
theorem ag_cvL (hd : mI d pc = some (.invokevirtual idx, 3)) (hq : pc + 3 = q) (hc : CV (mY d).cls idx z np) (hr : RM z d) (hk : k + (mR z).cells = k') (hn : n + (mR z).slots = n') (hk' : k' ≤ (mR d).cells) (hn' : n' ≤ (mR d).slots) (ho : OG g a ci) (hci : (classes[ci]?).map (fun q => q.1) = some (mY z).cls) (hs : stk = av.reverse ++ .ref a :: st) (hln : av.length = np) (hw : (st.map fun v => v.category).sum ≤ 8) (h : GL E z (.ref a :: av) g s (fun r t => AWP E d q k' n' ls (.long r :: st) (mk g t) Q)) : AWP E d pc k n ls stk (mk g s) Q :=
  aw_cv (σ := mk g s) hd hq hc hr hk hn hk' hn' ho hci hs hln hw h (fun v τ hv => by obtain ⟨r, t, rfl, rfl, h⟩ := hv; exact h)
theorem ag_cvA (hd : mI d pc = some (.invokevirtual idx, 3)) (hq : pc + 3 = q) (hc : CV (mY d).cls idx z np) (hr : RM z d) (hk : k + (mR z).cells = k') (hn : n + (mR z).slots = n') (hk' : k' ≤ (mR d).cells) (hn' : n' ≤ (mR d).slots) (ho : OG g a ci) (hci : (classes[ci]?).map (fun q => q.1) = some (mY z).cls) (hs : stk = av.reverse ++ .ref a :: st) (hln : av.length = np) (hw : (st.map fun v => v.category).sum ≤ 8) (h : GA E z (.ref a :: av) g s (fun r t => AWP E d q k' n' ls (.ref r :: st) (mk g t) Q)) : AWP E d pc k n ls stk (mk g s) Q :=
  aw_cv (σ := mk g s) hd hq hc hr hk hn hk' hn' ho hci hs hln hw h (fun v τ hv => by obtain ⟨r, t, rfl, rfl, h⟩ := hv; exact h)
theorem ag_cvV (hd : mI d pc = some (.invokevirtual idx, 3)) (hq : pc + 3 = q) (hc : CV (mY d).cls idx z np) (hr : RM z d) (hk : k + (mR z).cells = k') (hn : n + (mR z).slots = n') (hk' : k' ≤ (mR d).cells) (hn' : n' ≤ (mR d).slots) (ho : OG g a ci) (hci : (classes[ci]?).map (fun q => q.1) = some (mY z).cls) (hs : stk = av.reverse ++ .ref a :: st) (hln : av.length = np) (hw : (st.map fun v => v.category).sum ≤ 8) (h : GV E z (.ref a :: av) g s (fun t => AWP E d q k' n' ls st (mk g t) Q)) : AWP E d pc k n ls stk (mk g s) Q :=
  aw_cv (σ := mk g s) hd hq hc hr hk hn hk' hn' ho hci hs hln hw h (fun v τ hv => by obtain ⟨t, rfl, rfl, h⟩ := hv; exact h)
theorem ax_cvI (hd : mI d pc = some (.invokevirtual idx, 3)) (hq : pc + 3 = q) (hc : CV (mY d).cls idx z np) (hr : RM z d) (hk : k + (mR z).cells = k') (hn : n + (mR z).slots = n') (hk' : k' ≤ (mR d).cells) (hn' : n' ≤ (mR d).slots) (ho : OG g a ci) (hci : (classes[ci]?).map (fun q => q.1) = some (mY z).cls) (hs : stk = av.reverse ++ .ref a :: st) (hln : av.length = np) (hw : (st.map fun v => v.category).sum ≤ 8) (h : XI E z (.ref a :: av) g s (fun r g' t => AWP E d q k' n' ls (.int r :: st) (mk g' t) Q)) : AWP E d pc k n ls stk (mk g s) Q :=
  aw_cv (σ := mk g s) hd hq hc hr hk hn hk' hn' ho hci hs hln hw h (fun v τ hv => by obtain ⟨r, g', t, rfl, rfl, h⟩ := hv; exact h)
theorem ax_cvV (hd : mI d pc = some (.invokevirtual idx, 3)) (hq : pc + 3 = q) (hc : CV (mY d).cls idx z np) (hr : RM z d) (hk : k + (mR z).cells = k') (hn : n + (mR z).slots = n') (hk' : k' ≤ (mR d).cells) (hn' : n' ≤ (mR d).slots) (ho : OG g a ci) (hci : (classes[ci]?).map (fun q => q.1) = some (mY z).cls) (hs : stk = av.reverse ++ .ref a :: st) (hln : av.length = np) (hw : (st.map fun v => v.category).sum ≤ 8) (h : XV E z (.ref a :: av) g s (fun g' t => AWP E d q k' n' ls st (mk g' t) Q)) : AWP E d pc k n ls stk (mk g s) Q :=
  aw_cv (σ := mk g s) hd hq hc hr hk hn hk' hn' ho hci hs hln hw h (fun v τ hv => by obtain ⟨g', t, rfl, rfl, h⟩ := hv; exact h)
theorem ag_csI (hd : mI d pc = some (.invokestatic idx, 3)) (hq : pc + 3 = q) (hc : CS (mY d).cls idx z np) (hr : RM z d) (hk : k + (mR z).cells = k') (hn : n + (mR z).slots = n') (hk' : k' ≤ (mR d).cells) (hn' : n' ≤ (mR d).slots) (hs : stk = av.reverse ++ st) (hln : av.length = np) (hw : (st.map fun v => v.category).sum ≤ 8) (h : GI E z av g s (fun r t => AWP E d q k' n' ls (.int r :: st) (mk g t) Q)) : AWP E d pc k n ls stk (mk g s) Q :=
  aw_cs (σ := mk g s) hd hq hc hr hk hn hk' hn' hs hln hw h (fun v τ hv => by obtain ⟨r, t, rfl, rfl, h⟩ := hv; exact h)
theorem ag_csL (hd : mI d pc = some (.invokestatic idx, 3)) (hq : pc + 3 = q) (hc : CS (mY d).cls idx z np) (hr : RM z d) (hk : k + (mR z).cells = k') (hn : n + (mR z).slots = n') (hk' : k' ≤ (mR d).cells) (hn' : n' ≤ (mR d).slots) (hs : stk = av.reverse ++ st) (hln : av.length = np) (hw : (st.map fun v => v.category).sum ≤ 8) (h : GL E z av g s (fun r t => AWP E d q k' n' ls (.long r :: st) (mk g t) Q)) : AWP E d pc k n ls stk (mk g s) Q :=
  aw_cs (σ := mk g s) hd hq hc hr hk hn hk' hn' hs hln hw h (fun v τ hv => by obtain ⟨r, t, rfl, rfl, h⟩ := hv; exact h)
theorem ag_csV (hd : mI d pc = some (.invokestatic idx, 3)) (hq : pc + 3 = q) (hc : CS (mY d).cls idx z np) (hr : RM z d) (hk : k + (mR z).cells = k') (hn : n + (mR z).slots = n') (hk' : k' ≤ (mR d).cells) (hn' : n' ≤ (mR d).slots) (hs : stk = av.reverse ++ st) (hln : av.length = np) (hw : (st.map fun v => v.category).sum ≤ 8) (h : GV E z av g s (fun t => AWP E d q k' n' ls st (mk g t) Q)) : AWP E d pc k n ls stk (mk g s) Q :=
  aw_cs (σ := mk g s) hd hq hc hr hk hn hk' hn' hs hln hw h (fun v τ hv => by obtain ⟨t, rfl, rfl, h⟩ := hv; exact h)
theorem ax_cnV (hd : mI d pc = some (.invokespecial idx, 3)) (hq : pc + 3 = q) (hc : CN (mY d).cls idx z np) (hr : RM z d) (hk : k + (mR z).cells = k') (hn : n + (mR z).slots = n') (hk' : k' ≤ (mR d).cells) (hn' : n' ≤ (mR d).slots) (hs : stk = av.reverse ++ .ref a :: st) (hln : av.length = np) (hw : (st.map fun v => v.category).sum ≤ 8) (h : XV E z (.ref a :: av) g s (fun g' t => AWP E d q k' n' ls st (mk g' t) Q)) : AWP E d pc k n ls stk (mk g s) Q :=
  aw_cn (σ := mk g s) hd hq hc hr hk hn hk' hn' hs hln hw h (fun v τ hv => by obtain ⟨g', t, rfl, rfl, h⟩ := hv; exact h)
theorem ag_cvS {i : Nat} (hd : mI d pc = some (.invokevirtual idx, 3)) (hq : pc + 3 = q) (hc : CV (mY d).cls idx z np) (hr : RM z d) (hk : k + (mR z).cells = k') (hn : n + (mR z).slots = n') (hk' : k' ≤ (mR d).cells) (hn' : n' ≤ (mR d).slots) (hi : i < 6) (hci : (mY z).cls = "java/lang/String") (hs : stk = av.reverse ++ .ref (2 + i) :: st) (hln : av.length = np) (hw : (st.map fun v => v.category).sum ≤ 8) (h : GI E z (.ref (2 + i) :: av) g s (fun r t => AWP E d q k' n' ls (.int r :: st) (mk g t) Q)) : AWP E d pc k n ls stk (mk g s) Q := by
  refine aw_cvS (σ := mk g s) hd hq hc hr hk hn hk' hn' hi hci hs hln hw (AMet.mono h (fun v τ hv => ?_))
  obtain ⟨r, t, rfl, rfl, h⟩ := hv
  exact ⟨r, rfl, h⟩
end CallsG
end Mem
