/-! ROWS OF THE ABSTRACT MACHINE: arrays, new cells, answers -/
section Arrays
variable {E : EN} {d : MD} {pc q k n : Nat} {ls : List (Nat × Value)} {st : List Value} {σ : SG} {Q : Option Value → SG → Prop}
theorem aw_iaload {a N : Nat} {i : Int32} (hd : mI d pc = some (.iaload, 1)) (hq : pc + 1 = q) (ho : AR σ a 0 N) (hi : vp_in i N) (h : AWP E d q k n ls (.int (sI σ a i.toNatClampNeg) :: st) σ Q) : AWP E d pc k n ls (.int i :: .ref a :: st) σ Q := by
  intro p e s m args below meth c H locs la C hS hR hl
  subst hq
  exact va_iald C.x C.b C.K.1 (P1 (hR.ar ho)) 0 0 rfl (tysE_at E (by decide)) hi (C.dc hd) (h p e s m args below meth c H locs la C hS hR hl)
theorem aw_baload {a N : Nat} {i : Int32} (hd : mI d pc = some (.baload, 1)) (hq : pc + 1 = q) (ho : AR σ a 1 N) (hi : vp_in i N) (h : AWP E d q k n ls (.int (sI σ a i.toNatClampNeg) :: st) σ Q) : AWP E d pc k n ls (.int i :: .ref a :: st) σ Q := by
  intro p e s m args below meth c H locs la C hS hR hl
  subst hq
  exact va_bald C.x C.b C.K.1 (P1 (hR.ar ho)) 0 1 rfl (tysE_at E (by decide)) hi (C.dc hd) (h p e s m args below meth c H locs la C hS hR hl)
theorem aw_zaload {a N : Nat} {i : Int32} (hd : mI d pc = some (.baload, 1)) (hq : pc + 1 = q) (ho : AR σ a 2 N) (hi : vp_in i N) (h : AWP E d q k n ls (.int (sI σ a i.toNatClampNeg) :: st) σ Q) : AWP E d pc k n ls (.int i :: .ref a :: st) σ Q := by
  intro p e s m args below meth c H locs la C hS hR hl
  subst hq
  exact va_zald C.x C.b C.K.1 (P1 (hR.ar ho)) 0 2 rfl (tysE_at E (by decide)) hi (C.dc hd) (h p e s m args below meth c H locs la C hS hR hl)
theorem aw_caload {a N : Nat} {i : Int32} (hd : mI d pc = some (.caload, 1)) (hq : pc + 1 = q) (ho : AR σ a 3 N) (hi : vp_in i N) (h : AWP E d q k n ls (.int (sI σ a i.toNatClampNeg) :: st) σ Q) : AWP E d pc k n ls (.int i :: .ref a :: st) σ Q := by
  intro p e s m args below meth c H locs la C hS hR hl
  subst hq
  exact va_cald C.x C.b C.K.1 (P1 (hR.ar ho)) 0 3 rfl (tysE_at E (by decide)) hi (C.dc hd) (h p e s m args below meth c H locs la C hS hR hl)
theorem aw_laload {a N : Nat} {i : Int32} (hd : mI d pc = some (.laload, 1)) (hq : pc + 1 = q) (ho : AR σ a 4 N) (hi : vp_in i N) (h : AWP E d q k n ls (.long (sL σ a i.toNatClampNeg) :: st) σ Q) : AWP E d pc k n ls (.int i :: .ref a :: st) σ Q := by
  intro p e s m args below meth c H locs la C hS hR hl
  subst hq
  exact va_lald C.x C.b C.K.1 (P1 (hR.ar ho)) 0 4 rfl (tysE_at E (by decide)) hi (C.dc hd) (h p e s m args below meth c H locs la C hS hR hl)
def rv (r : Option Nat) : Value := match r with
  | none => .null
  | some a => .ref a
theorem cv_rv (r : Option Nat) : cv E (rv r) = va_rf (r.map (ad E)) := by cases r <;> rfl
theorem aw_aaload {a t N : Nat} {i : Int32} {b : Option Nat} (hd : mI d pc = some (.aaload, 1)) (hq : pc + 1 = q) (ht : t = 5 ∨ t = 6) (ho : AR σ a t N) (hi : vp_in i N) (hb : sR σ a i.toNatClampNeg = b) (h : AWP E d q k n ls (rv b :: st) σ Q) : AWP E d pc k n ls (.int i :: .ref a :: st) σ Q := by
  intro p e s m args below meth c H locs la C hS hR hl
  subst hq
  subst hb
  have h1 := h p e s m args below meth c H locs la C hS hR hl
  rw [List.map_cons, cv_rv] at h1
  rcases ht with rfl | rfl
  · exact va_aldq C.x C.b C.K.1 (P1 (hR.ar ho)) 0 5 rfl (tysE_at E (by decide)) hi (C.dc hd) h1
  · exact va_aldq C.x C.b C.K.1 (P1 (hR.ar ho)) 0 6 rfl (tysE_at E (by decide)) hi (C.dc hd) h1
theorem aw_alen {a t N : Nat} {v : Int32} (hd : mI d pc = some (.arraylength, 1)) (hq : pc + 1 = q) (ht : t < 7) (ho : AR σ a t N) (hv : Int32.ofNat N = v) (h : AWP E d q k n ls (.int v :: st) σ Q) : AWP E d pc k n ls (.ref a :: st) σ Q := by
  intro p e s m args below meth c H locs la C hS hR hl
  subst hq
  exact va_alen C.x C.b C.K.1 (P1 (hR.ar ho)) 0 t rfl (tysE_at E ht) hv (C.dc hd) (h p e s m args below meth c H locs la C hS hR hl)
/-- a store into an array: the walk behind it -/
theorem sto_key {σ' : SG} {a t N j : Nat} {p : Program} {e : Env} {s : State} {m : MethodId} {args : Array Value} {below : List Frame} {meth : Method} {c : Code} {H H1 : Heap} {locs : List Loc} {la : Array Slot} (h : AWP E d q k n ls st σ' Q) (C : Cx E d p s m args meth c) (hS : va_S (eA E) s.heap H locs) (hR : Rep E σ H) (hl : lv_has la (mL d) (lsc E ls)) (ho : AR σ a t N)
    (h1 : sN σ' = sN σ) (h2 : sK σ' = sK σ) (h3 : ∀ i, i ≠ a → sI σ' i = sI σ i ∧ sR σ' i = sR σ i ∧ sL σ' i = sL σ i) (g1 : H1[ad E a]? = some (vp_cell (eC E t) (N, acn E σ' a t))) (g2 : H1.size = H.size) (g3 : ∀ q, q ≠ ad E a → H1[q]? = H[q]?) :
    W p (eL E) e (mR d) s m args below meth c H1 (locs ++ [⟨ad E a, j⟩]) k n (MQ below (aQc E Q) args s (mR d).cells (mR d).slots (eA E)) (F0 m q la (st.map (cv E))) := by
  refine h p e s m args below meth c H1 _ la C (S_put hS g2 g3 (C.K.eA ho.2.1)) (hR.put C.K ho.2.1 g2 g3 h1 (fun j hj => ?_) (fun j hj => ?_) ?_) hl
  · obtain ⟨x1, x2, x3⟩ := h3 j hj
    simp only [cnc, cnk, flds, acn, h2, x1, x2, x3]
    have hfv : fv E σ' j = fv E σ j := by funext ci k; simp [fv, x1, x2]
    rw [hfv]
  · have hja : j ≠ a := by have := ho.2.1; omega
    exact ⟨by rw [h2], (h3 j hja).1, (h3 j hja).2.1⟩
  · rw [cnc_ar (by rw [h2]; exact ho.1)]
    exact g1
theorem wI_o {σ : SG} {a k : Nat} {v : Int32} : ∀ i, i ≠ a → sI (wI σ a k v) i = sI σ i ∧ sR (wI σ a k v) i = sR σ i ∧ sL (wI σ a k v) i = sL σ i := fun _ hj => ⟨sI_stI_n _ _ hj, rfl, rfl⟩
theorem arr_i {σ : SG} {a j N t : Nat} {v : Int32} (ht : t < 4) : (vp_cell (eC E t) (N, acn E σ a t)).setSlot j (.int v) = vp_cell (eC E t) (N, acn E (wI σ a j v) a t) := by
  simp only [acn, if_pos ht, vp_cell_i, wI, sI_stI_s]
  rw [arrV_store]
  congr 1
  funext z
  by_cases hz : z = j <;> simp [updV, upd, hz]
theorem arr_in {a N t : Nat} {i : Int32} (ht : t < 4) (hi : vp_in i N) : ¬ (i < 0 ∨ (vp_cell (eC E t) (N, acn E σ a t)).slots.size ≤ i.toNatClampNeg) := by
  simp only [acn, if_pos ht, vp_cell_i, arrV_size]
  exact hi
theorem arr_of {U : State} (hK : KK E U) {a N t : Nat} (ht : t < 4) : U.isArrayOf (vp_cell (eC E t) (N, acn E σ a t)) (aty t) := by
  simp only [acn, if_pos ht, vp_cell_i]
  exact (hK.1.2 t _ (tysE_at E (by omega))).1 _ _
theorem arr_vm {a N t : Nat} (ht : t < 4) : (vp_cell (eC E t) (N, acn E σ a t)).vm ≠ .unknown := by
  simp only [acn, if_pos ht, vp_cell_i]
  intro h
  cases h
theorem aw_iastore {a N : Nat} {i v : Int32} (hd : mI d pc = some (.iastore, 1)) (hq : pc + 1 = q) (ho : AR σ a 0 N) (hi : vp_in i N) (h : AWP E d q k n ls st (wI σ a i.toNatClampNeg v) Q) : AWP E d pc k n ls (.int v :: .int i :: .ref a :: st) σ Q := by
  intro p e s m args below meth c H locs la C hS hR hl
  subst hq
  refine W.iast C.x C.b (hR.ar ho) (arr_of C.K (by decide)) (arr_vm (by decide)) (arr_in (by decide) hi) rfl rfl (C.dc hd) (fun H1 g1 g2 g3 => ?_)
  exact sto_key h C hS hR hl ho rfl rfl wI_o (by rw [g1, arr_i (by decide)]) g2 g3
theorem nar_int {ty : FieldType} {v : Int32} (h : ty = .byte ∨ ty = .boolean ∨ ty = .char) : narrow ty (.int v) = .int (vp_nar ty v) := by
  rcases h with rfl | rfl | rfl <;> rfl
theorem aw_bastore {a N : Nat} {i v : Int32} (hd : mI d pc = some (.bastore, 1)) (hq : pc + 1 = q) (ho : AR σ a 1 N) (hi : vp_in i N) (h : AWP E d q k n ls st (wI σ a i.toNatClampNeg (vp_nar .byte v)) Q) : AWP E d pc k n ls (.int v :: .int i :: .ref a :: st) σ Q := by
  intro p e s m args below meth c H locs la C hS hR hl
  subst hq
  refine W.bast C.x C.b (hR.ar ho) (arr_of C.K (by decide)) (arr_vm (by decide)) (arr_in (by decide) hi) rfl rfl (C.dc hd) (fun H1 g1 g2 g3 => ?_)
  exact sto_key h C hS hR hl ho rfl rfl wI_o (by rw [g1, nar_int (by simp), arr_i (by decide)]) g2 g3
theorem aw_zastore {a N : Nat} {i v : Int32} (hd : mI d pc = some (.bastore, 1)) (hq : pc + 1 = q) (ho : AR σ a 2 N) (hi : vp_in i N) (h : AWP E d q k n ls st (wI σ a i.toNatClampNeg (vp_nar .boolean v)) Q) : AWP E d pc k n ls (.int v :: .int i :: .ref a :: st) σ Q := by
  intro p e s m args below meth c H locs la C hS hR hl
  subst hq
  refine W.zast C.x C.b (hR.ar ho) (arr_of C.K (by decide)) (arr_vm (by decide)) (arr_in (by decide) hi) rfl rfl (C.dc hd) (fun H1 g1 g2 g3 => ?_)
  exact sto_key h C hS hR hl ho rfl rfl wI_o (by rw [g1, nar_int (by simp), arr_i (by decide)]) g2 g3
theorem aw_castore {a N : Nat} {i v : Int32} (hd : mI d pc = some (.castore, 1)) (hq : pc + 1 = q) (ho : AR σ a 3 N) (hi : vp_in i N) (h : AWP E d q k n ls st (wI σ a i.toNatClampNeg (vp_nar .char v)) Q) : AWP E d pc k n ls (.int v :: .int i :: .ref a :: st) σ Q := by
  intro p e s m args below meth c H locs la C hS hR hl
  subst hq
  refine W.cast C.x C.b (hR.ar ho) (arr_of C.K (by decide)) (arr_vm (by decide)) (arr_in (by decide) hi) rfl rfl (C.dc hd) (fun H1 g1 g2 g3 => ?_)
  exact sto_key h C hS hR hl ho rfl rfl wI_o (by rw [g1, nar_int (by simp), arr_i (by decide)]) g2 g3
theorem aw_lastore {a N : Nat} {i : Int32} {v : Int64} (hd : mI d pc = some (.lastore, 1)) (hq : pc + 1 = q) (ho : AR σ a 4 N) (hi : vp_in i N) (h : AWP E d q k n ls st (wL σ a i.toNatClampNeg v) Q) : AWP E d pc k n ls (.long v :: .int i :: .ref a :: st) σ Q := by
  intro p e s m args below meth c H locs la C hS hR hl
  subst hq
  have hcell : H[ad E a]? = some (arrV (eC E 4) N (fun j => .long (sL σ a j))) := hR.ar ho
  refine W.last C.x C.b hcell ((C.K.1.2 4 _ (tysE_at E (by decide))).1 _ _) (fun h => by cases h) (by rw [arrV_size]; exact hi) rfl rfl (C.dc hd) (fun H1 g1 g2 g3 => ?_)
  refine sto_key h C hS hR hl ho rfl rfl (fun j hj => ⟨rfl, rfl, sL_stL_n _ _ hj⟩) ?_ g2 g3
  have e4 : vp_cell (eC E 4) (N, acn E (wL σ a i.toNatClampNeg v) a 4) = arrV (eC E 4) N (fun j => .long (sL (wL σ a i.toNatClampNeg v) a j)) := rfl
  rw [g1, arrV_store, e4]
  congr 2
  funext z
  rw [wL, sL_stL_s]
  by_cases hz : z = i.toNatClampNeg <;> simp [updV, vp_updL, hz]
theorem aw_aastore {a t N ci b : Nat} {i : Int32} (hd : mI d pc = some (.aastore, 1)) (hq : pc + 1 = q) (ht : (t = 5 ∧ ci = 2) ∨ (t = 6 ∧ ci = 6)) (ho : AR σ a t N) (hi : vp_in i N) (hv : OB σ b ci) (h : AWP E d q k n ls st (wR σ a i.toNatClampNeg (some b)) Q) : AWP E d pc k n ls (.ref b :: .int i :: .ref a :: st) σ Q := by
  intro p e s m args below meth c H locs la C hS hR hl
  subst hq
  have hlt : i.toNatClampNeg < N := Nat.not_le.mp fun q => hi (Or.inr q)
  have h0 : ¬ i < 0 := fun q => hi (Or.inl q)
  have h4 : ¬ t < 4 := by omega
  have h5 : ¬ t = 4 := by omega
  have hcell : H[ad E a]? = some (arrV (eC E t) N (fun j => va_rf ((sR σ a j).map (ad E)))) := by
    have := hR.ar ho
    simp only [acn, if_neg h4, if_neg h5] at this
    exact this
  obtain ⟨r', hr', cellV, f1, f2, f3, -⟩ := hR.ob hv
  have hcl := C.K.1.1 ci _ hr'
  have hty : ∃ kA comp, s.vm.classes[eC E t]? = some kA ∧ kA.kind = .array comp (.object r'.1) ∧ s.vm.findClass r'.1 = some comp := by
    rcases ht with ⟨rfl, rfl⟩ | ⟨rfl, rfl⟩
    · obtain ⟨kA, comp, k1, k2, k3, -⟩ := (C.K.1.2 5 _ (tysE_at E (by decide))).2
      cases hr'
      exact ⟨kA, comp, k1, k2, k3⟩
    · obtain ⟨kA, comp, k1, k2, k3, -⟩ := (C.K.1.2 6 _ (tysE_at E (by decide))).2
      cases hr'
      exact ⟨kA, comp, k1, k2, k3⟩
  obtain ⟨kA, comp, k1, k2, k3⟩ := hty
  have hcomp : comp = (eD E).1 ci := Option.some.inj (k3.symm.trans hcl.2.1)
  subst hcomp
  obtain ⟨kC, hkC, -⟩ := hcl.2.2
  refine W.aast C.x C.b hcell (fun q h => by cases h) (fun h => by cases h) k1 k2 rfl hkC ⟨h0, by rw [arrV_size]; exact hlt⟩ f1 (fun q h => by rw [f3] at h; cases h) (by rw [f2]; exact hkC) (by rw [f2]; exact va_assign hcl.2) rfl rfl (C.dc hd) (fun H1 g1 g2 g3 => ?_)
  refine sto_key h C hS hR hl ho rfl rfl (fun j hj => ⟨rfl, sR_stR_n _ _ hj, rfl⟩) ?_ g2 g3
  rw [g1, arrV_store]
  simp only [acn, if_neg h4, if_neg h5, vp_cell_q]
  congr 2
  funext z
  rw [wR, sR_stR_s]
  by_cases hz : z = i.toNatClampNeg <;> simp [updV, va_up, hz, va_rf]
/-- a cell is made -/
theorem Rep.new {U : State} (hK : KK E U) {H H1 : Heap} {kd : Nat × Nat} (hR : Rep E σ H) (hz : H1.size = H.size + 1) (ho : ∀ q, q < H.size → H1[q]? = H[q]?) (h : va_at (eD E) classes (H.size, cnk E (nw σ kd) (sN σ) kd) H1) : Rep E (nw σ kd) H1 ∧ ad E (sN σ) = H.size := by
  obtain ⟨r1, r2, r3, r4, r5⟩ := hR
  have r16 := r4.1
  have had : ad E (sN σ) = H.size := by rw [r4.2.1 _ (Nat.le_refl _)]; omega
  refine ⟨⟨fun i h16 hi => ?_, ?_, fun q hq => ?_, ?_, fun i hi => ?_⟩, had⟩
  · have hi' : i < sN σ + 1 := hi
    by_cases hia : i = sN σ
    · subst hia
      rw [had]
      have : sK (nw σ kd) (sN σ) = kd := by simp [sK, nw, sN]
      rw [cnc, this]
      exact h
    · have hlt : i < sN σ := by omega
      have hne : i ≠ σ.1 := hia
      have hcn : cnc E (nw σ kd) i = cnc E σ i := by
        simp only [cnc, cnk, flds, acn]
        have e1 : sK (nw σ kd) i = sK σ i := by simp [sK, nw, hne]
        have e2 : sI (nw σ kd) i = sI σ i := by simp [sI, nw, hne]
        have e3 : sL (nw σ kd) i = sL σ i := by simp [sL, nw, hne]
        have e4 : sR (nw σ kd) i = sR σ i := by simp [sR, nw, hne]
        have hfv : fv E (nw σ kd) i = fv E σ i := by funext ci k; simp [fv, e2, e4]
        rw [e1, e2, e3, e4, hfv]
      rw [hcn]
      refine (r1 i h16 hlt).kept (ho _ ?_)
      have := r4.2.2 i h16 hlt
      omega
  · show _ = (eH E).size + (sN σ + 1)
    omega
  · rw [ho q (by omega)]
    exact r3 q hq
  · exact r4.succ
  · have hne : i ≠ σ.1 := by have : (16 : Nat) ≤ σ.1 := r4.1; omega
    obtain ⟨x1, x2, x3⟩ := r5 i hi
    exact ⟨by rw [← x1]; simp [sK, nw, hne], by rw [← x2]; simp [sI, nw, hne], by rw [← x3]; simp [sR, nw, hne]⟩
theorem S_new {A : Nat → Prop} {H0 H H1 : Heap} {locs : List Loc} (h : va_S A H0 H locs) (z : H1.size = H.size + 1) (oq : ∀ q : Nat, q < H.size → H1[q]? = H[q]?) : va_S A H0 H1 locs := by
  refine ⟨by have := h.1; omega, fun q h1 h2 => ?_, h.2.2⟩
  rw [oq q (Nat.lt_of_lt_of_le h1 h.1)]
  exact h.2.1 q h1 h2
theorem dflt_fv {ci : Nat} (hI : ∀ f, f < nfc ci → tyf ci f = .int ∨ tyf ci f = .boolean ∨ isRf (tyf ci f) = true) {f : Nat} (hf : f < nfc ci) : defaultValue (tyf ci f) = fv E (nw σ (0, ci)) (sN σ) ci f := by
  have e2 : sI (nw σ (0, ci)) (sN σ) = fun _ => 0 := by simp [sI, nw, sN]
  have e4 : sR (nw σ (0, ci)) (sN σ) = fun _ => none := by simp [sR, nw, sN]
  simp only [fv, e2, e4]
  rcases hI f hf with h | h | h
  · rw [h]; rfl
  · rw [h]; rfl
  · rw [if_pos h]
    cases ht : tyf ci f <;> simp_all [isRf, defaultValue, va_rf]
/-- an entry of the pool links a class that can be made -/
def NC (own : String) (idx ci : Nat) : Prop := CLS ci ∧ (∀ f, f < nfc ci → tyf ci f = .int ∨ tyf ci f = .boolean ∨ isRf (tyf ci f) = true) ∧ ∀ C T N, classes[ci]? = some (C, T, N) → Cond.classLink own idx C ∈ TB ∧ Cond.instantiable C (nfc ci) ∈ TB ∧ Cond.initialized C ∈ TB
theorem aw_new {i ci k' n' : Nat} (hd : mI d pc = some (.new i, 3)) (hq : pc + 3 = q) (hc : NC (mY d).cls i ci) (hk : k + 1 = k') (hn : n + nfc ci = n') (hk' : k' ≤ (mR d).cells) (hn' : n' ≤ (mR d).slots) (h : AWP E d q k' n' ls (.ref (sN σ) :: st) (nw σ (0, ci)) Q) : AWP E d pc k n ls st σ Q := by
  intro p e s m args below meth c H locs la C hS hR hl
  subst hq; subst hk; subst hn
  obtain ⟨⟨Cn, T, hcl, hin, hty, hnm⟩, hI, hw⟩ := hc
  obtain ⟨w1, w2, w3⟩ := hw _ _ _ hcl
  have hKn := C.K.1.1 ci _ hcl
  refine W.newcK C.x C.b C.o (C.t _ w1) (C.t _ w2) (C.t _ w3) rfl (C.dc hd) hk' hn' hKn.2.1 rfl (fun H1 kC hkC e1 z1 o1 => ?_)
  obtain ⟨hR1, had⟩ := hR.new C.K (kd := (0, ci)) z1 o1 ⟨_, hcl, (u_born (tyf ci) C.t hin hKn hkC e1 hty).to (fun f hf => by
    show _ = vp_V (flds E (nw σ (0, ci)) (sN σ) ci) f
    rw [vp_V, List.getD_eq_getElem?_getD, flds_at hf, dflt_fv hI hf]
    rfl)⟩
  have h1 := h p e s m args below meth c H1 locs la C (S_new hS z1 o1) hR1 hl
  rw [List.map_cons] at h1
  show W _ _ _ _ _ _ _ _ _ _ _ _ _ _ _ (F0 m (pc + 3) la (.ref H.size :: st.map (cv E)))
  rw [← had]
  exact h1
theorem aw_newarray {t N : Nat} {aT : ArrayType} {v : Int32} {k' n' : Nat} (hd : mI d pc = some (.newarray aT, 2)) (hq : pc + 2 = q) (ht : t < 5) (hT : newarray.typeOf aT = aty t) (hw : Cond.arrayClass (aty t) ∈ TB) (h0 : ¬ v < 0) (hv : v.toNatClampNeg = N) (hN : N ≤ 10000) (hk : k + 1 = k') (hn : n + N = n') (hk' : k' ≤ (mR d).cells) (hn' : n' ≤ (mR d).slots) (h : AWP E d q k' n' ls (.ref (sN σ) :: st) (nw σ (t + 1, N)) Q) : AWP E d pc k n ls (.int v :: st) σ Q := by
  intro p e s m args below meth c H locs la C hS hR hl
  subst hq; subst hk; subst hn
  have hcb : componentBytes (newarray.typeOf aT) ≤ 8 := by rw [hT]; match t, ht with | 0, _ => decide | 1, _ => decide | 2, _ => decide | 3, _ => decide | 4, _ => decide
  refine va_newaK C.x C.b (by rw [hT]; exact C.t _ hw) rfl (C.dc hd) rfl h0 hv (Nat.le_trans (Nat.mul_le_mul hN hcb) (Nat.le_of_ble_eq_true rfl)) hk' hn' rfl (fun H1 cA e1 z1 o1 hAr hNm => ?_)
  have hcA : cA = eC E t := by
    have hra := (C.K.1.2 t _ (tysE_at E (by omega))).2
    rw [hT] at hNm
    match t, ht, hra, hNm with
    | 0, _, hra, hNm => exact Option.some.inj (hNm.symm.trans hra)
    | 1, _, hra, hNm => exact Option.some.inj (hNm.symm.trans hra)
    | 2, _, hra, hNm => exact Option.some.inj (hNm.symm.trans hra)
    | 3, _, hra, hNm => exact Option.some.inj (hNm.symm.trans hra)
    | 4, _, hra, hNm => exact Option.some.inj (hNm.symm.trans hra)
  subst hcA
  obtain ⟨hR1, had⟩ := hR.new C.K (kd := (t + 1, N)) z1 o1 (by
    show H1[H.size]? = some (vp_cell (eC E t) (N, acn E (nw σ (t + 1, N)) (sN σ) t))
    rw [e1, hT]
    have i2 : sI (nw σ (t + 1, N)) (sN σ) = fun _ => 0 := by simp [sI, nw, sN]
    have i3 : sL (nw σ (t + 1, N)) (sN σ) = fun _ => 0 := by simp [sL, nw, sN]
    simp only [acn, i2, i3]
    match t, ht with
    | 0, _ => rfl
    | 1, _ => rfl
    | 2, _ => rfl
    | 3, _ => rfl
    | 4, _ => rfl)
  have h1 := h p e s m args below meth c H1 locs la C (S_new hS z1 o1) hR1 hl
  rw [List.map_cons] at h1
  show W _ _ _ _ _ _ _ _ _ _ _ _ _ _ _ (F0 m (pc + 2) la (.ref H.size :: st.map (cv E)))
  rw [← had]
  exact h1
theorem aw_anewarray {i t N : Nat} {v : Int32} {k' n' : Nat} {C0 : String} (hd : mI d pc = some (.anewarray i, 3)) (hq : pc + 3 = q) (ht : (t = 5 ∧ C0 = Rc2) ∨ (t = 6 ∧ C0 = Rc6)) (hw : Cond.classLink (mY d).cls i C0 ∈ TB) (h0 : ¬ v < 0) (hv : v.toNatClampNeg = N) (hN : N ≤ 10000) (hk : k + 1 = k') (hn : n + N = n') (hk' : k' ≤ (mR d).cells) (hn' : n' ≤ (mR d).slots) (h : AWP E d q k' n' ls (.ref (sN σ) :: st) (nw σ (t + 1, N)) Q) : AWP E d pc k n ls (.int v :: st) σ Q := by
  intro p e s m args below meth c H locs la C hS hR hl
  subst hq; subst hk; subst hn; subst hv
  have hov : va_AO C0 s := by
    rcases ht with ⟨rfl, rfl⟩ | ⟨rfl, rfl⟩
    · exact C.K.2.1.2.1
    · exact C.K.2.1.2.2
  refine W.anew C.x C.b C.o (C.t _ hw) (va_AO.use hov) rfl (C.dc hd) rfl h0 (Nat.le_trans (Nat.mul_le_mul_right 4 hN) (Nat.le_of_ble_eq_true rfl)) hk' hn' (fun cA kA comp f1 f2 f3 f4 => ?_)
  generalize hH1 : H.push ({ cls := cA, slots := Array.replicate v.toNatClampNeg .null, vm := .none } : Cell) = H1
  have z1 : H1.size = H.size + 1 := by rw [← hH1, Array.size_push]
  have e1 : H1[H.size]? = some (arrV cA v.toNatClampNeg (fun _ => .null)) := by rw [← hH1, Array.getElem?_push_size, ← arrV_new]
  have o1 : ∀ q : Nat, q < H.size → H1[q]? = H[q]? := fun q hq => by rw [← hH1, Array.getElem?_push, if_neg (Nat.ne_of_lt hq)]
  have hcA : cA = eC E t := by
    rcases ht with ⟨rfl, rfl⟩ | ⟨rfl, rfl⟩
    · obtain ⟨kB, compB, -, -, -, k4⟩ := (C.K.1.2 5 _ (tysE_at E (by decide))).2
      exact Option.some.inj (f1.symm.trans k4)
    · obtain ⟨kB, compB, -, -, -, k4⟩ := (C.K.1.2 6 _ (tysE_at E (by decide))).2
      exact Option.some.inj (f1.symm.trans k4)
  subst hcA
  have h4 : ¬ t < 4 := by omega
  have h5 : ¬ t = 4 := by omega
  obtain ⟨hR1, had⟩ := hR.new C.K (kd := (t + 1, v.toNatClampNeg)) z1 o1 (by
    show H1[H.size]? = some (vp_cell (eC E t) (v.toNatClampNeg, acn E (nw σ (t + 1, v.toNatClampNeg)) (sN σ) t))
    rw [e1]
    have i4 : sR (nw σ (t + 1, v.toNatClampNeg)) (sN σ) = fun _ => none := by simp [sR, nw, sN]
    simp only [acn, i4, if_neg h4, if_neg h5]
    rfl)
  have h1 := h p e s m args below meth c H1 locs la C (S_new hS z1 o1) hR1 hl
  rw [List.map_cons] at h1
  show W _ _ _ _ _ _ _ _ _ _ _ _ _ _ _ (F0 m (pc + 3) la (.ref H.size :: st.map (cv E)))
  rw [← had]
  exact h1
/-- answers -/
theorem aw_ireturn {v : Int32} {ty : FieldType} (hd : mI d pc = some (.ireturn, 1)) (ht : mT d = some ty) (hn : narrow ty (.int v) = .int v) (hk : k ≤ (mR d).cells) (hs : n ≤ (mR d).slots) (h : Q (some (.int v)) σ) : AWP E d pc k n ls [.int v] σ Q := by
  intro p e s m args below meth c H locs la C hS hR hl
  refine W.widen hk hs ?_
  exact W.zret C.x C.b (C.r.trans ht) hn (fun t ht' _ => ⟨some (.int v), σ, rfl, by rw [ht']; exact hR, h, by rw [ht']; exact hS.1⟩) hS.2.2 (C.dc hd) C.lk
theorem aw_lreturn {v : Int64} (hd : mI d pc = some (.lreturn, 1)) (ht : mT d = some .long) (hk : k ≤ (mR d).cells) (hs : n ≤ (mR d).slots) (h : Q (some (.long v)) σ) : AWP E d pc k n ls [.long v] σ Q := by
  intro p e s m args below meth c H locs la C hS hR hl
  refine W.widen hk hs ?_
  exact W.lret C.x C.b (C.r.trans ht) (fun t ht' _ => ⟨some (.long v), σ, rfl, by rw [ht']; exact hR, h, by rw [ht']; exact hS.1⟩) hS.2.2 (C.dc hd) C.lk
theorem aw_areturn {a : Nat} {nm : String} (hd : mI d pc = some (.areturn, 1)) (ht : mT d = some (.object nm)) (hk : k ≤ (mR d).cells) (hs : n ≤ (mR d).slots) (h : Q (some (.ref a)) σ) : AWP E d pc k n ls [.ref a] σ Q := by
  intro p e s m args below meth c H locs la C hS hR hl
  refine W.widen hk hs ?_
  exact W.aret C.x C.b (C.r.trans ht) (Or.inl ⟨_, rfl⟩) (Or.inr ⟨_, rfl⟩) (fun t ht' _ => ⟨some (.ref a), σ, rfl, by rw [ht']; exact hR, h, by rw [ht']; exact hS.1⟩) hS.2.2 (C.dc hd) C.lk
theorem aw_return (hd : mI d pc = some (.return_, 1)) (ht : mT d = none) (hk : k ≤ (mR d).cells) (hs : n ≤ (mR d).slots) (h : Q none σ) : AWP E d pc k n ls [] σ Q := by
  intro p e s m args below meth c H locs la C hS hR hl
  refine W.widen hk hs ?_
  exact W.vret C.x C.b (C.r.trans ht) (fun t ht' _ => ⟨none, σ, rfl, by rw [ht']; exact hR, h, by rw [ht']; exact hS.1⟩) hS.2.2 (C.dc hd) C.lk
end Arrays
