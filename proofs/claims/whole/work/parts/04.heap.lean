/-! ROWS OF THE ABSTRACT MACHINE: objects, arrays -/
section Heap
variable {E : EN} {d : MD} {pc q k n : Nat} {ls : List (Nat × Value)} {st : List Value} {σ : SG} {Q : Option Value → SG → Prop}
def OB (σ : SG) (a ci : Nat) : Prop := sK σ a = (0, ci) ∧ 16 ≤ a ∧ a < sN σ
def AR (σ : SG) (a t N : Nat) : Prop := sK σ a = (t + 1, N) ∧ 16 ≤ a ∧ a < sN σ
/-- a class of ours by its number -/
def CLS (ci : Nat) : Prop := ∃ C T, classes[ci]? = some (C, T, nfc ci) ∧ (∀ w ∈ u_ws C T (nfc ci), w ∈ TB) ∧ (∀ j, j < nfc ci → parseFieldDescriptor (T j).2.2.1 = some (tyf ci j)) ∧ ∀ a, a < nfc ci → ∀ b, b < nfc ci → a ≠ b → (T a).2.1 ≠ (T b).2.1
theorem cls_ok : ∀ ci, ci < 12 → CLS ci := by
  intro ci h
  match ci, h with
  | 0, _ => exact ⟨_, _, rfl, inc0, yok0, nc0⟩
  | 1, _ => exact ⟨_, _, rfl, inc1, yok1, nc1⟩
  | 2, _ => exact ⟨_, _, rfl, inc2, yok2, nc2⟩
  | 3, _ => exact ⟨_, _, rfl, inc3, yok3, nc3⟩
  | 4, _ => exact ⟨_, _, rfl, inc4, yok4, nc4⟩
  | 5, _ => exact ⟨_, _, rfl, inc5, yok5, nc5⟩
  | 6, _ => exact ⟨_, _, rfl, inc6, yok6, nc6⟩
  | 7, _ => exact ⟨_, _, rfl, inc7, yok7, nc7⟩
  | 8, _ => exact ⟨_, _, rfl, inc8, yok8, nc8⟩
  | 9, _ => exact ⟨_, _, rfl, inc9, yok9, nc9⟩
  | 10, _ => exact ⟨_, _, rfl, inc10, yok10, nc10⟩
  | 11, _ => exact ⟨_, _, rfl, inc11, yok11, nc11⟩
/-- an entry of a class's pool links field f of class ci -/
def FL (own : String) (idx ci f : Nat) : Prop := CLS ci ∧ f < nfc ci ∧ ∀ C T N, classes[ci]? = some (C, T, N) → Cond.fieldLink own idx (T f).1 (T f).2.1 (T f).2.2.1 ∈ TB
theorem FL.of {own : String} {idx ci f : Nat} {C : String} {T : u_T} {N : Nat} (h12 : ci < 12) (hf : f < nfc ci) (hc : classes[ci]? = some (C, T, N)) (h : Cond.fieldLink own idx (T f).1 (T f).2.1 (T f).2.2.1 ∈ TB) : FL own idx ci f := by
  refine ⟨cls_ok ci h12, hf, fun C' T' N' h' => ?_⟩
  rw [hc] at h'
  cases h'
  exact h
theorem flds_at {σ : SG} {a ci f : Nat} (h : f < nfc ci) : (flds E σ a ci)[f]? = some (fv E σ a ci f) := by simp [flds, h]
theorem cnc_ob {σ : SG} {a ci : Nat} (h : sK σ a = (0, ci)) : cnc E σ a = .inr (ci, flds E σ a ci) := by simp [cnc, cnk, h]
theorem cnc_ar {σ : SG} {a t N : Nat} (h : sK σ a = (t + 1, N)) : cnc E σ a = .inl (eC E t, N, acn E σ a t) := by simp [cnc, cnk, h]
theorem Rep.ob {H : Heap} (hR : Rep E σ H) {a ci : Nat} (h : OB σ a ci) : va_at (eD E) classes (ad E a, .inr (ci, flds E σ a ci)) H := by
  have h1 := hR.1 a h.2.1 h.2.2
  rw [cnc_ob h.1] at h1
  exact h1
theorem Rep.ar {H : Heap} (hR : Rep E σ H) {a t N : Nat} (h : AR σ a t N) : va_at (eD E) classes (ad E a, .inl (eC E t, N, acn E σ a t)) H := by
  have h1 := hR.1 a h.2.1 h.2.2
  rw [cnc_ar h.1] at h1
  exact h1
theorem P1 {D : va_G} {cl : List vw_C} {x : Nat × va_E} {H : Heap} (h : va_at D cl x H) : va_P D cl [x] H := by
  intro i y hy
  have hz : i < 1 := (List.getElem?_eq_some_iff.mp hy).1
  rw [show i = 0 by omega] at hy
  cases hy
  exact h
theorem KK.inj {U : State} (h : KK E U) {i j : Nat} (hi : 16 ≤ i) (hj : 16 ≤ j) (e : ad E i = ad E j) : i = j := by
  exact h.2.2.2.2.2.2.2.1.2 i j hi hj e
/-- one cell is written -/
theorem Rep.put {U : State} (hK : KK E U) {H H1 : Heap} {σ' : SG} {a : Nat} (hR : Rep E σ H) (ha : 16 ≤ a) (hz : H1.size = H.size) (ho : ∀ q, q ≠ ad E a → H1[q]? = H[q]?) (hn : sN σ' = sN σ) (hc : ∀ i, i ≠ a → cnc E σ' i = cnc E σ i) (hx : ∀ i, i < 16 → sK σ' i = sK σ i ∧ sI σ' i = sI σ i ∧ sR σ' i = sR σ i) (h : va_at (eD E) classes (ad E a, cnc E σ' a) H1) : Rep E σ' H1 := by
  obtain ⟨r1, r2, r3, r4, r5⟩ := hR
  refine ⟨fun i h16 hi => ?_, by rw [hz, hn]; exact r2, fun q hq => ?_, by rw [hn]; exact r4, fun i hi => ?_⟩
  · by_cases hia : i = a
    · rw [hia]; exact h
    · rw [hc i hia]
      exact (r1 i h16 (by rw [← hn]; exact hi)).kept (ho _ (fun e => hia (hK.inj h16 ha e)))
  · have h8 := hK.2.2.2.2.2.2.2.1.1 a ha
    rw [ho q (by omega)]
    exact r3 q hq
  · obtain ⟨x1, x2, x3⟩ := hx i hi
    rw [x1, x2, x3]
    exact r5 i hi
theorem S_put {A : Nat → Prop} {H0 H H1 : Heap} {locs : List Loc} {a f : Nat} (h : va_S A H0 H locs) (z : H1.size = H.size) (oq : ∀ q : Nat, q ≠ a → H1[q]? = H[q]?) (ha : A a) : va_S A H0 H1 (locs ++ [⟨a, f⟩]) := h.put z oq ha
theorem KK.eA {U : State} (h : KK E U) {a : Nat} (ha : 16 ≤ a) : eA E (ad E a) := by
  exact h.2.2.2.2.2.2.2.1.1 a ha
/-- getfield: a number -/
theorem aw_getI {i ci f a : Nat} (hd : mI d pc = some (.getfield i, 3)) (hq : pc + 3 = q) (hf : FL (mY d).cls i ci f) (ht : isRf (tyf ci f) = false) (ho : OB σ a ci) (h : AWP E d q k n ls (.int (sI σ a f) :: st) σ Q) : AWP E d pc k n ls (.ref a :: st) σ Q := by
  intro p e s m args below meth c H locs la C hS hR hl
  subst hq
  obtain ⟨⟨Cn, T, hc, hin, hty, hnm⟩, hfn, hlk⟩ := hf
  refine va_get C.x C.b C.t hin C.o C.K.1 (P1 (hR.ob ho)) 0 rfl hc f hfn (C.t _ (hlk _ _ _ hc)) (fun _ h9 => h9) (v := .int (sI σ a f)) ?_ (C.dc hd) (h p e s m args below meth c H locs la C hS hR hl)
  rw [flds_at hfn]
  simp [fv, ht]
/-- getfield: a reference -/
theorem aw_getR {i ci f a b : Nat} (hd : mI d pc = some (.getfield i, 3)) (hq : pc + 3 = q) (hf : FL (mY d).cls i ci f) (ht : isRf (tyf ci f) = true) (ho : OB σ a ci) (hb : sR σ a f = some b) (h : AWP E d q k n ls (.ref b :: st) σ Q) : AWP E d pc k n ls (.ref a :: st) σ Q := by
  intro p e s m args below meth c H locs la C hS hR hl
  subst hq
  obtain ⟨⟨Cn, T, hc, hin, hty, hnm⟩, hfn, hlk⟩ := hf
  refine va_get C.x C.b C.t hin C.o C.K.1 (P1 (hR.ob ho)) 0 rfl hc f hfn (C.t _ (hlk _ _ _ hc)) (fun _ h9 => h9) (v := .ref (ad E b)) ?_ (C.dc hd) (h p e s m args below meth c H locs la C hS hR hl)
  rw [flds_at hfn]
  simp [fv, ht, hb, va_rf]
theorem flds_set {σ σ' : SG} {a ci f : Nat} {v : Value} (hf : fv E σ' a ci f = v) (ho : ∀ j, j ≠ f → fv E σ' a ci j = fv E σ a ci j) : (flds E σ a ci).set f v = flds E σ' a ci := by
  refine List.ext_getElem? (fun j => ?_)
  by_cases hj : j = f
  · subst hj
    by_cases hl : j < nfc ci
    · rw [flds_at hl, hf, List.getElem?_set_self (by simpa [flds] using hl)]
    · rw [List.getElem?_eq_none (by simpa [flds] using Nat.not_lt.mp hl), List.getElem?_eq_none (by simpa [flds] using Nat.not_lt.mp hl)]
  · rw [List.getElem?_set_ne (fun e => hj e.symm)]
    by_cases hl : j < nfc ci
    · rw [flds_at hl, flds_at hl, ho j hj]
    · rw [List.getElem?_eq_none (by simpa [flds] using Nat.not_lt.mp hl), List.getElem?_eq_none (by simpa [flds] using Nat.not_lt.mp hl)]
theorem fit_int {ci f : Nat} {v : Int32} (h : tyf ci f = .int ∨ (tyf ci f = .boolean ∧ (v = 0 ∨ v = 1))) : narrow (tyf ci f) (.int v) = .int v ∧ fits (tyf ci f) (.int v) = true := by
  rcases h with h | ⟨h, rfl | rfl⟩ <;> rw [h]
  · exact ⟨rfl, rfl⟩
  · exact ⟨by decide, by decide⟩
  · exact ⟨by decide, by decide⟩
theorem fit_ref {ty : FieldType} {a : Nat} (h : isRf ty = true) : narrow ty (.ref a) = .ref a ∧ fits ty (.ref a) = true := by
  cases ty <;> simp_all [isRf, narrow, fits]
/-- putfield, any: the cell a is written; the field may be final in a constructor of its own class -/
theorem aw_put {i ci f a : Nat} {v : Value} {σ' : SG} (hd : mI d pc = some (.putfield i, 3)) (hq : pc + 3 = q) (hf : FL (mY d).cls i ci f) (ho : OB σ a ci)
    (hfin : ∀ C T N, classes[ci]? = some (C, T, N) → (T f).2.2.2 = false ∨ ((T f).2.2.2 = true ∧ (mY d).name = "<init>" ∧ (T f).1 = (mY d).cls)) (hn : narrow (tyf ci f) (cv E v) = cv E v) (hfit : fits (tyf ci f) (cv E v) = true)
    (h1 : sN σ' = sN σ) (h2 : sK σ' = sK σ) (h3 : ∀ i, i ≠ a → sI σ' i = sI σ i ∧ sR σ' i = sR σ i ∧ sL σ' i = sL σ i) (h4 : fv E σ' a ci f = cv E v) (h5 : ∀ j, j ≠ f → fv E σ' a ci j = fv E σ a ci j)
    (h : AWP E d q k n ls st σ' Q) : AWP E d pc k n ls (v :: .ref a :: st) σ Q := by
  intro p e s m args below meth c H locs la C hS hR hl
  subst hq
  obtain ⟨⟨Cn, T, hc, hin, hty, hnm⟩, hfn, hlk⟩ := hf
  have hap := va_apart (own := (mY d).cls) C.t hin (tyf ci) hty hnm C.K.1 hc
  obtain ⟨r, e1, cell, q1, q2, q3, q4⟩ := hR.ob ho
  have hr : r = (Cn, T, nfc ci) := Option.some.inj (e1.symm.trans hc)
  subst hr
  obtain ⟨hSl, hfc, kC, hkC, hkind⟩ := C.K.1.1 ci _ hc
  obtain ⟨cf, kf, fi, fd, hi, hsl⟩ := hSl f hfn
  have hst := (u_facts hfc hkC (u_lays C.t hin hfn) hi).1
  have key : ∀ H1 : Heap, H1[ad E a]? = some (cell.setSlot fd.slot (cv E v)) → H1.size = H.size → (∀ q, q ≠ ad E a → H1[q]? = H[q]?) →
      W p (eL E) e (mR d) s m args below meth c H1 (locs ++ [⟨ad E a, fd.slot⟩]) k n (MQ below (aQc E Q) args s (mR d).cells (mR d).slots (eA E)) (F0 m (pc + 3) la (st.map (cv E))) := by
    intro H1 g1 g2 g3
    refine h p e s m args below meth c H1 _ la C (S_put hS g2 g3 (C.K.eA ho.2.1)) (hR.put C.K ho.2.1 g2 g3 h1 (fun j hj => ?_) (fun j hj => ?_) ?_) hl
    · obtain ⟨x1, x2, x3⟩ := h3 j hj
      simp only [cnc, cnk, flds, acn, h2, x1, x2, x3]
      have hfv : fv E σ' j = fv E σ j := by funext ci k; simp [fv, x1, x2]
      rw [hfv]
    · have hja : j ≠ a := by have := ho.2.1; omega
      exact ⟨by rw [h2], (h3 j hja).1, (h3 j hja).2.1⟩
    · rw [cnc_ob (by rw [h2]; exact ho.1)]
      rw [hsl] at g1
      rw [← flds_set (σ := σ) (v := cv E v) h4 h5]
      exact ⟨_, hc, t_OB.to (V := updV (vp_V (flds E σ a ci)) f (cv E v)) ⟨_, g1, q2, q3, t_set q4 hap hfn (cv E v)⟩ (fun j _ => vp_updV_set (by simpa [flds] using hfn) (cv E v) j)⟩
  have hlay := C.t _ (hin _ (u_in_lay hfn))
  unfold u_lay at hlay
  rcases hfin _ _ _ hc with hf0 | ⟨hf1, hf2, hf3⟩
  · rw [if_neg (by rw [hf0]; decide)] at hlay
    have h6 := u_store hfc hkC hkind hlay hi (hty f hfn) hn hfit
    exact W.putK C.x C.b (f := fd) ⟨C.o, C.t _ (hlk _ _ _ hc), ⟨_, _, _, hi⟩, hst⟩ (by rw [q2]; exact h6) q1 q3 (by rw [hsl]; exact k2_hasslot (q4 f hfn)) rfl rfl (C.dc hd) key
  · rw [if_pos hf1] at hlay
    have hcf : m.cls = cf := by
      obtain ⟨_, _, c', _, _, _, -, -, hf', -, -, -, hown2, -⟩ := Cond.laysFinal_spec hlay
      have e1 : c' = cf := by have := hi.symm.trans hf'; simp at this; exact this.1.symm
      rw [hf3] at hown2
      rw [← e1]; exact Option.some.inj (C.o.symm.trans hown2)
    have h6 := u_fits hfc hkC hkind (Or.inr hlay) hi (hty f hfn) hn hfit
    exact W.putFinK C.x C.b C.o (C.t _ (hlk _ _ _ hc)) hi hst hcf (by rw [C.nm]; exact hf2) (by rw [q2]; exact h6) q1 q3 (by rw [hsl]; exact k2_hasslot (q4 f hfn)) rfl rfl (C.dc hd) key
def finOk (d : MD) (ci f : Nat) : Bool := match classes[ci]? with
  | none => true
  | some (_, T, _) => !(T f).2.2.2 || ((mY d).name == "<init>" && (T f).1 == (mY d).cls)
theorem finOk_spec {d : MD} {ci f : Nat} (h : finOk d ci f = true) : ∀ C T N, classes[ci]? = some (C, T, N) → (T f).2.2.2 = false ∨ ((T f).2.2.2 = true ∧ (mY d).name = "<init>" ∧ (T f).1 = (mY d).cls) := by
  intro C T N hc
  unfold finOk at h
  rw [hc] at h
  cases hb : (T f).2.2.2
  · exact Or.inl rfl
  · simp [hb] at h
    exact Or.inr ⟨rfl, h.1, h.2⟩
theorem aw_putI {i ci f a : Nat} {v : Int32} (hd : mI d pc = some (.putfield i, 3)) (hq : pc + 3 = q) (hf : FL (mY d).cls i ci f) (hfin : finOk d ci f = true) (ht : tyf ci f = .int ∨ (tyf ci f = .boolean ∧ (v = 0 ∨ v = 1))) (ho : OB σ a ci) (h : AWP E d q k n ls st (wI σ a f v) Q) : AWP E d pc k n ls (.int v :: .ref a :: st) σ Q := by
  have hr : isRf (tyf ci f) = false := by rcases ht with h | ⟨h, -⟩ <;> rw [h] <;> rfl
  refine aw_put (σ' := wI σ a f v) hd hq hf ho (finOk_spec hfin) (fit_int ht).1 (fit_int ht).2 rfl rfl (fun j hj => ⟨sI_stI_n _ _ hj, rfl, rfl⟩) ?_ (fun j hj => ?_) h
  · simp [fv, hr, wI, sI_stI_s, upd, cv]
  · simp only [fv, wI, sI_stI_s, upd, if_neg hj]
    rfl
theorem aw_putR {i ci f a b : Nat} (hd : mI d pc = some (.putfield i, 3)) (hq : pc + 3 = q) (hf : FL (mY d).cls i ci f) (hfin : finOk d ci f = true) (hr : isRf (tyf ci f) = true) (ho : OB σ a ci) (h : AWP E d q k n ls st (wR σ a f (some b)) Q) : AWP E d pc k n ls (.ref b :: .ref a :: st) σ Q := by
  refine aw_put (σ' := wR σ a f (some b)) hd hq hf ho (finOk_spec hfin) (fit_ref hr).1 (fit_ref hr).2 rfl rfl (fun j hj => ⟨rfl, sR_stR_n _ _ hj, rfl⟩) ?_ (fun j hj => ?_) h
  · simp [fv, hr, wR, sR_stR_s, va_up, cv, va_rf]
  · simp only [fv, wR, sR_stR_s, va_up, if_neg hj]
    rfl
end Heap
