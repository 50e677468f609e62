/-! more rows: Math.max, Math.min, System.arraycopy, the formatter, pop -/
section More
variable {E : EN} {d : MD} {pc q k n : Nat} {ls : List (Nat × Value)} {st : List Value} {g : GS} {s : MS} {σ : SG} {Q : Option Value → SG → Prop}
theorem aw_mmax {idx : Nat} {x y : Int32} (hd : mI d pc = some (.invokestatic idx, 3)) (hq : pc + 3 = q) (h1 : Cond.methodLink (mY d).cls idx Lib.Math.max.name ∈ TB) (h2 : Cond.static Lib.Math.max.name ∈ TB) (h3 : Cond.initialized "java/lang/Math" ∈ TB) (h4 : Cond.code Lib.Math.max.name Lib.Math.max.code 2 (some .int) ∈ TB) (hr : 1 ≤ (mR d).frames) (hr2 : 21 ≤ (mR d).locals) (hk : k ≤ (mR d).cells) (hn : n ≤ (mR d).slots) (hw : (st.map fun v => v.category).sum ≤ 8) (h : AWP E d q k n ls (.int (if x < y then y else x) :: st) σ Q) : AWP E d pc k n ls (.int y :: .int x :: st) σ Q := by
  intro p e s m args below meth c H locs la C hS hR hl
  subst hq
  exact va_mmax C.x C.b (by rw [C.ml]; exact hl.1.symm) C.o (C.t _ h1) (C.t _ h2) (C.t _ h3) (C.t _ h4) hr (by rw [cat_map]; omega) hk hn (C.dc hd) (h p e s m args below meth c H locs la C hS hR hl)
theorem aw_mmin {idx : Nat} {x y : Int32} (hd : mI d pc = some (.invokestatic idx, 3)) (hq : pc + 3 = q) (h1 : Cond.methodLink (mY d).cls idx Lib.Math.min.name ∈ TB) (h2 : Cond.static Lib.Math.min.name ∈ TB) (h3 : Cond.initialized "java/lang/Math" ∈ TB) (h4 : Cond.code Lib.Math.min.name Lib.Math.min.code 2 (some .int) ∈ TB) (hr : 1 ≤ (mR d).frames) (hr2 : 21 ≤ (mR d).locals) (hk : k ≤ (mR d).cells) (hn : n ≤ (mR d).slots) (hw : (st.map fun v => v.category).sum ≤ 8) (h : AWP E d q k n ls (.int (if y < x then y else x) :: st) σ Q) : AWP E d pc k n ls (.int y :: .int x :: st) σ Q := by
  intro p e s m args below meth c H locs la C hS hR hl
  subst hq
  exact va_mmin C.x C.b (by rw [C.ml]; exact hl.1.symm) C.o (C.t _ h1) (C.t _ h2) (C.t _ h3) (C.t _ h4) hr (by rw [cat_map]; omega) hk hn (C.dc hd) (h p e s m args below meth c H locs la C hS hR hl)
theorem aw_pop {v : Value} (hd : mI d pc = some (.pop, 1)) (hq : pc + 1 = q) (hv : v.category = 1) (h : AWP E d q k n ls st σ Q) : AWP E d pc k n ls (v :: st) σ Q := by
  intro p e s m args below meth c H locs la C hS hR hl
  subst hq
  exact lv_pop C.x C.b (C.dc hd) (by rw [cv_cat]; exact hv) (h p e s m args below meth c H locs la C hS hR hl)
theorem aw_fmt {idx : Nat} (hd : mI d pc = some (.getstatic idx, 3)) (hq : pc + 3 = q) (hf : Cond.fieldLink (mY d).cls idx "jdk/internal/util/Preconditions" "SIOOBE_FORMATTER" "Ljava/util/function/BiFunction;" ∈ TB) (h : AWP E d q k n ls (rv (sR (eX E) 14 0) :: st) σ Q) : AWP E d pc k n ls st σ Q := by
  intro p e s m args below meth c H locs la C hS hR hl
  subst hq
  have h1 := h p e s m args below meth c H locs la C hS hR hl
  rw [List.map_cons, cv_rv] at h1
  exact va_gets C.x C.b (C.K.2.2.2.2.2.2.1.2.kept (out_h C)) hS C.o (C.t _ hf) (fun _ h => h) (C.dc hd) h1
theorem ag_copy {idx a0 a n0 n1 : Nat} {sp dp m : Int32} (hd : mI d pc = some (.invokestatic idx, 3)) (hq : pc + 3 = q) (hw1 : Cond.methodLink (mY d).cls idx arraycopyName ∈ TB) (hw2 : Cond.native arraycopyName ∈ TB) (hw3 : Cond.static arraycopyName ∈ TB) (hw4 : Cond.initialized "java/lang/System" ∈ TB) (hr : 1 ≤ (mR d).frames) (hr2 : 8 + (nativeFrameWords "java/lang/System" "arraycopy" 5 + 11) ≤ (mR d).locals) (hw : (st.map fun v => v.category).sum ≤ 8)
    (ho0 : AG g a0 0 n0) (ho1 : AG g a 0 n1) (h1 : ¬ sp < 0) (h2 : ¬ dp < 0) (h3 : ¬ m < 0) (h4 : sp.toNatClampNeg + m.toNatClampNeg ≤ n0) (h5 : dp.toNatClampNeg + m.toNatClampNeg ≤ n1) (h : AWP E d q k n ls st (mk g (si s a (va_cpy (s.1 a0) (s.1 a) sp.toNatClampNeg dp.toNatClampNeg m.toNatClampNeg))) Q) : AWP E d pc k n ls (.int m :: .int dp :: .ref a :: .int sp :: .ref a0 :: st) (mk g s) Q := by
  intro p e S mt args below meth c H locs la C hS hR hl
  subst hq
  have nn : ∀ z : Int32, ¬ z < 0 → z.toInt = (z.toNatClampNeg : Int) := by
    intro z hz
    have hz0 : (0 : Int) ≤ z.toInt := by
      have := Int32.not_lt.mp hz
      simpa using Int32.le_iff_toInt_le.mp this
    show z.toInt = ((z.toInt.toNat : Nat) : Int)
    omega
  intro T hT X
  have hc0 : H[ad E a0]? = some (vp_cell (eC E 0) (n0, .inl (s.1 a0))) := hR.ar (σ := mk g s) ho0
  have hc1 : H[ad E a]? = some (vp_cell (eC E 0) (n1, .inl (s.1 a))) := hR.ar (σ := mk g s) ho1
  obtain ⟨-, k0, hk0, cm0, hkk0⟩ := (C.K.1.2 0 _ (tysE_at E (by decide))).1 n0 (fun j => .int (s.1 a0 j))
  obtain ⟨-, k1, hk1, cm1, hkk1⟩ := (C.K.1.2 0 _ (tysE_at E (by decide))).1 n1 (fun j => .int (s.1 a j))
  obtain ⟨vm', X', step⟩ := X.arraycopy C.x C.o (C.t _ hw1) (C.t _ hw2) (C.t _ hw3) (C.t _ hw4) (src := ad E a0) (dst := ad E a) (cs := vp_cell (eC E 0) (n0, .inl (s.1 a0))) (cd := vp_cell (eC E 0) (n1, .inl (s.1 a))) (srcPos := sp) (destPos := dp) (n := m) (by rw [hT]; exact hc0) (by rw [hT]; exact hc1)
    (fun _ h => by cases h) (fun _ h => by cases h) (fun h => by cases h) (fun h => by cases h) hk0 hk1 hkk0 hkk1 (by simp [aty, refKind]) h1 h2 h3
    (by rw [nn sp h1, nn m h3]; show ¬ _ > ((arrV (eC E 0) n0 (fun j => .int (s.1 a0 j))).slots.size : Int); rw [arrV_size]; omega)
    (by rw [nn dp h2, nn m h3]; show ¬ _ > ((arrV (eC E 0) n1 (fun j => .int (s.1 a j))).slots.size : Int); rw [arrV_size]; omega)
    (fun vm₁ _ i hi => by
      have e : (vp_cell (eC E 0) (n0, .inl (s.1 a0))).slots.getD (sp.toNatClampNeg + i) .null = .int (s.1 a0 (sp.toNatClampNeg + i)) := by
        show (arrV (eC E 0) n0 (fun j => .int (s.1 a0 j))).slots.getD _ _ = _
        rw [Array.getD_eq_getD_getElem?, arrV_read _ _ (by omega)]
        rfl
      refine ⟨?_, ?_⟩
      · rw [e]
        rfl
      · rw [e]
        exact trivial)
    (g := F0 mt pc la ((.int m :: .int dp :: .ref a :: .int sp :: .ref a0 :: st).map (cv E))) rfl (by rw [C.ml]; exact hl.1) (rest := st.map (cv E)) rfl (by rw [C.b]; exact C.dc hd) hr (by show 2 * 0 + _ + _ ≤ _; rw [cat_map]; omega)
  have e1 : copied (vp_cell (eC E 0) (n0, .inl (s.1 a0))) (vp_cell (eC E 0) (n1, .inl (s.1 a))) sp dp m = vp_cell (eC E 0) (n1, .inl (va_cpy (s.1 a0) (s.1 a) sp.toNatClampNeg dp.toNatClampNeg m.toNatClampNeg)) := va_copied (fun z => .int z) (eC E 0) (eC E 0) (s.1 a0) (s.1 a) h4
  rw [e1] at X' step
  have hlt : ad E a < H.size := (Array.getElem?_eq_some_iff.mp hc1).1
  generalize hF : va_cpy (s.1 a0) (s.1 a) sp.toNatClampNeg dp.toNatClampNeg m.toNatClampNeg = F at *
  have hheap : ((T.setVm vm').setCell (ad E a) (vp_cell (eC E 0) (n1, .inl F))).heap = H.setIfInBounds (ad E a) (vp_cell (eC E 0) (n1, .inl F)) := by rw [← hT]; rfl
  have g2 : (H.setIfInBounds (ad E a) (vp_cell (eC E 0) (n1, .inl F))).size = H.size := by simp
  have g3 : ∀ q : Nat, q ≠ ad E a → (H.setIfInBounds (ad E a) (vp_cell (eC E 0) (n1, .inl F)))[q]? = H[q]? := fun q hq => by simp [Array.getElem?_setIfInBounds, Ne.symm hq]
  have g1 : (H.setIfInBounds (ad E a) (vp_cell (eC E 0) (n1, .inl F)))[ad E a]? = some (vp_cell (eC E 0) (n1, .inl F)) := by simp [Array.getElem?_setIfInBounds, hlt]
  have hR' : Rep E (mk g (si s a F)) (H.setIfInBounds (ad E a) (vp_cell (eC E 0) (n1, .inl F))) := by
    refine hR.put C.K ho1.2.1 g2 g3 rfl (fun j hj => ?_) (fun j hj => ?_) ?_
    · have x1 : sI (mk g (si s a F)) j = sI (mk g s) j := by show (if j = a then F else s.1 j) = s.1 j; rw [if_neg hj]
      have hfv : fv E (mk g (si s a F)) j = fv E (mk g s) j := by funext ci k; simp only [fv, x1]; rfl
      simp only [cnc, cnk, flds, acn, x1, hfv]
      rfl
    · have hja : j ≠ a := by have := ho1.2.1; omega
      exact ⟨rfl, by show (if j = a then F else s.1 j) = s.1 j; rw [if_neg hja], rfl⟩
    · rw [cnc_ar (show sK (mk g (si s a F)) a = (0 + 1, n1) from ho1.1)]
      show _ = some (vp_cell (eC E 0) (n1, .inl (sI (mk g (si s a F)) a)))
      rw [g1]
      have x1 : sI (mk g (si s a F)) a = F := by show (if a = a then F else s.1 a) = F; rw [if_pos rfl]
      rw [x1]
  obtain ⟨t, a1, b1⟩ := h p e S mt args below meth c _ _ la C ⟨by rw [g2]; exact hS.1, fun q q1 q2 => by
      rw [g3 q (fun e => q2 (by rw [e]; exact C.K.eA ho1.2.1))]
      exact hS.2.1 q q1 q2, fun q hq => by
      rcases List.mem_append.mp hq with h | h
      · exact hS.2.2 q h
      · obtain ⟨z, -, hz⟩ := List.mem_map.mp h
        rw [← hz]
        exact C.K.eA ho1.2.1⟩ hR' hl _ hheap X'
  exact ⟨t, step t a1, b1⟩
end More
