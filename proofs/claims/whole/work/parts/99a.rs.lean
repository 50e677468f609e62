/-! BOTH CONSTRUCTORS -/
def VRs : Nat → Row := (Vu (Vu (Vu (Vu (Vu (Vu (Vu (Vu (Vu (Vu (Vu V0 94 0 (-1)) 94 1 (-1)) 94 2 (-1)) 81 15 (9999)) 81 16 (50)) 110 0 (-1)) 110 1 (-1)) 110 2 (-1)) 97 15 (9999)) 97 16 (50)) 16 13 (-1))
theorem VRs_z {x : Nat} (h1 : x ≠ 16) (h2 : x ≠ 81) (h3 : x ≠ 94) (h4 : x ≠ 97) (h5 : x ≠ 110) : VRs x = fun _ => 0 := by
  simp [VRs, Vu, h1, h2, h3, h4, h5]; rfl
theorem rfT_in {a f b : Nat} (h : rfT a f = some b) : ∃ j, j < 159 ∧ rS j = (a, f, b) ∧ (a < 120 → j < 107) := by
  obtain ⟨h1, h2⟩ := rfT_bd h
  have := rfT_all
  rw [List.all_eq_true] at this
  have := this a (List.mem_range.mpr h1)
  rw [List.all_eq_true] at this
  have := this f (List.mem_range.mpr h2)
  rw [h] at this
  simp only [List.any_eq_true, List.mem_range, Bool.and_eq_true, beq_iff_eq, Bool.or_eq_true, decide_eq_true_eq] at this
  obtain ⟨j, j1, j2, j3⟩ := this
  exact ⟨j, j1, j2, fun q => by omega⟩
theorem GPs.sy {g : GS} (h : GPs 120 107 g) : SY g := by
  refine ⟨h.2.1, fun a f b e => ?_, by rw [h.1]; exact Nat.le_refl _, h.2.2.2.1⟩
  unfold rfY at e
  split at e
  · rename_i ha
    obtain ⟨j, j1, j2, j3⟩ := rfT_in e
    have := (h.2.2.1 j (j3 ha)).1
    rw [j2] at this; exact this
  · cases e
theorem GPs.sx {g : GS} (h : GPs 173 159 g) : SX g := by
  refine ⟨h.2.1, fun a f b e => ?_, by rw [h.1]; exact Nat.le_refl _, h.2.2.2.1⟩
  obtain ⟨j, j1, j2, -⟩ := rfT_in e
  have := (h.2.2.1 j j1).1
  rw [j2] at this; exact this
/-- the class's object as it is made -/
def CI0 (u : MS) : Prop := TC (d0 (fun _ => 0)) 88 u ∧ u.1 28 2 = 0 ∧ nm (dE (d0 (fun _ => 0))) (hr u 74) = beg (d0 (fun _ => 0)) ∧ CH 74 u ∧ CH 62 u ∧ u.1 31 4 = 0 ∧ u.1 16 15 = 0 ∧ u.1 16 16 = 0 ∧ u.1 56 7 = 0 ∧ u.1 56 6 = 0 ∧ u.1 16 14 = 0 ∧ u.1 16 12 = 0 ∧ u.1 16 13 = -1 ∧ ∀ k, k < 3 → u.1 1 k = unt k
set_option maxRecDepth 20000 in
theorem i_Rs_16 {E : EN} {g : GS} {s : MS} {R : GS → MS → Prop} {s0 : MS} (G : GPn 17 0 g) (Z : MZs s0 17 V0 s) (hu : ∀ k, k < 3 → s0.1 1 k = unt k) (h : ∀ g' u, GPs 120 107 g' → g'.2.2 28 0 = some 88 → CI0 u → (∀ a, a < 16 → u.1 a = s0.1 a) → R (unG g') (unM u)) : XV E m_Rs_init [.ref 16] g s R := by
  refine AMet.of (by decide) k_Rs_init [(0, .ref 16)] (Nat.le_of_ble_eq_true rfl) rfl ?_
  refine aw_aload_n (q := 1) (j := 0) rfl rfl rfl (List.mem_of_getElem? (i := 0) rfl) ?_
  refine aw_oinit (q := 4) rfl rfl (tb_c1 26 rfl rfl) (tb_c1 27 rfl rfl) (tb_c1 28 rfl rfl) (by decide) (Nat.le_of_ble_eq_true rfl) (by decide) ?_
  refine aw_aload_n (q := 5) (j := 0) rfl rfl rfl (List.mem_of_getElem? (i := 0) rfl) ?_
  refine aw_sipush (q := 8) (v := 2000) rfl rfl (by decide) ?_
  refine ag_newarray (q := 10) (t := 3) (N := 2000) (k' := 1) (n' := 2000) rfl rfl (by decide) rfl ac_char (by decide) (by decide) (by decide) rfl rfl (by decide) (by decide) ?_
  rw [G.1]
  replace G := G.new (m := 18) (kd := (3 + 1, 2000)) rfl rfl (by decide)
  replace Z := Z.new (m := 18) rfl rfl (by decide)
  generalize gn _ _ = g at G ⊢
  generalize sn _ _ = s at Z ⊢
  refine ag_putR (q := 13) rfl rfl fl_Rs_9 rfl rfl (G.og rfl (by decide)) ?_
  replace G := G.put (i := 0) (i' := 1) (a := 16) (f := 0) (b := 17) rfl rfl (by decide) (by decide) (by decide)
  generalize gr _ _ _ _ = g at G ⊢
  refine aw_aload_n (q := 14) (j := 0) rfl rfl rfl (List.mem_of_getElem? (i := 0) rfl) ?_
  refine ag_new (q := 17) (ci := 9) (k' := 2) (n' := 2004) rfl rfl nc_Rs_13 rfl rfl (by decide) (by decide) ?_
  rw [G.1]
  replace G := G.new (m := 19) (kd := (0, 9)) rfl rfl (by decide)
  replace Z := Z.new (m := 19) rfl rfl (by decide)
  generalize gn _ _ = g at G ⊢
  generalize sn _ _ = s at Z ⊢
  refine aw_dup (q := 18) rfl rfl rfl ?_
  refine ax_cnV (z := m_Tokens_init) (av := []) (q := 21) (k' := 5) (n' := 3210) rfl rfl cn_Rs_15 ⟨by decide, by decide⟩ rfl rfl (by decide) (by decide) rfl rfl (Nat.le_of_ble_eq_true rfl) (i_Tokens_18 G Z (fun g' u G' Z' => ?_))
  replace G := G'
  replace Z := Z'
  clear G' Z'
  generalize g' = g at G ⊢
  generalize u = s at Z ⊢
  refine ag_putR (q := 24) rfl rfl fl_Rs_16 rfl rfl (G.og rfl (by decide)) ?_
  replace G := G.put (i := 4) (i' := 5) (a := 16) (f := 1) (b := 18) rfl rfl (by decide) (by decide) (by decide)
  generalize gr _ _ _ _ = g at G ⊢
  refine aw_aload_n (q := 25) (j := 0) rfl rfl rfl (List.mem_of_getElem? (i := 0) rfl) ?_
  refine ag_new (q := 28) (ci := 1) (k' := 6) (n' := 3214) rfl rfl nc_Rs_20 rfl rfl (by decide) (by decide) ?_
  rw [G.1]
  replace G := G.new (m := 23) (kd := (0, 1)) rfl rfl (by decide)
  replace Z := Z.new (m := 23) rfl rfl (by decide)
  generalize gn _ _ = g at G ⊢
  generalize sn _ _ = s at Z ⊢
  refine aw_dup (q := 29) rfl rfl rfl ?_
  refine aw_aload_n (q := 30) (j := 0) rfl rfl rfl (List.mem_of_getElem? (i := 0) rfl) ?_
  refine ag_getR (q := 33) (b := 18) rfl rfl fl_Rs_16 rfl (G.og rfl (by decide)) (G.2.2.1 4 (by decide)).1 ?_
  refine ax_cnV (z := m_Grammar_init) (av := [.ref 18]) (q := 36) (k' := 7) (n' := 3228) rfl rfl cn_Rs_22 ⟨by decide, by decide⟩ rfl rfl (by decide) (by decide) rfl rfl (Nat.le_of_ble_eq_true rfl) (i_Grammar_22 G Z (fun g' u G' Z' => ?_))
  replace G := G'
  replace Z := Z'
  clear G' Z'
  generalize g' = g at G ⊢
  generalize u = s at Z ⊢
  refine ag_putR (q := 39) rfl rfl fl_Rs_25 rfl rfl (G.og rfl (by decide)) ?_
  replace G := G.put (i := 7) (i' := 8) (a := 16) (f := 2) (b := 22) rfl rfl (by decide) (by decide) (by decide)
  generalize gr _ _ _ _ = g at G ⊢
  refine aw_aload_n (q := 40) (j := 0) rfl rfl rfl (List.mem_of_getElem? (i := 0) rfl) ?_
  refine ag_new (q := 43) (ci := 5) (k' := 8) (n' := 3236) rfl rfl nc_Rs_29 rfl rfl (by decide) (by decide) ?_
  rw [G.1]
  replace G := G.new (m := 25) (kd := (0, 5)) rfl rfl (by decide)
  replace Z := Z.new (m := 25) rfl rfl (by decide)
  generalize gn _ _ = g at G ⊢
  generalize sn _ _ = s at Z ⊢
  refine aw_dup (q := 44) rfl rfl rfl ?_
  refine ax_cnV (z := m_Planner_init) (av := []) (q := 47) (k' := 32) (n' := 3498) rfl rfl cn_Rs_31 ⟨by decide, by decide⟩ rfl rfl (by decide) (by decide) rfl rfl (Nat.le_of_ble_eq_true rfl) (i_Planner_24 G Z (fun g' u G' Z' => ?_))
  replace G := G'
  replace Z := Z'
  clear G' Z'
  generalize g' = g at G ⊢
  generalize u = s at Z ⊢
  refine ag_putR (q := 50) rfl rfl fl_Rs_32 rfl rfl (G.og rfl (by decide)) ?_
  replace G := G.put (i := 32) (i' := 33) (a := 16) (f := 5) (b := 24) rfl rfl (by decide) (by decide) (by decide)
  generalize gr _ _ _ _ = g at G ⊢
  refine aw_aload_n (q := 51) (j := 0) rfl rfl rfl (List.mem_of_getElem? (i := 0) rfl) ?_
  refine ag_new (q := 54) (ci := 0) (k' := 33) (n' := 3506) rfl rfl nc_Rs_36 rfl rfl (by decide) (by decide) ?_
  rw [G.1]
  replace G := G.new (m := 50) (kd := (0, 0)) rfl rfl (by decide)
  replace Z := Z.new (m := 50) rfl rfl (by decide)
  generalize gn _ _ = g at G ⊢
  generalize sn _ _ = s at Z ⊢
  refine aw_dup (q := 55) rfl rfl rfl ?_
  refine ax_cnV (z := m_Facts_init) (av := []) (q := 58) (k' := 50) (n' := 7317) rfl rfl cn_Rs_38 ⟨by decide, by decide⟩ rfl rfl (by decide) (by decide) rfl rfl (Nat.le_of_ble_eq_true rfl) (i_Facts_49 G Z (fun g' u G' Z' => ?_))
  replace G := G'
  replace Z := Z'
  clear G' Z'
  generalize g' = g at G ⊢
  generalize u = s at Z ⊢
  refine ag_putR (q := 61) rfl rfl fl_Rs_39 rfl rfl (G.og rfl (by decide)) ?_
  replace G := G.put (i := 50) (i' := 51) (a := 16) (f := 6) (b := 49) rfl rfl (by decide) (by decide) (by decide)
  generalize gr _ _ _ _ = g at G ⊢
  refine aw_aload_n (q := 62) (j := 0) rfl rfl rfl (List.mem_of_getElem? (i := 0) rfl) ?_
  refine ag_new (q := 65) (ci := 2) (k' := 51) (n' := 7326) rfl rfl nc_Rs_43 rfl rfl (by decide) (by decide) ?_
  rw [G.1]
  replace G := G.new (m := 68) (kd := (0, 2)) rfl rfl (by decide)
  replace Z := Z.new (m := 68) rfl rfl (by decide)
  generalize gn _ _ = g at G ⊢
  generalize sn _ _ = s at Z ⊢
  refine aw_dup (q := 66) rfl rfl rfl ?_
  refine ax_cnV (z := m_House_init) (av := []) (q := 69) (k' := 62) (n' := 7448) rfl rfl cn_Rs_45 ⟨by decide, by decide⟩ rfl rfl (by decide) (by decide) rfl rfl (Nat.le_of_ble_eq_true rfl) (f_House_init (by decide) G.1 (G.2.1 67 (by decide) (by decide)) (fun g' u P S => ?_))
  replace G := G.house P (i := 51) (b := 67) (n := 79) (i' := 62) rfl rfl rfl (by decide) (by decide) (by decide) (by decide +kernel) (by decide +kernel) (by decide +kernel)
  replace Z := Z.house S (n := 79) rfl rfl (by decide) (fun _ _ _ => rfl)
  clear P S
  generalize g' = g at G ⊢
  generalize u = s at Z ⊢
  refine ag_putR (q := 72) rfl rfl fl_Rs_46 rfl rfl (G.og rfl (by decide)) ?_
  replace G := G.put (i := 62) (i' := 63) (a := 16) (f := 7) (b := 67) rfl rfl (by decide) (by decide) (by decide)
  generalize gr _ _ _ _ = g at G ⊢
  refine aw_aload_n (q := 73) (j := 0) rfl rfl rfl (List.mem_of_getElem? (i := 0) rfl) ?_
  refine aw_bipush (q := 75) (v := 40) rfl rfl (by decide) ?_
  refine ag_anewarray (q := 78) (t := 5) (N := 40) (C0 := Rc2) (k' := 63) (n' := 7488) rfl rfl (Or.inl ⟨rfl, rfl⟩) (tb_c2 18 rfl rfl) (by decide) (by decide) (by decide) rfl rfl (by decide) (by decide) ?_
  rw [G.1]
  replace G := G.new (m := 80) (kd := (5 + 1, 40)) rfl rfl (by decide)
  replace Z := Z.new (m := 80) rfl rfl (by decide)
  generalize gn _ _ = g at G ⊢
  generalize sn _ _ = s at Z ⊢
  refine ag_putR (q := 81) rfl rfl fl_Rs_50 rfl rfl (G.og rfl (by decide)) ?_
  replace G := G.put (i := 63) (i' := 64) (a := 16) (f := 8) (b := 79) rfl rfl (by decide) (by decide) (by decide)
  generalize gr _ _ _ _ = g at G ⊢
  refine aw_aload_n (q := 82) (j := 0) rfl rfl rfl (List.mem_of_getElem? (i := 0) rfl) ?_
  refine aw_iconst (q := 83) (v := 3) rfl rfl (by decide) ?_
  refine ag_anewarray (q := 86) (t := 5) (N := 3) (C0 := Rc2) (k' := 64) (n' := 7491) rfl rfl (Or.inl ⟨rfl, rfl⟩) (tb_c2 18 rfl rfl) (by decide) (by decide) (by decide) rfl rfl (by decide) (by decide) ?_
  rw [G.1]
  replace G := G.new (m := 81) (kd := (5 + 1, 3)) rfl rfl (by decide)
  replace Z := Z.new (m := 81) rfl rfl (by decide)
  generalize gn _ _ = g at G ⊢
  generalize sn _ _ = s at Z ⊢
  refine ag_putR (q := 89) rfl rfl fl_Rs_54 rfl rfl (G.og rfl (by decide)) ?_
  replace G := G.put (i := 64) (i' := 65) (a := 16) (f := 9) (b := 80) rfl rfl (by decide) (by decide) (by decide)
  generalize gr _ _ _ _ = g at G ⊢
  refine aw_aload_n (q := 90) (j := 0) rfl rfl rfl (List.mem_of_getElem? (i := 0) rfl) ?_
  refine ag_new (q := 93) (ci := 8) (k' := 65) (n' := 7509) rfl rfl nc_Rs_57 rfl rfl (by decide) (by decide) ?_
  rw [G.1]
  replace G := G.new (m := 82) (kd := (0, 8)) rfl rfl (by decide)
  replace Z := Z.new (m := 82) rfl rfl (by decide)
  generalize gn _ _ = g at G ⊢
  generalize sn _ _ = s at Z ⊢
  refine aw_dup (q := 94) rfl rfl rfl ?_
  refine ax_cnV (z := m_Text_init) (av := []) (q := 97) (k' := 80) (n' := 8074) rfl rfl cn_Rs_59 ⟨by decide, by decide⟩ rfl rfl (by decide) (by decide) rfl rfl (Nat.le_of_ble_eq_true rfl) (i_Text_81 G Z (fun g' u G' Z' => ?_))
  replace G := G'
  replace Z := Z'
  clear G' Z'
  generalize g' = g at G ⊢
  generalize u = s at Z ⊢
  refine ag_putR (q := 100) rfl rfl fl_Rs_60 rfl rfl (G.og rfl (by decide)) ?_
  replace G := G.put (i := 80) (i' := 81) (a := 16) (f := 10) (b := 81) rfl rfl (by decide) (by decide) (by decide)
  generalize gr _ _ _ _ = g at G ⊢
  refine aw_aload_n (q := 101) (j := 0) rfl rfl rfl (List.mem_of_getElem? (i := 0) rfl) ?_
  refine ag_new (q := 104) (ci := 8) (k' := 81) (n' := 8092) rfl rfl nc_Rs_57 rfl rfl (by decide) (by decide) ?_
  rw [G.1]
  replace G := G.new (m := 98) (kd := (0, 8)) rfl rfl (by decide)
  replace Z := Z.new (m := 98) rfl rfl (by decide)
  generalize gn _ _ = g at G ⊢
  generalize sn _ _ = s at Z ⊢
  refine aw_dup (q := 105) rfl rfl rfl ?_
  refine ax_cnV (z := m_Text_init) (av := []) (q := 108) (k' := 96) (n' := 8657) rfl rfl cn_Rs_59 ⟨by decide, by decide⟩ rfl rfl (by decide) (by decide) rfl rfl (Nat.le_of_ble_eq_true rfl) (i_Text_97 G Z (fun g' u G' Z' => ?_))
  replace G := G'
  replace Z := Z'
  clear G' Z'
  generalize g' = g at G ⊢
  generalize u = s at Z ⊢
  refine ag_putR (q := 111) rfl rfl fl_Rs_64 rfl rfl (G.og rfl (by decide)) ?_
  replace G := G.put (i := 96) (i' := 97) (a := 16) (f := 11) (b := 97) rfl rfl (by decide) (by decide) (by decide)
  generalize gr _ _ _ _ = g at G ⊢
  refine aw_aload_n (q := 112) (j := 0) rfl rfl rfl (List.mem_of_getElem? (i := 0) rfl) ?_
  refine ag_new (q := 115) (ci := 7) (k' := 97) (n' := 8665) rfl rfl nc_Rs_67 rfl rfl (by decide) (by decide) ?_
  rw [G.1]
  replace G := G.new (m := 114) (kd := (0, 7)) rfl rfl (by decide)
  replace Z := Z.new (m := 114) rfl rfl (by decide)
  generalize gn _ _ = g at G ⊢
  generalize sn _ _ = s at Z ⊢
  refine aw_dup (q := 116) rfl rfl rfl ?_
  refine aw_aload_n (q := 117) (j := 0) rfl rfl rfl (List.mem_of_getElem? (i := 0) rfl) ?_
  refine ag_getR (q := 120) (b := 18) rfl rfl fl_Rs_16 rfl (G.og rfl (by decide)) (G.2.2.1 4 (by decide)).1 ?_
  refine aw_aload_n (q := 121) (j := 0) rfl rfl rfl (List.mem_of_getElem? (i := 0) rfl) ?_
  refine ag_getR (q := 124) (b := 97) rfl rfl fl_Rs_64 rfl (G.og rfl (by decide)) (G.2.2.1 96 (by decide)).1 ?_
  refine ax_cnV (z := m_Teller_init) (av := [.ref 18, .ref 97]) (q := 127) (k' := 100) (n' := 8725) rfl rfl cn_Rs_69 ⟨by decide, by decide⟩ rfl rfl (by decide) (by decide) rfl rfl (Nat.le_of_ble_eq_true rfl) (i_Teller_113 G Z (fun g' u G' Z' => ?_))
  replace G := G'
  replace Z := Z'
  clear G' Z'
  generalize g' = g at G ⊢
  generalize u = s at Z ⊢
  refine ag_putR (q := 130) rfl rfl fl_Rs_72 rfl rfl (G.og rfl (by decide)) ?_
  replace G := G.put (i := 102) (i' := 103) (a := 16) (f := 3) (b := 113) rfl rfl (by decide) (by decide) (by decide)
  generalize gr _ _ _ _ = g at G ⊢
  refine aw_aload_n (q := 131) (j := 0) rfl rfl rfl (List.mem_of_getElem? (i := 0) rfl) ?_
  refine ag_new (q := 134) (ci := 4) (k' := 101) (n' := 8730) rfl rfl nc_Rs_76 rfl rfl (by decide) (by decide) ?_
  rw [G.1]
  replace G := G.new (m := 118) (kd := (0, 4)) rfl rfl (by decide)
  replace Z := Z.new (m := 118) rfl rfl (by decide)
  generalize gn _ _ = g at G ⊢
  generalize sn _ _ = s at Z ⊢
  refine aw_dup (q := 135) rfl rfl rfl ?_
  refine aw_aload_n (q := 136) (j := 0) rfl rfl rfl (List.mem_of_getElem? (i := 0) rfl) ?_
  refine ag_getR (q := 139) (b := 81) rfl rfl fl_Rs_60 rfl (G.og rfl (by decide)) (G.2.2.1 80 (by decide)).1 ?_
  refine ax_cnV (z := m_Mill_init) (av := [.ref 81]) (q := 142) (k' := 103) (n' := 8743) rfl rfl cn_Rs_78 ⟨by decide, by decide⟩ rfl rfl (by decide) (by decide) rfl rfl (Nat.le_of_ble_eq_true rfl) (i_Mill_117 G Z (fun g' u G' Z' => ?_))
  replace G := G'
  replace Z := Z'
  clear G' Z'
  generalize g' = g at G ⊢
  generalize u = s at Z ⊢
  refine ag_putR (q := 145) rfl rfl fl_Rs_81 rfl rfl (G.og rfl (by decide)) ?_
  replace G := G.put (i := 106) (i' := 107) (a := 16) (f := 4) (b := 117) rfl rfl (by decide) (by decide) (by decide)
  generalize gr _ _ _ _ = g at G ⊢
  refine aw_aload_n (q := 146) (j := 0) rfl rfl rfl (List.mem_of_getElem? (i := 0) rfl) ?_
  refine aw_iconst (q := 147) (v := -1) rfl rfl (by decide) ?_
  refine ag_putI (q := 150) rfl rfl fl_Rs_85 rfl rfl (G.og rfl (by decide)) ?_
  replace Z := Z.wi (a := 16) (k := 13) (v := -1) (by decide) (by decide)
  generalize wi _ _ _ _ = s at Z ⊢
  have Z' : MZs s0 120 VRs s := Z
  clear Z
  have Gs : GPs 120 107 (rnG g) := G.sr
  have sy := Gs.sy
  have r10 : (rnG g).2.2 16 10 = some 88 := (Gs.2.2.1 80 (by decide)).1
  have r28 : (rnG g).2.2 28 0 = some 88 := (Gs.2.2.1 105 (by decide)).1
  have zr : ∀ a, 16 ≤ a → a < 120 → (rnM s).1 a = VRs (pmA a) := fun a a1 a2 => by
    obtain ⟨b1, b2⟩ := pmA_n a1 (Nat.le_refl 120) a2
    exact Z'.2 _ b1 b2
  have zl : ∀ a, a < 16 → (rnM s).1 a = s0.1 a := fun a ha => by
    show s.1 (pmA a) = _
    rw [pmA_lo (by omega)]; exact Z'.1 a ha
  have vz : ∀ a, 16 ≤ a → a < 120 → a ≠ 16 → a ≠ 88 → a ≠ 101 → a ≠ 104 → a ≠ 117 → (rnM s).1 a = fun _ => 0 := fun a a1 a2 h1 h2 h3 h4 h5 => by rw [zr a a1 a2, VRs_z (pmA_ne h1 rfl) (pmA_ne h2 rfl) (pmA_ne h3 rfl) (pmA_ne h4 rfl) (pmA_ne h5 rfl)]
  have t88 : (rnM s).1 88 = VRs 81 := zr 88 (by decide) (by decide)
  have t101 : (rnM s).1 101 = VRs 94 := zr 101 (by decide) (by decide)
  have s16 : (rnM s).1 16 = VRs 16 := zr 16 (by decide) (by decide)
  have g120 : 120 ≤ g.1 := by rw [G.1]; exact Nat.le_refl _
  refine aw_aload_n (q := 151) (j := 0) rfl rfl rfl (List.mem_of_getElem? (i := 0) rfl) ?_
  refine ax_cvV (z := m_Rs_startOver) (ci := 10) (av := []) (st := []) (q := 154) (k' := 103) (n' := 8743) rfl rfl cv_Rs_89 ⟨by decide, by decide⟩ rfl rfl (by decide) (by decide) (G.og rfl (by decide)) rfl rfl rfl (Nat.le_of_ble_eq_true rfl) ?_
  refine XV.rn (av' := [.ref 16]) g120 rfl ?_
  generalize rnM s = s' at *
  have chz : ∀ b, (b = 62 ∨ b = 74) → CH b s' := fun b hb r hr => ⟨0, by omega, by rw [vz (b + 4 + r) (by omega) (by omega) (by omega) (by omega) (by omega) (by omega) (by omega)]; rfl⟩
  have tc : TCf (d0 (fun _ => 0)) 88 s' := by
    refine ⟨⟨by rw [t88]; rfl, by rw [t88]; rfl, by rw [t88]; rfl, by rw [t88]; rfl, by rw [t88]; rfl, by rw [t88]; rfl, by rw [t88]; rfl, fun j hj => absurd hj (Nat.not_lt_zero _), fun j hj => absurd hj (Nat.not_lt_zero _), fun j hj => absurd hj (Nat.not_lt_zero _), fun j hj => absurd hj (Nat.not_lt_zero _), fun k hk => Or.inl ⟨rfl, ?_⟩⟩, fun m k hm hk => ?_⟩
    · show s'.1 101 k = -1
      rw [t101]
      have : k = 0 ∨ k = 1 ∨ k = 2 := by omega
      rcases this with rfl | rfl | rfl <;> rfl
    · show s'.1 98 _ = _
      rw [vz 98 (by decide) (by decide) (by decide) (by decide) (by decide) (by decide) (by decide), if_neg (show ¬ m < dM (d0 (fun _ => 0)) from Nat.not_lt_zero _)]
  refine fy_Rs_start (d' := d0 (fun _ => 0)) (t2 := 88) (e := 0) sy (Or.inl rfl) r10 (d0_PI _).1 tc (chz 74 (Or.inr rfl)) (chz 62 (Or.inl rfl)) (fun u o1 o2 o3 o4 o5 o6 o7 o8 o9 o10 o11 o12 o13 o14 => ?_)
  rw [gr_same r28]
  refine aw_return rfl rfl (by decide) (by decide) (rV.mk (h _ u Gs r28 ⟨o1, o3, o4, o5, o6, o7, o8, o9, o10, o11, ?_, ?_, ?_, fun k hk => ?_⟩ (fun a ha => ?_)))
  · rw [o12 14 (by decide) (by decide), s16]; rfl
  · rw [o12 12 (by decide) (by decide), s16]; rfl
  · rw [o12 13 (by decide) (by decide), s16]; rfl
  · rw [o13 1 (by decide) (by decide) (by decide) (by decide) (by decide) (by omega), zl 1 (by decide)]; exact hu k hk
  · rw [o13 a (by omega) (by omega) (by omega) (by omega) (by omega) (by omega), zl a ha]
