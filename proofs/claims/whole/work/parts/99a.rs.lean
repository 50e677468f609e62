/-! BOTH CONSTRUCTORS -/
def VRs : Nat → Row := (Vu (Vu (Vu (Vu (Vu (Vu (Vu (Vu (Vu (Vu (Vu V0 101 0 (-1)) 101 1 (-1)) 101 2 (-1)) 88 15 (9999)) 88 16 (50)) 117 0 (-1)) 117 1 (-1)) 117 2 (-1)) 104 15 (9999)) 104 16 (50)) 16 13 (-1))
theorem VRs_z {x : Nat} (h1 : x ≠ 16) (h2 : x ≠ 88) (h3 : x ≠ 101) (h4 : x ≠ 104) (h5 : x ≠ 117) : VRs x = fun _ => 0 := by
  simp [VRs, Vu, h1, h2, h3, h4, h5]; rfl
theorem rfT_in {a f b : Nat} (h : rfT a f = some b) : ∃ j, j < 155 ∧ rS j = (a, f, b) ∧ (a < 120 → j < 103) := by
  obtain ⟨h1, h2⟩ := rfT_bd h
  have := rfT_all
  rw [List.all_eq_true] at this
  have := this a (List.mem_range.mpr h1)
  rw [List.all_eq_true] at this
  have := this f (List.mem_range.mpr h2)
  rw [h] at this
  simp only [List.any_eq_true, List.mem_range, Bool.and_eq_true, beq_iff_eq, Bool.or_eq_true, decide_eq_true_eq] at this
  obtain ⟨j, j1, j2, j3⟩ := this
  exact ⟨j, j1, j2, fun q => by omega⟩
theorem GPs.sy {g : GS} (h : GPs 120 103 g) : SY g := by
  refine ⟨h.2.1, fun a f b e => ?_, by rw [h.1]; exact Nat.le_refl _, h.2.2.2.1⟩
  unfold rfY at e
  split at e
  · rename_i ha
    obtain ⟨j, j1, j2, j3⟩ := rfT_in e
    have := (h.2.2.1 j (j3 ha)).1
    rw [j2] at this; exact this
  · cases e
theorem GPs.sx {g : GS} (h : GPs 173 155 g) : SX g := by
  refine ⟨h.2.1, fun a f b e => ?_, by rw [h.1]; exact Nat.le_refl _, h.2.2.2.1⟩
  obtain ⟨j, j1, j2, -⟩ := rfT_in e
  have := (h.2.2.1 j j1).1
  rw [j2] at this; exact this
/-- the class's object as it is made -/
def CI0 (u : MS) : Prop := TC (d0 (fun _ => 0)) 88 u ∧ u.1 28 2 = 0 ∧ nm (dE (d0 (fun _ => 0))) (hr u 74) = beg (d0 (fun _ => 0)) ∧ CH 74 u ∧ CH 62 u ∧ u.1 31 4 = 0 ∧ u.1 16 15 = 0 ∧ u.1 16 16 = 0 ∧ u.1 56 7 = 0 ∧ u.1 56 6 = 0 ∧ u.1 16 14 = 0 ∧ u.1 16 12 = 0 ∧ u.1 16 13 = -1 ∧ ∀ k, k < 3 → u.1 1 k = unt k
set_option maxRecDepth 20000 in
theorem i_Rs_16 {E : EN} {g : GS} {s : MS} {R : GS → MS → Prop} {s0 : MS} (G : GPs 17 0 g) (Z : MZs s0 17 V0 s) (hu : ∀ k, k < 3 → s0.1 1 k = unt k) (h : ∀ g' u, GPs 120 103 g' → g'.2.2 28 0 = some 88 → CI0 u → (∀ a, a < 16 → u.1 a = s0.1 a) → R g' u) : XV E m_Rs_init [.ref 16] g s R := by
  refine AMet.of (by decide) k_Rs_init [(0, .ref 16)] (Nat.le_of_ble_eq_true rfl) rfl ?_
  refine aw_aload_n (q := 1) (j := 0) rfl rfl rfl (List.mem_of_getElem? (i := 0) rfl) ?_
  refine aw_oinit (q := 4) rfl rfl (tb_c1 26 rfl rfl) (tb_c1 27 rfl rfl) (tb_c1 28 rfl rfl) (by decide) (Nat.le_of_ble_eq_true rfl) (by decide) ?_
  refine aw_aload_n (q := 5) (j := 0) rfl rfl rfl (List.mem_of_getElem? (i := 0) rfl) ?_
  refine aw_sipush (q := 8) (v := 2000) rfl rfl (by decide) ?_
  refine ag_newarray (q := 10) (t := 3) (N := 2000) (k' := 1) (n' := 2000) rfl rfl (by decide) rfl ac_char (by decide) (by decide) (by decide) rfl rfl (by decide) (by decide) ?_
  rw [G.1]
  replace G := G.new (m := 18) (kd := (3 + 1, 2000)) rfl rfl (by decide)
  replace Z := Z.new (m := 18) rfl rfl (by decide)
  generalize gn _ _ = g at G ⊢
  generalize sn _ _ = s at Z ⊢
  refine ag_putR (q := 13) rfl rfl fl_Rs_9 rfl rfl (G.og rfl (by decide)) ?_
  replace G := G.put (i := 0) (i' := 1) (a := 16) (f := 0) (b := 17) rfl rfl (by decide) (by decide) (by decide)
  generalize gr _ _ _ _ = g at G ⊢
  refine aw_aload_n (q := 14) (j := 0) rfl rfl rfl (List.mem_of_getElem? (i := 0) rfl) ?_
  refine ag_new (q := 17) (ci := 9) (k' := 2) (n' := 2004) rfl rfl nc_Rs_13 rfl rfl (by decide) (by decide) ?_
  rw [G.1]
  replace G := G.new (m := 19) (kd := (0, 9)) rfl rfl (by decide)
  replace Z := Z.new (m := 19) rfl rfl (by decide)
  generalize gn _ _ = g at G ⊢
  generalize sn _ _ = s at Z ⊢
  refine aw_dup (q := 18) rfl rfl rfl ?_
  refine ax_cnV (z := m_Tokens_init) (av := []) (q := 21) (k' := 5) (n' := 3210) rfl rfl cn_Rs_15 ⟨by decide, by decide⟩ rfl rfl (by decide) (by decide) rfl rfl (Nat.le_of_ble_eq_true rfl) (i_Tokens_18 G Z (fun g' u G' Z' => ?_))
  replace G := G'
  replace Z := Z'
  clear G' Z'
  generalize g' = g at G ⊢
  generalize u = s at Z ⊢
  refine ag_putR (q := 24) rfl rfl fl_Rs_16 rfl rfl (G.og rfl (by decide)) ?_
  replace G := G.put (i := 4) (i' := 5) (a := 16) (f := 1) (b := 18) rfl rfl (by decide) (by decide) (by decide)
  generalize gr _ _ _ _ = g at G ⊢
  refine aw_aload_n (q := 25) (j := 0) rfl rfl rfl (List.mem_of_getElem? (i := 0) rfl) ?_
  refine ag_new (q := 28) (ci := 1) (k' := 6) (n' := 3214) rfl rfl nc_Rs_20 rfl rfl (by decide) (by decide) ?_
  rw [G.1]
  replace G := G.new (m := 23) (kd := (0, 1)) rfl rfl (by decide)
  replace Z := Z.new (m := 23) rfl rfl (by decide)
  generalize gn _ _ = g at G ⊢
  generalize sn _ _ = s at Z ⊢
  refine aw_dup (q := 29) rfl rfl rfl ?_
  refine ax_cnV (z := m_Grammar_init) (av := []) (q := 32) (k' := 7) (n' := 3228) rfl rfl cn_Rs_22 ⟨by decide, by decide⟩ rfl rfl (by decide) (by decide) rfl rfl (Nat.le_of_ble_eq_true rfl) (i_Grammar_22 G Z (fun g' u G' Z' => ?_))
  replace G := G'
  replace Z := Z'
  clear G' Z'
  generalize g' = g at G ⊢
  generalize u = s at Z ⊢
  refine ag_putR (q := 35) rfl rfl fl_Rs_23 rfl rfl (G.og rfl (by decide)) ?_
  replace G := G.put (i := 6) (i' := 7) (a := 16) (f := 2) (b := 22) rfl rfl (by decide) (by decide) (by decide)
  generalize gr _ _ _ _ = g at G ⊢
  refine aw_aload_n (q := 36) (j := 0) rfl rfl rfl (List.mem_of_getElem? (i := 0) rfl) ?_
  refine ag_new (q := 39) (ci := 7) (k' := 8) (n' := 3236) rfl rfl nc_Rs_27 rfl rfl (by decide) (by decide) ?_
  rw [G.1]
  replace G := G.new (m := 25) (kd := (0, 7)) rfl rfl (by decide)
  replace Z := Z.new (m := 25) rfl rfl (by decide)
  generalize gn _ _ = g at G ⊢
  generalize sn _ _ = s at Z ⊢
  refine aw_dup (q := 40) rfl rfl rfl ?_
  refine ax_cnV (z := m_Teller_init) (av := []) (q := 43) (k' := 11) (n' := 3296) rfl rfl cn_Rs_29 ⟨by decide, by decide⟩ rfl rfl (by decide) (by decide) rfl rfl (Nat.le_of_ble_eq_true rfl) (i_Teller_24 G Z (fun g' u G' Z' => ?_))
  replace G := G'
  replace Z := Z'
  clear G' Z'
  generalize g' = g at G ⊢
  generalize u = s at Z ⊢
  refine ag_putR (q := 46) rfl rfl fl_Rs_30 rfl rfl (G.og rfl (by decide)) ?_
  replace G := G.put (i := 10) (i' := 11) (a := 16) (f := 3) (b := 24) rfl rfl (by decide) (by decide) (by decide)
  generalize gr _ _ _ _ = g at G ⊢
  refine aw_aload_n (q := 47) (j := 0) rfl rfl rfl (List.mem_of_getElem? (i := 0) rfl) ?_
  refine ag_new (q := 50) (ci := 4) (k' := 12) (n' := 3301) rfl rfl nc_Rs_34 rfl rfl (by decide) (by decide) ?_
  rw [G.1]
  replace G := G.new (m := 29) (kd := (0, 4)) rfl rfl (by decide)
  replace Z := Z.new (m := 29) rfl rfl (by decide)
  generalize gn _ _ = g at G ⊢
  generalize sn _ _ = s at Z ⊢
  refine aw_dup (q := 51) rfl rfl rfl ?_
  refine ax_cnV (z := m_Mill_init) (av := []) (q := 54) (k' := 14) (n' := 3314) rfl rfl cn_Rs_36 ⟨by decide, by decide⟩ rfl rfl (by decide) (by decide) rfl rfl (Nat.le_of_ble_eq_true rfl) (i_Mill_28 G Z (fun g' u G' Z' => ?_))
  replace G := G'
  replace Z := Z'
  clear G' Z'
  generalize g' = g at G ⊢
  generalize u = s at Z ⊢
  refine ag_putR (q := 57) rfl rfl fl_Rs_37 rfl rfl (G.og rfl (by decide)) ?_
  replace G := G.put (i := 13) (i' := 14) (a := 16) (f := 4) (b := 28) rfl rfl (by decide) (by decide) (by decide)
  generalize gr _ _ _ _ = g at G ⊢
  refine aw_aload_n (q := 58) (j := 0) rfl rfl rfl (List.mem_of_getElem? (i := 0) rfl) ?_
  refine ag_new (q := 61) (ci := 5) (k' := 15) (n' := 3322) rfl rfl nc_Rs_41 rfl rfl (by decide) (by decide) ?_
  rw [G.1]
  replace G := G.new (m := 32) (kd := (0, 5)) rfl rfl (by decide)
  replace Z := Z.new (m := 32) rfl rfl (by decide)
  generalize gn _ _ = g at G ⊢
  generalize sn _ _ = s at Z ⊢
  refine aw_dup (q := 62) rfl rfl rfl ?_
  refine ax_cnV (z := m_Planner_init) (av := []) (q := 65) (k' := 39) (n' := 3584) rfl rfl cn_Rs_43 ⟨by decide, by decide⟩ rfl rfl (by decide) (by decide) rfl rfl (Nat.le_of_ble_eq_true rfl) (i_Planner_31 G Z (fun g' u G' Z' => ?_))
  replace G := G'
  replace Z := Z'
  clear G' Z'
  generalize g' = g at G ⊢
  generalize u = s at Z ⊢
  refine ag_putR (q := 68) rfl rfl fl_Rs_44 rfl rfl (G.og rfl (by decide)) ?_
  replace G := G.put (i := 38) (i' := 39) (a := 16) (f := 5) (b := 31) rfl rfl (by decide) (by decide) (by decide)
  generalize gr _ _ _ _ = g at G ⊢
  refine aw_aload_n (q := 69) (j := 0) rfl rfl rfl (List.mem_of_getElem? (i := 0) rfl) ?_
  refine ag_new (q := 72) (ci := 0) (k' := 40) (n' := 3592) rfl rfl nc_Rs_48 rfl rfl (by decide) (by decide) ?_
  rw [G.1]
  replace G := G.new (m := 57) (kd := (0, 0)) rfl rfl (by decide)
  replace Z := Z.new (m := 57) rfl rfl (by decide)
  generalize gn _ _ = g at G ⊢
  generalize sn _ _ = s at Z ⊢
  refine aw_dup (q := 73) rfl rfl rfl ?_
  refine ax_cnV (z := m_Facts_init) (av := []) (q := 76) (k' := 57) (n' := 7403) rfl rfl cn_Rs_50 ⟨by decide, by decide⟩ rfl rfl (by decide) (by decide) rfl rfl (Nat.le_of_ble_eq_true rfl) (i_Facts_56 G Z (fun g' u G' Z' => ?_))
  replace G := G'
  replace Z := Z'
  clear G' Z'
  generalize g' = g at G ⊢
  generalize u = s at Z ⊢
  refine ag_putR (q := 79) rfl rfl fl_Rs_51 rfl rfl (G.og rfl (by decide)) ?_
  replace G := G.put (i := 56) (i' := 57) (a := 16) (f := 6) (b := 56) rfl rfl (by decide) (by decide) (by decide)
  generalize gr _ _ _ _ = g at G ⊢
  refine aw_aload_n (q := 80) (j := 0) rfl rfl rfl (List.mem_of_getElem? (i := 0) rfl) ?_
  refine ag_new (q := 83) (ci := 2) (k' := 58) (n' := 7412) rfl rfl nc_Rs_55 rfl rfl (by decide) (by decide) ?_
  rw [G.1]
  replace G := G.new (m := 75) (kd := (0, 2)) rfl rfl (by decide)
  replace Z := Z.new (m := 75) rfl rfl (by decide)
  generalize gn _ _ = g at G ⊢
  generalize sn _ _ = s at Z ⊢
  refine aw_dup (q := 84) rfl rfl rfl ?_
  refine ax_cnV (z := m_House_init) (av := []) (q := 87) (k' := 69) (n' := 7534) rfl rfl cn_Rs_57 ⟨by decide, by decide⟩ rfl rfl (by decide) (by decide) rfl rfl (Nat.le_of_ble_eq_true rfl) (f_House_init (by decide) G.1 (G.2.1 74 (by decide) (by decide)) (fun g' u P S => ?_))
  replace G := G.house P (i := 57) (b := 74) (n := 86) (i' := 68) rfl rfl rfl (by decide) (by decide) (by decide) (by decide +kernel) (by decide +kernel) (by decide +kernel)
  replace Z := Z.house S (n := 86) rfl rfl (by decide) (fun _ _ _ => rfl)
  clear P S
  generalize g' = g at G ⊢
  generalize u = s at Z ⊢
  refine ag_putR (q := 90) rfl rfl fl_Rs_58 rfl rfl (G.og rfl (by decide)) ?_
  replace G := G.put (i := 68) (i' := 69) (a := 16) (f := 7) (b := 74) rfl rfl (by decide) (by decide) (by decide)
  generalize gr _ _ _ _ = g at G ⊢
  refine aw_aload_n (q := 91) (j := 0) rfl rfl rfl (List.mem_of_getElem? (i := 0) rfl) ?_
  refine aw_bipush (q := 93) (v := 40) rfl rfl (by decide) ?_
  refine ag_anewarray (q := 96) (t := 5) (N := 40) (C0 := Rc2) (k' := 70) (n' := 7574) rfl rfl (Or.inl ⟨rfl, rfl⟩) (tb_c2 75 rfl rfl) (by decide) (by decide) (by decide) rfl rfl (by decide) (by decide) ?_
  rw [G.1]
  replace G := G.new (m := 87) (kd := (5 + 1, 40)) rfl rfl (by decide)
  replace Z := Z.new (m := 87) rfl rfl (by decide)
  generalize gn _ _ = g at G ⊢
  generalize sn _ _ = s at Z ⊢
  refine ag_putR (q := 99) rfl rfl fl_Rs_62 rfl rfl (G.og rfl (by decide)) ?_
  replace G := G.put (i := 69) (i' := 70) (a := 16) (f := 8) (b := 86) rfl rfl (by decide) (by decide) (by decide)
  generalize gr _ _ _ _ = g at G ⊢
  refine aw_aload_n (q := 100) (j := 0) rfl rfl rfl (List.mem_of_getElem? (i := 0) rfl) ?_
  refine aw_iconst (q := 101) (v := 3) rfl rfl (by decide) ?_
  refine ag_anewarray (q := 104) (t := 5) (N := 3) (C0 := Rc2) (k' := 71) (n' := 7577) rfl rfl (Or.inl ⟨rfl, rfl⟩) (tb_c2 75 rfl rfl) (by decide) (by decide) (by decide) rfl rfl (by decide) (by decide) ?_
  rw [G.1]
  replace G := G.new (m := 88) (kd := (5 + 1, 3)) rfl rfl (by decide)
  replace Z := Z.new (m := 88) rfl rfl (by decide)
  generalize gn _ _ = g at G ⊢
  generalize sn _ _ = s at Z ⊢
  refine ag_putR (q := 107) rfl rfl fl_Rs_66 rfl rfl (G.og rfl (by decide)) ?_
  replace G := G.put (i := 70) (i' := 71) (a := 16) (f := 9) (b := 87) rfl rfl (by decide) (by decide) (by decide)
  generalize gr _ _ _ _ = g at G ⊢
  refine aw_aload_n (q := 108) (j := 0) rfl rfl rfl (List.mem_of_getElem? (i := 0) rfl) ?_
  refine ag_new (q := 111) (ci := 8) (k' := 72) (n' := 7595) rfl rfl nc_Rs_69 rfl rfl (by decide) (by decide) ?_
  rw [G.1]
  replace G := G.new (m := 89) (kd := (0, 8)) rfl rfl (by decide)
  replace Z := Z.new (m := 89) rfl rfl (by decide)
  generalize gn _ _ = g at G ⊢
  generalize sn _ _ = s at Z ⊢
  refine aw_dup (q := 112) rfl rfl rfl ?_
  refine ax_cnV (z := m_Text_init) (av := []) (q := 115) (k' := 87) (n' := 8160) rfl rfl cn_Rs_71 ⟨by decide, by decide⟩ rfl rfl (by decide) (by decide) rfl rfl (Nat.le_of_ble_eq_true rfl) (i_Text_88 G Z (fun g' u G' Z' => ?_))
  replace G := G'
  replace Z := Z'
  clear G' Z'
  generalize g' = g at G ⊢
  generalize u = s at Z ⊢
  refine ag_putR (q := 118) rfl rfl fl_Rs_72 rfl rfl (G.og rfl (by decide)) ?_
  replace G := G.put (i := 86) (i' := 87) (a := 16) (f := 10) (b := 88) rfl rfl (by decide) (by decide) (by decide)
  generalize gr _ _ _ _ = g at G ⊢
  refine aw_aload_n (q := 119) (j := 0) rfl rfl rfl (List.mem_of_getElem? (i := 0) rfl) ?_
  refine ag_new (q := 122) (ci := 8) (k' := 88) (n' := 8178) rfl rfl nc_Rs_69 rfl rfl (by decide) (by decide) ?_
  rw [G.1]
  replace G := G.new (m := 105) (kd := (0, 8)) rfl rfl (by decide)
  replace Z := Z.new (m := 105) rfl rfl (by decide)
  generalize gn _ _ = g at G ⊢
  generalize sn _ _ = s at Z ⊢
  refine aw_dup (q := 123) rfl rfl rfl ?_
  refine ax_cnV (z := m_Text_init) (av := []) (q := 126) (k' := 103) (n' := 8743) rfl rfl cn_Rs_71 ⟨by decide, by decide⟩ rfl rfl (by decide) (by decide) rfl rfl (Nat.le_of_ble_eq_true rfl) (i_Text_104 G Z (fun g' u G' Z' => ?_))
  replace G := G'
  replace Z := Z'
  clear G' Z'
  generalize g' = g at G ⊢
  generalize u = s at Z ⊢
  refine ag_putR (q := 129) rfl rfl fl_Rs_76 rfl rfl (G.og rfl (by decide)) ?_
  replace G := G.put (i := 102) (i' := 103) (a := 16) (f := 11) (b := 104) rfl rfl (by decide) (by decide) (by decide)
  generalize gr _ _ _ _ = g at G ⊢
  refine aw_aload_n (q := 130) (j := 0) rfl rfl rfl (List.mem_of_getElem? (i := 0) rfl) ?_
  refine aw_iconst (q := 131) (v := -1) rfl rfl (by decide) ?_
  refine ag_putI (q := 134) rfl rfl fl_Rs_79 rfl rfl (G.og rfl (by decide)) ?_
  replace Z := Z.wi (a := 16) (k := 13) (v := -1) (by decide) (by decide)
  generalize wi _ _ _ _ = s at Z ⊢
  have Z' : MZs s0 120 VRs s := Z
  clear Z
  have sy := G.sy
  have r10 : g.2.2 16 10 = some 88 := (G.2.2.1 86 (by decide)).1
  have vz : ∀ a, 16 ≤ a → a < 120 → a ≠ 16 → a ≠ 88 → a ≠ 101 → a ≠ 104 → a ≠ 117 → s.1 a = fun _ => 0 := fun a a1 a2 h1 h2 h3 h4 h5 => by rw [Z'.2 a a1 a2, VRs_z h1 h2 h3 h4 h5]
  have chz : ∀ b, (b = 62 ∨ b = 74) → CH b s := fun b hb r hr => ⟨0, by omega, by rw [vz (b + 4 + r) (by omega) (by omega) (by omega) (by omega) (by omega) (by omega) (by omega)]; rfl⟩
  have tc : TCf (d0 (fun _ => 0)) 88 s := by
    have t88 := Z'.2 88 (by decide) (by decide)
    have t101 := Z'.2 101 (by decide) (by decide)
    refine ⟨⟨by rw [t88]; rfl, by rw [t88]; rfl, by rw [t88]; rfl, by rw [t88]; rfl, by rw [t88]; rfl, by rw [t88]; rfl, by rw [t88]; rfl, fun j hj => absurd hj (Nat.not_lt_zero _), fun j hj => absurd hj (Nat.not_lt_zero _), fun j hj => absurd hj (Nat.not_lt_zero _), fun j hj => absurd hj (Nat.not_lt_zero _), fun k hk => Or.inl ⟨rfl, ?_⟩⟩, fun m k hm hk => ?_⟩
    · show s.1 101 k = -1
      rw [t101]
      have : k = 0 ∨ k = 1 ∨ k = 2 := by omega
      rcases this with rfl | rfl | rfl <;> rfl
    · show s.1 98 _ = _
      rw [vz 98 (by decide) (by decide) (by decide) (by decide) (by decide) (by decide) (by decide), if_neg (show ¬ m < dM (d0 (fun _ => 0)) from Nat.not_lt_zero _)]
  have s16 := Z'.2 16 (by decide) (by decide)
  refine aw_aload_n (q := 135) (j := 0) rfl rfl rfl (List.mem_of_getElem? (i := 0) rfl) ?_
  refine ax_cvV (z := m_Rs_startOver) (ci := 10) (av := []) (st := []) (q := 138) (k' := 103) (n' := 8743) rfl rfl cv_Rs_83 ⟨by decide, by decide⟩ rfl rfl (by decide) (by decide) (G.og rfl (by decide)) rfl rfl rfl (Nat.le_of_ble_eq_true rfl) ?_
  refine fy_Rs_start (d' := d0 (fun _ => 0)) (t2 := 88) (e := 0) sy (Or.inl rfl) r10 (d0_PI _).1 tc (chz 74 (Or.inr rfl)) (chz 62 (Or.inl rfl)) (fun u o1 o2 o3 o4 o5 o6 o7 o8 o9 o10 o11 o12 o13 o14 => ?_)
  refine aw_return rfl rfl (by decide) (by decide) (rV.mk (h _ u (G.dyn (by decide) (by decide +kernel)) ?_ ⟨o1, o3, o4, o5, o6, o7, o8, o9, o10, o11, ?_, ?_, ?_, fun k hk => ?_⟩ (fun a ha => ?_)))
  · rw [gr_rf, if_pos ⟨rfl, rfl⟩]
  · rw [o12 14 (by decide) (by decide), s16]; rfl
  · rw [o12 12 (by decide) (by decide), s16]; rfl
  · rw [o12 13 (by decide) (by decide), s16]; rfl
  · rw [o13 1 (by decide) (by decide) (by decide) (by decide) (by decide) (by omega), Z'.1 1 (by decide)]; exact hu k hk
  · rw [o13 a (by omega) (by omega) (by omega) (by omega) (by omega) (by omega), Z'.1 a ha]
