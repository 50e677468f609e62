/-! A HOUSE IS MADE -/
section Made
variable {E : EN} {d : MD} {pc q k n : Nat} {ls : List (Nat × Value)} {st : List Value} {σ : SG} {Q : Option Value → SG → Prop}
theorem aw_ifnonnullN {off : Int} (hd : mI d pc = some (.ifnonnull off, 3)) (hq : pc + 3 = q) (h : AWP E d q k n ls st σ Q) : AWP E d pc k n ls (.null :: st) σ Q := by
  intro p e s m args below meth c H locs la C hS hR hl
  subst hq
  exact lv_ifnonnullN C.x C.b (C.dc hd) (h p e s m args below meth c H locs la C hS hR hl)
end Made
section Made2
variable {E : EN} {g : GS} {s : MS}
theorem f_Rat_init {a : Nat} {R : GS → MS → Prop} (h : R g s) : XV E m_Rat_init [.ref a] g s R := by
  refine AMet.of (by decide) k_Rat_init [(0, .ref a)] (Nat.le_of_ble_eq_true rfl) rfl ?_
  refine aw_aload_n (q := 1) (j := 0) rfl rfl rfl (List.mem_of_getElem? (i := 0) rfl) ?_
  refine aw_oinit (q := 4) rfl rfl (tb_c1 94 rfl rfl) (tb_c1 27 rfl rfl) (tb_c1 28 rfl rfl) (by decide) (Nat.le_of_ble_eq_true rfl) (by decide) ?_
  exact aw_return rfl rfl (by decide) (by decide) (rV.mk h)
/-- how far the House at b is made -/
def PHi (g0 : GS) (b i : Nat) (g : GS) : Prop := g.1 = b + 4 + i ∧ (∀ a, a < b → g.2.1 a = g0.2.1 a ∧ g.2.2 a = g0.2.2 a) ∧ g.2.1 b = (0, 2) ∧ g.2.1 (b + 1) = (1, 6) ∧ g.2.1 (b + 2) = (1, 36) ∧ g.2.1 (b + 3) = (7, 8) ∧ g.2.2 b 0 = some (b + 1) ∧ g.2.2 b 1 = some (b + 2) ∧ g.2.2 b 2 = some (b + 3) ∧ ∀ r, r < i → g.2.1 (b + 4 + r) = (0, 6) ∧ g.2.2 (b + 3) r = some (b + 4 + r)
def SHi (s0 : MS) (b m : Nat) (s : MS) : Prop := (∀ a, a ≤ b → s.1 a = s0.1 a ∧ s.2 a = s0.2 a) ∧ ∀ a, b < a → a < m → s.1 a = fun _ => 0
theorem gn_1 (g : GS) (kd : Nat × Nat) : (gn g kd).1 = g.1 + 1 := rfl
theorem gn_k (g : GS) (kd : Nat × Nat) (a : Nat) : (gn g kd).2.1 a = if a = g.1 then kd else g.2.1 a := rfl
theorem gn_r (g : GS) (kd : Nat × Nat) (a : Nat) : (gn g kd).2.2 a = if a = g.1 then (fun _ => none) else g.2.2 a := rfl
theorem gr_1 (g : GS) (a f : Nat) (b : Option Nat) : (gr g a f b).1 = g.1 := rfl
theorem gr_k (g : GS) (a f : Nat) (b : Option Nat) : (gr g a f b).2.1 = g.2.1 := rfl
theorem gr_r (g : GS) (a f : Nat) (b : Option Nat) (x : Nat) : (gr g a f b).2.2 x = if x = a then va_up (g.2.2 a) f b else g.2.2 x := rfl
theorem gr_rf (g : GS) (a f : Nat) (b : Option Nat) (x y : Nat) : (gr g a f b).2.2 x y = if x = a ∧ y = f then b else g.2.2 x y := by
  rw [gr_r]
  by_cases h : x = a
  · subst h
    rw [if_pos rfl]
    by_cases e : y = f
    · rw [if_pos ⟨rfl, e⟩, e]; simp [va_up]
    · rw [if_neg (fun w => e w.2)]; simp [va_up, e]
  · rw [if_neg h, if_neg (fun w => h w.1)]
theorem sn_1 (s : MS) (a x : Nat) : (sn s a).1 x = if x = a then (fun _ => 0) else s.1 x := rfl
theorem sn_2 (s : MS) (a x : Nat) : (sn s a).2 x = if x = a then (fun _ => 0) else s.2 x := rfl
theorem SHi.sn {s0 s : MS} {b m : Nat} (h : SHi s0 b m s) (hm : b < m) : SHi s0 b (m + 1) (sn s m) := by
  refine ⟨fun a ha => ?_, fun a h1 h2 => ?_⟩
  · rw [sn_1, sn_2, if_neg (by omega), if_neg (by omega)]; exact h.1 a ha
  · rw [sn_1]
    by_cases e : a = m
    · rw [if_pos e]
    · rw [if_neg e]; exact h.2 a h1 (by omega)
theorem PHi.hs {g0 g : GS} {b : Nat} (h16 : 16 ≤ b) (h : PHi g0 b 8 g) : HS g b := by
  obtain ⟨h1, h2, h3, h4, h5, h6, h7, h8, h9, h10⟩ := h
  refine ⟨⟨h3, h16, by omega⟩, h7, h8, h9, ⟨h4, by omega, by omega⟩, ⟨h5, by omega, by omega⟩, ⟨h6, by omega, by omega⟩, fun r hr => ⟨(h10 r hr).2, (h10 r hr).1, by omega, by omega⟩⟩
theorem OG.gn {a ci : Nat} {kd : Nat × Nat} (h : OG g a ci) : OG (gn g kd) a ci := ⟨by rw [gn_k, if_neg (by have := h.2.2; omega)]; exact h.1, h.2.1, by rw [gn_1]; have := h.2.2; omega⟩
theorem OG.gr {a ci x f : Nat} {b : Option Nat} (h : OG g a ci) : OG (gr g x f b) a ci := h
theorem AG.gn {a t N : Nat} {kd : Nat × Nat} (h : AG g a t N) : AG (gn g kd) a t N := ⟨by rw [gn_k, if_neg (by have := h.2.2; omega)]; exact h.1, h.2.1, by rw [gn_1]; have := h.2.2; omega⟩
theorem AG.gr {a t N x f : Nat} {b : Option Nat} (h : AG g a t N) : AG (gr g x f b) a t N := h
set_option maxRecDepth 20000 in
theorem f_House_init {b : Nat} {R : GS → MS → Prop} (h16 : 16 ≤ b) (hg : g.1 = b + 1) (hb : g.2.1 b = (0, 2)) (h : ∀ g' u, PHi g b 8 g' → SHi s b (b + 12) u → R g' u) : XV E m_House_init [.ref b] g s R := by
  refine AMet.of (by decide) k_House_init [(0, .ref b)] (Nat.le_of_ble_eq_true rfl) rfl ?_
  obtain ⟨N, K, Rf⟩ := g
  have hg' : N = b + 1 := hg
  subst hg'
  have ob : OG (b + 1, K, Rf) b 2 := ⟨hb, h16, by show b < b + 1; omega⟩
  refine aw_aload_n (q := 1) (j := 0) rfl rfl rfl (List.mem_of_getElem? (i := 0) rfl) ?_
  refine aw_oinit (q := 4) rfl rfl (tb_c1 87 rfl rfl) (tb_c1 27 rfl rfl) (tb_c1 28 rfl rfl) (by decide) (Nat.le_of_ble_eq_true rfl) (by decide) ?_
  refine aw_aload_n (q := 5) (j := 0) rfl rfl rfl (List.mem_of_getElem? (i := 0) rfl) ?_
  refine aw_bipush (q := 7) (v := 6) rfl rfl (by decide) ?_
  refine ag_newarray (q := 9) (t := 0) (N := 6) (k' := 1) (n' := 6) rfl rfl (by decide) rfl (tb_c1 54 rfl rfl) (by decide) (by decide) (by decide) rfl rfl (by decide) (by decide) ?_
  refine ag_putR (q := 12) rfl rfl fl_House_9 rfl rfl ob.gn ?_
  refine aw_aload_n (q := 13) (j := 0) rfl rfl rfl (List.mem_of_getElem? (i := 0) rfl) ?_
  refine aw_bipush (q := 15) (v := 36) rfl rfl (by decide) ?_
  refine ag_newarray (q := 17) (t := 0) (N := 36) (k' := 2) (n' := 42) rfl rfl (by decide) rfl (tb_c1 54 rfl rfl) (by decide) (by decide) (by decide) rfl rfl (by decide) (by decide) ?_
  refine ag_putR (q := 20) rfl rfl fl_House_15 rfl rfl (OG.gn (OG.gr ob.gn)) ?_
  refine aw_aload_n (q := 21) (j := 0) rfl rfl rfl (List.mem_of_getElem? (i := 0) rfl) ?_
  refine aw_bipush (q := 23) (v := 8) rfl rfl (by decide) ?_
  refine ag_anewarray (q := 26) (t := 6) (N := 8) (k' := 3) (n' := 50) (C0 := Rc6) rfl rfl (Or.inr ⟨rfl, rfl⟩) (tb_c1 88 rfl rfl) (by decide) (by decide) (by decide) rfl rfl (by decide) (by decide) ?_
  refine ag_putR (q := 29) rfl rfl fl_House_20 rfl rfl (OG.gn (OG.gr (OG.gn (OG.gr ob.gn)))) ?_
  refine aw_iconst (q := 30) (v := 0) rfl rfl (by decide) ?_
  refine aw_istore_n (q := 31) (j := 1) (ls' := [(1, .int 0), (0, .ref b)]) rfl rfl rfl (by decide) rfl ?_
  -- the rats, one by one
  have lp := upto (P := fun i => ∀ g' u, PHi (b + 1, K, Rf) b i g' → SHi s b (b + 4 + i) u → AWP E m_House_init 31 (3 + i) (50 + 9 * i) [(1, .int (nI i)), (0, .ref b)] [] (mk g' u) (rV R)) 8 ?_ ?_ 0 (Nat.zero_le _)
  · refine lp _ _ ?_ ?_
    · refine ⟨rfl, fun a ha => ⟨?_, ?_⟩, ?_, ?_, ?_, ?_, ?_, ?_, ?_, fun r hr => absurd hr (by omega)⟩
      · simp only [gr_k, gn_k, gr_1, gn_1]
        rw [if_neg (by omega), if_neg (by omega), if_neg (by omega)]
      · simp only [gr_r, gn_r, gr_1, gn_1]
        rw [if_neg (by omega), if_neg (by omega), if_neg (by omega), if_neg (by omega), if_neg (by omega), if_neg (by omega)]
      · simp only [gr_k, gn_k, gr_1, gn_1]
        rw [if_neg (by omega), if_neg (by omega), if_neg (by omega)]; exact hb
      · simp only [gr_k, gn_k, gr_1, gn_1]
        rw [if_neg (by omega), if_neg (by omega), if_pos trivial]
      · simp only [gr_k, gn_k, gr_1, gn_1]
        rw [if_neg (by omega), if_pos (by first | trivial | omega)]
      · simp only [gr_k, gn_k, gr_1, gn_1]
        rw [if_pos (by first | trivial | omega)]
      · rw [gr_rf, if_neg (by omega), gn_r, if_neg (by simp only [gr_1, gn_1]; omega), gr_rf, if_neg (by omega), gn_r, if_neg (by simp only [gr_1, gn_1]; omega), gr_rf, if_pos ⟨rfl, rfl⟩]
      · rw [gr_rf, if_neg (by omega), gn_r, if_neg (by simp only [gr_1, gn_1]; omega), gr_rf, if_pos ⟨rfl, rfl⟩]; rfl
      · rw [gr_rf, if_pos ⟨rfl, rfl⟩]; rfl
    · have s0 : SHi s b (b + 1) s := ⟨fun _ _ => ⟨rfl, rfl⟩, fun a h1 h2 => absurd h1 (by omega)⟩
      exact ((s0.sn (by omega)).sn (by omega)).sn (by omega)
  · intro g' u p1 p2
    refine aw_iload_n (q := 32) (j := 1) rfl rfl rfl (List.mem_of_getElem? (i := 0) rfl) ?_
    refine aw_bipush (q := 34) (v := 8) rfl rfl (by decide) ?_
    refine aw_icmp_ge (q := 37) (tgt := 56) rfl rfl (by decide) ⟨fun _ => ?_, fun c => absurd (by decide) c⟩
    exact aw_return rfl rfl (by decide) (by decide) (rV.mk (h g' u p1 p2))
  · intro i hi ih g' u p1 p2
    have hs3 : AG g' (b + 3) 6 8 := ⟨p1.2.2.2.2.2.1, by omega, by rw [p1.1]; omega⟩
    refine aw_iload_n (q := 32) (j := 1) rfl rfl rfl (List.mem_of_getElem? (i := 0) rfl) ?_
    refine aw_bipush (q := 34) (v := 8) rfl rfl (by decide) ?_
    refine aw_icmp_ge (q := 37) (tgt := 56) rfl rfl (by decide) ⟨fun c => absurd c (nI_ge (b := 8) hi (by decide)), fun _ => ?_⟩
    refine aw_aload_n (q := 38) (j := 0) rfl rfl rfl (List.mem_of_getElem? (i := 1) rfl) ?_
    refine ag_getR (q := 41) rfl rfl fl_House_20 rfl ⟨p1.2.2.1, h16, by rw [p1.1]; omega⟩ p1.2.2.2.2.2.2.2.2.1 ?_
    refine aw_iload_n (q := 42) (j := 1) rfl rfl rfl (List.mem_of_getElem? (i := 0) rfl) ?_
    refine ag_new (q := 45) (ci := 6) (k' := 3 + (i + 1)) (n' := 50 + 9 * (i + 1)) rfl rfl nc_House_18 (by omega) (by show 50 + 9 * i + 9 = _; omega) (by show _ ≤ 11; omega) (by show _ ≤ 122; omega) ?_
    refine aw_dup (q := 46) rfl rfl rfl ?_
    refine ax_cnV (z := m_Rat_init) (av := []) (q := 49) (k' := 3 + (i + 1)) (n' := 50 + 9 * (i + 1)) rfl rfl cn_House_24 ⟨by decide, by decide⟩ rfl rfl (by show _ ≤ 11; omega) (by show _ ≤ 122; omega) rfl rfl (Nat.le_of_ble_eq_true rfl) (f_Rat_init ?_)
    have e1 : g'.1 = b + 4 + i := p1.1
    refine ag_aastore (q := 50) (ci := 6) rfl rfl (Or.inr ⟨rfl, rfl⟩) hs3.gn (vp_in_nI hi (by omega)) ⟨by rw [gn_k, if_pos rfl], by omega, by rw [gn_1]; omega⟩ ?_
    refine aw_iinc (q := 53) (v := nI (i + 1)) (ls' := [(1, .int (nI (i + 1))), (0, .ref b)]) rfl rfl (List.mem_of_getElem? (i := 0) rfl) (nI_1 i) (by decide) rfl ?_
    refine aw_goto (tgt := 31) rfl (by decide) ?_
    rw [tn_n (by omega)]
    refine ih _ _ ?_ ?_
    · obtain ⟨a1, a2, a3, a4, a5, a6, a7, a8, a9, a10⟩ := p1
      refine ⟨by rw [gr_1, gn_1, a1]; omega, fun a ha => ⟨?_, ?_⟩, ?_, ?_, ?_, ?_, ?_, ?_, ?_, fun r hr => ⟨?_, ?_⟩⟩
      · rw [gr_k, gn_k, if_neg (by omega)]; exact (a2 a ha).1
      · rw [gr_r, if_neg (by omega), gn_r, if_neg (by omega)]; exact (a2 a ha).2
      · rw [gr_k, gn_k, if_neg (by omega)]; exact a3
      · rw [gr_k, gn_k, if_neg (by omega)]; exact a4
      · rw [gr_k, gn_k, if_neg (by omega)]; exact a5
      · rw [gr_k, gn_k, if_neg (by omega)]; exact a6
      · rw [gr_rf, if_neg (by omega), gn_r, if_neg (by omega)]; exact a7
      · rw [gr_rf, if_neg (by omega), gn_r, if_neg (by omega)]; exact a8
      · rw [gr_rf, if_neg (by omega), gn_r, if_neg (by omega)]; exact a9
      · rw [gr_k, gn_k]
        by_cases e : r = i
        · rw [if_pos (by omega)]
        · rw [if_neg (by omega)]; exact (a10 r (by omega)).1
      · rw [gr_rf]
        by_cases e : r = i
        · rw [if_pos ⟨rfl, e⟩, e1, e]
        · rw [if_neg (by omega), gn_r, if_neg (by omega)]; exact (a10 r (by omega)).2
    · rw [e1]; exact p2.sn (by omega)
end Made2
