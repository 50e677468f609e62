/-! THE REFERENCE IS MADE -/
def MZr (s0 : MS) (n : Nat) (V : Nat → Row) (s : MS) : Prop := (∀ a, a < 120 → s.1 a = s0.1 a) ∧ ∀ a, 120 ≤ a → a < n → s.1 a = V a
theorem MZr.new {s0 s : MS} {n m : Nat} {V : Nat → Row} (h : MZr s0 n V s) (hm : n + 1 = m) (e : V n = fun _ => 0) (h16 : 120 ≤ n) : MZr s0 m V (sn s n) := by
  subst hm
  refine ⟨fun a ha => by rw [sn_1, if_neg (by omega)]; exact h.1 a ha, fun a a1 a2 => ?_⟩
  rw [sn_1]
  by_cases z : a = n
  · rw [if_pos z, z, e]
  · rw [if_neg z]; exact h.2 a a1 (by omega)
theorem MZr.wi {s0 s : MS} {n a k : Nat} {v : Int32} {V : Nat → Row} (h : MZr s0 n V s) (h16 : 120 ≤ a) (ha : a < n) : MZr s0 n (Vu V a k v) (wi s a k v) := by
  refine ⟨fun x hx => by rw [wi_n _ _ _ (by omega)]; exact h.1 x hx, fun x x1 x2 => ?_⟩
  unfold Vu
  by_cases z : x = a
  · rw [if_pos z, z, wi_s, h.2 a h16 ha]
  · rw [if_neg z, wi_n _ _ _ z]; exact h.2 x x1 x2
def apW (n : Int64) (c : Int32) : Int64 := if c = 0 then n else (27 * n) + (Int32.toInt64 ((c - 97) + 1))
theorem f_apW {E : EN} {g : GS} {s : MS} {R : Int64 → MS → Prop} {n : Int64} {c : Int32} (h : R (apW n c) s) : GL E m_Mo_appends [.long n, .int c] g s R := by
  refine v_Mo_appends (Q := qL g R) _ _ ⟨fun z => ?_, fun z => ?_⟩
  · unfold apW at h; rw [if_pos z] at h; exact ⟨_, _, rfl, rfl, h⟩
  · unfold apW at h; rw [if_neg z] at h; exact ⟨_, _, rfl, rfl, h⟩
theorem f_Mo_word {E : EN} {g : GS} {s : MS} {R : Int64 → MS → Prop} {a b c d e f h' : Int32} (h : R (apW (apW (apW (apW (apW (apW (apW 0 a) b) c) d) e) f) h') s) : GL E m_Mo_word [.int a, .int b, .int c, .int d, .int e, .int f, .int h'] g s R :=
  v_Mo_word (Q := qL g R) _ _ _ _ _ _ _ (f_apW (f_apW (f_apW (f_apW (f_apW (f_apW (f_apW ⟨_, _, rfl, rfl, h⟩)))))))
def KWs (i : Nat) (s : MS) : Prop := ∀ k, k < i → s.2 127 k = lN (kws.getD k 0)
theorem KWs.wl {s : MS} {i i' : Nat} {v : Int64} (h : KWs i s) (hi : i + 1 = i') (e : v = lN (kws.getD i 0)) : KWs i' (wl s 127 i v) := by
  subst hi
  intro k hk
  rw [wl_s]
  by_cases z : k = i
  · rw [z, updL_s, e]
  · rw [updL_n _ _ z]; exact h k (by omega)
theorem gn28 {g : GS} {kd : Nat × Nat} {n : Nat} (h : g.2.2 28 0 = some 88) (e : g.1 = n) (hn : 28 < n) : (gn g kd).2.2 28 0 = some 88 := by rw [gn_r, if_neg (by omega)]; exact h
theorem gr28 {g : GS} {a f : Nat} {b : Option Nat} (ha : 28 ≠ a) (h : g.2.2 28 0 = some 88) : (gr g a f b).2.2 28 0 = some 88 := by rw [gr_rf, if_neg (fun w => ha w.1)]; exact h
set_option maxRecDepth 20000 in
set_option maxHeartbeats 4000000 in
theorem i_Mo_120 {E : EN} {g : GS} {s : MS} {R : GS → MS → Prop} {s0 : MS} (G : GPs 121 107 g) (Z : MZr s0 121 V0 s) (hg : g.2.2 28 0 = some 88) (h : ∀ g' u, GPs 173 159 g' → g'.2.2 28 0 = some 88 → KR (d0 (fun _ => 0)) 0 u → nm (dE (d0 (fun _ => 0))) (u.1 162) = beg (d0 (fun _ => 0)) → u.1 120 64 = 0 → (∀ i, u.1 171 i = 0) → u.1 120 68 = 0 → u.1 120 2 = 0 → u.1 120 17 = -1 → KWs 20 u → (∀ a, a < 120 → u.1 a = s0.1 a) → R g' u) : XV E m_Mo_init [.ref 120] g s R := by
  refine AMet.of (by decide) k_Mo_init [(0, .ref 120)] (Nat.le_of_ble_eq_true rfl) rfl ?_
  refine aw_aload_n (q := 1) (j := 0) rfl rfl rfl (List.mem_of_getElem? (i := 0) rfl) ?_
  refine aw_oinit (q := 4) rfl rfl (tb_c6 27 rfl rfl) (tb_c1 27 rfl rfl) (tb_c1 28 rfl rfl) (by decide) (Nat.le_of_ble_eq_true rfl) (by decide) ?_
  refine aw_aload_n (q := 5) (j := 0) rfl rfl rfl (List.mem_of_getElem? (i := 0) rfl) ?_
  refine aw_sipush (q := 8) (v := 2000) rfl rfl (by decide) ?_
  refine ag_newarray (q := 10) (t := 1) (N := 2000) (k' := 1) (n' := 2000) rfl rfl (by decide) rfl ac_byte (by decide) (by decide) (by decide) rfl rfl (by decide) (by decide) ?_
  rw [G.1]
  have Gp := G
  replace G := G.new (m := 122) (kd := (1 + 1, 2000)) rfl rfl (by decide)
  replace Z := Z.new (m := 122) rfl rfl (by decide)
  replace hg := gn28 (kd := (1 + 1, 2000)) hg Gp.1 (by decide)
  generalize gn _ _ = g at G hg ⊢
  clear Gp
  generalize sn _ _ = s at Z ⊢
  refine ag_putR (q := 13) rfl rfl fl_Mo_13 rfl rfl (G.og rfl (by decide)) ?_
  replace G := G.put (i := 107) (i' := 108) (a := 120) (f := 1) (b := 121) rfl rfl (by decide) (by decide) (by decide)
  replace hg := gr28 (f := 1) (b := some 121) (a := 120) (by decide) hg
  generalize gr _ _ _ _ = g at G hg ⊢
  refine aw_aload_n (q := 14) (j := 0) rfl rfl rfl (List.mem_of_getElem? (i := 0) rfl) ?_
  refine aw_sipush (q := 17) (v := 2000) rfl rfl (by decide) ?_
  refine ag_newarray (q := 19) (t := 1) (N := 2000) (k' := 2) (n' := 4000) rfl rfl (by decide) rfl ac_byte (by decide) (by decide) (by decide) rfl rfl (by decide) (by decide) ?_
  rw [G.1]
  have Gp := G
  replace G := G.new (m := 123) (kd := (1 + 1, 2000)) rfl rfl (by decide)
  replace Z := Z.new (m := 123) rfl rfl (by decide)
  replace hg := gn28 (kd := (1 + 1, 2000)) hg Gp.1 (by decide)
  generalize gn _ _ = g at G hg ⊢
  clear Gp
  generalize sn _ _ = s at Z ⊢
  refine ag_putR (q := 22) rfl rfl fl_Mo_17 rfl rfl (G.og rfl (by decide)) ?_
  replace G := G.put (i := 108) (i' := 109) (a := 120) (f := 3) (b := 122) rfl rfl (by decide) (by decide) (by decide)
  replace hg := gr28 (f := 3) (b := some 122) (a := 120) (by decide) hg
  generalize gr _ _ _ _ = g at G hg ⊢
  refine aw_aload_n (q := 23) (j := 0) rfl rfl rfl (List.mem_of_getElem? (i := 0) rfl) ?_
  refine aw_sipush (q := 26) (v := 403) rfl rfl (by decide) ?_
  refine ag_newarray (q := 28) (t := 0) (N := 403) (k' := 3) (n' := 4403) rfl rfl (by decide) rfl ac_int (by decide) (by decide) (by decide) rfl rfl (by decide) (by decide) ?_
  rw [G.1]
  have Gp := G
  replace G := G.new (m := 124) (kd := (0 + 1, 403)) rfl rfl (by decide)
  replace Z := Z.new (m := 124) rfl rfl (by decide)
  replace hg := gn28 (kd := (0 + 1, 403)) hg Gp.1 (by decide)
  generalize gn _ _ = g at G hg ⊢
  clear Gp
  generalize sn _ _ = s at Z ⊢
  refine ag_putR (q := 31) rfl rfl fl_Mo_20 rfl rfl (G.og rfl (by decide)) ?_
  replace G := G.put (i := 109) (i' := 110) (a := 120) (f := 5) (b := 123) rfl rfl (by decide) (by decide) (by decide)
  replace hg := gr28 (f := 5) (b := some 123) (a := 120) (by decide) hg
  generalize gr _ _ _ _ = g at G hg ⊢
  refine aw_aload_n (q := 32) (j := 0) rfl rfl rfl (List.mem_of_getElem? (i := 0) rfl) ?_
  refine aw_sipush (q := 35) (v := 403) rfl rfl (by decide) ?_
  refine ag_newarray (q := 37) (t := 0) (N := 403) (k' := 4) (n' := 4806) rfl rfl (by decide) rfl ac_int (by decide) (by decide) (by decide) rfl rfl (by decide) (by decide) ?_
  rw [G.1]
  have Gp := G
  replace G := G.new (m := 125) (kd := (0 + 1, 403)) rfl rfl (by decide)
  replace Z := Z.new (m := 125) rfl rfl (by decide)
  replace hg := gn28 (kd := (0 + 1, 403)) hg Gp.1 (by decide)
  generalize gn _ _ = g at G hg ⊢
  clear Gp
  generalize sn _ _ = s at Z ⊢
  refine ag_putR (q := 40) rfl rfl fl_Mo_24 rfl rfl (G.og rfl (by decide)) ?_
  replace G := G.put (i := 110) (i' := 111) (a := 120) (f := 6) (b := 124) rfl rfl (by decide) (by decide) (by decide)
  replace hg := gr28 (f := 6) (b := some 124) (a := 120) (by decide) hg
  generalize gr _ _ _ _ = g at G hg ⊢
  refine aw_aload_n (q := 41) (j := 0) rfl rfl rfl (List.mem_of_getElem? (i := 0) rfl) ?_
  refine aw_sipush (q := 44) (v := 403) rfl rfl (by decide) ?_
  refine ag_newarray (q := 46) (t := 0) (N := 403) (k' := 5) (n' := 5209) rfl rfl (by decide) rfl ac_int (by decide) (by decide) (by decide) rfl rfl (by decide) (by decide) ?_
  rw [G.1]
  have Gp := G
  replace G := G.new (m := 126) (kd := (0 + 1, 403)) rfl rfl (by decide)
  replace Z := Z.new (m := 126) rfl rfl (by decide)
  replace hg := gn28 (kd := (0 + 1, 403)) hg Gp.1 (by decide)
  generalize gn _ _ = g at G hg ⊢
  clear Gp
  generalize sn _ _ = s at Z ⊢
  refine ag_putR (q := 49) rfl rfl fl_Mo_27 rfl rfl (G.og rfl (by decide)) ?_
  replace G := G.put (i := 111) (i' := 112) (a := 120) (f := 7) (b := 125) rfl rfl (by decide) (by decide) (by decide)
  replace hg := gr28 (f := 7) (b := some 125) (a := 120) (by decide) hg
  generalize gr _ _ _ _ = g at G hg ⊢
  refine aw_aload_n (q := 50) (j := 0) rfl rfl rfl (List.mem_of_getElem? (i := 0) rfl) ?_
  refine aw_sipush (q := 53) (v := 403) rfl rfl (by decide) ?_
  refine ag_newarray (q := 55) (t := 4) (N := 403) (k' := 6) (n' := 5612) rfl rfl (by decide) rfl ac_long (by decide) (by decide) (by decide) rfl rfl (by decide) (by decide) ?_
  rw [G.1]
  have Gp := G
  replace G := G.new (m := 127) (kd := (4 + 1, 403)) rfl rfl (by decide)
  replace Z := Z.new (m := 127) rfl rfl (by decide)
  replace hg := gn28 (kd := (4 + 1, 403)) hg Gp.1 (by decide)
  generalize gn _ _ = g at G hg ⊢
  clear Gp
  generalize sn _ _ = s at Z ⊢
  refine ag_putR (q := 58) rfl rfl fl_Mo_30 rfl rfl (G.og rfl (by decide)) ?_
  replace G := G.put (i := 112) (i' := 113) (a := 120) (f := 8) (b := 126) rfl rfl (by decide) (by decide) (by decide)
  replace hg := gr28 (f := 8) (b := some 126) (a := 120) (by decide) hg
  generalize gr _ _ _ _ = g at G hg ⊢
  refine aw_aload_n (q := 59) (j := 0) rfl rfl rfl (List.mem_of_getElem? (i := 0) rfl) ?_
  refine aw_bipush (q := 61) (v := 20) rfl rfl (by decide) ?_
  refine ag_newarray (q := 63) (t := 4) (N := 20) (k' := 7) (n' := 5632) rfl rfl (by decide) rfl ac_long (by decide) (by decide) (by decide) rfl rfl (by decide) (by decide) ?_
  rw [G.1]
  have Gp := G
  replace G := G.new (m := 128) (kd := (4 + 1, 20)) rfl rfl (by decide)
  replace Z := Z.new (m := 128) rfl rfl (by decide)
  replace hg := gn28 (kd := (4 + 1, 20)) hg Gp.1 (by decide)
  generalize gn _ _ = g at G hg ⊢
  clear Gp
  generalize sn _ _ = s at Z ⊢
  refine ag_putR (q := 66) rfl rfl fl_Mo_34 rfl rfl (G.og rfl (by decide)) ?_
  replace G := G.put (i := 113) (i' := 114) (a := 120) (f := 9) (b := 127) rfl rfl (by decide) (by decide) (by decide)
  replace hg := gr28 (f := 9) (b := some 127) (a := 120) (by decide) hg
  generalize gr _ _ _ _ = g at G hg ⊢
  refine aw_aload_n (q := 67) (j := 0) rfl rfl rfl (List.mem_of_getElem? (i := 0) rfl) ?_
  refine aw_iconst (q := 68) (v := -1) rfl rfl (by decide) ?_
  refine ag_putI (q := 71) rfl rfl fl_Mo_37 rfl rfl (G.og rfl (by decide)) ?_
  replace Z := Z.wi (a := 120) (k := 17) (v := -1) (by decide) (by decide)
  generalize wi _ _ _ _ = s at Z ⊢
  refine aw_aload_n (q := 72) (j := 0) rfl rfl rfl (List.mem_of_getElem? (i := 0) rfl) ?_
  refine aw_bipush (q := 74) (v := 20) rfl rfl (by decide) ?_
  refine ag_newarray (q := 76) (t := 4) (N := 20) (k' := 8) (n' := 5652) rfl rfl (by decide) rfl ac_long (by decide) (by decide) (by decide) rfl rfl (by decide) (by decide) ?_
  rw [G.1]
  have Gp := G
  replace G := G.new (m := 129) (kd := (4 + 1, 20)) rfl rfl (by decide)
  replace Z := Z.new (m := 129) rfl rfl (by decide)
  replace hg := gn28 (kd := (4 + 1, 20)) hg Gp.1 (by decide)
  generalize gn _ _ = g at G hg ⊢
  clear Gp
  generalize sn _ _ = s at Z ⊢
  refine ag_putR (q := 79) rfl rfl fl_Mo_40 rfl rfl (G.og rfl (by decide)) ?_
  replace G := G.put (i := 114) (i' := 115) (a := 120) (f := 21) (b := 128) rfl rfl (by decide) (by decide) (by decide)
  replace hg := gr28 (f := 21) (b := some 128) (a := 120) (by decide) hg
  generalize gr _ _ _ _ = g at G hg ⊢
  refine aw_aload_n (q := 80) (j := 0) rfl rfl rfl (List.mem_of_getElem? (i := 0) rfl) ?_
  refine aw_bipush (q := 82) (v := 20) rfl rfl (by decide) ?_
  refine ag_newarray (q := 84) (t := 0) (N := 20) (k' := 9) (n' := 5672) rfl rfl (by decide) rfl ac_int (by decide) (by decide) (by decide) rfl rfl (by decide) (by decide) ?_
  rw [G.1]
  have Gp := G
  replace G := G.new (m := 130) (kd := (0 + 1, 20)) rfl rfl (by decide)
  replace Z := Z.new (m := 130) rfl rfl (by decide)
  replace hg := gn28 (kd := (0 + 1, 20)) hg Gp.1 (by decide)
  generalize gn _ _ = g at G hg ⊢
  clear Gp
  generalize sn _ _ = s at Z ⊢
  refine ag_putR (q := 87) rfl rfl fl_Mo_43 rfl rfl (G.og rfl (by decide)) ?_
  replace G := G.put (i := 115) (i' := 116) (a := 120) (f := 22) (b := 129) rfl rfl (by decide) (by decide) (by decide)
  replace hg := gr28 (f := 22) (b := some 129) (a := 120) (by decide) hg
  generalize gr _ _ _ _ = g at G hg ⊢
  refine aw_aload_n (q := 88) (j := 0) rfl rfl rfl (List.mem_of_getElem? (i := 0) rfl) ?_
  refine aw_bipush (q := 90) (v := 20) rfl rfl (by decide) ?_
  refine ag_newarray (q := 92) (t := 0) (N := 20) (k' := 10) (n' := 5692) rfl rfl (by decide) rfl ac_int (by decide) (by decide) (by decide) rfl rfl (by decide) (by decide) ?_
  rw [G.1]
  have Gp := G
  replace G := G.new (m := 131) (kd := (0 + 1, 20)) rfl rfl (by decide)
  replace Z := Z.new (m := 131) rfl rfl (by decide)
  replace hg := gn28 (kd := (0 + 1, 20)) hg Gp.1 (by decide)
  generalize gn _ _ = g at G hg ⊢
  clear Gp
  generalize sn _ _ = s at Z ⊢
  refine ag_putR (q := 95) rfl rfl fl_Mo_46 rfl rfl (G.og rfl (by decide)) ?_
  replace G := G.put (i := 116) (i' := 117) (a := 120) (f := 23) (b := 130) rfl rfl (by decide) (by decide) (by decide)
  replace hg := gr28 (f := 23) (b := some 130) (a := 120) (by decide) hg
  generalize gr _ _ _ _ = g at G hg ⊢
  refine aw_aload_n (q := 96) (j := 0) rfl rfl rfl (List.mem_of_getElem? (i := 0) rfl) ?_
  refine aw_iconst (q := 97) (v := 2) rfl rfl (by decide) ?_
  refine ag_newarray (q := 99) (t := 0) (N := 2) (k' := 11) (n' := 5694) rfl rfl (by decide) rfl ac_int (by decide) (by decide) (by decide) rfl rfl (by decide) (by decide) ?_
  rw [G.1]
  have Gp := G
  replace G := G.new (m := 132) (kd := (0 + 1, 2)) rfl rfl (by decide)
  replace Z := Z.new (m := 132) rfl rfl (by decide)
  replace hg := gn28 (kd := (0 + 1, 2)) hg Gp.1 (by decide)
  generalize gn _ _ = g at G hg ⊢
  clear Gp
  generalize sn _ _ = s at Z ⊢
  refine ag_putR (q := 102) rfl rfl fl_Mo_49 rfl rfl (G.og rfl (by decide)) ?_
  replace G := G.put (i := 117) (i' := 118) (a := 120) (f := 24) (b := 131) rfl rfl (by decide) (by decide) (by decide)
  replace hg := gr28 (f := 24) (b := some 131) (a := 120) (by decide) hg
  generalize gr _ _ _ _ = g at G hg ⊢
  refine aw_aload_n (q := 103) (j := 0) rfl rfl rfl (List.mem_of_getElem? (i := 0) rfl) ?_
  refine aw_bipush (q := 105) (v := 12) rfl rfl (by decide) ?_
  refine ag_newarray (q := 107) (t := 0) (N := 12) (k' := 12) (n' := 5706) rfl rfl (by decide) rfl ac_int (by decide) (by decide) (by decide) rfl rfl (by decide) (by decide) ?_
  rw [G.1]
  have Gp := G
  replace G := G.new (m := 133) (kd := (0 + 1, 12)) rfl rfl (by decide)
  replace Z := Z.new (m := 133) rfl rfl (by decide)
  replace hg := gn28 (kd := (0 + 1, 12)) hg Gp.1 (by decide)
  generalize gn _ _ = g at G hg ⊢
  clear Gp
  generalize sn _ _ = s at Z ⊢
  refine ag_putR (q := 110) rfl rfl fl_Mo_52 rfl rfl (G.og rfl (by decide)) ?_
  replace G := G.put (i := 118) (i' := 119) (a := 120) (f := 25) (b := 132) rfl rfl (by decide) (by decide) (by decide)
  replace hg := gr28 (f := 25) (b := some 132) (a := 120) (by decide) hg
  generalize gr _ _ _ _ = g at G hg ⊢
  refine aw_aload_n (q := 111) (j := 0) rfl rfl rfl (List.mem_of_getElem? (i := 0) rfl) ?_
  refine aw_bipush (q := 113) (v := 12) rfl rfl (by decide) ?_
  refine ag_newarray (q := 115) (t := 0) (N := 12) (k' := 13) (n' := 5718) rfl rfl (by decide) rfl ac_int (by decide) (by decide) (by decide) rfl rfl (by decide) (by decide) ?_
  rw [G.1]
  have Gp := G
  replace G := G.new (m := 134) (kd := (0 + 1, 12)) rfl rfl (by decide)
  replace Z := Z.new (m := 134) rfl rfl (by decide)
  replace hg := gn28 (kd := (0 + 1, 12)) hg Gp.1 (by decide)
  generalize gn _ _ = g at G hg ⊢
  clear Gp
  generalize sn _ _ = s at Z ⊢
  refine ag_putR (q := 118) rfl rfl fl_Mo_55 rfl rfl (G.og rfl (by decide)) ?_
  replace G := G.put (i := 119) (i' := 120) (a := 120) (f := 26) (b := 133) rfl rfl (by decide) (by decide) (by decide)
  replace hg := gr28 (f := 26) (b := some 133) (a := 120) (by decide) hg
  generalize gr _ _ _ _ = g at G hg ⊢
  refine aw_aload_n (q := 119) (j := 0) rfl rfl rfl (List.mem_of_getElem? (i := 0) rfl) ?_
  refine aw_iconst (q := 120) (v := 2) rfl rfl (by decide) ?_
  refine ag_newarray (q := 122) (t := 0) (N := 2) (k' := 14) (n' := 5720) rfl rfl (by decide) rfl ac_int (by decide) (by decide) (by decide) rfl rfl (by decide) (by decide) ?_
  rw [G.1]
  have Gp := G
  replace G := G.new (m := 135) (kd := (0 + 1, 2)) rfl rfl (by decide)
  replace Z := Z.new (m := 135) rfl rfl (by decide)
  replace hg := gn28 (kd := (0 + 1, 2)) hg Gp.1 (by decide)
  generalize gn _ _ = g at G hg ⊢
  clear Gp
  generalize sn _ _ = s at Z ⊢
  refine ag_putR (q := 125) rfl rfl fl_Mo_58 rfl rfl (G.og rfl (by decide)) ?_
  replace G := G.put (i := 120) (i' := 121) (a := 120) (f := 27) (b := 134) rfl rfl (by decide) (by decide) (by decide)
  replace hg := gr28 (f := 27) (b := some 134) (a := 120) (by decide) hg
  generalize gr _ _ _ _ = g at G hg ⊢
  refine aw_aload_n (q := 126) (j := 0) rfl rfl rfl (List.mem_of_getElem? (i := 0) rfl) ?_
  refine aw_bipush (q := 128) (v := 12) rfl rfl (by decide) ?_
  refine ag_newarray (q := 130) (t := 0) (N := 12) (k' := 15) (n' := 5732) rfl rfl (by decide) rfl ac_int (by decide) (by decide) (by decide) rfl rfl (by decide) (by decide) ?_
  rw [G.1]
  have Gp := G
  replace G := G.new (m := 136) (kd := (0 + 1, 12)) rfl rfl (by decide)
  replace Z := Z.new (m := 136) rfl rfl (by decide)
  replace hg := gn28 (kd := (0 + 1, 12)) hg Gp.1 (by decide)
  generalize gn _ _ = g at G hg ⊢
  clear Gp
  generalize sn _ _ = s at Z ⊢
  refine ag_putR (q := 133) rfl rfl fl_Mo_61 rfl rfl (G.og rfl (by decide)) ?_
  replace G := G.put (i := 121) (i' := 122) (a := 120) (f := 28) (b := 135) rfl rfl (by decide) (by decide) (by decide)
  replace hg := gr28 (f := 28) (b := some 135) (a := 120) (by decide) hg
  generalize gr _ _ _ _ = g at G hg ⊢
  refine aw_aload_n (q := 134) (j := 0) rfl rfl rfl (List.mem_of_getElem? (i := 0) rfl) ?_
  refine aw_bipush (q := 136) (v := 12) rfl rfl (by decide) ?_
  refine ag_newarray (q := 138) (t := 0) (N := 12) (k' := 16) (n' := 5744) rfl rfl (by decide) rfl ac_int (by decide) (by decide) (by decide) rfl rfl (by decide) (by decide) ?_
  rw [G.1]
  have Gp := G
  replace G := G.new (m := 137) (kd := (0 + 1, 12)) rfl rfl (by decide)
  replace Z := Z.new (m := 137) rfl rfl (by decide)
  replace hg := gn28 (kd := (0 + 1, 12)) hg Gp.1 (by decide)
  generalize gn _ _ = g at G hg ⊢
  clear Gp
  generalize sn _ _ = s at Z ⊢
  refine ag_putR (q := 141) rfl rfl fl_Mo_64 rfl rfl (G.og rfl (by decide)) ?_
  replace G := G.put (i := 122) (i' := 123) (a := 120) (f := 29) (b := 136) rfl rfl (by decide) (by decide) (by decide)
  replace hg := gr28 (f := 29) (b := some 136) (a := 120) (by decide) hg
  generalize gr _ _ _ _ = g at G hg ⊢
  refine aw_aload_n (q := 142) (j := 0) rfl rfl rfl (List.mem_of_getElem? (i := 0) rfl) ?_
  refine aw_iconst (q := 143) (v := 2) rfl rfl (by decide) ?_
  refine ag_newarray (q := 145) (t := 0) (N := 2) (k' := 17) (n' := 5746) rfl rfl (by decide) rfl ac_int (by decide) (by decide) (by decide) rfl rfl (by decide) (by decide) ?_
  rw [G.1]
  have Gp := G
  replace G := G.new (m := 138) (kd := (0 + 1, 2)) rfl rfl (by decide)
  replace Z := Z.new (m := 138) rfl rfl (by decide)
  replace hg := gn28 (kd := (0 + 1, 2)) hg Gp.1 (by decide)
  generalize gn _ _ = g at G hg ⊢
  clear Gp
  generalize sn _ _ = s at Z ⊢
  refine ag_putR (q := 148) rfl rfl fl_Mo_67 rfl rfl (G.og rfl (by decide)) ?_
  replace G := G.put (i := 123) (i' := 124) (a := 120) (f := 30) (b := 137) rfl rfl (by decide) (by decide) (by decide)
  replace hg := gr28 (f := 30) (b := some 137) (a := 120) (by decide) hg
  generalize gr _ _ _ _ = g at G hg ⊢
  refine aw_aload_n (q := 149) (j := 0) rfl rfl rfl (List.mem_of_getElem? (i := 0) rfl) ?_
  refine aw_bipush (q := 151) (v := 16) rfl rfl (by decide) ?_
  refine ag_newarray (q := 153) (t := 0) (N := 16) (k' := 18) (n' := 5762) rfl rfl (by decide) rfl ac_int (by decide) (by decide) (by decide) rfl rfl (by decide) (by decide) ?_
  rw [G.1]
  have Gp := G
  replace G := G.new (m := 139) (kd := (0 + 1, 16)) rfl rfl (by decide)
  replace Z := Z.new (m := 139) rfl rfl (by decide)
  replace hg := gn28 (kd := (0 + 1, 16)) hg Gp.1 (by decide)
  generalize gn _ _ = g at G hg ⊢
  clear Gp
  generalize sn _ _ = s at Z ⊢
  refine ag_putR (q := 156) rfl rfl fl_Mo_70 rfl rfl (G.og rfl (by decide)) ?_
  replace G := G.put (i := 124) (i' := 125) (a := 120) (f := 31) (b := 138) rfl rfl (by decide) (by decide) (by decide)
  replace hg := gr28 (f := 31) (b := some 138) (a := 120) (by decide) hg
  generalize gr _ _ _ _ = g at G hg ⊢
  refine aw_aload_n (q := 157) (j := 0) rfl rfl rfl (List.mem_of_getElem? (i := 0) rfl) ?_
  refine aw_bipush (q := 159) (v := 16) rfl rfl (by decide) ?_
  refine ag_newarray (q := 161) (t := 0) (N := 16) (k' := 19) (n' := 5778) rfl rfl (by decide) rfl ac_int (by decide) (by decide) (by decide) rfl rfl (by decide) (by decide) ?_
  rw [G.1]
  have Gp := G
  replace G := G.new (m := 140) (kd := (0 + 1, 16)) rfl rfl (by decide)
  replace Z := Z.new (m := 140) rfl rfl (by decide)
  replace hg := gn28 (kd := (0 + 1, 16)) hg Gp.1 (by decide)
  generalize gn _ _ = g at G hg ⊢
  clear Gp
  generalize sn _ _ = s at Z ⊢
  refine ag_putR (q := 164) rfl rfl fl_Mo_73 rfl rfl (G.og rfl (by decide)) ?_
  replace G := G.put (i := 125) (i' := 126) (a := 120) (f := 32) (b := 139) rfl rfl (by decide) (by decide) (by decide)
  replace hg := gr28 (f := 32) (b := some 139) (a := 120) (by decide) hg
  generalize gr _ _ _ _ = g at G hg ⊢
  refine aw_aload_n (q := 165) (j := 0) rfl rfl rfl (List.mem_of_getElem? (i := 0) rfl) ?_
  refine aw_bipush (q := 167) (v := 16) rfl rfl (by decide) ?_
  refine ag_newarray (q := 169) (t := 0) (N := 16) (k' := 20) (n' := 5794) rfl rfl (by decide) rfl ac_int (by decide) (by decide) (by decide) rfl rfl (by decide) (by decide) ?_
  rw [G.1]
  have Gp := G
  replace G := G.new (m := 141) (kd := (0 + 1, 16)) rfl rfl (by decide)
  replace Z := Z.new (m := 141) rfl rfl (by decide)
  replace hg := gn28 (kd := (0 + 1, 16)) hg Gp.1 (by decide)
  generalize gn _ _ = g at G hg ⊢
  clear Gp
  generalize sn _ _ = s at Z ⊢
  refine ag_putR (q := 172) rfl rfl fl_Mo_76 rfl rfl (G.og rfl (by decide)) ?_
  replace G := G.put (i := 126) (i' := 127) (a := 120) (f := 33) (b := 140) rfl rfl (by decide) (by decide) (by decide)
  replace hg := gr28 (f := 33) (b := some 140) (a := 120) (by decide) hg
  generalize gr _ _ _ _ = g at G hg ⊢
  refine aw_aload_n (q := 173) (j := 0) rfl rfl rfl (List.mem_of_getElem? (i := 0) rfl) ?_
  refine aw_bipush (q := 175) (v := 16) rfl rfl (by decide) ?_
  refine ag_newarray (q := 177) (t := 0) (N := 16) (k' := 21) (n' := 5810) rfl rfl (by decide) rfl ac_int (by decide) (by decide) (by decide) rfl rfl (by decide) (by decide) ?_
  rw [G.1]
  have Gp := G
  replace G := G.new (m := 142) (kd := (0 + 1, 16)) rfl rfl (by decide)
  replace Z := Z.new (m := 142) rfl rfl (by decide)
  replace hg := gn28 (kd := (0 + 1, 16)) hg Gp.1 (by decide)
  generalize gn _ _ = g at G hg ⊢
  clear Gp
  generalize sn _ _ = s at Z ⊢
  refine ag_putR (q := 180) rfl rfl fl_Mo_79 rfl rfl (G.og rfl (by decide)) ?_
  replace G := G.put (i := 127) (i' := 128) (a := 120) (f := 34) (b := 141) rfl rfl (by decide) (by decide) (by decide)
  replace hg := gr28 (f := 34) (b := some 141) (a := 120) (by decide) hg
  generalize gr _ _ _ _ = g at G hg ⊢
  refine aw_aload_n (q := 181) (j := 0) rfl rfl rfl (List.mem_of_getElem? (i := 0) rfl) ?_
  refine aw_iconst (q := 182) (v := 2) rfl rfl (by decide) ?_
  refine ag_newarray (q := 184) (t := 0) (N := 2) (k' := 22) (n' := 5812) rfl rfl (by decide) rfl ac_int (by decide) (by decide) (by decide) rfl rfl (by decide) (by decide) ?_
  rw [G.1]
  have Gp := G
  replace G := G.new (m := 143) (kd := (0 + 1, 2)) rfl rfl (by decide)
  replace Z := Z.new (m := 143) rfl rfl (by decide)
  replace hg := gn28 (kd := (0 + 1, 2)) hg Gp.1 (by decide)
  generalize gn _ _ = g at G hg ⊢
  clear Gp
  generalize sn _ _ = s at Z ⊢
  refine ag_putR (q := 187) rfl rfl fl_Mo_82 rfl rfl (G.og rfl (by decide)) ?_
  replace G := G.put (i := 128) (i' := 129) (a := 120) (f := 35) (b := 142) rfl rfl (by decide) (by decide) (by decide)
  replace hg := gr28 (f := 35) (b := some 142) (a := 120) (by decide) hg
  generalize gr _ _ _ _ = g at G hg ⊢
  refine aw_aload_n (q := 188) (j := 0) rfl rfl rfl (List.mem_of_getElem? (i := 0) rfl) ?_
  refine aw_bipush (q := 190) (v := 10) rfl rfl (by decide) ?_
  refine ag_newarray (q := 192) (t := 0) (N := 10) (k' := 23) (n' := 5822) rfl rfl (by decide) rfl ac_int (by decide) (by decide) (by decide) rfl rfl (by decide) (by decide) ?_
  rw [G.1]
  have Gp := G
  replace G := G.new (m := 144) (kd := (0 + 1, 10)) rfl rfl (by decide)
  replace Z := Z.new (m := 144) rfl rfl (by decide)
  replace hg := gn28 (kd := (0 + 1, 10)) hg Gp.1 (by decide)
  generalize gn _ _ = g at G hg ⊢
  clear Gp
  generalize sn _ _ = s at Z ⊢
  refine ag_putR (q := 195) rfl rfl fl_Mo_85 rfl rfl (G.og rfl (by decide)) ?_
  replace G := G.put (i := 129) (i' := 130) (a := 120) (f := 36) (b := 143) rfl rfl (by decide) (by decide) (by decide)
  replace hg := gr28 (f := 36) (b := some 143) (a := 120) (by decide) hg
  generalize gr _ _ _ _ = g at G hg ⊢
  refine aw_aload_n (q := 196) (j := 0) rfl rfl rfl (List.mem_of_getElem? (i := 0) rfl) ?_
  refine aw_bipush (q := 198) (v := 10) rfl rfl (by decide) ?_
  refine ag_newarray (q := 200) (t := 0) (N := 10) (k' := 24) (n' := 5832) rfl rfl (by decide) rfl ac_int (by decide) (by decide) (by decide) rfl rfl (by decide) (by decide) ?_
  rw [G.1]
  have Gp := G
  replace G := G.new (m := 145) (kd := (0 + 1, 10)) rfl rfl (by decide)
  replace Z := Z.new (m := 145) rfl rfl (by decide)
  replace hg := gn28 (kd := (0 + 1, 10)) hg Gp.1 (by decide)
  generalize gn _ _ = g at G hg ⊢
  clear Gp
  generalize sn _ _ = s at Z ⊢
  refine ag_putR (q := 203) rfl rfl fl_Mo_88 rfl rfl (G.og rfl (by decide)) ?_
  replace G := G.put (i := 130) (i' := 131) (a := 120) (f := 37) (b := 144) rfl rfl (by decide) (by decide) (by decide)
  replace hg := gr28 (f := 37) (b := some 144) (a := 120) (by decide) hg
  generalize gr _ _ _ _ = g at G hg ⊢
  refine aw_aload_n (q := 204) (j := 0) rfl rfl rfl (List.mem_of_getElem? (i := 0) rfl) ?_
  refine aw_bipush (q := 206) (v := 40) rfl rfl (by decide) ?_
  refine ag_newarray (q := 208) (t := 0) (N := 40) (k' := 25) (n' := 5872) rfl rfl (by decide) rfl ac_int (by decide) (by decide) (by decide) rfl rfl (by decide) (by decide) ?_
  rw [G.1]
  have Gp := G
  replace G := G.new (m := 146) (kd := (0 + 1, 40)) rfl rfl (by decide)
  replace Z := Z.new (m := 146) rfl rfl (by decide)
  replace hg := gn28 (kd := (0 + 1, 40)) hg Gp.1 (by decide)
  generalize gn _ _ = g at G hg ⊢
  clear Gp
  generalize sn _ _ = s at Z ⊢
  refine ag_putR (q := 211) rfl rfl fl_Mo_91 rfl rfl (G.og rfl (by decide)) ?_
  replace G := G.put (i := 131) (i' := 132) (a := 120) (f := 38) (b := 145) rfl rfl (by decide) (by decide) (by decide)
  replace hg := gr28 (f := 38) (b := some 145) (a := 120) (by decide) hg
  generalize gr _ _ _ _ = g at G hg ⊢
  refine aw_aload_n (q := 212) (j := 0) rfl rfl rfl (List.mem_of_getElem? (i := 0) rfl) ?_
  refine aw_bipush (q := 214) (v := 40) rfl rfl (by decide) ?_
  refine ag_newarray (q := 216) (t := 0) (N := 40) (k' := 26) (n' := 5912) rfl rfl (by decide) rfl ac_int (by decide) (by decide) (by decide) rfl rfl (by decide) (by decide) ?_
  rw [G.1]
  have Gp := G
  replace G := G.new (m := 147) (kd := (0 + 1, 40)) rfl rfl (by decide)
  replace Z := Z.new (m := 147) rfl rfl (by decide)
  replace hg := gn28 (kd := (0 + 1, 40)) hg Gp.1 (by decide)
  generalize gn _ _ = g at G hg ⊢
  clear Gp
  generalize sn _ _ = s at Z ⊢
  refine ag_putR (q := 219) rfl rfl fl_Mo_94 rfl rfl (G.og rfl (by decide)) ?_
  replace G := G.put (i := 132) (i' := 133) (a := 120) (f := 39) (b := 146) rfl rfl (by decide) (by decide) (by decide)
  replace hg := gr28 (f := 39) (b := some 146) (a := 120) (by decide) hg
  generalize gr _ _ _ _ = g at G hg ⊢
  refine aw_aload_n (q := 220) (j := 0) rfl rfl rfl (List.mem_of_getElem? (i := 0) rfl) ?_
  refine aw_iconst (q := 221) (v := 2) rfl rfl (by decide) ?_
  refine ag_newarray (q := 223) (t := 0) (N := 2) (k' := 27) (n' := 5914) rfl rfl (by decide) rfl ac_int (by decide) (by decide) (by decide) rfl rfl (by decide) (by decide) ?_
  rw [G.1]
  have Gp := G
  replace G := G.new (m := 148) (kd := (0 + 1, 2)) rfl rfl (by decide)
  replace Z := Z.new (m := 148) rfl rfl (by decide)
  replace hg := gn28 (kd := (0 + 1, 2)) hg Gp.1 (by decide)
  generalize gn _ _ = g at G hg ⊢
  clear Gp
  generalize sn _ _ = s at Z ⊢
  refine ag_putR (q := 226) rfl rfl fl_Mo_97 rfl rfl (G.og rfl (by decide)) ?_
  replace G := G.put (i := 133) (i' := 134) (a := 120) (f := 40) (b := 147) rfl rfl (by decide) (by decide) (by decide)
  replace hg := gr28 (f := 40) (b := some 147) (a := 120) (by decide) hg
  generalize gr _ _ _ _ = g at G hg ⊢
  refine aw_aload_n (q := 227) (j := 0) rfl rfl rfl (List.mem_of_getElem? (i := 0) rfl) ?_
  refine aw_iconst (q := 228) (v := 2) rfl rfl (by decide) ?_
  refine ag_newarray (q := 230) (t := 0) (N := 2) (k' := 28) (n' := 5916) rfl rfl (by decide) rfl ac_int (by decide) (by decide) (by decide) rfl rfl (by decide) (by decide) ?_
  rw [G.1]
  have Gp := G
  replace G := G.new (m := 149) (kd := (0 + 1, 2)) rfl rfl (by decide)
  replace Z := Z.new (m := 149) rfl rfl (by decide)
  replace hg := gn28 (kd := (0 + 1, 2)) hg Gp.1 (by decide)
  generalize gn _ _ = g at G hg ⊢
  clear Gp
  generalize sn _ _ = s at Z ⊢
  refine ag_putR (q := 233) rfl rfl fl_Mo_100 rfl rfl (G.og rfl (by decide)) ?_
  replace G := G.put (i := 134) (i' := 135) (a := 120) (f := 41) (b := 148) rfl rfl (by decide) (by decide) (by decide)
  replace hg := gr28 (f := 41) (b := some 148) (a := 120) (by decide) hg
  generalize gr _ _ _ _ = g at G hg ⊢
  refine aw_aload_n (q := 234) (j := 0) rfl rfl rfl (List.mem_of_getElem? (i := 0) rfl) ?_
  refine aw_iconst (q := 235) (v := 2) rfl rfl (by decide) ?_
  refine ag_newarray (q := 237) (t := 0) (N := 2) (k' := 29) (n' := 5918) rfl rfl (by decide) rfl ac_int (by decide) (by decide) (by decide) rfl rfl (by decide) (by decide) ?_
  rw [G.1]
  have Gp := G
  replace G := G.new (m := 150) (kd := (0 + 1, 2)) rfl rfl (by decide)
  replace Z := Z.new (m := 150) rfl rfl (by decide)
  replace hg := gn28 (kd := (0 + 1, 2)) hg Gp.1 (by decide)
  generalize gn _ _ = g at G hg ⊢
  clear Gp
  generalize sn _ _ = s at Z ⊢
  refine ag_putR (q := 240) rfl rfl fl_Mo_103 rfl rfl (G.og rfl (by decide)) ?_
  replace G := G.put (i := 135) (i' := 136) (a := 120) (f := 42) (b := 149) rfl rfl (by decide) (by decide) (by decide)
  replace hg := gr28 (f := 42) (b := some 149) (a := 120) (by decide) hg
  generalize gr _ _ _ _ = g at G hg ⊢
  refine aw_aload_n (q := 241) (j := 0) rfl rfl rfl (List.mem_of_getElem? (i := 0) rfl) ?_
  refine aw_bipush (q := 243) (v := 6) rfl rfl (by decide) ?_
  refine ag_newarray (q := 245) (t := 0) (N := 6) (k' := 30) (n' := 5924) rfl rfl (by decide) rfl ac_int (by decide) (by decide) (by decide) rfl rfl (by decide) (by decide) ?_
  rw [G.1]
  have Gp := G
  replace G := G.new (m := 151) (kd := (0 + 1, 6)) rfl rfl (by decide)
  replace Z := Z.new (m := 151) rfl rfl (by decide)
  replace hg := gn28 (kd := (0 + 1, 6)) hg Gp.1 (by decide)
  generalize gn _ _ = g at G hg ⊢
  clear Gp
  generalize sn _ _ = s at Z ⊢
  refine ag_putR (q := 248) rfl rfl fl_Mo_106 rfl rfl (G.og rfl (by decide)) ?_
  replace G := G.put (i := 136) (i' := 137) (a := 120) (f := 43) (b := 150) rfl rfl (by decide) (by decide) (by decide)
  replace hg := gr28 (f := 43) (b := some 150) (a := 120) (by decide) hg
  generalize gr _ _ _ _ = g at G hg ⊢
  refine aw_aload_n (q := 249) (j := 0) rfl rfl rfl (List.mem_of_getElem? (i := 0) rfl) ?_
  refine aw_bipush (q := 251) (v := 6) rfl rfl (by decide) ?_
  refine ag_newarray (q := 253) (t := 0) (N := 6) (k' := 31) (n' := 5930) rfl rfl (by decide) rfl ac_int (by decide) (by decide) (by decide) rfl rfl (by decide) (by decide) ?_
  rw [G.1]
  have Gp := G
  replace G := G.new (m := 152) (kd := (0 + 1, 6)) rfl rfl (by decide)
  replace Z := Z.new (m := 152) rfl rfl (by decide)
  replace hg := gn28 (kd := (0 + 1, 6)) hg Gp.1 (by decide)
  generalize gn _ _ = g at G hg ⊢
  clear Gp
  generalize sn _ _ = s at Z ⊢
  refine ag_putR (q := 256) rfl rfl fl_Mo_109 rfl rfl (G.og rfl (by decide)) ?_
  replace G := G.put (i := 137) (i' := 138) (a := 120) (f := 44) (b := 151) rfl rfl (by decide) (by decide) (by decide)
  replace hg := gr28 (f := 44) (b := some 151) (a := 120) (by decide) hg
  generalize gr _ _ _ _ = g at G hg ⊢
  refine aw_aload_n (q := 257) (j := 0) rfl rfl rfl (List.mem_of_getElem? (i := 0) rfl) ?_
  refine aw_sipush (q := 260) (v := 260) rfl rfl (by decide) ?_
  refine ag_newarray (q := 262) (t := 2) (N := 260) (k' := 32) (n' := 6190) rfl rfl (by decide) rfl ac_boolean (by decide) (by decide) (by decide) rfl rfl (by decide) (by decide) ?_
  rw [G.1]
  have Gp := G
  replace G := G.new (m := 153) (kd := (2 + 1, 260)) rfl rfl (by decide)
  replace Z := Z.new (m := 153) rfl rfl (by decide)
  replace hg := gn28 (kd := (2 + 1, 260)) hg Gp.1 (by decide)
  generalize gn _ _ = g at G hg ⊢
  clear Gp
  generalize sn _ _ = s at Z ⊢
  refine ag_putR (q := 265) rfl rfl fl_Mo_112 rfl rfl (G.og rfl (by decide)) ?_
  replace G := G.put (i := 138) (i' := 139) (a := 120) (f := 46) (b := 152) rfl rfl (by decide) (by decide) (by decide)
  replace hg := gr28 (f := 46) (b := some 152) (a := 120) (by decide) hg
  generalize gr _ _ _ _ = g at G hg ⊢
  refine aw_aload_n (q := 266) (j := 0) rfl rfl rfl (List.mem_of_getElem? (i := 0) rfl) ?_
  refine aw_sipush (q := 269) (v := 260) rfl rfl (by decide) ?_
  refine ag_newarray (q := 271) (t := 0) (N := 260) (k' := 33) (n' := 6450) rfl rfl (by decide) rfl ac_int (by decide) (by decide) (by decide) rfl rfl (by decide) (by decide) ?_
  rw [G.1]
  have Gp := G
  replace G := G.new (m := 154) (kd := (0 + 1, 260)) rfl rfl (by decide)
  replace Z := Z.new (m := 154) rfl rfl (by decide)
  replace hg := gn28 (kd := (0 + 1, 260)) hg Gp.1 (by decide)
  generalize gn _ _ = g at G hg ⊢
  clear Gp
  generalize sn _ _ = s at Z ⊢
  refine ag_putR (q := 274) rfl rfl fl_Mo_116 rfl rfl (G.og rfl (by decide)) ?_
  replace G := G.put (i := 139) (i' := 140) (a := 120) (f := 47) (b := 153) rfl rfl (by decide) (by decide) (by decide)
  replace hg := gr28 (f := 47) (b := some 153) (a := 120) (by decide) hg
  generalize gr _ _ _ _ = g at G hg ⊢
  refine aw_aload_n (q := 275) (j := 0) rfl rfl rfl (List.mem_of_getElem? (i := 0) rfl) ?_
  refine aw_sipush (q := 278) (v := 260) rfl rfl (by decide) ?_
  refine ag_newarray (q := 280) (t := 0) (N := 260) (k' := 34) (n' := 6710) rfl rfl (by decide) rfl ac_int (by decide) (by decide) (by decide) rfl rfl (by decide) (by decide) ?_
  rw [G.1]
  have Gp := G
  replace G := G.new (m := 155) (kd := (0 + 1, 260)) rfl rfl (by decide)
  replace Z := Z.new (m := 155) rfl rfl (by decide)
  replace hg := gn28 (kd := (0 + 1, 260)) hg Gp.1 (by decide)
  generalize gn _ _ = g at G hg ⊢
  clear Gp
  generalize sn _ _ = s at Z ⊢
  refine ag_putR (q := 283) rfl rfl fl_Mo_119 rfl rfl (G.og rfl (by decide)) ?_
  replace G := G.put (i := 140) (i' := 141) (a := 120) (f := 48) (b := 154) rfl rfl (by decide) (by decide) (by decide)
  replace hg := gr28 (f := 48) (b := some 154) (a := 120) (by decide) hg
  generalize gr _ _ _ _ = g at G hg ⊢
  refine aw_aload_n (q := 284) (j := 0) rfl rfl rfl (List.mem_of_getElem? (i := 0) rfl) ?_
  refine aw_sipush (q := 287) (v := 260) rfl rfl (by decide) ?_
  refine ag_newarray (q := 289) (t := 0) (N := 260) (k' := 35) (n' := 6970) rfl rfl (by decide) rfl ac_int (by decide) (by decide) (by decide) rfl rfl (by decide) (by decide) ?_
  rw [G.1]
  have Gp := G
  replace G := G.new (m := 156) (kd := (0 + 1, 260)) rfl rfl (by decide)
  replace Z := Z.new (m := 156) rfl rfl (by decide)
  replace hg := gn28 (kd := (0 + 1, 260)) hg Gp.1 (by decide)
  generalize gn _ _ = g at G hg ⊢
  clear Gp
  generalize sn _ _ = s at Z ⊢
  refine ag_putR (q := 292) rfl rfl fl_Mo_122 rfl rfl (G.og rfl (by decide)) ?_
  replace G := G.put (i := 141) (i' := 142) (a := 120) (f := 49) (b := 155) rfl rfl (by decide) (by decide) (by decide)
  replace hg := gr28 (f := 49) (b := some 155) (a := 120) (by decide) hg
  generalize gr _ _ _ _ = g at G hg ⊢
  refine aw_aload_n (q := 293) (j := 0) rfl rfl rfl (List.mem_of_getElem? (i := 0) rfl) ?_
  refine aw_sipush (q := 296) (v := 260) rfl rfl (by decide) ?_
  refine ag_newarray (q := 298) (t := 0) (N := 260) (k' := 36) (n' := 7230) rfl rfl (by decide) rfl ac_int (by decide) (by decide) (by decide) rfl rfl (by decide) (by decide) ?_
  rw [G.1]
  have Gp := G
  replace G := G.new (m := 157) (kd := (0 + 1, 260)) rfl rfl (by decide)
  replace Z := Z.new (m := 157) rfl rfl (by decide)
  replace hg := gn28 (kd := (0 + 1, 260)) hg Gp.1 (by decide)
  generalize gn _ _ = g at G hg ⊢
  clear Gp
  generalize sn _ _ = s at Z ⊢
  refine ag_putR (q := 301) rfl rfl fl_Mo_125 rfl rfl (G.og rfl (by decide)) ?_
  replace G := G.put (i := 142) (i' := 143) (a := 120) (f := 50) (b := 156) rfl rfl (by decide) (by decide) (by decide)
  replace hg := gr28 (f := 50) (b := some 156) (a := 120) (by decide) hg
  generalize gr _ _ _ _ = g at G hg ⊢
  refine aw_aload_n (q := 302) (j := 0) rfl rfl rfl (List.mem_of_getElem? (i := 0) rfl) ?_
  refine aw_sipush (q := 305) (v := 840) rfl rfl (by decide) ?_
  refine ag_newarray (q := 307) (t := 0) (N := 840) (k' := 37) (n' := 8070) rfl rfl (by decide) rfl ac_int (by decide) (by decide) (by decide) rfl rfl (by decide) (by decide) ?_
  rw [G.1]
  have Gp := G
  replace G := G.new (m := 158) (kd := (0 + 1, 840)) rfl rfl (by decide)
  replace Z := Z.new (m := 158) rfl rfl (by decide)
  replace hg := gn28 (kd := (0 + 1, 840)) hg Gp.1 (by decide)
  generalize gn _ _ = g at G hg ⊢
  clear Gp
  generalize sn _ _ = s at Z ⊢
  refine ag_putR (q := 310) rfl rfl fl_Mo_128 rfl rfl (G.og rfl (by decide)) ?_
  replace G := G.put (i := 143) (i' := 144) (a := 120) (f := 52) (b := 157) rfl rfl (by decide) (by decide) (by decide)
  replace hg := gr28 (f := 52) (b := some 157) (a := 120) (by decide) hg
  generalize gr _ _ _ _ = g at G hg ⊢
  refine aw_aload_n (q := 311) (j := 0) rfl rfl rfl (List.mem_of_getElem? (i := 0) rfl) ?_
  refine aw_sipush (q := 314) (v := 840) rfl rfl (by decide) ?_
  refine ag_newarray (q := 316) (t := 0) (N := 840) (k' := 38) (n' := 8910) rfl rfl (by decide) rfl ac_int (by decide) (by decide) (by decide) rfl rfl (by decide) (by decide) ?_
  rw [G.1]
  have Gp := G
  replace G := G.new (m := 159) (kd := (0 + 1, 840)) rfl rfl (by decide)
  replace Z := Z.new (m := 159) rfl rfl (by decide)
  replace hg := gn28 (kd := (0 + 1, 840)) hg Gp.1 (by decide)
  generalize gn _ _ = g at G hg ⊢
  clear Gp
  generalize sn _ _ = s at Z ⊢
  refine ag_putR (q := 319) rfl rfl fl_Mo_131 rfl rfl (G.og rfl (by decide)) ?_
  replace G := G.put (i := 144) (i' := 145) (a := 120) (f := 53) (b := 158) rfl rfl (by decide) (by decide) (by decide)
  replace hg := gr28 (f := 53) (b := some 158) (a := 120) (by decide) hg
  generalize gr _ _ _ _ = g at G hg ⊢
  refine aw_aload_n (q := 320) (j := 0) rfl rfl rfl (List.mem_of_getElem? (i := 0) rfl) ?_
  refine aw_bipush (q := 322) (v := 64) rfl rfl (by decide) ?_
  refine ag_newarray (q := 324) (t := 0) (N := 64) (k' := 39) (n' := 8974) rfl rfl (by decide) rfl ac_int (by decide) (by decide) (by decide) rfl rfl (by decide) (by decide) ?_
  rw [G.1]
  have Gp := G
  replace G := G.new (m := 160) (kd := (0 + 1, 64)) rfl rfl (by decide)
  replace Z := Z.new (m := 160) rfl rfl (by decide)
  replace hg := gn28 (kd := (0 + 1, 64)) hg Gp.1 (by decide)
  generalize gn _ _ = g at G hg ⊢
  clear Gp
  generalize sn _ _ = s at Z ⊢
  refine ag_putR (q := 327) rfl rfl fl_Mo_134 rfl rfl (G.og rfl (by decide)) ?_
  replace G := G.put (i := 145) (i' := 146) (a := 120) (f := 54) (b := 159) rfl rfl (by decide) (by decide) (by decide)
  replace hg := gr28 (f := 54) (b := some 159) (a := 120) (by decide) hg
  generalize gr _ _ _ _ = g at G hg ⊢
  refine aw_aload_n (q := 328) (j := 0) rfl rfl rfl (List.mem_of_getElem? (i := 0) rfl) ?_
  refine aw_bipush (q := 330) (v := 7) rfl rfl (by decide) ?_
  refine ag_newarray (q := 332) (t := 0) (N := 7) (k' := 40) (n' := 8981) rfl rfl (by decide) rfl ac_int (by decide) (by decide) (by decide) rfl rfl (by decide) (by decide) ?_
  rw [G.1]
  have Gp := G
  replace G := G.new (m := 161) (kd := (0 + 1, 7)) rfl rfl (by decide)
  replace Z := Z.new (m := 161) rfl rfl (by decide)
  replace hg := gn28 (kd := (0 + 1, 7)) hg Gp.1 (by decide)
  generalize gn _ _ = g at G hg ⊢
  clear Gp
  generalize sn _ _ = s at Z ⊢
  refine ag_putR (q := 335) rfl rfl fl_Mo_137 rfl rfl (G.og rfl (by decide)) ?_
  replace G := G.put (i := 146) (i' := 147) (a := 120) (f := 56) (b := 160) rfl rfl (by decide) (by decide) (by decide)
  replace hg := gr28 (f := 56) (b := some 160) (a := 120) (by decide) hg
  generalize gr _ _ _ _ = g at G hg ⊢
  refine aw_aload_n (q := 336) (j := 0) rfl rfl rfl (List.mem_of_getElem? (i := 0) rfl) ?_
  refine aw_sipush (q := 339) (v := 400) rfl rfl (by decide) ?_
  refine ag_newarray (q := 341) (t := 0) (N := 400) (k' := 41) (n' := 9381) rfl rfl (by decide) rfl ac_int (by decide) (by decide) (by decide) rfl rfl (by decide) (by decide) ?_
  rw [G.1]
  have Gp := G
  replace G := G.new (m := 162) (kd := (0 + 1, 400)) rfl rfl (by decide)
  replace Z := Z.new (m := 162) rfl rfl (by decide)
  replace hg := gn28 (kd := (0 + 1, 400)) hg Gp.1 (by decide)
  generalize gn _ _ = g at G hg ⊢
  clear Gp
  generalize sn _ _ = s at Z ⊢
  refine ag_putR (q := 344) rfl rfl fl_Mo_140 rfl rfl (G.og rfl (by decide)) ?_
  replace G := G.put (i := 147) (i' := 148) (a := 120) (f := 57) (b := 161) rfl rfl (by decide) (by decide) (by decide)
  replace hg := gr28 (f := 57) (b := some 161) (a := 120) (by decide) hg
  generalize gr _ _ _ _ = g at G hg ⊢
  refine aw_aload_n (q := 345) (j := 0) rfl rfl rfl (List.mem_of_getElem? (i := 0) rfl) ?_
  refine aw_bipush (q := 347) (v := 120) rfl rfl (by decide) ?_
  refine ag_newarray (q := 349) (t := 0) (N := 120) (k' := 42) (n' := 9501) rfl rfl (by decide) rfl ac_int (by decide) (by decide) (by decide) rfl rfl (by decide) (by decide) ?_
  rw [G.1]
  have Gp := G
  replace G := G.new (m := 163) (kd := (0 + 1, 120)) rfl rfl (by decide)
  replace Z := Z.new (m := 163) rfl rfl (by decide)
  replace hg := gn28 (kd := (0 + 1, 120)) hg Gp.1 (by decide)
  generalize gn _ _ = g at G hg ⊢
  clear Gp
  generalize sn _ _ = s at Z ⊢
  refine ag_putR (q := 352) rfl rfl fl_Mo_143 rfl rfl (G.og rfl (by decide)) ?_
  replace G := G.put (i := 148) (i' := 149) (a := 120) (f := 59) (b := 162) rfl rfl (by decide) (by decide) (by decide)
  replace hg := gr28 (f := 59) (b := some 162) (a := 120) (by decide) hg
  generalize gr _ _ _ _ = g at G hg ⊢
  refine aw_aload_n (q := 353) (j := 0) rfl rfl rfl (List.mem_of_getElem? (i := 0) rfl) ?_
  refine aw_bipush (q := 355) (v := 120) rfl rfl (by decide) ?_
  refine ag_newarray (q := 357) (t := 0) (N := 120) (k' := 43) (n' := 9621) rfl rfl (by decide) rfl ac_int (by decide) (by decide) (by decide) rfl rfl (by decide) (by decide) ?_
  rw [G.1]
  have Gp := G
  replace G := G.new (m := 164) (kd := (0 + 1, 120)) rfl rfl (by decide)
  replace Z := Z.new (m := 164) rfl rfl (by decide)
  replace hg := gn28 (kd := (0 + 1, 120)) hg Gp.1 (by decide)
  generalize gn _ _ = g at G hg ⊢
  clear Gp
  generalize sn _ _ = s at Z ⊢
  refine ag_putR (q := 360) rfl rfl fl_Mo_146 rfl rfl (G.og rfl (by decide)) ?_
  replace G := G.put (i := 149) (i' := 150) (a := 120) (f := 60) (b := 163) rfl rfl (by decide) (by decide) (by decide)
  replace hg := gr28 (f := 60) (b := some 163) (a := 120) (by decide) hg
  generalize gr _ _ _ _ = g at G hg ⊢
  refine aw_aload_n (q := 361) (j := 0) rfl rfl rfl (List.mem_of_getElem? (i := 0) rfl) ?_
  refine aw_bipush (q := 363) (v := 6) rfl rfl (by decide) ?_
  refine ag_newarray (q := 365) (t := 0) (N := 6) (k' := 44) (n' := 9627) rfl rfl (by decide) rfl ac_int (by decide) (by decide) (by decide) rfl rfl (by decide) (by decide) ?_
  rw [G.1]
  have Gp := G
  replace G := G.new (m := 165) (kd := (0 + 1, 6)) rfl rfl (by decide)
  replace Z := Z.new (m := 165) rfl rfl (by decide)
  replace hg := gn28 (kd := (0 + 1, 6)) hg Gp.1 (by decide)
  generalize gn _ _ = g at G hg ⊢
  clear Gp
  generalize sn _ _ = s at Z ⊢
  refine ag_putR (q := 368) rfl rfl fl_Mo_149 rfl rfl (G.og rfl (by decide)) ?_
  replace G := G.put (i := 150) (i' := 151) (a := 120) (f := 62) (b := 164) rfl rfl (by decide) (by decide) (by decide)
  replace hg := gr28 (f := 62) (b := some 164) (a := 120) (by decide) hg
  generalize gr _ _ _ _ = g at G hg ⊢
  refine aw_aload_n (q := 369) (j := 0) rfl rfl rfl (List.mem_of_getElem? (i := 0) rfl) ?_
  refine aw_bipush (q := 371) (v := 6) rfl rfl (by decide) ?_
  refine ag_newarray (q := 373) (t := 2) (N := 6) (k' := 45) (n' := 9633) rfl rfl (by decide) rfl ac_boolean (by decide) (by decide) (by decide) rfl rfl (by decide) (by decide) ?_
  rw [G.1]
  have Gp := G
  replace G := G.new (m := 166) (kd := (2 + 1, 6)) rfl rfl (by decide)
  replace Z := Z.new (m := 166) rfl rfl (by decide)
  replace hg := gn28 (kd := (2 + 1, 6)) hg Gp.1 (by decide)
  generalize gn _ _ = g at G hg ⊢
  clear Gp
  generalize sn _ _ = s at Z ⊢
  refine ag_putR (q := 376) rfl rfl fl_Mo_152 rfl rfl (G.og rfl (by decide)) ?_
  replace G := G.put (i := 151) (i' := 152) (a := 120) (f := 63) (b := 165) rfl rfl (by decide) (by decide) (by decide)
  replace hg := gr28 (f := 63) (b := some 165) (a := 120) (by decide) hg
  generalize gr _ _ _ _ = g at G hg ⊢
  refine aw_aload_n (q := 377) (j := 0) rfl rfl rfl (List.mem_of_getElem? (i := 0) rfl) ?_
  refine aw_sipush (q := 380) (v := 4800) rfl rfl (by decide) ?_
  refine ag_newarray (q := 382) (t := 0) (N := 4800) (k' := 46) (n' := 14433) rfl rfl (by decide) rfl ac_int (by decide) (by decide) (by decide) rfl rfl (by decide) (by decide) ?_
  rw [G.1]
  have Gp := G
  replace G := G.new (m := 167) (kd := (0 + 1, 4800)) rfl rfl (by decide)
  replace Z := Z.new (m := 167) rfl rfl (by decide)
  replace hg := gn28 (kd := (0 + 1, 4800)) hg Gp.1 (by decide)
  generalize gn _ _ = g at G hg ⊢
  clear Gp
  generalize sn _ _ = s at Z ⊢
  refine ag_putR (q := 385) rfl rfl fl_Mo_155 rfl rfl (G.og rfl (by decide)) ?_
  replace G := G.put (i := 152) (i' := 153) (a := 120) (f := 65) (b := 166) rfl rfl (by decide) (by decide) (by decide)
  replace hg := gr28 (f := 65) (b := some 166) (a := 120) (by decide) hg
  generalize gr _ _ _ _ = g at G hg ⊢
  refine aw_aload_n (q := 386) (j := 0) rfl rfl rfl (List.mem_of_getElem? (i := 0) rfl) ?_
  refine aw_bipush (q := 388) (v := 20) rfl rfl (by decide) ?_
  refine ag_newarray (q := 390) (t := 0) (N := 20) (k' := 47) (n' := 14453) rfl rfl (by decide) rfl ac_int (by decide) (by decide) (by decide) rfl rfl (by decide) (by decide) ?_
  rw [G.1]
  have Gp := G
  replace G := G.new (m := 168) (kd := (0 + 1, 20)) rfl rfl (by decide)
  replace Z := Z.new (m := 168) rfl rfl (by decide)
  replace hg := gn28 (kd := (0 + 1, 20)) hg Gp.1 (by decide)
  generalize gn _ _ = g at G hg ⊢
  clear Gp
  generalize sn _ _ = s at Z ⊢
  refine ag_putR (q := 393) rfl rfl fl_Mo_158 rfl rfl (G.og rfl (by decide)) ?_
  replace G := G.put (i := 153) (i' := 154) (a := 120) (f := 69) (b := 167) rfl rfl (by decide) (by decide) (by decide)
  replace hg := gr28 (f := 69) (b := some 167) (a := 120) (by decide) hg
  generalize gr _ _ _ _ = g at G hg ⊢
  refine aw_aload_n (q := 394) (j := 0) rfl rfl rfl (List.mem_of_getElem? (i := 0) rfl) ?_
  refine aw_bipush (q := 396) (v := 20) rfl rfl (by decide) ?_
  refine ag_newarray (q := 398) (t := 0) (N := 20) (k' := 48) (n' := 14473) rfl rfl (by decide) rfl ac_int (by decide) (by decide) (by decide) rfl rfl (by decide) (by decide) ?_
  rw [G.1]
  have Gp := G
  replace G := G.new (m := 169) (kd := (0 + 1, 20)) rfl rfl (by decide)
  replace Z := Z.new (m := 169) rfl rfl (by decide)
  replace hg := gn28 (kd := (0 + 1, 20)) hg Gp.1 (by decide)
  generalize gn _ _ = g at G hg ⊢
  clear Gp
  generalize sn _ _ = s at Z ⊢
  refine ag_putR (q := 401) rfl rfl fl_Mo_161 rfl rfl (G.og rfl (by decide)) ?_
  replace G := G.put (i := 154) (i' := 155) (a := 120) (f := 70) (b := 168) rfl rfl (by decide) (by decide) (by decide)
  replace hg := gr28 (f := 70) (b := some 168) (a := 120) (by decide) hg
  generalize gr _ _ _ _ = g at G hg ⊢
  refine aw_aload_n (q := 402) (j := 0) rfl rfl rfl (List.mem_of_getElem? (i := 0) rfl) ?_
  refine aw_bipush (q := 404) (v := 20) rfl rfl (by decide) ?_
  refine ag_newarray (q := 406) (t := 0) (N := 20) (k' := 49) (n' := 14493) rfl rfl (by decide) rfl ac_int (by decide) (by decide) (by decide) rfl rfl (by decide) (by decide) ?_
  rw [G.1]
  have Gp := G
  replace G := G.new (m := 170) (kd := (0 + 1, 20)) rfl rfl (by decide)
  replace Z := Z.new (m := 170) rfl rfl (by decide)
  replace hg := gn28 (kd := (0 + 1, 20)) hg Gp.1 (by decide)
  generalize gn _ _ = g at G hg ⊢
  clear Gp
  generalize sn _ _ = s at Z ⊢
  refine ag_putR (q := 409) rfl rfl fl_Mo_164 rfl rfl (G.og rfl (by decide)) ?_
  replace G := G.put (i := 155) (i' := 156) (a := 120) (f := 71) (b := 169) rfl rfl (by decide) (by decide) (by decide)
  replace hg := gr28 (f := 71) (b := some 169) (a := 120) (by decide) hg
  generalize gr _ _ _ _ = g at G hg ⊢
  refine aw_aload_n (q := 410) (j := 0) rfl rfl rfl (List.mem_of_getElem? (i := 0) rfl) ?_
  refine aw_bipush (q := 412) (v := 20) rfl rfl (by decide) ?_
  refine ag_newarray (q := 414) (t := 0) (N := 20) (k' := 50) (n' := 14513) rfl rfl (by decide) rfl ac_int (by decide) (by decide) (by decide) rfl rfl (by decide) (by decide) ?_
  rw [G.1]
  have Gp := G
  replace G := G.new (m := 171) (kd := (0 + 1, 20)) rfl rfl (by decide)
  replace Z := Z.new (m := 171) rfl rfl (by decide)
  replace hg := gn28 (kd := (0 + 1, 20)) hg Gp.1 (by decide)
  generalize gn _ _ = g at G hg ⊢
  clear Gp
  generalize sn _ _ = s at Z ⊢
  refine ag_putR (q := 417) rfl rfl fl_Mo_167 rfl rfl (G.og rfl (by decide)) ?_
  replace G := G.put (i := 156) (i' := 157) (a := 120) (f := 72) (b := 170) rfl rfl (by decide) (by decide) (by decide)
  replace hg := gr28 (f := 72) (b := some 170) (a := 120) (by decide) hg
  generalize gr _ _ _ _ = g at G hg ⊢
  refine aw_aload_n (q := 418) (j := 0) rfl rfl rfl (List.mem_of_getElem? (i := 0) rfl) ?_
  refine aw_iconst (q := 419) (v := 3) rfl rfl (by decide) ?_
  refine ag_newarray (q := 421) (t := 2) (N := 3) (k' := 51) (n' := 14516) rfl rfl (by decide) rfl ac_boolean (by decide) (by decide) (by decide) rfl rfl (by decide) (by decide) ?_
  rw [G.1]
  have Gp := G
  replace G := G.new (m := 172) (kd := (2 + 1, 3)) rfl rfl (by decide)
  replace Z := Z.new (m := 172) rfl rfl (by decide)
  replace hg := gn28 (kd := (2 + 1, 3)) hg Gp.1 (by decide)
  generalize gn _ _ = g at G hg ⊢
  clear Gp
  generalize sn _ _ = s at Z ⊢
  refine ag_putR (q := 424) rfl rfl fl_Mo_170 rfl rfl (G.og rfl (by decide)) ?_
  replace G := G.put (i := 157) (i' := 158) (a := 120) (f := 73) (b := 171) rfl rfl (by decide) (by decide) (by decide)
  replace hg := gr28 (f := 73) (b := some 171) (a := 120) (by decide) hg
  generalize gr _ _ _ _ = g at G hg ⊢
  refine aw_aload_n (q := 425) (j := 0) rfl rfl rfl (List.mem_of_getElem? (i := 0) rfl) ?_
  refine aw_sipush (q := 428) (v := 360) rfl rfl (by decide) ?_
  refine ag_newarray (q := 430) (t := 0) (N := 360) (k' := 52) (n' := 14876) rfl rfl (by decide) rfl ac_int (by decide) (by decide) (by decide) rfl rfl (by decide) (by decide) ?_
  rw [G.1]
  have Gp := G
  replace G := G.new (m := 173) (kd := (0 + 1, 360)) rfl rfl (by decide)
  replace Z := Z.new (m := 173) rfl rfl (by decide)
  replace hg := gn28 (kd := (0 + 1, 360)) hg Gp.1 (by decide)
  generalize gn _ _ = g at G hg ⊢
  clear Gp
  generalize sn _ _ = s at Z ⊢
  refine ag_putR (q := 433) rfl rfl fl_Mo_173 rfl rfl (G.og rfl (by decide)) ?_
  replace G := G.put (i := 158) (i' := 159) (a := 120) (f := 74) (b := 172) rfl rfl (by decide) (by decide) (by decide)
  replace hg := gr28 (f := 74) (b := some 172) (a := 120) (by decide) hg
  generalize gr _ _ _ _ = g at G hg ⊢
  have hS := G.sx
  have VM : ∀ a, a ≠ 120 → (Vu V0 120 17 (-1)) a = fun _ => 0 := fun a ha => by simp [Vu, ha]; rfl
  have zz : ∀ a, 120 < a → a < 173 → s.1 a = fun _ => 0 := fun a a1 a2 => by rw [Z.2 a (by omega) a2, VM a (by omega)]
  have z120 := Z.2 120 (by decide) (by decide)
  refine aw_aload_n (q := 434) (j := 0) rfl rfl rfl (List.mem_of_getElem? (i := 0) rfl) ?_
  refine aw_iconst (q := 435) (v := 0) rfl rfl (by decide) ?_
  refine ag_cvV (z := m_Mo_plain) (ci := 11) (av := [.int _]) (st := []) (q := 438) (k' := 52) (n' := 14876) rfl rfl cv_Mo_176 ⟨by decide, by decide⟩ rfl rfl (by decide) (by decide) (SX.o hS rfl) rfl rfl rfl (Nat.le_of_ble_eq_true rfl) ?_
  refine f_Mo_plain (sd := 0) rfl (by decide) hS (fun u1 p1 p2 p3 p4 => ?_)
  have K : KWs 0 u1 := fun k hk => absurd hk (Nat.not_lt_zero _)
  have tr0 : TR (d0 (fun _ => 0)) 0 u1 := d0_TR (by decide) p1 (fun j hj => by rw [p3 135 (by decide) (by decide) (by decide) (by decide) (by omega), zz 135 (by decide) (by decide)]) (fun _ _ => rfl)
  have a120 : u1.1 120 = s.1 120 := p3 120 (by decide) (by decide) (by decide) (by decide) (by omega)
  have a164 : u1.1 164 = s.1 164 := p3 164 (by decide) (by decide) (by decide) (by decide) (by omega)
  have a171 : u1.1 171 = s.1 171 := p3 171 (by decide) (by decide) (by decide) (by decide) (by omega)
  have alo : ∀ a, a < 120 → u1.1 a = s0.1 a := fun a ha => by rw [p3 a (by omega) (by omega) (by omega) (by omega) (by omega), Z.1 a ha]
  have tr0' : ∀ v : MS, v.1 = u1.1 → TR (d0 (fun _ => 0)) 0 v := fun v hv => tr0.mv (fun a _ _ => by rw [hv])
  clear p1 p2 p3 p4 tr0
  generalize hw1 : u1.1 = w1 at tr0' a120 a164 a171 alo
  refine aw_aload_n (q := 439) (j := 0) rfl rfl rfl (List.mem_of_getElem? (i := 0) rfl) ?_
  refine ag_getR (q := 442) rfl rfl fl_Mo_34 rfl (SX.o hS rfl) (SX.r hS rfl) ?_
  refine aw_iconst (q := 443) (v := 0) rfl rfl (by decide) ?_
  refine aw_bipush (q := 445) (v := 103) rfl rfl (by decide) ?_
  refine aw_bipush (q := 447) (v := 114) rfl rfl (by decide) ?_
  refine aw_bipush (q := 449) (v := 97) rfl rfl (by decide) ?_
  refine aw_bipush (q := 451) (v := 105) rfl rfl (by decide) ?_
  refine aw_bipush (q := 453) (v := 110) rfl rfl (by decide) ?_
  refine aw_iconst (q := 454) (v := 0) rfl rfl (by decide) ?_
  refine aw_iconst (q := 455) (v := 0) rfl rfl (by decide) ?_
  refine ag_csL (z := m_Mo_word) (av := [.int _, .int _, .int _, .int _, .int _, .int _, .int _]) (st := [.int _, .ref _]) (q := 458) (k' := 52) (n' := 14876) rfl rfl cs_Mo_180 ⟨by decide, by decide⟩ rfl rfl (by decide) (by decide) rfl rfl (Nat.le_of_ble_eq_true rfl) (f_Mo_word ?_)
  refine ag_lastore (q := 459) (N := 20) rfl rfl (SX.a hS rfl) (vp_in_nI (n := 0) (by decide) (by decide)) ?_
  rw [show ((0 : Int32)).toNatClampNeg = 0 from rfl]
  replace K := K.wl (i := 0) (i' := 1) (v := (apW (apW (apW (apW (apW (apW (apW 0 103) 114) 97) 105) 110) 0) 0)) rfl (by decide +kernel)
  replace hw1 : (wl u1 127 0 (apW (apW (apW (apW (apW (apW (apW 0 103) 114) 97) 105) 110) 0) 0)).1 = w1 := hw1
  generalize wl u1 127 0 (apW (apW (apW (apW (apW (apW (apW 0 103) 114) 97) 105) 110) 0) 0) = u1 at K hw1 ⊢
  refine aw_aload_n (q := 460) (j := 0) rfl rfl rfl (List.mem_of_getElem? (i := 0) rfl) ?_
  refine ag_getR (q := 463) rfl rfl fl_Mo_34 rfl (SX.o hS rfl) (SX.r hS rfl) ?_
  refine aw_iconst (q := 464) (v := 1) rfl rfl (by decide) ?_
  refine aw_bipush (q := 466) (v := 104) rfl rfl (by decide) ?_
  refine aw_bipush (q := 468) (v := 111) rfl rfl (by decide) ?_
  refine aw_bipush (q := 470) (v := 108) rfl rfl (by decide) ?_
  refine aw_bipush (q := 472) (v := 101) rfl rfl (by decide) ?_
  refine aw_iconst (q := 473) (v := 0) rfl rfl (by decide) ?_
  refine aw_iconst (q := 474) (v := 0) rfl rfl (by decide) ?_
  refine aw_iconst (q := 475) (v := 0) rfl rfl (by decide) ?_
  refine ag_csL (z := m_Mo_word) (av := [.int _, .int _, .int _, .int _, .int _, .int _, .int _]) (st := [.int _, .ref _]) (q := 478) (k' := 52) (n' := 14876) rfl rfl cs_Mo_180 ⟨by decide, by decide⟩ rfl rfl (by decide) (by decide) rfl rfl (Nat.le_of_ble_eq_true rfl) (f_Mo_word ?_)
  refine ag_lastore (q := 479) (N := 20) rfl rfl (SX.a hS rfl) (vp_in_nI (n := 1) (by decide) (by decide)) ?_
  rw [show ((1 : Int32)).toNatClampNeg = 1 from rfl]
  replace K := K.wl (i := 1) (i' := 2) (v := (apW (apW (apW (apW (apW (apW (apW 0 104) 111) 108) 101) 0) 0) 0)) rfl (by decide +kernel)
  replace hw1 : (wl u1 127 1 (apW (apW (apW (apW (apW (apW (apW 0 104) 111) 108) 101) 0) 0) 0)).1 = w1 := hw1
  generalize wl u1 127 1 (apW (apW (apW (apW (apW (apW (apW 0 104) 111) 108) 101) 0) 0) 0) = u1 at K hw1 ⊢
  refine aw_aload_n (q := 480) (j := 0) rfl rfl rfl (List.mem_of_getElem? (i := 0) rfl) ?_
  refine ag_getR (q := 483) rfl rfl fl_Mo_34 rfl (SX.o hS rfl) (SX.r hS rfl) ?_
  refine aw_iconst (q := 484) (v := 2) rfl rfl (by decide) ?_
  refine aw_bipush (q := 486) (v := 114) rfl rfl (by decide) ?_
  refine aw_bipush (q := 488) (v := 97) rfl rfl (by decide) ?_
  refine aw_bipush (q := 490) (v := 116) rfl rfl (by decide) ?_
  refine aw_iconst (q := 491) (v := 0) rfl rfl (by decide) ?_
  refine aw_iconst (q := 492) (v := 0) rfl rfl (by decide) ?_
  refine aw_iconst (q := 493) (v := 0) rfl rfl (by decide) ?_
  refine aw_iconst (q := 494) (v := 0) rfl rfl (by decide) ?_
  refine ag_csL (z := m_Mo_word) (av := [.int _, .int _, .int _, .int _, .int _, .int _, .int _]) (st := [.int _, .ref _]) (q := 497) (k' := 52) (n' := 14876) rfl rfl cs_Mo_180 ⟨by decide, by decide⟩ rfl rfl (by decide) (by decide) rfl rfl (Nat.le_of_ble_eq_true rfl) (f_Mo_word ?_)
  refine ag_lastore (q := 498) (N := 20) rfl rfl (SX.a hS rfl) (vp_in_nI (n := 2) (by decide) (by decide)) ?_
  rw [show ((2 : Int32)).toNatClampNeg = 2 from rfl]
  replace K := K.wl (i := 2) (i' := 3) (v := (apW (apW (apW (apW (apW (apW (apW 0 114) 97) 116) 0) 0) 0) 0)) rfl (by decide +kernel)
  replace hw1 : (wl u1 127 2 (apW (apW (apW (apW (apW (apW (apW 0 114) 97) 116) 0) 0) 0) 0)).1 = w1 := hw1
  generalize wl u1 127 2 (apW (apW (apW (apW (apW (apW (apW 0 114) 97) 116) 0) 0) 0) 0) = u1 at K hw1 ⊢
  refine aw_aload_n (q := 499) (j := 0) rfl rfl rfl (List.mem_of_getElem? (i := 0) rfl) ?_
  refine ag_getR (q := 502) rfl rfl fl_Mo_34 rfl (SX.o hS rfl) (SX.r hS rfl) ?_
  refine aw_iconst (q := 503) (v := 3) rfl rfl (by decide) ?_
  refine aw_bipush (q := 505) (v := 108) rfl rfl (by decide) ?_
  refine aw_bipush (q := 507) (v := 111) rfl rfl (by decide) ?_
  refine aw_bipush (q := 509) (v := 97) rfl rfl (by decide) ?_
  refine aw_bipush (q := 511) (v := 100) rfl rfl (by decide) ?_
  refine aw_iconst (q := 512) (v := 0) rfl rfl (by decide) ?_
  refine aw_iconst (q := 513) (v := 0) rfl rfl (by decide) ?_
  refine aw_iconst (q := 514) (v := 0) rfl rfl (by decide) ?_
  refine ag_csL (z := m_Mo_word) (av := [.int _, .int _, .int _, .int _, .int _, .int _, .int _]) (st := [.int _, .ref _]) (q := 517) (k' := 52) (n' := 14876) rfl rfl cs_Mo_180 ⟨by decide, by decide⟩ rfl rfl (by decide) (by decide) rfl rfl (Nat.le_of_ble_eq_true rfl) (f_Mo_word ?_)
  refine ag_lastore (q := 518) (N := 20) rfl rfl (SX.a hS rfl) (vp_in_nI (n := 3) (by decide) (by decide)) ?_
  rw [show ((3 : Int32)).toNatClampNeg = 3 from rfl]
  replace K := K.wl (i := 3) (i' := 4) (v := (apW (apW (apW (apW (apW (apW (apW 0 108) 111) 97) 100) 0) 0) 0)) rfl (by decide +kernel)
  replace hw1 : (wl u1 127 3 (apW (apW (apW (apW (apW (apW (apW 0 108) 111) 97) 100) 0) 0) 0)).1 = w1 := hw1
  generalize wl u1 127 3 (apW (apW (apW (apW (apW (apW (apW 0 108) 111) 97) 100) 0) 0) 0) = u1 at K hw1 ⊢
  refine aw_aload_n (q := 519) (j := 0) rfl rfl rfl (List.mem_of_getElem? (i := 0) rfl) ?_
  refine ag_getR (q := 522) rfl rfl fl_Mo_34 rfl (SX.o hS rfl) (SX.r hS rfl) ?_
  refine aw_iconst (q := 523) (v := 4) rfl rfl (by decide) ?_
  refine aw_bipush (q := 525) (v := 101) rfl rfl (by decide) ?_
  refine aw_bipush (q := 527) (v := 97) rfl rfl (by decide) ?_
  refine aw_bipush (q := 529) (v := 116) rfl rfl (by decide) ?_
  refine aw_bipush (q := 531) (v := 115) rfl rfl (by decide) ?_
  refine aw_iconst (q := 532) (v := 0) rfl rfl (by decide) ?_
  refine aw_iconst (q := 533) (v := 0) rfl rfl (by decide) ?_
  refine aw_iconst (q := 534) (v := 0) rfl rfl (by decide) ?_
  refine ag_csL (z := m_Mo_word) (av := [.int _, .int _, .int _, .int _, .int _, .int _, .int _]) (st := [.int _, .ref _]) (q := 537) (k' := 52) (n' := 14876) rfl rfl cs_Mo_180 ⟨by decide, by decide⟩ rfl rfl (by decide) (by decide) rfl rfl (Nat.le_of_ble_eq_true rfl) (f_Mo_word ?_)
  refine ag_lastore (q := 538) (N := 20) rfl rfl (SX.a hS rfl) (vp_in_nI (n := 4) (by decide) (by decide)) ?_
  rw [show ((4 : Int32)).toNatClampNeg = 4 from rfl]
  replace K := K.wl (i := 4) (i' := 5) (v := (apW (apW (apW (apW (apW (apW (apW 0 101) 97) 116) 115) 0) 0) 0)) rfl (by decide +kernel)
  replace hw1 : (wl u1 127 4 (apW (apW (apW (apW (apW (apW (apW 0 101) 97) 116) 115) 0) 0) 0)).1 = w1 := hw1
  generalize wl u1 127 4 (apW (apW (apW (apW (apW (apW (apW 0 101) 97) 116) 115) 0) 0) 0) = u1 at K hw1 ⊢
  refine aw_aload_n (q := 539) (j := 0) rfl rfl rfl (List.mem_of_getElem? (i := 0) rfl) ?_
  refine ag_getR (q := 542) rfl rfl fl_Mo_34 rfl (SX.o hS rfl) (SX.r hS rfl) ?_
  refine aw_iconst (q := 543) (v := 5) rfl rfl (by decide) ?_
  refine aw_bipush (q := 545) (v := 101) rfl rfl (by decide) ?_
  refine aw_bipush (q := 547) (v := 114) rfl rfl (by decide) ?_
  refine aw_bipush (q := 549) (v := 114) rfl rfl (by decide) ?_
  refine aw_bipush (q := 551) (v := 115) rfl rfl (by decide) ?_
  refine aw_iconst (q := 552) (v := 0) rfl rfl (by decide) ?_
  refine aw_iconst (q := 553) (v := 0) rfl rfl (by decide) ?_
  refine aw_iconst (q := 554) (v := 0) rfl rfl (by decide) ?_
  refine ag_csL (z := m_Mo_word) (av := [.int _, .int _, .int _, .int _, .int _, .int _, .int _]) (st := [.int _, .ref _]) (q := 557) (k' := 52) (n' := 14876) rfl rfl cs_Mo_180 ⟨by decide, by decide⟩ rfl rfl (by decide) (by decide) rfl rfl (Nat.le_of_ble_eq_true rfl) (f_Mo_word ?_)
  refine ag_lastore (q := 558) (N := 20) rfl rfl (SX.a hS rfl) (vp_in_nI (n := 5) (by decide) (by decide)) ?_
  rw [show ((5 : Int32)).toNatClampNeg = 5 from rfl]
  replace K := K.wl (i := 5) (i' := 6) (v := (apW (apW (apW (apW (apW (apW (apW 0 101) 114) 114) 115) 0) 0) 0)) rfl (by decide +kernel)
  replace hw1 : (wl u1 127 5 (apW (apW (apW (apW (apW (apW (apW 0 101) 114) 114) 115) 0) 0) 0)).1 = w1 := hw1
  generalize wl u1 127 5 (apW (apW (apW (apW (apW (apW (apW 0 101) 114) 114) 115) 0) 0) 0) = u1 at K hw1 ⊢
  refine aw_aload_n (q := 559) (j := 0) rfl rfl rfl (List.mem_of_getElem? (i := 0) rfl) ?_
  refine ag_getR (q := 562) rfl rfl fl_Mo_34 rfl (SX.o hS rfl) (SX.r hS rfl) ?_
  refine aw_bipush (q := 564) (v := 6) rfl rfl (by decide) ?_
  refine aw_bipush (q := 566) (v := 119) rfl rfl (by decide) ?_
  refine aw_bipush (q := 568) (v := 97) rfl rfl (by decide) ?_
  refine aw_bipush (q := 570) (v := 110) rfl rfl (by decide) ?_
  refine aw_bipush (q := 572) (v := 116) rfl rfl (by decide) ?_
  refine aw_bipush (q := 574) (v := 115) rfl rfl (by decide) ?_
  refine aw_iconst (q := 575) (v := 0) rfl rfl (by decide) ?_
  refine aw_iconst (q := 576) (v := 0) rfl rfl (by decide) ?_
  refine ag_csL (z := m_Mo_word) (av := [.int _, .int _, .int _, .int _, .int _, .int _, .int _]) (st := [.int _, .ref _]) (q := 579) (k' := 52) (n' := 14876) rfl rfl cs_Mo_180 ⟨by decide, by decide⟩ rfl rfl (by decide) (by decide) rfl rfl (Nat.le_of_ble_eq_true rfl) (f_Mo_word ?_)
  refine ag_lastore (q := 580) (N := 20) rfl rfl (SX.a hS rfl) (vp_in_nI (n := 6) (by decide) (by decide)) ?_
  rw [show ((6 : Int32)).toNatClampNeg = 6 from rfl]
  replace K := K.wl (i := 6) (i' := 7) (v := (apW (apW (apW (apW (apW (apW (apW 0 119) 97) 110) 116) 115) 0) 0)) rfl (by decide +kernel)
  replace hw1 : (wl u1 127 6 (apW (apW (apW (apW (apW (apW (apW 0 119) 97) 110) 116) 115) 0) 0)).1 = w1 := hw1
  generalize wl u1 127 6 (apW (apW (apW (apW (apW (apW (apW 0 119) 97) 110) 116) 115) 0) 0) = u1 at K hw1 ⊢
  refine aw_aload_n (q := 581) (j := 0) rfl rfl rfl (List.mem_of_getElem? (i := 0) rfl) ?_
  refine ag_getR (q := 584) rfl rfl fl_Mo_34 rfl (SX.o hS rfl) (SX.r hS rfl) ?_
  refine aw_bipush (q := 586) (v := 7) rfl rfl (by decide) ?_
  refine aw_bipush (q := 588) (v := 108) rfl rfl (by decide) ?_
  refine aw_bipush (q := 590) (v := 97) rfl rfl (by decide) ?_
  refine aw_bipush (q := 592) (v := 109) rfl rfl (by decide) ?_
  refine aw_bipush (q := 594) (v := 112) rfl rfl (by decide) ?_
  refine aw_iconst (q := 595) (v := 0) rfl rfl (by decide) ?_
  refine aw_iconst (q := 596) (v := 0) rfl rfl (by decide) ?_
  refine aw_iconst (q := 597) (v := 0) rfl rfl (by decide) ?_
  refine ag_csL (z := m_Mo_word) (av := [.int _, .int _, .int _, .int _, .int _, .int _, .int _]) (st := [.int _, .ref _]) (q := 600) (k' := 52) (n' := 14876) rfl rfl cs_Mo_180 ⟨by decide, by decide⟩ rfl rfl (by decide) (by decide) rfl rfl (Nat.le_of_ble_eq_true rfl) (f_Mo_word ?_)
  refine ag_lastore (q := 601) (N := 20) rfl rfl (SX.a hS rfl) (vp_in_nI (n := 7) (by decide) (by decide)) ?_
  rw [show ((7 : Int32)).toNatClampNeg = 7 from rfl]
  replace K := K.wl (i := 7) (i' := 8) (v := (apW (apW (apW (apW (apW (apW (apW 0 108) 97) 109) 112) 0) 0) 0)) rfl (by decide +kernel)
  replace hw1 : (wl u1 127 7 (apW (apW (apW (apW (apW (apW (apW 0 108) 97) 109) 112) 0) 0) 0)).1 = w1 := hw1
  generalize wl u1 127 7 (apW (apW (apW (apW (apW (apW (apW 0 108) 97) 109) 112) 0) 0) 0) = u1 at K hw1 ⊢
  refine aw_aload_n (q := 602) (j := 0) rfl rfl rfl (List.mem_of_getElem? (i := 0) rfl) ?_
  refine ag_getR (q := 605) rfl rfl fl_Mo_34 rfl (SX.o hS rfl) (SX.r hS rfl) ?_
  refine aw_bipush (q := 607) (v := 8) rfl rfl (by decide) ?_
  refine aw_bipush (q := 609) (v := 111) rfl rfl (by decide) ?_
  refine aw_bipush (q := 611) (v := 100) rfl rfl (by decide) ?_
  refine aw_bipush (q := 613) (v := 100) rfl rfl (by decide) ?_
  refine aw_iconst (q := 614) (v := 0) rfl rfl (by decide) ?_
  refine aw_iconst (q := 615) (v := 0) rfl rfl (by decide) ?_
  refine aw_iconst (q := 616) (v := 0) rfl rfl (by decide) ?_
  refine aw_iconst (q := 617) (v := 0) rfl rfl (by decide) ?_
  refine ag_csL (z := m_Mo_word) (av := [.int _, .int _, .int _, .int _, .int _, .int _, .int _]) (st := [.int _, .ref _]) (q := 620) (k' := 52) (n' := 14876) rfl rfl cs_Mo_180 ⟨by decide, by decide⟩ rfl rfl (by decide) (by decide) rfl rfl (Nat.le_of_ble_eq_true rfl) (f_Mo_word ?_)
  refine ag_lastore (q := 621) (N := 20) rfl rfl (SX.a hS rfl) (vp_in_nI (n := 8) (by decide) (by decide)) ?_
  rw [show ((8 : Int32)).toNatClampNeg = 8 from rfl]
  replace K := K.wl (i := 8) (i' := 9) (v := (apW (apW (apW (apW (apW (apW (apW 0 111) 100) 100) 0) 0) 0) 0)) rfl (by decide +kernel)
  replace hw1 : (wl u1 127 8 (apW (apW (apW (apW (apW (apW (apW 0 111) 100) 100) 0) 0) 0) 0)).1 = w1 := hw1
  generalize wl u1 127 8 (apW (apW (apW (apW (apW (apW (apW 0 111) 100) 100) 0) 0) 0) 0) = u1 at K hw1 ⊢
  refine aw_aload_n (q := 622) (j := 0) rfl rfl rfl (List.mem_of_getElem? (i := 0) rfl) ?_
  refine ag_getR (q := 625) rfl rfl fl_Mo_34 rfl (SX.o hS rfl) (SX.r hS rfl) ?_
  refine aw_bipush (q := 627) (v := 9) rfl rfl (by decide) ?_
  refine aw_bipush (q := 629) (v := 115) rfl rfl (by decide) ?_
  refine aw_bipush (q := 631) (v := 101) rfl rfl (by decide) ?_
  refine aw_bipush (q := 633) (v := 101) rfl rfl (by decide) ?_
  refine aw_bipush (q := 635) (v := 100) rfl rfl (by decide) ?_
  refine aw_iconst (q := 636) (v := 0) rfl rfl (by decide) ?_
  refine aw_iconst (q := 637) (v := 0) rfl rfl (by decide) ?_
  refine aw_iconst (q := 638) (v := 0) rfl rfl (by decide) ?_
  refine ag_csL (z := m_Mo_word) (av := [.int _, .int _, .int _, .int _, .int _, .int _, .int _]) (st := [.int _, .ref _]) (q := 641) (k' := 52) (n' := 14876) rfl rfl cs_Mo_180 ⟨by decide, by decide⟩ rfl rfl (by decide) (by decide) rfl rfl (Nat.le_of_ble_eq_true rfl) (f_Mo_word ?_)
  refine ag_lastore (q := 642) (N := 20) rfl rfl (SX.a hS rfl) (vp_in_nI (n := 9) (by decide) (by decide)) ?_
  rw [show ((9 : Int32)).toNatClampNeg = 9 from rfl]
  replace K := K.wl (i := 9) (i' := 10) (v := (apW (apW (apW (apW (apW (apW (apW 0 115) 101) 101) 100) 0) 0) 0)) rfl (by decide +kernel)
  replace hw1 : (wl u1 127 9 (apW (apW (apW (apW (apW (apW (apW 0 115) 101) 101) 100) 0) 0) 0)).1 = w1 := hw1
  generalize wl u1 127 9 (apW (apW (apW (apW (apW (apW (apW 0 115) 101) 101) 100) 0) 0) 0) = u1 at K hw1 ⊢
  refine aw_aload_n (q := 643) (j := 0) rfl rfl rfl (List.mem_of_getElem? (i := 0) rfl) ?_
  refine ag_getR (q := 646) rfl rfl fl_Mo_34 rfl (SX.o hS rfl) (SX.r hS rfl) ?_
  refine aw_bipush (q := 648) (v := 10) rfl rfl (by decide) ?_
  refine aw_bipush (q := 650) (v := 105) rfl rfl (by decide) ?_
  refine aw_bipush (q := 652) (v := 102) rfl rfl (by decide) ?_
  refine aw_iconst (q := 653) (v := 0) rfl rfl (by decide) ?_
  refine aw_iconst (q := 654) (v := 0) rfl rfl (by decide) ?_
  refine aw_iconst (q := 655) (v := 0) rfl rfl (by decide) ?_
  refine aw_iconst (q := 656) (v := 0) rfl rfl (by decide) ?_
  refine aw_iconst (q := 657) (v := 0) rfl rfl (by decide) ?_
  refine ag_csL (z := m_Mo_word) (av := [.int _, .int _, .int _, .int _, .int _, .int _, .int _]) (st := [.int _, .ref _]) (q := 660) (k' := 52) (n' := 14876) rfl rfl cs_Mo_180 ⟨by decide, by decide⟩ rfl rfl (by decide) (by decide) rfl rfl (Nat.le_of_ble_eq_true rfl) (f_Mo_word ?_)
  refine ag_lastore (q := 661) (N := 20) rfl rfl (SX.a hS rfl) (vp_in_nI (n := 10) (by decide) (by decide)) ?_
  rw [show ((10 : Int32)).toNatClampNeg = 10 from rfl]
  replace K := K.wl (i := 10) (i' := 11) (v := (apW (apW (apW (apW (apW (apW (apW 0 105) 102) 0) 0) 0) 0) 0)) rfl (by decide +kernel)
  replace hw1 : (wl u1 127 10 (apW (apW (apW (apW (apW (apW (apW 0 105) 102) 0) 0) 0) 0) 0)).1 = w1 := hw1
  generalize wl u1 127 10 (apW (apW (apW (apW (apW (apW (apW 0 105) 102) 0) 0) 0) 0) 0) = u1 at K hw1 ⊢
  refine aw_aload_n (q := 662) (j := 0) rfl rfl rfl (List.mem_of_getElem? (i := 0) rfl) ?_
  refine ag_getR (q := 665) rfl rfl fl_Mo_34 rfl (SX.o hS rfl) (SX.r hS rfl) ?_
  refine aw_bipush (q := 667) (v := 11) rfl rfl (by decide) ?_
  refine aw_bipush (q := 669) (v := 116) rfl rfl (by decide) ?_
  refine aw_bipush (q := 671) (v := 104) rfl rfl (by decide) ?_
  refine aw_bipush (q := 673) (v := 101) rfl rfl (by decide) ?_
  refine aw_bipush (q := 675) (v := 110) rfl rfl (by decide) ?_
  refine aw_iconst (q := 676) (v := 0) rfl rfl (by decide) ?_
  refine aw_iconst (q := 677) (v := 0) rfl rfl (by decide) ?_
  refine aw_iconst (q := 678) (v := 0) rfl rfl (by decide) ?_
  refine ag_csL (z := m_Mo_word) (av := [.int _, .int _, .int _, .int _, .int _, .int _, .int _]) (st := [.int _, .ref _]) (q := 681) (k' := 52) (n' := 14876) rfl rfl cs_Mo_180 ⟨by decide, by decide⟩ rfl rfl (by decide) (by decide) rfl rfl (Nat.le_of_ble_eq_true rfl) (f_Mo_word ?_)
  refine ag_lastore (q := 682) (N := 20) rfl rfl (SX.a hS rfl) (vp_in_nI (n := 11) (by decide) (by decide)) ?_
  rw [show ((11 : Int32)).toNatClampNeg = 11 from rfl]
  replace K := K.wl (i := 11) (i' := 12) (v := (apW (apW (apW (apW (apW (apW (apW 0 116) 104) 101) 110) 0) 0) 0)) rfl (by decide +kernel)
  replace hw1 : (wl u1 127 11 (apW (apW (apW (apW (apW (apW (apW 0 116) 104) 101) 110) 0) 0) 0)).1 = w1 := hw1
  generalize wl u1 127 11 (apW (apW (apW (apW (apW (apW (apW 0 116) 104) 101) 110) 0) 0) 0) = u1 at K hw1 ⊢
  refine aw_aload_n (q := 683) (j := 0) rfl rfl rfl (List.mem_of_getElem? (i := 0) rfl) ?_
  refine ag_getR (q := 686) rfl rfl fl_Mo_34 rfl (SX.o hS rfl) (SX.r hS rfl) ?_
  refine aw_bipush (q := 688) (v := 12) rfl rfl (by decide) ?_
  refine aw_bipush (q := 690) (v := 101) rfl rfl (by decide) ?_
  refine aw_bipush (q := 692) (v := 108) rfl rfl (by decide) ?_
  refine aw_bipush (q := 694) (v := 115) rfl rfl (by decide) ?_
  refine aw_bipush (q := 696) (v := 101) rfl rfl (by decide) ?_
  refine aw_iconst (q := 697) (v := 0) rfl rfl (by decide) ?_
  refine aw_iconst (q := 698) (v := 0) rfl rfl (by decide) ?_
  refine aw_iconst (q := 699) (v := 0) rfl rfl (by decide) ?_
  refine ag_csL (z := m_Mo_word) (av := [.int _, .int _, .int _, .int _, .int _, .int _, .int _]) (st := [.int _, .ref _]) (q := 702) (k' := 52) (n' := 14876) rfl rfl cs_Mo_180 ⟨by decide, by decide⟩ rfl rfl (by decide) (by decide) rfl rfl (Nat.le_of_ble_eq_true rfl) (f_Mo_word ?_)
  refine ag_lastore (q := 703) (N := 20) rfl rfl (SX.a hS rfl) (vp_in_nI (n := 12) (by decide) (by decide)) ?_
  rw [show ((12 : Int32)).toNatClampNeg = 12 from rfl]
  replace K := K.wl (i := 12) (i' := 13) (v := (apW (apW (apW (apW (apW (apW (apW 0 101) 108) 115) 101) 0) 0) 0)) rfl (by decide +kernel)
  replace hw1 : (wl u1 127 12 (apW (apW (apW (apW (apW (apW (apW 0 101) 108) 115) 101) 0) 0) 0)).1 = w1 := hw1
  generalize wl u1 127 12 (apW (apW (apW (apW (apW (apW (apW 0 101) 108) 115) 101) 0) 0) 0) = u1 at K hw1 ⊢
  refine aw_aload_n (q := 704) (j := 0) rfl rfl rfl (List.mem_of_getElem? (i := 0) rfl) ?_
  refine ag_getR (q := 707) rfl rfl fl_Mo_34 rfl (SX.o hS rfl) (SX.r hS rfl) ?_
  refine aw_bipush (q := 709) (v := 13) rfl rfl (by decide) ?_
  refine aw_bipush (q := 711) (v := 104) rfl rfl (by decide) ?_
  refine aw_bipush (q := 713) (v := 117) rfl rfl (by decide) ?_
  refine aw_bipush (q := 715) (v := 110) rfl rfl (by decide) ?_
  refine aw_bipush (q := 717) (v := 103) rfl rfl (by decide) ?_
  refine aw_bipush (q := 719) (v := 101) rfl rfl (by decide) ?_
  refine aw_bipush (q := 721) (v := 114) rfl rfl (by decide) ?_
  refine aw_iconst (q := 722) (v := 0) rfl rfl (by decide) ?_
  refine ag_csL (z := m_Mo_word) (av := [.int _, .int _, .int _, .int _, .int _, .int _, .int _]) (st := [.int _, .ref _]) (q := 725) (k' := 52) (n' := 14876) rfl rfl cs_Mo_180 ⟨by decide, by decide⟩ rfl rfl (by decide) (by decide) rfl rfl (Nat.le_of_ble_eq_true rfl) (f_Mo_word ?_)
  refine ag_lastore (q := 726) (N := 20) rfl rfl (SX.a hS rfl) (vp_in_nI (n := 13) (by decide) (by decide)) ?_
  rw [show ((13 : Int32)).toNatClampNeg = 13 from rfl]
  replace K := K.wl (i := 13) (i' := 14) (v := (apW (apW (apW (apW (apW (apW (apW 0 104) 117) 110) 103) 101) 114) 0)) rfl (by decide +kernel)
  replace hw1 : (wl u1 127 13 (apW (apW (apW (apW (apW (apW (apW 0 104) 117) 110) 103) 101) 114) 0)).1 = w1 := hw1
  generalize wl u1 127 13 (apW (apW (apW (apW (apW (apW (apW 0 104) 117) 110) 103) 101) 114) 0) = u1 at K hw1 ⊢
  refine aw_aload_n (q := 727) (j := 0) rfl rfl rfl (List.mem_of_getElem? (i := 0) rfl) ?_
  refine ag_getR (q := 730) rfl rfl fl_Mo_34 rfl (SX.o hS rfl) (SX.r hS rfl) ?_
  refine aw_bipush (q := 732) (v := 14) rfl rfl (by decide) ?_
  refine aw_bipush (q := 734) (v := 102) rfl rfl (by decide) ?_
  refine aw_bipush (q := 736) (v := 97) rfl rfl (by decide) ?_
  refine aw_bipush (q := 738) (v := 116) rfl rfl (by decide) ?_
  refine aw_iconst (q := 739) (v := 0) rfl rfl (by decide) ?_
  refine aw_iconst (q := 740) (v := 0) rfl rfl (by decide) ?_
  refine aw_iconst (q := 741) (v := 0) rfl rfl (by decide) ?_
  refine aw_iconst (q := 742) (v := 0) rfl rfl (by decide) ?_
  refine ag_csL (z := m_Mo_word) (av := [.int _, .int _, .int _, .int _, .int _, .int _, .int _]) (st := [.int _, .ref _]) (q := 745) (k' := 52) (n' := 14876) rfl rfl cs_Mo_180 ⟨by decide, by decide⟩ rfl rfl (by decide) (by decide) rfl rfl (Nat.le_of_ble_eq_true rfl) (f_Mo_word ?_)
  refine ag_lastore (q := 746) (N := 20) rfl rfl (SX.a hS rfl) (vp_in_nI (n := 14) (by decide) (by decide)) ?_
  rw [show ((14 : Int32)).toNatClampNeg = 14 from rfl]
  replace K := K.wl (i := 14) (i' := 15) (v := (apW (apW (apW (apW (apW (apW (apW 0 102) 97) 116) 0) 0) 0) 0)) rfl (by decide +kernel)
  replace hw1 : (wl u1 127 14 (apW (apW (apW (apW (apW (apW (apW 0 102) 97) 116) 0) 0) 0) 0)).1 = w1 := hw1
  generalize wl u1 127 14 (apW (apW (apW (apW (apW (apW (apW 0 102) 97) 116) 0) 0) 0) 0) = u1 at K hw1 ⊢
  refine aw_aload_n (q := 747) (j := 0) rfl rfl rfl (List.mem_of_getElem? (i := 0) rfl) ?_
  refine ag_getR (q := 750) rfl rfl fl_Mo_34 rfl (SX.o hS rfl) (SX.r hS rfl) ?_
  refine aw_bipush (q := 752) (v := 15) rfl rfl (by decide) ?_
  refine aw_bipush (q := 754) (v := 109) rfl rfl (by decide) ?_
  refine aw_bipush (q := 756) (v := 117) rfl rfl (by decide) ?_
  refine aw_bipush (q := 758) (v := 99) rfl rfl (by decide) ?_
  refine aw_bipush (q := 760) (v := 104) rfl rfl (by decide) ?_
  refine aw_iconst (q := 761) (v := 0) rfl rfl (by decide) ?_
  refine aw_iconst (q := 762) (v := 0) rfl rfl (by decide) ?_
  refine aw_iconst (q := 763) (v := 0) rfl rfl (by decide) ?_
  refine ag_csL (z := m_Mo_word) (av := [.int _, .int _, .int _, .int _, .int _, .int _, .int _]) (st := [.int _, .ref _]) (q := 766) (k' := 52) (n' := 14876) rfl rfl cs_Mo_180 ⟨by decide, by decide⟩ rfl rfl (by decide) (by decide) rfl rfl (Nat.le_of_ble_eq_true rfl) (f_Mo_word ?_)
  refine ag_lastore (q := 767) (N := 20) rfl rfl (SX.a hS rfl) (vp_in_nI (n := 15) (by decide) (by decide)) ?_
  rw [show ((15 : Int32)).toNatClampNeg = 15 from rfl]
  replace K := K.wl (i := 15) (i' := 16) (v := (apW (apW (apW (apW (apW (apW (apW 0 109) 117) 99) 104) 0) 0) 0)) rfl (by decide +kernel)
  replace hw1 : (wl u1 127 15 (apW (apW (apW (apW (apW (apW (apW 0 109) 117) 99) 104) 0) 0) 0)).1 = w1 := hw1
  generalize wl u1 127 15 (apW (apW (apW (apW (apW (apW (apW 0 109) 117) 99) 104) 0) 0) 0) = u1 at K hw1 ⊢
  refine aw_aload_n (q := 768) (j := 0) rfl rfl rfl (List.mem_of_getElem? (i := 0) rfl) ?_
  refine ag_getR (q := 771) rfl rfl fl_Mo_34 rfl (SX.o hS rfl) (SX.r hS rfl) ?_
  refine aw_bipush (q := 773) (v := 16) rfl rfl (by decide) ?_
  refine aw_bipush (q := 775) (v := 100) rfl rfl (by decide) ?_
  refine aw_bipush (q := 777) (v := 97) rfl rfl (by decide) ?_
  refine aw_bipush (q := 779) (v := 114) rfl rfl (by decide) ?_
  refine aw_bipush (q := 781) (v := 107) rfl rfl (by decide) ?_
  refine aw_iconst (q := 782) (v := 0) rfl rfl (by decide) ?_
  refine aw_iconst (q := 783) (v := 0) rfl rfl (by decide) ?_
  refine aw_iconst (q := 784) (v := 0) rfl rfl (by decide) ?_
  refine ag_csL (z := m_Mo_word) (av := [.int _, .int _, .int _, .int _, .int _, .int _, .int _]) (st := [.int _, .ref _]) (q := 787) (k' := 52) (n' := 14876) rfl rfl cs_Mo_180 ⟨by decide, by decide⟩ rfl rfl (by decide) (by decide) rfl rfl (Nat.le_of_ble_eq_true rfl) (f_Mo_word ?_)
  refine ag_lastore (q := 788) (N := 20) rfl rfl (SX.a hS rfl) (vp_in_nI (n := 16) (by decide) (by decide)) ?_
  rw [show ((16 : Int32)).toNatClampNeg = 16 from rfl]
  replace K := K.wl (i := 16) (i' := 17) (v := (apW (apW (apW (apW (apW (apW (apW 0 100) 97) 114) 107) 0) 0) 0)) rfl (by decide +kernel)
  replace hw1 : (wl u1 127 16 (apW (apW (apW (apW (apW (apW (apW 0 100) 97) 114) 107) 0) 0) 0)).1 = w1 := hw1
  generalize wl u1 127 16 (apW (apW (apW (apW (apW (apW (apW 0 100) 97) 114) 107) 0) 0) 0) = u1 at K hw1 ⊢
  refine aw_aload_n (q := 789) (j := 0) rfl rfl rfl (List.mem_of_getElem? (i := 0) rfl) ?_
  refine ag_getR (q := 792) rfl rfl fl_Mo_34 rfl (SX.o hS rfl) (SX.r hS rfl) ?_
  refine aw_bipush (q := 794) (v := 17) rfl rfl (by decide) ?_
  refine aw_bipush (q := 796) (v := 102) rfl rfl (by decide) ?_
  refine aw_bipush (q := 798) (v := 97) rfl rfl (by decide) ?_
  refine aw_bipush (q := 800) (v := 114) rfl rfl (by decide) ?_
  refine aw_iconst (q := 801) (v := 0) rfl rfl (by decide) ?_
  refine aw_iconst (q := 802) (v := 0) rfl rfl (by decide) ?_
  refine aw_iconst (q := 803) (v := 0) rfl rfl (by decide) ?_
  refine aw_iconst (q := 804) (v := 0) rfl rfl (by decide) ?_
  refine ag_csL (z := m_Mo_word) (av := [.int _, .int _, .int _, .int _, .int _, .int _, .int _]) (st := [.int _, .ref _]) (q := 807) (k' := 52) (n' := 14876) rfl rfl cs_Mo_180 ⟨by decide, by decide⟩ rfl rfl (by decide) (by decide) rfl rfl (Nat.le_of_ble_eq_true rfl) (f_Mo_word ?_)
  refine ag_lastore (q := 808) (N := 20) rfl rfl (SX.a hS rfl) (vp_in_nI (n := 17) (by decide) (by decide)) ?_
  rw [show ((17 : Int32)).toNatClampNeg = 17 from rfl]
  replace K := K.wl (i := 17) (i' := 18) (v := (apW (apW (apW (apW (apW (apW (apW 0 102) 97) 114) 0) 0) 0) 0)) rfl (by decide +kernel)
  replace hw1 : (wl u1 127 17 (apW (apW (apW (apW (apW (apW (apW 0 102) 97) 114) 0) 0) 0) 0)).1 = w1 := hw1
  generalize wl u1 127 17 (apW (apW (apW (apW (apW (apW (apW 0 102) 97) 114) 0) 0) 0) 0) = u1 at K hw1 ⊢
  refine aw_aload_n (q := 809) (j := 0) rfl rfl rfl (List.mem_of_getElem? (i := 0) rfl) ?_
  refine ag_getR (q := 812) rfl rfl fl_Mo_34 rfl (SX.o hS rfl) (SX.r hS rfl) ?_
  refine aw_bipush (q := 814) (v := 18) rfl rfl (by decide) ?_
  refine aw_bipush (q := 816) (v := 107) rfl rfl (by decide) ?_
  refine aw_bipush (q := 818) (v := 110) rfl rfl (by decide) ?_
  refine aw_bipush (q := 820) (v := 111) rfl rfl (by decide) ?_
  refine aw_bipush (q := 822) (v := 119) rfl rfl (by decide) ?_
  refine aw_iconst (q := 823) (v := 0) rfl rfl (by decide) ?_
  refine aw_iconst (q := 824) (v := 0) rfl rfl (by decide) ?_
  refine aw_iconst (q := 825) (v := 0) rfl rfl (by decide) ?_
  refine ag_csL (z := m_Mo_word) (av := [.int _, .int _, .int _, .int _, .int _, .int _, .int _]) (st := [.int _, .ref _]) (q := 828) (k' := 52) (n' := 14876) rfl rfl cs_Mo_180 ⟨by decide, by decide⟩ rfl rfl (by decide) (by decide) rfl rfl (Nat.le_of_ble_eq_true rfl) (f_Mo_word ?_)
  refine ag_lastore (q := 829) (N := 20) rfl rfl (SX.a hS rfl) (vp_in_nI (n := 18) (by decide) (by decide)) ?_
  rw [show ((18 : Int32)).toNatClampNeg = 18 from rfl]
  replace K := K.wl (i := 18) (i' := 19) (v := (apW (apW (apW (apW (apW (apW (apW 0 107) 110) 111) 119) 0) 0) 0)) rfl (by decide +kernel)
  replace hw1 : (wl u1 127 18 (apW (apW (apW (apW (apW (apW (apW 0 107) 110) 111) 119) 0) 0) 0)).1 = w1 := hw1
  generalize wl u1 127 18 (apW (apW (apW (apW (apW (apW (apW 0 107) 110) 111) 119) 0) 0) 0) = u1 at K hw1 ⊢
  refine aw_aload_n (q := 830) (j := 0) rfl rfl rfl (List.mem_of_getElem? (i := 0) rfl) ?_
  refine ag_getR (q := 833) rfl rfl fl_Mo_34 rfl (SX.o hS rfl) (SX.r hS rfl) ?_
  refine aw_bipush (q := 835) (v := 19) rfl rfl (by decide) ?_
  refine aw_bipush (q := 837) (v := 116) rfl rfl (by decide) ?_
  refine aw_bipush (q := 839) (v := 114) rfl rfl (by decide) ?_
  refine aw_bipush (q := 841) (v := 105) rfl rfl (by decide) ?_
  refine aw_bipush (q := 843) (v := 112) rfl rfl (by decide) ?_
  refine aw_bipush (q := 845) (v := 115) rfl rfl (by decide) ?_
  refine aw_iconst (q := 846) (v := 0) rfl rfl (by decide) ?_
  refine aw_iconst (q := 847) (v := 0) rfl rfl (by decide) ?_
  refine ag_csL (z := m_Mo_word) (av := [.int _, .int _, .int _, .int _, .int _, .int _, .int _]) (st := [.int _, .ref _]) (q := 850) (k' := 52) (n' := 14876) rfl rfl cs_Mo_180 ⟨by decide, by decide⟩ rfl rfl (by decide) (by decide) rfl rfl (Nat.le_of_ble_eq_true rfl) (f_Mo_word ?_)
  refine ag_lastore (q := 851) (N := 20) rfl rfl (SX.a hS rfl) (vp_in_nI (n := 19) (by decide) (by decide)) ?_
  rw [show ((19 : Int32)).toNatClampNeg = 19 from rfl]
  replace K := K.wl (i := 19) (i' := 20) (v := (apW (apW (apW (apW (apW (apW (apW 0 116) 114) 105) 112) 115) 0) 0)) rfl (by decide +kernel)
  replace hw1 : (wl u1 127 19 (apW (apW (apW (apW (apW (apW (apW 0 116) 114) 105) 112) 115) 0) 0)).1 = w1 := hw1
  generalize wl u1 127 19 (apW (apW (apW (apW (apW (apW (apW 0 116) 114) 105) 112) 115) 0) 0) = u1 at K hw1 ⊢
  refine aw_aload_n (q := 852) (j := 0) rfl rfl rfl (List.mem_of_getElem? (i := 0) rfl) ?_
  refine ag_cvV (z := m_Mo_begins) (ci := 11) (av := []) (st := []) (q := 855) (k' := 52) (n' := 14876) rfl rfl cv_Mo_184 ⟨by decide, by decide⟩ rfl rfl (by decide) (by decide) (SX.o hS rfl) rfl rfl rfl (Nat.le_of_ble_eq_true rfl) ?_
  subst hw1
  have tr1 : TR (d0 (fun _ => 0)) 0 u1 := tr0' u1 rfl
  have KR1 : KR (d0 (fun _ => 0)) 0 u1 := ⟨tr1, by rw [a120, z120]; rfl, by decide, fun j hj => by rw [a164, zz 164 (by decide) (by decide)]⟩
  refine f_Mo_begins hS (d0_PI _).1 KR1 (fun u2 g1 g2 g3 g4 g5 => ?_)
  refine aw_aload_n (q := 856) (j := 0) rfl rfl rfl (List.mem_of_getElem? (i := 0) rfl) ?_
  refine ag_cvV (z := m_Mo_keepsRow) (ci := 11) (av := []) (st := []) (q := 859) (k' := 52) (n' := 14876) rfl rfl cv_Mo_187 ⟨by decide, by decide⟩ rfl rfl (by decide) (by decide) (SX.o hS rfl) rfl rfl rfl (Nat.le_of_ble_eq_true rfl) ?_
  refine f_Mo_keepsRow hS (fun u3 r1 r2 r3 => ?_)
  have e3 : ∀ j, j ≠ 61 → u3.1 120 j = s.1 120 j := fun j hj => by rw [r2 120 (by decide), g5 j hj, a120]
  have f3 : ∀ a, a ≠ 120 → a ≠ 160 → a ≠ 161 → a ≠ 162 → a ≠ 163 → a ≠ 164 → a ≠ 165 → u3.1 a = u1.1 a := fun a x1 x2 x3 x4 x5 x6 x7 => by rw [r2 a x4, g4.1 a x2 x3 x5 x6 x7 x1]
  refine aw_return rfl rfl (by decide) (by decide) (rV.mk (h g u3 G hg ⟨KR1.1.mv (fun a a1 a2 => f3 a (by omega) (by omega) (by omega) (by omega) (by omega) (by omega) (by omega)), by rw [e3 18 (by decide), z120]; rfl, by decide, fun j hj => by rw [r2 164 (by decide), g4.2.2.2 j hj]; exact KR1.2.2.2 j hj⟩ (by rw [nm_120 r1]; exact g3) ?_ (fun i => ?_) ?_ ?_ ?_ (fun k hk => ?_) (fun a ha => ?_)))
  · rw [e3 64 (by decide), z120]; rfl
  · rw [f3 171 (by decide) (by decide) (by decide) (by decide) (by decide) (by decide) (by decide), a171, zz 171 (by decide) (by decide)]
  · rw [e3 68 (by decide), z120]; rfl
  · rw [e3 2 (by decide), z120]; rfl
  · rw [e3 17 (by decide), z120]; rfl
  · rw [r3, g4.2.2.1]; exact K k hk
  · rw [f3 a (by omega) (by omega) (by omega) (by omega) (by omega) (by omega) (by omega)]; exact alo a ha
