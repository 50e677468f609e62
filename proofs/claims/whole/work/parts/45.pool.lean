/-! THE POOL OF HOUSES; remember, undo, hold, restore of the class -/
theorem rfT_lt {a f b : Nat} (h : rfT a f = some b) : a < 173 ∧ a ≠ 86 ∧ a ≠ 87 := by
  refine ⟨?_, ?_, ?_⟩
  · rcases Nat.lt_or_ge a 173 with q | q
    · exact q
    · unfold rfT at h
      simp only [show ¬ a < 56 by omega, show ¬ a < 88 by omega, show ¬ a < 104 by omega, show ¬ a < 115 by omega, show ¬ a < 120 by omega, show ¬ a = 120 by omega, if_false] at h
      cases h
  · intro e; subst e; cases h
  · intro e; subst e; cases h
def GP (g g' : GS) (i b : Nat) : Prop := SX g' ∧ POOL g' ∧ pa g' i = some b ∧ (∀ i', i' < 43 → i' ≠ i → pa g' i' = pa g i') ∧ (HS g' b ∧ 173 ≤ b) ∧ ∀ a f, a < 173 → a ≠ 86 → a ≠ 87 → g'.2.2 a f = g.2.2 a f
theorem GP.rf {g : GS} {i b : Nat} (hS : SX g) (hP : POOL g) (hi : i < 43) (e : pa g i = some b) : GP g g i b := ⟨hS, hP, e, fun _ _ _ => rfl, ⟨(pool_at hP hi e).2, (pool_at hP hi e).1⟩, fun _ _ _ _ _ => rfl⟩
theorem pool_dis {g : GS} (hP : POOL g) {i i' b b' : Nat} (hi : i < 43) (hi' : i' < 43) (hn : i ≠ i') (e : pa g i = some b) (e' : pa g i' = some b') : b + 12 ≤ b' ∨ b' + 12 ≤ b := by
  obtain ⟨n, h1, h2, h3⟩ := hP
  obtain ⟨j, j1, j2, -⟩ := h2 i b hi e
  obtain ⟨j', j1', j2', -⟩ := h2 i' b' hi' e'
  have : j ≠ j' := fun q => hn (h3 i i' b hi hi' e (by rw [e', j2', j2, q]))
  omega
theorem HS.mvg {g g' : GS} {b : Nat} (hk : ∀ a, b ≤ a → a < b + 12 → g'.2.1 a = g.2.1 a ∧ g'.2.2 a = g.2.2 a) (hn : g.1 ≤ g'.1) (h : HS g b) : HS g' b := by
  obtain ⟨h1, h2, h3, h4, h5, h6, h7, h8⟩ := h
  have og : ∀ {a ci : Nat}, b ≤ a → a < b + 12 → OG g a ci → OG g' a ci := fun x1 x2 o => ⟨by rw [(hk _ x1 x2).1]; exact o.1, o.2.1, Nat.lt_of_lt_of_le o.2.2 hn⟩
  have ag : ∀ {a t N : Nat}, b ≤ a → a < b + 12 → AG g a t N → AG g' a t N := fun x1 x2 o => ⟨by rw [(hk _ x1 x2).1]; exact o.1, o.2.1, Nat.lt_of_lt_of_le o.2.2 hn⟩
  refine ⟨og (by omega) (by omega) h1, by rw [(hk b (by omega) (by omega)).2]; exact h2, by rw [(hk b (by omega) (by omega)).2]; exact h3, by rw [(hk b (by omega) (by omega)).2]; exact h4, ag (by omega) (by omega) h5, ag (by omega) (by omega) h6, ag (by omega) (by omega) h7, fun r hr => ⟨by rw [(hk (b + 3) (by omega) (by omega)).2]; exact (h8 r hr).1, og (by omega) (by omega) (h8 r hr).2⟩⟩
/-- a new House in an empty place -/
theorem GP.new {g G : GS} {i A x : Nat} (hS : SX g) (hP : POOL g) (hi : i < 43) (hA : (i < 40 ∧ A = 86 ∧ x = i) ∨ (40 ≤ i ∧ A = 87 ∧ x = i - 40)) (hN : pa g i = none) (hG : PHi (gn g (0, 2)) g.1 8 G) : GP g (gr G A x (some g.1)) i g.1 := by
  obtain ⟨n, n1, n2, n3⟩ := hP
  have h16 : 16 ≤ g.1 := by omega
  have hHS : HS G g.1 := hG.hs h16
  obtain ⟨p1, p2, p3, p4, p5, p6, p7, p8, p9, p10⟩ := hG
  have low : ∀ a, a < g.1 → G.2.1 a = g.2.1 a ∧ G.2.2 a = g.2.2 a := by
    intro a ha
    have := p2 a ha
    rw [gn_k, gn_r, if_neg (by omega), if_neg (by omega)] at this
    exact this
  have pa1 : pa (gr G A x (some g.1)) i = some g.1 := by
    unfold pa
    rcases hA with ⟨w, rfl, rfl⟩ | ⟨w, rfl, rfl⟩
    · rw [if_pos w, gr_rf, if_pos ⟨rfl, rfl⟩]
    · rw [if_neg (by omega), gr_rf, if_pos ⟨rfl, rfl⟩]
  have pa2 : ∀ i', i' < 43 → i' ≠ i → pa (gr G A x (some g.1)) i' = pa g i' := by
    intro i' h1 h2
    unfold pa
    rw [gr_rf, gr_rf, (low 86 (by omega)).2, (low 87 (by omega)).2]
    split
    · rw [if_neg (by omega)]
    · rw [if_neg (by omega)]
  have hsm : ∀ b, A < b → HS G b → HS (gr G A x (some g.1)) b := fun b hb hh => HS.mvg (g := G) (fun a a1 a2 => ⟨by rw [gr_k], by rw [gr_r, if_neg (by omega)]⟩) (Nat.le_refl _) hh
  refine ⟨?_, ⟨n + 1, by rw [gr_1, p1]; omega, ?_, ?_⟩, pa1, pa2, ⟨hsm _ (by omega) hHS, by omega⟩, ?_⟩
  · refine ⟨fun a a1 a2 => ?_, fun a f b e => ?_, by rw [gr_1, p1]; omega, ?_⟩
    · rw [gr_k, (low a (by omega)).1]; exact hS.1 a a1 a2
    · obtain ⟨q1, q2, q3⟩ := rfT_lt e
      rw [gr_rf, if_neg (by omega), (low a (by omega)).2]; exact hS.2.1 a f b e
    · rw [gr_k, (low 1 (by omega)).1]; exact hS.2.2.2
  · intro i' b h1 e
    by_cases q : i' = i
    · subst q
      rw [pa1] at e
      have eb : b = g.1 := by cases e; rfl
      subst eb
      exact ⟨n, by omega, by omega, hsm _ (by omega) hHS⟩
    · rw [pa2 i' h1 q] at e
      obtain ⟨j, j1, j2, j3⟩ := n2 i' b h1 e
      exact ⟨j, by omega, j2, hsm b (by omega) (HS.mvg (fun a a1 a2 => low a (by omega)) (by omega) j3)⟩
  · intro i1 i2 b h1 h2 e1 e2
    by_cases q1 : i1 = i
    · by_cases q2 : i2 = i
      · omega
      · rw [q1, pa1] at e1
        rw [pa2 i2 h2 q2] at e2
        obtain ⟨j, j1, j2, -⟩ := n2 i2 b h2 e2
        have eb : g.1 = b := by cases e1; rfl
        omega
    · by_cases q2 : i2 = i
      · rw [q2, pa1] at e2
        rw [pa2 i1 h1 q1] at e1
        obtain ⟨j, j1, j2, -⟩ := n2 i1 b h1 e1
        have eb : g.1 = b := by cases e2; rfl
        omega
      · rw [pa2 i1 h1 q1] at e1
        rw [pa2 i2 h2 q2] at e2
        exact n3 i1 i2 b h1 h2 e1 e2
  · intro a f a1 a2 a3
    rw [gr_rf, if_neg (by omega), (low a (by omega)).2]
section Pool
variable {E : EN} {g : GS} {s : MS}
/-- what stays: all below n but the House at b, 16, 31 -/
def FrM (n b : Nat) (s u : MS) : Prop := (∀ a, a < n → (a < b ∨ b + 12 ≤ a) → a ≠ 16 → a ≠ 31 → u.1 a = s.1 a) ∧ ∀ a, a < 173 → u.2 a = s.2 a
theorem f_Planner_dropWays {R : MS → Prop} (hS : SX g) (h : R (wi s 31 4 0)) : GV E m_Planner_dropWays [.ref 31] g s R := v_Planner_dropWays (Q := qV g R) hS (fun s1 e1 => GV.r (by rw [e1]; exact h))
set_option maxRecDepth 20000 in
theorem k_remember {R : GS → MS → Prop} {e m : Nat} (hS : SX g) (hP : POOL g) (he : e < 40) (h14 : s.1 16 14 = nI e) (h15 : s.1 16 15 = nI m) (hm : m ≤ 40) (hC : CH 74 s) (h : ∀ g' u b, GP g g' e b → hr u b = hr s 74 → CH b u → u.1 16 14 = nI ((e + 1) % 40) → u.1 16 15 = nI (if m < 40 then m + 1 else 40) → (∀ j, j ≠ 14 → j ≠ 15 → u.1 16 j = s.1 16 j) → u.1 31 4 = 0 → FrM g.1 b s u → R g' u) : XV E m_Rs_remember [.ref 16] g s R := by
  refine AMet.of (by decide) k_Rs_remember [(0, .ref 16)] (Nat.le_of_ble_eq_true rfl) rfl ?_
  have n173 : 173 ≤ g.1 := hS.2.2.1
  -- from where the place holds a House
  have tail : ∀ k n g' u0 b, k ≤ 12 → n ≤ 131 → GP g g' e b → (∀ a, a < g.1 → u0.1 a = s.1 a ∧ u0.2 a = s.2 a) → AWP E m_Rs_remember 28 k n [(0, .ref 16)] [] (mk g' u0) (rV R) := by
    intro k n g' u0 b hk hn G U
    have hS' := G.1
    have U1 : ∀ a, a < g.1 → u0.1 a = s.1 a := fun a ha => (U a ha).1
    have e14 : u0.1 16 14 = nI e := by rw [U1 16 (by omega)]; exact h14
    have e15 : u0.1 16 15 = nI m := by rw [U1 16 (by omega)]; exact h15
    have pb : g'.2.2 86 e = some b := by have := G.2.2.1; unfold pa at this; rw [if_pos he] at this; exact this
    refine aw_aload_n (q := 29) (j := 0) rfl rfl rfl (List.mem_of_getElem? (i := 0) rfl) ?_
    refine ag_getR (q := 32) rfl rfl fl_Rs_50 rfl (SX.o hS' rfl) (SX.r hS' rfl) ?_
    refine aw_aload_n (q := 33) (j := 0) rfl rfl rfl (List.mem_of_getElem? (i := 0) rfl) ?_
    refine ag_getI (q := 36) rfl rfl fl_Rs_236 rfl (SX.o hS' rfl) ?_
    rw [e14]
    refine ag_aaload (q := 37) (N := 40) (b := b) rfl rfl (Or.inl rfl) (SX.a hS' rfl) (vp_in_nI he (by omega)) (by rw [tn_n (by omega)]; exact pb) ?_
    refine aw_aload_n (q := 38) (j := 0) rfl rfl rfl (List.mem_of_getElem? (i := 0) rfl) ?_
    refine ag_getR (q := 41) rfl rfl fl_Rs_46 rfl (SX.o hS' rfl) (SX.r hS' rfl) ?_
    refine ag_cvV (z := m_House_take) (ci := 2) (av := [.ref 74]) (st := []) (q := 44) (k' := k) (n' := n) rfl rfl cv_Rs_239 ⟨by decide, by decide⟩ rfl rfl hk hn (HS.o G.2.2.2.2.1.1) rfl rfl rfl (Nat.le_of_ble_eq_true rfl) ?_
    have bl := G.2.2.2.2.1.2
    have hC0 : CH 74 u0 := hC.cg (fun a a1 a2 => U1 a (by omega))
    refine f_House_take G.2.2.2.2.1.1 (HS74 hS') (by omega) (fun u1 a1 a2 a3 => ?_)
    refine aw_aload_n (q := 45) (j := 0) rfl rfl rfl (List.mem_of_getElem? (i := 0) rfl) ?_
    refine aw_aload_n (q := 46) (j := 0) rfl rfl rfl (List.mem_of_getElem? (i := 0) rfl) ?_
    refine ag_getI (q := 49) rfl rfl fl_Rs_236 rfl (SX.o hS' rfl) ?_
    refine aw_iconst (q := 50) (v := 1) rfl rfl (by decide) ?_
    refine aw_iadd (q := 51) rfl rfl ?_
    refine aw_bipush (q := 53) (v := 40) rfl rfl (by decide) ?_
    refine aw_irem (q := 54) rfl rfl (by decide) ?_
    refine ag_putI (q := 57) rfl rfl fl_Rs_236 rfl rfl (SX.o hS' rfl) ?_
    refine aw_aload_n (q := 58) (j := 0) rfl rfl rfl (List.mem_of_getElem? (i := 0) rfl) ?_
    refine aw_bipush (q := 60) (v := 40) rfl rfl (by decide) ?_
    refine aw_aload_n (q := 61) (j := 0) rfl rfl rfl (List.mem_of_getElem? (i := 0) rfl) ?_
    refine ag_getI (q := 64) rfl rfl fl_Rs_233 rfl (SX.o hS' rfl) ?_
    refine aw_iconst (q := 65) (v := 1) rfl rfl (by decide) ?_
    refine aw_iadd (q := 66) rfl rfl ?_
    refine aw_mmin (q := 69) rfl rfl (tb_c4 167 rfl rfl) (tb_c3 142 rfl rfl) (tb_c1 18 rfl rfl) (tb_c3 143 rfl rfl) (by decide) (by decide) hk hn (Nat.le_of_ble_eq_true rfl) ?_
    refine ag_putI (q := 72) rfl rfl fl_Rs_233 rfl rfl (SX.o hS' rfl) ?_
    refine aw_aload_n (q := 73) (j := 0) rfl rfl rfl (List.mem_of_getElem? (i := 0) rfl) ?_
    refine ag_getR (q := 76) rfl rfl fl_Rs_32 rfl (SX.o hS' rfl) (SX.r hS' rfl) ?_
    refine ag_cvV (z := m_Planner_dropWays) (ci := 5) (av := []) (st := []) (q := 79) (k' := k) (n' := n) rfl rfl cv_Rs_243 ⟨by decide, by decide⟩ rfl rfl hk hn (SX.o hS' rfl) rfl rfl rfl (Nat.le_of_ble_eq_true rfl) (f_Planner_dropWays hS' ?_)
    refine aw_return rfl rfl hk hn (rV.mk (h g' _ b G ?_ ?_ ?_ ?_ ?_ ?_ ?_))
    · rw [hr_c2 (s := u1) (fun a b1 b2 => by rw [wi_n _ _ _ (by omega), wi_n _ _ _ (by omega), wi_n _ _ _ (by omega)]), a1, hr_c2 (s := s) (fun a b1 b2 => U1 a (by omega))]
    · exact (CH.of a2 hC0).cg (fun a b1 b2 => by rw [wi_n _ _ _ (by omega), wi_n _ _ _ (by omega), wi_n _ _ _ (by omega)])
    · rw [wi_n _ _ _ (by decide), wi_s, upd_n _ _ (by decide), wi_s, upd_s, a3.1 16 (by omega), e14, nI_1, show (40 : Int32) = nI 40 from rfl, pk_rem (by omega) (by omega) (by omega)]
    · rw [wi_n _ _ _ (by decide), wi_s, upd_s, wi_s, upd_n _ _ (by decide), a3.1 16 (by omega), e15, nI_1, show (40 : Int32) = nI 40 from rfl]
      by_cases q : m < 40
      · rw [if_pos q]
        by_cases q2 : m + 1 < 40
        · rw [if_pos (nI_lt q2 (by omega))]
        · rw [if_neg (nI_nlt (by omega) (by omega)), show m + 1 = 40 by omega]
      · rw [if_neg q, if_neg (nI_nlt (by omega) (by omega))]
    · intro j j1 j2
      rw [wi_n _ _ _ (by decide), wi_s, upd_n _ _ j2, wi_s, upd_n _ _ j1, a3.1 16 (by omega), U1 16 (by omega)]
    · rw [wi_s, upd_s]
    · refine ⟨fun a x1 x2 x3 x4 => ?_, fun a x1 => ?_⟩
      · rw [wi_n _ _ _ x4, wi_n _ _ _ x3, wi_n _ _ _ x3, a3.1 a x2, U1 a x1]
      · rw [wi_2, wi_2, wi_2, a3.2]; exact (U a (by omega)).2
  refine aw_aload_n (q := 1) (j := 0) rfl rfl rfl (List.mem_of_getElem? (i := 0) rfl) ?_
  refine ag_getR (q := 4) rfl rfl fl_Rs_50 rfl (SX.o hS rfl) (SX.r hS rfl) ?_
  refine aw_aload_n (q := 5) (j := 0) rfl rfl rfl (List.mem_of_getElem? (i := 0) rfl) ?_
  refine ag_getI (q := 8) rfl rfl fl_Rs_236 rfl (SX.o hS rfl) ?_
  rw [h14]
  have epa : pa g e = g.2.2 86 e := by unfold pa; rw [if_pos he]
  cases hb : g.2.2 86 e with
  | some b =>
    refine ag_aaload (q := 9) (N := 40) (b := b) rfl rfl (Or.inl rfl) (SX.a hS rfl) (vp_in_nI he (by omega)) (by rw [tn_n (by omega)]; exact hb) ?_
    refine aw_ifnonnull (tgt := 28) rfl (by decide) ?_
    exact tail 0 0 g s b (by omega) (by omega) (GP.rf hS hP (by omega) (by rw [epa, hb])) (fun a _ => ⟨rfl, rfl⟩)
  | none =>
    refine ag_aaloadN (q := 9) (N := 40) rfl rfl (Or.inl rfl) (SX.a hS rfl) (vp_in_nI he (by omega)) (by rw [tn_n (by omega)]; exact hb) ?_
    refine aw_ifnonnullN (q := 12) rfl rfl ?_
    refine aw_aload_n (q := 13) (j := 0) rfl rfl rfl (List.mem_of_getElem? (i := 0) rfl) ?_
    refine ag_getR (q := 16) rfl rfl fl_Rs_50 rfl (SX.o hS rfl) (SX.r hS rfl) ?_
    refine aw_aload_n (q := 17) (j := 0) rfl rfl rfl (List.mem_of_getElem? (i := 0) rfl) ?_
    refine ag_getI (q := 20) rfl rfl fl_Rs_236 rfl (SX.o hS rfl) ?_
    rw [h14]
    refine ag_new (q := 23) (ci := 2) (k' := 1) (n' := 9) rfl rfl nc_Rs_43 rfl rfl (by decide) (by decide) ?_
    refine aw_dup (q := 24) rfl rfl rfl ?_
    refine ax_cnV (z := m_House_init) (av := []) (q := 27) (k' := 12) (n' := 131) rfl rfl cn_Rs_45 ⟨by decide, by decide⟩ rfl rfl (by decide) (by decide) rfl rfl (Nat.le_of_ble_eq_true rfl) ?_
    refine f_House_init (by omega) rfl (by rw [gn_k, if_pos rfl]) (fun G u p1 p2 => ?_)
    have lw := p1.2.1
    have a86 : AG G 86 5 40 := ⟨by rw [(lw 86 (by omega)).1, gn_k, if_neg (by omega)]; exact (SX.a hS (a := 86) (t := 5) (N := 40) rfl).1, by omega, by rw [p1.1]; omega⟩
    refine ag_aastore (q := 28) (ci := 2) rfl rfl (Or.inl ⟨rfl, rfl⟩) a86 (vp_in_nI he (by omega)) ⟨p1.2.2.1, by omega, by rw [p1.1]; omega⟩ ?_
    rw [tn_n (by omega)]
    refine tail 12 131 _ u g.1 (by omega) (by omega) (GP.new hS hP (by omega) (Or.inl ⟨he, rfl, rfl⟩) (by rw [epa, hb]) p1) (fun a ha => ?_)
    have := p2.1 a (by omega)
    rw [sn_1, sn_2, if_neg (by omega), if_neg (by omega)] at this
    exact this
set_option maxRecDepth 20000 in
theorem k_hold {R : Int32 → GS → MS → Prop} {i : Nat} (hS : SX g) (hP : POOL g) (hi : i < 3) (hC : CH 74 s) (h : ∀ g' u b, GP g g' (40 + i) b → hr u b = hr s 74 → CH b u → u.1 16 16 = s.1 16 16 ||| ((1 : Int32) <<< (nI i &&& 31)) → (∀ j, j ≠ 16 → u.1 16 j = s.1 16 j) → u.1 31 = s.1 31 → FrM g.1 b s u → R 1 g' u) : XI E m_Rs_hold [.ref 16, .int (nI i)] g s R := by
  refine AMet.of (by decide) k_Rs_hold [(0, .ref 16), (1, .int (nI i))] (Nat.le_of_ble_eq_true rfl) rfl ?_
  have n173 : 173 ≤ g.1 := hS.2.2.1
  have tail : ∀ k n g' u0 b, k ≤ 12 → n ≤ 131 → GP g g' (40 + i) b → (∀ a, a < g.1 → u0.1 a = s.1 a ∧ u0.2 a = s.2 a) → AWP E m_Rs_hold 32 k n [(0, .ref 16), (1, .int (nI i))] [] (mk g' u0) (rI R) := by
    intro k n g' u0 b hk hn G U
    have hS' := G.1
    have U1 : ∀ a, a < g.1 → u0.1 a = s.1 a := fun a ha => (U a ha).1
    have pb : g'.2.2 87 i = some b := by have := G.2.2.1; unfold pa at this; rw [if_neg (by omega), show 40 + i - 40 = i by omega] at this; exact this
    refine aw_aload_n (q := 33) (j := 0) rfl rfl rfl (List.mem_of_getElem? (i := 0) rfl) ?_
    refine ag_getR (q := 36) rfl rfl fl_Rs_54 rfl (SX.o hS' rfl) (SX.r hS' rfl) ?_
    refine aw_iload_n (q := 37) (j := 1) rfl rfl rfl (List.mem_of_getElem? (i := 1) rfl) ?_
    refine ag_aaload (q := 38) (N := 3) (b := b) rfl rfl (Or.inl rfl) (SX.a hS' rfl) (vp_in_nI hi (by omega)) (by rw [tn_n (by omega)]; exact pb) ?_
    refine aw_aload_n (q := 39) (j := 0) rfl rfl rfl (List.mem_of_getElem? (i := 0) rfl) ?_
    refine ag_getR (q := 42) rfl rfl fl_Rs_46 rfl (SX.o hS' rfl) (SX.r hS' rfl) ?_
    refine ag_cvV (z := m_House_take) (ci := 2) (av := [.ref 74]) (st := []) (q := 45) (k' := k) (n' := n) rfl rfl cv_Rs_239 ⟨by decide, by decide⟩ rfl rfl hk hn (HS.o G.2.2.2.2.1.1) rfl rfl rfl (Nat.le_of_ble_eq_true rfl) ?_
    have bl := G.2.2.2.2.1.2
    have hC0 : CH 74 u0 := hC.cg (fun a a1 a2 => U1 a (by omega))
    refine f_House_take G.2.2.2.2.1.1 (HS74 hS') (by omega) (fun u1 a1 a2 a3 => ?_)
    refine aw_aload_n (q := 46) (j := 0) rfl rfl rfl (List.mem_of_getElem? (i := 0) rfl) ?_
    refine aw_dup (q := 47) rfl rfl rfl ?_
    refine ag_getI (q := 50) rfl rfl fl_Rs_341 rfl (SX.o hS' rfl) ?_
    refine aw_iconst (q := 51) (v := 1) rfl rfl (by decide) ?_
    refine aw_iload_n (q := 52) (j := 1) rfl rfl rfl (List.mem_of_getElem? (i := 1) rfl) ?_
    refine aw_ishl (q := 53) rfl rfl ?_
    refine aw_ior (q := 54) rfl rfl ?_
    refine ag_putI (q := 57) rfl rfl fl_Rs_341 rfl rfl (SX.o hS' rfl) ?_
    refine aw_iconst (q := 58) (v := 1) rfl rfl (by decide) ?_
    refine aw_ireturn (ty := .boolean) rfl rfl rfl hk hn (rI.mk (h g' _ b G ?_ ?_ ?_ ?_ ?_ ?_))
    · rw [hr_c2 (s := u1) (fun a b1 b2 => by rw [wi_n _ _ _ (by omega)]), a1, hr_c2 (s := s) (fun a b1 b2 => U1 a (by omega))]
    · exact (CH.of a2 hC0).cg (fun a b1 b2 => by rw [wi_n _ _ _ (by omega)])
    · rw [wi_s, upd_s, a3.1 16 (by omega), U1 16 (by omega)]
    · intro j j1
      rw [wi_s, upd_n _ _ j1, a3.1 16 (by omega), U1 16 (by omega)]
    · rw [wi_n _ _ _ (by decide), a3.1 31 (by omega), U1 31 (by omega)]
    · refine ⟨fun a x1 x2 x3 x4 => ?_, fun a x1 => ?_⟩
      · rw [wi_n _ _ _ x3, a3.1 a x2, U1 a x1]
      · rw [wi_2, a3.2]; exact (U a (by omega)).2
  refine aw_iload_n (q := 1) (j := 1) rfl rfl rfl (List.mem_of_getElem? (i := 1) rfl) ?_
  refine aw_iconst (q := 2) (v := 3) rfl rfl (by decide) ?_
  refine ag_csI (z := m_Rs_isOf) (av := [.int (nI i), .int 3]) (st := []) (q := 5) (k' := 0) (n' := 0) rfl rfl cs_Rs_122 ⟨by decide, by decide⟩ rfl rfl (by decide) (by decide) rfl rfl (Nat.le_of_ble_eq_true rfl) ?_
  refine f_Rs_isOf (fun q => absurd ⟨nI_pos' (by omega), nI_lt (b := 3) hi (by omega)⟩ q) (fun _ => ?_)
  refine aw_if_ne (q := 8) (tgt := 10) rfl rfl (by decide) ⟨fun c => absurd c (by decide), fun _ => ?_⟩
  refine aw_aload_n (q := 11) (j := 0) rfl rfl rfl (List.mem_of_getElem? (i := 0) rfl) ?_
  refine ag_getR (q := 14) rfl rfl fl_Rs_54 rfl (SX.o hS rfl) (SX.r hS rfl) ?_
  refine aw_iload_n (q := 15) (j := 1) rfl rfl rfl (List.mem_of_getElem? (i := 1) rfl) ?_
  have epa : pa g (40 + i) = g.2.2 87 i := by unfold pa; rw [if_neg (by omega), show 40 + i - 40 = i by omega]
  cases hb : g.2.2 87 i with
  | some b =>
    refine ag_aaload (q := 16) (N := 3) (b := b) rfl rfl (Or.inl rfl) (SX.a hS rfl) (vp_in_nI hi (by omega)) (by rw [tn_n (by omega)]; exact hb) ?_
    refine aw_ifnonnull (tgt := 32) rfl (by decide) ?_
    exact tail 0 0 g s b (by omega) (by omega) (GP.rf hS hP (by omega) (by rw [epa, hb])) (fun a _ => ⟨rfl, rfl⟩)
  | none =>
    refine ag_aaloadN (q := 16) (N := 3) rfl rfl (Or.inl rfl) (SX.a hS rfl) (vp_in_nI hi (by omega)) (by rw [tn_n (by omega)]; exact hb) ?_
    refine aw_ifnonnullN (q := 19) rfl rfl ?_
    refine aw_aload_n (q := 20) (j := 0) rfl rfl rfl (List.mem_of_getElem? (i := 0) rfl) ?_
    refine ag_getR (q := 23) rfl rfl fl_Rs_54 rfl (SX.o hS rfl) (SX.r hS rfl) ?_
    refine aw_iload_n (q := 24) (j := 1) rfl rfl rfl (List.mem_of_getElem? (i := 1) rfl) ?_
    refine ag_new (q := 27) (ci := 2) (k' := 1) (n' := 9) rfl rfl nc_Rs_43 rfl rfl (by decide) (by decide) ?_
    refine aw_dup (q := 28) rfl rfl rfl ?_
    refine ax_cnV (z := m_House_init) (av := []) (q := 31) (k' := 12) (n' := 131) rfl rfl cn_Rs_45 ⟨by decide, by decide⟩ rfl rfl (by decide) (by decide) rfl rfl (Nat.le_of_ble_eq_true rfl) ?_
    refine f_House_init (by omega) rfl (by rw [gn_k, if_pos rfl]) (fun G u p1 p2 => ?_)
    have lw := p1.2.1
    have a87 : AG G 87 5 3 := ⟨by rw [(lw 87 (by omega)).1, gn_k, if_neg (by omega)]; exact (SX.a hS (a := 87) (t := 5) (N := 3) rfl).1, by omega, by rw [p1.1]; omega⟩
    refine ag_aastore (q := 32) (ci := 2) rfl rfl (Or.inl ⟨rfl, rfl⟩) a87 (vp_in_nI hi (by omega)) ⟨p1.2.2.1, by omega, by rw [p1.1]; omega⟩ ?_
    rw [tn_n (by omega)]
    refine tail 12 131 _ u g.1 (by omega) (by omega) (GP.new hS hP (by omega) (Or.inr ⟨by omega, rfl, by omega⟩) (by rw [epa, hb]) p1) (fun a ha => ?_)
    have := p2.1 a (by omega)
    rw [sn_1, sn_2, if_neg (by omega), if_neg (by omega)] at this
    exact this
theorem k_holdNo {R : Int32 → GS → MS → Prop} {x : Int32} (hi : ¬ (0 ≤ x ∧ x < 3)) (h : R 0 g s) : XI E m_Rs_hold [.ref 16, .int x] g s R := by
  refine AMet.of (by decide) k_Rs_hold [(0, .ref 16), (1, .int x)] (Nat.le_of_ble_eq_true rfl) rfl ?_
  refine aw_iload_n (q := 1) (j := 1) rfl rfl rfl (List.mem_of_getElem? (i := 1) rfl) ?_
  refine aw_iconst (q := 2) (v := 3) rfl rfl (by decide) ?_
  refine ag_csI (z := m_Rs_isOf) (av := [.int x, .int 3]) (st := []) (q := 5) (k' := 0) (n' := 0) rfl rfl cs_Rs_122 ⟨by decide, by decide⟩ rfl rfl (by decide) (by decide) rfl rfl (Nat.le_of_ble_eq_true rfl) ?_
  refine f_Rs_isOf (fun _ => ?_) (fun q => absurd q hi)
  refine aw_if_ne (q := 8) (tgt := 10) rfl rfl (by decide) ⟨fun _ => ?_, fun c => absurd rfl c⟩
  refine aw_iconst (q := 9) (v := 0) rfl rfl (by decide) ?_
  exact aw_ireturn (ty := .boolean) rfl rfl rfl (by decide) (by decide) (rI.mk h)
set_option maxRecDepth 20000 in
theorem k_undo {R : Int32 → MS → Prop} {e m : Nat} (hS : SX g) (he : e < 40) (h14 : s.1 16 14 = nI e) (h15 : s.1 16 15 = nI m) (hm : m ≤ 40) (h0 : m = 0 → R 0 s) (h1 : 0 < m → ∃ b, pa g ((e + 39) % 40) = some b ∧ HS g b ∧ 173 ≤ b ∧ CH b s) (h : ∀ u b, 0 < m → pa g ((e + 39) % 40) = some b → hr u 74 = hr s b → CH 74 u → u.1 16 14 = nI ((e + 39) % 40) → u.1 16 15 = nI (m - 1) → (∀ j, j ≠ 14 → j ≠ 15 → u.1 16 j = s.1 16 j) → u.1 31 4 = 0 → (∀ a, (a < 74 ∨ 86 ≤ a) → a ≠ 16 → a ≠ 31 → u.1 a = s.1 a) → u.2 = s.2 → R 1 u) : GI E m_Rs_undo [.ref 16] g s R := by
  refine AMet.of (by decide) k_Rs_undo [(0, .ref 16)] (Nat.le_of_ble_eq_true rfl) rfl ?_
  refine aw_aload_n (q := 1) (j := 0) rfl rfl rfl (List.mem_of_getElem? (i := 0) rfl) ?_
  refine ag_getI (q := 4) rfl rfl fl_Rs_233 rfl (SX.o hS rfl) ?_
  rw [h15]
  rcases Nat.eq_zero_or_pos m with z | z
  · subst z
    refine aw_if_ne (q := 7) (tgt := 9) rfl rfl (by decide) ⟨fun _ => ?_, fun c => absurd rfl c⟩
    refine aw_iconst (q := 8) (v := 0) rfl rfl (by decide) ?_
    exact aw_ireturn (ty := .boolean) rfl rfl rfl (by decide) (by decide) (qI.mk (h0 rfl))
  · obtain ⟨b, pb, hH, bl, hC⟩ := h1 z
    have l40 : (e + 39) % 40 < 40 := Nat.mod_lt _ (by decide)
    have pb' : g.2.2 86 ((e + 39) % 40) = some b := by have := pb; unfold pa at this; rw [if_pos l40] at this; exact this
    refine aw_if_ne (q := 7) (tgt := 9) rfl rfl (by decide) ⟨fun c => absurd c (nI_ne0 z (by omega)), fun _ => ?_⟩
    refine aw_aload_n (q := 10) (j := 0) rfl rfl rfl (List.mem_of_getElem? (i := 0) rfl) ?_
    refine ag_getI (q := 13) rfl rfl fl_Rs_236 rfl (SX.o hS rfl) ?_
    refine aw_bipush (q := 15) (v := 40) rfl rfl (by decide) ?_
    refine aw_iadd (q := 16) rfl rfl ?_
    refine aw_iconst (q := 17) (v := 1) rfl rfl (by decide) ?_
    refine aw_isub (q := 18) rfl rfl ?_
    refine aw_bipush (q := 20) (v := 40) rfl rfl (by decide) ?_
    refine aw_irem (q := 21) rfl rfl (by decide) ?_
    rw [h14, show (nI e + 40 - 1 : Int32) = nI (e + 39) by rw [show (40 : Int32) = nI 40 from rfl, nI_add, show (1 : Int32) = nI 1 from rfl, pk_sub (by omega)]; rfl, show (40 : Int32) = nI 40 from rfl, pk_rem (by omega) (by omega) (by omega)]
    refine aw_istore_n (q := 22) (j := 1) (ls' := [(1, .int (nI ((e + 39) % 40))), (0, .ref 16)]) rfl rfl rfl (by decide) rfl ?_
    refine aw_aload_n (q := 23) (j := 0) rfl rfl rfl (List.mem_of_getElem? (i := 1) rfl) ?_
    refine ag_getR (q := 26) rfl rfl fl_Rs_50 rfl (SX.o hS rfl) (SX.r hS rfl) ?_
    refine aw_iload_n (q := 27) (j := 1) rfl rfl rfl (List.mem_of_getElem? (i := 0) rfl) ?_
    refine ag_aaload (q := 28) (N := 40) (b := b) rfl rfl (Or.inl rfl) (SX.a hS rfl) (vp_in_nI l40 (by omega)) (by rw [tn_n (by omega)]; exact pb') ?_
    refine aw_ifnonnull (tgt := 33) rfl (by decide) ?_
    refine aw_aload_n (q := 34) (j := 0) rfl rfl rfl (List.mem_of_getElem? (i := 1) rfl) ?_
    refine ag_getR (q := 37) rfl rfl fl_Rs_46 rfl (SX.o hS rfl) (SX.r hS rfl) ?_
    refine aw_aload_n (q := 38) (j := 0) rfl rfl rfl (List.mem_of_getElem? (i := 1) rfl) ?_
    refine ag_getR (q := 41) rfl rfl fl_Rs_50 rfl (SX.o hS rfl) (SX.r hS rfl) ?_
    refine aw_iload_n (q := 42) (j := 1) rfl rfl rfl (List.mem_of_getElem? (i := 0) rfl) ?_
    refine ag_aaload (q := 43) (N := 40) (b := b) rfl rfl (Or.inl rfl) (SX.a hS rfl) (vp_in_nI l40 (by omega)) (by rw [tn_n (by omega)]; exact pb') ?_
    refine ag_cvV (z := m_House_take) (ci := 2) (av := [.ref b]) (st := []) (q := 46) (k' := 0) (n' := 0) rfl rfl cv_Rs_239 ⟨by decide, by decide⟩ rfl rfl (by decide) (by decide) (HS.o (HS74 hS)) rfl rfl rfl (Nat.le_of_ble_eq_true rfl) ?_
    refine f_House_take (HS74 hS) hH (by omega) (fun u1 a1 a2 a3 => ?_)
    refine aw_aload_n (q := 47) (j := 0) rfl rfl rfl (List.mem_of_getElem? (i := 1) rfl) ?_
    refine aw_iload_n (q := 48) (j := 1) rfl rfl rfl (List.mem_of_getElem? (i := 0) rfl) ?_
    refine ag_putI (q := 51) rfl rfl fl_Rs_236 rfl rfl (SX.o hS rfl) ?_
    refine aw_aload_n (q := 52) (j := 0) rfl rfl rfl (List.mem_of_getElem? (i := 1) rfl) ?_
    refine aw_dup (q := 53) rfl rfl rfl ?_
    refine ag_getI (q := 56) rfl rfl fl_Rs_233 rfl (SX.o hS rfl) ?_
    refine aw_iconst (q := 57) (v := 1) rfl rfl (by decide) ?_
    refine aw_isub (q := 58) rfl rfl ?_
    refine ag_putI (q := 61) rfl rfl fl_Rs_233 rfl rfl (SX.o hS rfl) ?_
    refine aw_aload_n (q := 62) (j := 0) rfl rfl rfl (List.mem_of_getElem? (i := 1) rfl) ?_
    refine ag_getR (q := 65) rfl rfl fl_Rs_32 rfl (SX.o hS rfl) (SX.r hS rfl) ?_
    refine ag_cvV (z := m_Planner_dropWays) (ci := 5) (av := []) (st := []) (q := 68) (k' := 0) (n' := 0) rfl rfl cv_Rs_243 ⟨by decide, by decide⟩ rfl rfl (by decide) (by decide) (SX.o hS rfl) rfl rfl rfl (Nat.le_of_ble_eq_true rfl) (f_Planner_dropWays hS ?_)
    refine aw_iconst (q := 69) (v := 1) rfl rfl (by decide) ?_
    refine aw_ireturn (ty := .boolean) rfl rfl rfl (by decide) (by decide) (qI.mk (h _ b z pb ?_ ?_ ?_ ?_ ?_ ?_ ?_ ?_))
    · rw [hr_c2 (s := u1) (fun a b1 b2 => by rw [wi_n _ _ _ (by omega), wi_n _ _ _ (by omega), wi_n _ _ _ (by omega)]), a1]
    · exact (CH.of a2 hC).cg (fun a b1 b2 => by rw [wi_n _ _ _ (by omega), wi_n _ _ _ (by omega), wi_n _ _ _ (by omega)])
    · rw [wi_n _ _ _ (by decide), wi_s, upd_n _ _ (by decide), wi_s, upd_s]
    · rw [wi_n _ _ _ (by decide), wi_s, upd_s, wi_s, upd_n _ _ (by decide), a3.1 16 (by omega), h15, show (1 : Int32) = nI 1 from rfl, pk_sub z]
    · intro j j1 j2
      rw [wi_n _ _ _ (by decide), wi_s, upd_n _ _ j2, wi_s, upd_n _ _ j1, a3.1 16 (by omega)]
    · rw [wi_s, upd_s]
    · intro a x1 x2 x3
      rw [wi_n _ _ _ x3, wi_n _ _ _ x2, wi_n _ _ _ x2, a3.1 a (by omega)]
    · rw [wi_2, wi_2, wi_2, a3.2]
set_option maxRecDepth 20000 in
theorem k_restore {R : Int32 → MS → Prop} {x : Int32} {hb : Nat} (hS : SX g) (hb8 : hb < 8) (h16 : s.1 16 16 = nI hb) (h0 : (¬ (0 ≤ x ∧ x < 3) ∨ ∃ i, i < 3 ∧ x = nI i ∧ hb.testBit i = false) → R 0 s) (h1 : ∀ i, i < 3 → x = nI i → hb.testBit i = true → ∃ b, pa g (40 + i) = some b ∧ HS g b ∧ 173 ≤ b ∧ CH b s) (h : ∀ u i b, i < 3 → x = nI i → hb.testBit i = true → pa g (40 + i) = some b → hr u 74 = hr s b → CH 74 u → u.1 16 15 = 0 → (∀ j, j ≠ 15 → u.1 16 j = s.1 16 j) → u.1 31 4 = 0 → (∀ a, (a < 74 ∨ 86 ≤ a) → a ≠ 16 → a ≠ 31 → u.1 a = s.1 a) → u.2 = s.2 → R 1 u) : GI E m_Rs_restore [.ref 16, .int x] g s R := by
  refine AMet.of (by decide) k_Rs_restore [(0, .ref 16), (1, .int x)] (Nat.le_of_ble_eq_true rfl) rfl ?_
  refine aw_iload_n (q := 1) (j := 1) rfl rfl rfl (List.mem_of_getElem? (i := 1) rfl) ?_
  refine aw_iconst (q := 2) (v := 3) rfl rfl (by decide) ?_
  refine ag_csI (z := m_Rs_isOf) (av := [.int x, .int 3]) (st := []) (q := 5) (k' := 0) (n' := 0) rfl rfl cs_Rs_122 ⟨by decide, by decide⟩ rfl rfl (by decide) (by decide) rfl rfl (Nat.le_of_ble_eq_true rfl) ?_
  have no : R 0 s → AWP E m_Rs_restore 28 0 0 [(0, .ref 16), (1, .int x)] [] (mk g s) (qI g R) := by
    intro w
    refine aw_iconst (q := 29) (v := 0) rfl rfl (by decide) ?_
    exact aw_ireturn (ty := .boolean) rfl rfl rfl (by decide) (by decide) (qI.mk w)
  refine f_Rs_isOf (fun q => ?_) (fun q => ?_)
  · exact aw_if_eq (q := 8) (tgt := 28) rfl rfl (by decide) ⟨fun _ => no (h0 (Or.inl q)), fun c => absurd rfl c⟩
  · obtain ⟨i, hi, rfl⟩ := lt_ex (n := 3) (by decide) q
    refine aw_if_eq (q := 8) (tgt := 28) rfl rfl (by decide) ⟨fun c => absurd c (by decide), fun _ => ?_⟩
    refine aw_aload_n (q := 9) (j := 0) rfl rfl rfl (List.mem_of_getElem? (i := 0) rfl) ?_
    refine ag_getI (q := 12) rfl rfl fl_Rs_341 rfl (SX.o hS rfl) ?_
    refine aw_iconst (q := 13) (v := 1) rfl rfl (by decide) ?_
    refine aw_iload_n (q := 14) (j := 1) rfl rfl rfl (List.mem_of_getElem? (i := 1) rfl) ?_
    refine aw_ishl (q := 15) rfl rfl ?_
    refine aw_iand (q := 16) rfl rfl ?_
    rw [h16]
    refine aw_if_eq (q := 19) (tgt := 28) rfl rfl (by decide) ⟨fun c => no (h0 (Or.inr ⟨i, hi, rfl, (bt_and hb (by omega) i (by omega)).mp c⟩)), fun c => ?_⟩
    have tb : hb.testBit i = true := by
      cases w : hb.testBit i
      · exact absurd ((bt_and hb (by omega) i (by omega)).mpr w) c
      · rfl
    obtain ⟨b, pb, hH, bl, hC⟩ := h1 i hi rfl tb
    have pb' : g.2.2 87 i = some b := by have := pb; unfold pa at this; rw [if_neg (by omega), show 40 + i - 40 = i by omega] at this; exact this
    refine aw_aload_n (q := 20) (j := 0) rfl rfl rfl (List.mem_of_getElem? (i := 0) rfl) ?_
    refine ag_getR (q := 23) rfl rfl fl_Rs_54 rfl (SX.o hS rfl) (SX.r hS rfl) ?_
    refine aw_iload_n (q := 24) (j := 1) rfl rfl rfl (List.mem_of_getElem? (i := 1) rfl) ?_
    refine ag_aaload (q := 25) (N := 3) (b := b) rfl rfl (Or.inl rfl) (SX.a hS rfl) (vp_in_nI hi (by omega)) (by rw [tn_n (by omega)]; exact pb') ?_
    refine aw_ifnonnull (tgt := 30) rfl (by decide) ?_
    refine aw_aload_n (q := 31) (j := 0) rfl rfl rfl (List.mem_of_getElem? (i := 0) rfl) ?_
    refine ag_getR (q := 34) rfl rfl fl_Rs_46 rfl (SX.o hS rfl) (SX.r hS rfl) ?_
    refine aw_aload_n (q := 35) (j := 0) rfl rfl rfl (List.mem_of_getElem? (i := 0) rfl) ?_
    refine ag_getR (q := 38) rfl rfl fl_Rs_54 rfl (SX.o hS rfl) (SX.r hS rfl) ?_
    refine aw_iload_n (q := 39) (j := 1) rfl rfl rfl (List.mem_of_getElem? (i := 1) rfl) ?_
    refine ag_aaload (q := 40) (N := 3) (b := b) rfl rfl (Or.inl rfl) (SX.a hS rfl) (vp_in_nI hi (by omega)) (by rw [tn_n (by omega)]; exact pb') ?_
    refine ag_cvV (z := m_House_take) (ci := 2) (av := [.ref b]) (st := []) (q := 43) (k' := 0) (n' := 0) rfl rfl cv_Rs_239 ⟨by decide, by decide⟩ rfl rfl (by decide) (by decide) (HS.o (HS74 hS)) rfl rfl rfl (Nat.le_of_ble_eq_true rfl) ?_
    refine f_House_take (HS74 hS) hH (by omega) (fun u1 a1 a2 a3 => ?_)
    refine aw_aload_n (q := 44) (j := 0) rfl rfl rfl (List.mem_of_getElem? (i := 0) rfl) ?_
    refine aw_iconst (q := 45) (v := 0) rfl rfl (by decide) ?_
    refine ag_putI (q := 48) rfl rfl fl_Rs_233 rfl rfl (SX.o hS rfl) ?_
    refine aw_aload_n (q := 49) (j := 0) rfl rfl rfl (List.mem_of_getElem? (i := 0) rfl) ?_
    refine ag_getR (q := 52) rfl rfl fl_Rs_32 rfl (SX.o hS rfl) (SX.r hS rfl) ?_
    refine ag_cvV (z := m_Planner_dropWays) (ci := 5) (av := []) (st := []) (q := 55) (k' := 0) (n' := 0) rfl rfl cv_Rs_243 ⟨by decide, by decide⟩ rfl rfl (by decide) (by decide) (SX.o hS rfl) rfl rfl rfl (Nat.le_of_ble_eq_true rfl) (f_Planner_dropWays hS ?_)
    refine aw_iconst (q := 56) (v := 1) rfl rfl (by decide) ?_
    refine aw_ireturn (ty := .boolean) rfl rfl rfl (by decide) (by decide) (qI.mk (h _ i b hi rfl tb pb ?_ ?_ ?_ ?_ ?_ ?_ ?_))
    · rw [hr_c2 (s := u1) (fun a b1 b2 => by rw [wi_n _ _ _ (by omega), wi_n _ _ _ (by omega)]), a1]
    · exact (CH.of a2 hC).cg (fun a b1 b2 => by rw [wi_n _ _ _ (by omega), wi_n _ _ _ (by omega)])
    · rw [wi_n _ _ _ (by decide), wi_s, upd_s]
    · intro j j1
      rw [wi_n _ _ _ (by decide), wi_s, upd_n _ _ j1, a3.1 16 (by omega)]
    · rw [wi_s, upd_s]
    · intro a x1 x2 x3
      rw [wi_n _ _ _ x3, wi_n _ _ _ x2, a3.1 a (by omega)]
    · rw [wi_2, wi_2, a3.2]
end Pool
