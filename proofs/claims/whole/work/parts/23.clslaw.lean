/-! LAWS as the class holds them -/
def enc (q : Nat × Nat) : Int32 := if q.1 = 0 then nI q.2 else if q.1 = 1 then -(nI (17 + q.2)) else -(nI (24 + q.1))
def SC (A : Row) : Nat → Cd → Prop
  | _, [] => True
  | i, q :: c => A i = enc q ∧ SC A (i + 1) c
theorem SC.app {A : Row} : ∀ (c1 c2 : Cd) (i : Nat), SC A i c1 → SC A (i + c1.length) c2 → SC A i (c1 ++ c2)
  | [], _, _, _, h => h
  | q :: c, c2, i, h, h2 => ⟨h.1, SC.app c c2 (i + 1) h.2 (by rw [show i + 1 + c.length = i + (q :: c).length by simp; omega]; exact h2)⟩
theorem SC.up {A A' : Row} : ∀ (c : Cd) (i : Nat), (∀ j, i ≤ j → j < i + c.length → A' j = A j) → SC A i c → SC A' i c
  | [], _, _, _ => trivial
  | q :: c, i, h, k => ⟨by rw [h i (Nat.le_refl _) (by simp)]; exact k.1, SC.up c (i + 1) (fun j h1 h2 => h j (by omega) (by simp; omega)) k.2⟩
/-- how many steps a branch makes -/
def bl (q : Br) : Nat := if q.1 = true then q.2.1.length + q.2.2.1.length + 2 + q.2.2.2.length + 1 else q.2.2.2.length + 1
def SB (A : Row) (i : Nat) (q : Br) : Prop := if q.1 = true then SC A i q.2.1 ∧ SC A (i + q.2.1.length) q.2.2.1 ∧ A (i + q.2.1.length + q.2.2.1.length) = -15 ∧ A (i + q.2.1.length + q.2.2.1.length + 1) = nI (i + bl q) ∧ SC A (i + q.2.1.length + q.2.2.1.length + 2) q.2.2.2 ∧ A (i + q.2.1.length + q.2.2.1.length + 2 + q.2.2.2.length) = -24
  else SC A i q.2.2.2 ∧ A (i + q.2.2.2.length) = -24
def SL (A : Row) : Nat → List Br → Nat → Prop
  | i, [], n => i = n
  | i, q :: l, n => SB A i q ∧ SL A (i + bl q) l n
theorem SL.le {A : Row} : ∀ (l : List Br) (i n : Nat), SL A i l n → i ≤ n
  | [], i, n, h => by have : i = n := h; omega
  | q :: l, i, n, h => by have := SL.le l _ n h.2; omega
/-- the last branch alone has no test -/
def lst (l : List Br) : Prop := ∃ l' q, l = l' ++ [q] ∧ q.1 = false ∧ ∀ x, x ∈ l' → x.1 = true
def CLaw (s : MS) (w k : Nat) (l : List Br) : Prop := (l = [] ∧ s.1 (w + 2) k = -1) ∨ (lst l ∧ ∃ i n m, s.1 (w + 2) k = nI i ∧ SL (s.1 (w + 1)) i l n ∧ n ≤ m ∧ m ≤ 400 ∧ s.1 w 4 = nI m ∧ wfl l)
theorem CLaw.mv {s u : MS} {w k : Nat} {l : List Br} (h0 : u.1 w = s.1 w) (h1 : u.1 (w + 1) = s.1 (w + 1)) (h2 : u.1 (w + 2) = s.1 (w + 2)) (h : CLaw s w k l) : CLaw u w k l := by
  unfold CLaw at *
  rw [h0, h1, h2]; exact h
theorem enc_0 {q : Nat × Nat} (h : q.1 = 0) : enc q = nI q.2 := by rw [enc, if_pos h]
theorem enc_1 {q : Nat × Nat} (h : q.1 = 1) : enc q = -(nI (17 + q.2)) := by rw [enc, if_neg (by omega), if_pos h]
theorem enc_2 {q : Nat × Nat} (h : 2 ≤ q.1) : enc q = -(nI (24 + q.1)) := by rw [enc, if_neg (by omega), if_neg (by omega)]
theorem en17 : ∀ i, i < 7 → ¬ -(nI (17 + i)) = (-24 : Int32) ∧ ¬ -(nI (17 + i)) ≤ (-24 : Int32) ∧ ¬ -(nI (17 + i)) = (-15 : Int32) ∧ -(nI (17 + i)) < (0 : Int32) ∧ (-(-(nI (17 + i))) - 17 : Int32) = nI i ∧ ¬ (-17 : Int32) < -(nI (17 + i)) ∧ ¬ -(nI (17 + i)) < (-23 : Int32) := by decide +kernel
theorem en24 : ∀ i, i < 6 → 2 ≤ i → ¬ -(nI (24 + i)) = (-24 : Int32) ∧ -(nI (24 + i)) ≤ (-24 : Int32) ∧ ¬ -(nI (24 + i)) = (-15 : Int32) ∧ (-(nI (24 + i)) = (-29 : Int32) ↔ i = 5) ∧ ((-(nI (24 + i)) < (-28 : Int32) ∨ (-26 : Int32) < -(nI (24 + i))) ↔ i = 5) ∧ (-(nI (24 + i)) = (-28 : Int32) ↔ i = 4) ∧ (-(nI (24 + i)) = (-27 : Int32) ↔ i = 3) ∧ (-(nI (24 + i)) = (-26 : Int32) ↔ i = 2) := by decide +kernel
theorem en24' : ∀ i, i < 6 → 2 ≤ i → ¬ (-17 : Int32) < -(nI (24 + i)) ∧ -(nI (24 + i)) < (-23 : Int32) ∧ -(nI (24 + i)) < (0 : Int32) := by decide +kernel
theorem en0' {n : Nat} (h : n ≤ 9999) : (-17 : Int32) < nI n := Int32.lt_of_lt_of_le (by decide) (nI_pos' (show n < 2 ^ 31 by omega))
theorem en0 {n : Nat} (h : n ≤ 9999) : ¬ nI n = (-24 : Int32) ∧ ¬ nI n ≤ (-24 : Int32) ∧ ¬ nI n = (-15 : Int32) ∧ ¬ nI n < (0 : Int32) := by
  have h0 := nI_pos' (show n < 2 ^ 31 by omega)
  refine ⟨fun z => ?_, fun z => ?_, fun z => ?_, Int32.not_lt.mpr h0⟩
  · rw [z] at h0; exact absurd h0 (by decide)
  · exact absurd (Int32.le_trans h0 z) (by decide)
  · rw [z] at h0; exact absurd h0 (by decide)
/-- what a law of the class changes -/
def FrV (w : Nat) (s u : MS) : Prop := (∀ a, a ≠ w + 4 → u.1 a = s.1 a) ∧ u.2 = s.2
theorem FrV.rf (w : Nat) (s : MS) : FrV w s s := ⟨fun _ _ => rfl, rfl⟩
theorem FrV.tr {w : Nat} {s u v : MS} (h : FrV w s u) (k : FrV w u v) : FrV w s v := ⟨fun a h1 => (k.1 a h1).trans (h.1 a h1), k.2.trans h.2⟩
theorem FrV.w {w : Nat} {s : MS} {k : Nat} {v : Int32} : FrV w s (wi s (w + 4) k v) := ⟨fun a h1 => wi_n s k v h1, rfl⟩
section ClsLaw
variable {E : EN} {g : GS} {w : Nat}
theorem f_Laws_join {s : MS} {R : Int32 → MS → Prop} {k : Nat} {x y : Int32} (h2 : 2 ≤ k) (h5 : k ≤ 5) (hz : ¬ (k = 5 ∧ y = 0)) (h : R (cop k x y) s) : GI E m_Laws_join [.int (-(nI (24 + k))), .int x, .int y] g s R := by
  obtain ⟨-, -, -, -, e1, e2, e3, e4⟩ := en24 k (by omega) h2
  refine v_Laws_join (Q := qI g R) _ x y ⟨fun c => ⟨fun z => absurd ⟨e1.mp c, z⟩ hz, fun z => ⟨z, GI.r ?_⟩⟩, fun c => GI.r ?_, fun c => GI.r ?_, fun c => GI.r ?_⟩
  · rw [cop, e1.mp c] at h; exact h
  · rw [cop, e2.mp c] at h; exact h
  · rw [cop, e3.mp c] at h; exact h
  · rw [cop, e4.mp c] at h; exact h
/-- the steps of an expression -/
theorem l_Laws_run {s : MS} {Q : Option Value → SG → Prop} (hS : SX g) (hW : LW g w) (hw : 32 ≤ w) {ms i0 f : Nat} (hms : ms ≤ 400) (h4 : s.1 w 4 = nI ms) (x1 : Int32) {T : Option (List Int32)} {e : Nat}
    (h : ∀ u st dn, FrV w s u → T = some st → PL (u.1 (w + 4)) st → dn + i0 ≤ e → AWP E m_Laws_valueOf 23 0 0 [(0, .ref w), (1, .int x1), (2, .ref 30), (3, .int (nI e)), (4, .int (nI st.length)), (5, .int (nI dn))] [] (mk g u) Q)
    (h0 : ∀ u, FrV w s u → T = none → Q (some (.int 0)) (mk g u)) : ∀ (c : Cd) (i : Nat) (st : List Int32) (dn : Nat) (u : MS), i + c.length = e → e ≤ ms → st.length ≤ 32 → dn + i0 ≤ i → SC (s.1 (w + 1)) i c → wfc 32 c st.length f → PL (u.1 (w + 4)) st → run (s.1 30) c st = T → FrV w s u → AWP E m_Laws_valueOf 23 0 0 [(0, .ref w), (1, .int x1), (2, .ref 30), (3, .int (nI i)), (4, .int (nI st.length)), (5, .int (nI dn))] [] (mk g u) Q
  | [], i, st, dn, u, hi, he, hst, hdn, _, hwf, hp, hr, hF => by
    have hi' : i = e := by simpa using hi
    rw [hi']
    exact h u st dn hF hr.symm hp (by omega)
  | q :: c, i, st, dn, u, hi, he, hst, hdn, hc, hwf, hp, hr, hF => by
    have hi' : i + c.length + 1 = e := by rw [← hi]; simp; omega
    have hA : u.1 (w + 1) i = enc q := by rw [hF.1 _ (by omega)]; exact hc.1
    have hM : u.1 w 4 = nI ms := by rw [hF.1 _ (by omega)]; exact h4
    have h30 : u.1 30 = s.1 30 := hF.1 _ (by omega)
    have next : ∀ (u1 : MS) (st' : List Int32) (x6 x7 : Int32), FrV w s u1 → st'.length ≤ 32 → wfc 32 c st'.length f → PL (u1.1 (w + 4)) st' → run (s.1 30) c st' = T → AWP E m_Laws_valueOf 255 0 0 [(0, .ref w), (1, .int x1), (2, .ref 30), (3, .int (nI (i + 1))), (4, .int (nI st'.length)), (5, .int (nI dn)), (6, .int x6), (7, .int x7)] [] (mk g u1) Q := by
      intro u1 st' x6 x7 hF1 hl hw1 hp1 hr1
      refine v_Laws_valueOf_255 w x1 _ _ _ x6 x7 ?_
      rw [nI_1]
      exact l_Laws_run hS hW hw hms h4 x1 h h0 c (i + 1) st' (dn + 1) u1 (by omega) he hl (by omega) hc.2 hw1 hp1 hr1 hF1
    refine v_Laws_valueOf_23 w x1 (nI i) (nI st.length) (nI dn) hW ?_
    rw [hM, tn_n (show i < 2 ^ 31 by omega), hA, nI_1]
    rw [run] at hr
    refine ⟨fun z => absurd z (nI_ge (b := 400) (by omega) (by omega)), fun _ => ⟨fun z => absurd z (nI_pos (by omega)), fun _ => ⟨fun z => absurd z (nI_ge (by omega) (by omega)), fun _ => ⟨vp_in_nI (by omega) (by omega), ?_⟩⟩⟩⟩
    rcases hwf with ⟨⟨q0, q9⟩ | ⟨q0, q9⟩, hl, hwf⟩ | ⟨q2, q5, hl, hwf⟩
    · obtain ⟨n1, n2, n3, n4⟩ := en0 q9
      rw [enc_0 q0]
      rw [if_pos q0] at hr
      refine ⟨fun z => absurd z n1, fun _ => ⟨fun _ => ?_, fun z => absurd (en0' q9) z⟩⟩
      refine v_Laws_valueOf_98 w x1 _ _ _ _ (v_Laws_valueOf_101 w x1 _ _ _ _ _ hW ⟨fun _ => ⟨fun z => absurd z n4, fun _ => ?_⟩, fun z => absurd rfl z⟩)
      refine v_Laws_valueOf_111 w x1 _ _ _ _ _ hS hW ?_
      rw [tn_n (show st.length < 2 ^ 31 by omega)]
      refine ⟨fun _ => ⟨fun _ => ⟨vp_in_nI hl (by omega), fun u1 eu => ?_⟩, fun z => absurd rfl z⟩, fun z => absurd (nI_lt (b := 32) hl (by omega)) z⟩
      refine v_Laws_valueOf_145 w x1 _ _ _ _ _ ?_
      rw [nI_1]
      exact next u1 (nI q.2 :: st) _ _ (by rw [eu]; exact hF.tr FrV.w) (by simp; omega) hwf (by rw [eu, wi_s]; exact hp.push) hr
    · obtain ⟨n1, n2, n3, n4, n5, n6, n7⟩ := en17 q.2 q9
      rw [enc_1 q0]
      rw [if_neg (by omega), if_pos q0] at hr
      refine ⟨fun z => absurd z n1, fun _ => ⟨fun z => absurd z n6, fun _ => ⟨fun z => absurd z n7, fun _ => ?_⟩⟩⟩
      refine v_Laws_valueOf_101 w x1 _ _ _ _ _ hW ⟨fun z => absurd z (by decide), fun _ => ?_⟩
      refine v_Laws_valueOf_111 w x1 _ _ _ _ _ hS hW ?_
      rw [tn_n (show st.length < 2 ^ 31 by omega), n5, tn_n (show q.2 < 2 ^ 31 by omega), h30]
      refine ⟨fun _ => ⟨fun z => absurd z (by decide), fun _ => ⟨vp_in_nI q9 (by omega), vp_in_nI hl (by omega), fun u1 eu => ?_⟩⟩, fun z => absurd (nI_lt (b := 32) hl (by omega)) z⟩
      refine v_Laws_valueOf_145 w x1 _ _ _ _ _ ?_
      rw [nI_1]
      exact next u1 (s.1 30 q.2 :: st) _ _ (by rw [eu]; exact hF.tr FrV.w) (by simp; omega) hwf (by rw [eu, wi_s]; exact hp.push) hr
    · obtain ⟨n1, n2, n3, n4, -⟩ := en24 q.1 (by omega) q2
      obtain ⟨n6, n7, n8⟩ := en24' q.1 (by omega) q2
      rw [enc_2 q2]
      rw [if_neg (by omega), if_neg (by omega)] at hr
      refine ⟨fun z => absurd z n1, fun _ => ⟨fun z => absurd z n6, fun _ => ⟨fun _ => ?_, fun z => absurd n7 z⟩⟩⟩
      match st, hl, hst, hwf, hp, hr with
      | y :: x :: tl, hl, hst, hwf, hp, hr =>
        have e1 : nI (y :: x :: tl).length + (-1) = nI (tl.length + 1) := pk_m1 _
        have e2 : nI (tl.length + 1) - 1 = nI tl.length := nI_pred _
        have hl32 : tl.length + 2 ≤ 32 := hst
        have hp1 : u.1 (w + 4) (tl.length + 1) = y := hp.1
        have hp2 : u.1 (w + 4) tl.length = x := hp.2.1
        refine v_Laws_valueOf_98 w x1 _ _ _ _ (v_Laws_valueOf_101 w x1 _ _ _ _ _ hW ⟨fun _ => ⟨fun _ => ?_, fun z => absurd n8 z⟩, fun z => absurd rfl z⟩)
        rw [e1, e2, tn_n (show tl.length < 2 ^ 31 by omega), tn_n (show tl.length + 1 < 2 ^ 31 by omega), hp1, hp2]
        have go : ¬ (q.1 = 5 ∧ y = 0) → AWP E m_Laws_valueOf 237 0 0 [(0, .ref w), (1, .int x1), (2, .ref 30), (3, .int (nI (i + 1))), (4, .int (nI (tl.length + 1))), (5, .int (nI dn)), (6, .int (-(nI (24 + q.1)))), (7, .int 0), (8, .int x), (9, .int y)] [] (mk g u) Q := by
          intro hn
          rw [bin_s hn] at hr
          refine v_Laws_valueOf_237 w x1 _ _ _ _ _ _ _ hW (f_Laws_join q2 q5 hn ?_)
          rw [e2, tn_n (show tl.length < 2 ^ 31 by omega)]
          refine ⟨vp_in_nI (by omega) (by omega), fun u1 eu => ?_⟩
          exact next u1 (cop q.1 x y :: tl) _ _ (by rw [eu]; exact hF.tr FrV.w) (by simp; omega) (by simpa using hwf) (by rw [eu, wi_s]; exact hp.2.2.push) hr
        refine ⟨fun _ => ⟨vp_in_nI (by omega) (by omega), vp_in_nI (by omega) (by omega), fun z => absurd z n3, fun _ => ⟨fun c5 => ⟨fun cy => ?_, fun cy => go (fun z => cy z.2)⟩, fun c5 => go (fun z => c5 (n4.mpr z.1))⟩⟩, fun z => absurd (nI_le (a := 2) (b := tl.length + 2) (by omega) (by omega)) z⟩
        rw [bin_n ⟨n4.mp c5, cy⟩] at hr
        exact h0 u hF hr.symm
theorem lst_cons {q : Br} {l : List Br} (h : lst (q :: l)) (hq : q.1 = true) : lst l := by
  obtain ⟨l', x, e, hx, ht⟩ := h
  match l', e, ht with
  | [], e, _ =>
    injection e with e1 e2
    rw [e1] at hq; rw [hq] at hx; exact absurd hx (by decide)
  | y :: l', e, ht =>
    injection e with e1 e2
    exact ⟨l', x, e2, hx, fun z hz => ht z (List.mem_cons_of_mem _ hz)⟩
theorem lst_one {q : Br} {l : List Br} (h : lst (q :: l)) (hq : ¬ q.1 = true) : l = [] := by
  obtain ⟨l', x, e, hx, ht⟩ := h
  match l', e, ht with
  | [], e, _ =>
    injection e
  | y :: l', e, ht =>
    injection e with e1 e2
    exact absurd (by rw [e1]; exact ht y (List.mem_cons_self ..)) hq
/-- the branches -/
theorem l_Laws_valueOf {s : MS} {R : Int32 → MS → Prop} (hS : SX g) (hW : LW g w) (hw : 32 ≤ w) {ms i0 : Nat} (hms : ms ≤ 400) (h4 : s.1 w 4 = nI ms) (x1 : Int32) {T : Int32} (h : ∀ u, FrV w s u → R T u) : ∀ (l : List Br) (i n dn : Nat) (u : MS), lst l → wfl l → SL (s.1 (w + 1)) i l n → n ≤ ms → dn + i0 ≤ i → lawV (s.1 30) l = T → FrV w s u → AWP E m_Laws_valueOf 23 0 0 [(0, .ref w), (1, .int x1), (2, .ref 30), (3, .int (nI i)), (4, .int 0), (5, .int (nI dn))] [] (mk g u) (qI g R)
  | [], i, n, dn, u, hl, _, _, _, _, _, _ => by
    obtain ⟨l', x, e, -⟩ := hl
    exact absurd e (by simp)
  | q :: l, i, n, dn, u, hl, hwl, hSL, hn, hdn, hT, hF => by
    have hwq := hwl q (List.mem_cons_self ..)
    have hwl' : wfl l := fun x hx => hwl x (List.mem_cons_of_mem _ hx)
    obtain ⟨hB, hSL'⟩ := hSL
    have hle := SL.le _ _ _ hSL'
    have up : wfc 32 q.2.2.2 0 1 := wfc_up (by omega) _ 0 1 0 (by omega) hwq.2
    -- the last term, from its first step on
    have last : ∀ (u : MS) (j dn : Nat), FrV w s u → SC (s.1 (w + 1)) j q.2.2.2 → s.1 (w + 1) (j + q.2.2.2.length) = -24 → j + q.2.2.2.length < ms → dn + i0 ≤ j → T = (ev (s.1 30) q.2.2.2).getD 0 → AWP E m_Laws_valueOf 23 0 0 [(0, .ref w), (1, .int x1), (2, .ref 30), (3, .int (nI j)), (4, .int 0), (5, .int (nI dn))] [] (mk g u) (qI g R) := by
      intro u j dn hF hSC hend hj hdn hT
      refine l_Laws_run hS hW hw hms h4 x1 (f := 1) (i0 := i0) (T := run (s.1 30) q.2.2.2 []) (e := j + q.2.2.2.length) (fun u2 st dn2 hF2 hst hp2 hdn2 => ?_) (fun u2 hF2 hst => ?_) q.2.2.2 j [] dn u rfl (by omega) (by simp) hdn hSC up trivial rfl hF
      · have hl1 := run_len (M := 32) q.2.2.2 [] 1 up st hst
        match st, hl1, hst, hp2 with
        | [v], _, hst, hp2 =>
          have hev : ev (s.1 30) q.2.2.2 = some v := by rw [ev, hst]
          rw [hev] at hT
          refine v_Laws_valueOf_23 w x1 _ _ _ hW ?_
          have hM : u2.1 w 4 = nI ms := by rw [hF2.1 _ (by omega)]; exact h4
          have hA : u2.1 (w + 1) (j + q.2.2.2.length) = -24 := by rw [hF2.1 _ (by omega)]; exact hend
          rw [hM, tn_n (show j + q.2.2.2.length < 2 ^ 31 by omega), hA, show nI [v].length = 1 from rfl]
          refine ⟨fun z => absurd z (nI_ge (b := 400) (by omega) (by omega)), fun _ => ⟨fun z => absurd z (nI_pos (by omega)), fun _ => ⟨fun z => absurd z (nI_ge (by omega) (by omega)), fun _ => ⟨vp_in_nI (by omega) (by omega), fun _ => ⟨fun z => absurd z (by decide), fun _ => ⟨vp_in_nI (n := 0) (by omega) (by omega), GI.r ?_⟩⟩, fun z => absurd rfl z⟩⟩⟩⟩
          rw [show ((1 - 1 : Int32)).toNatClampNeg = 0 by decide, show u2.1 (w + 4) 0 = v from hp2.1, show v = T from hT.symm]
          exact h u2 hF2
      · have hev : ev (s.1 30) q.2.2.2 = none := by rw [ev, hst]
        rw [hev] at hT
        exact GI.r (by rw [show (0 : Int32) = T from hT.symm]; exact h u2 hF2)
    by_cases hq : q.1 = true
    · rw [SB, if_pos hq] at hB
      obtain ⟨b1, b2, b3, b4, b5, b6⟩ := hB
      have hbl : bl q = q.2.1.length + q.2.2.1.length + 2 + q.2.2.2.length + 1 := by rw [bl, if_pos hq]
      rw [lawV, if_pos hq] at hT
      obtain ⟨wa, wb⟩ := hwq.1 hq
      have wa2 : wfc 32 q.2.1 0 1 := wfc_up (by omega) _ 0 1 0 (by omega) wa
      have wb2 : wfc 32 q.2.2.1 1 2 := wfc_up (by omega) _ 0 1 1 (by omega) wb
      refine l_Laws_run hS hW hw hms h4 x1 (f := 1) (i0 := i0) (T := run (s.1 30) q.2.1 []) (e := i + q.2.1.length) (fun u2 st dn2 hF2 hst hp2 hdn2 => ?_) (fun u2 hF2 hst => ?_) q.2.1 i [] dn u rfl (by omega) (by simp) hdn b1 wa2 trivial rfl hF
      · have hl1 := run_len (M := 32) q.2.1 [] 1 wa2 st hst
        match st, hl1, hst, hp2 with
        | [v1], _, hst, hp2 =>
          have hev1 : ev (s.1 30) q.2.1 = some v1 := by rw [ev, hst]
          rw [hev1] at hT
          refine l_Laws_run hS hW hw hms h4 x1 (f := 2) (i0 := i0) (T := run (s.1 30) q.2.2.1 [v1]) (e := i + q.2.1.length + q.2.2.1.length) (fun u3 st3 dn3 hF3 hst3 hp3 hdn3 => ?_) (fun u3 hF3 hst3 => ?_) q.2.2.1 (i + q.2.1.length) [v1] dn2 u2 rfl (by omega) (by simp) hdn2 b2 wb2 hp2 rfl hF2
          · rw [show ([v1] : List Int32) = [] ++ [v1] from rfl, run_app (M := 31) [v1] q.2.2.1 [] 1 wb] at hst3
            rcases hr2 : run (s.1 30) q.2.2.1 [] with _ | st2
            · rw [hr2] at hst3; exact absurd hst3 (by simp)
            · have hl2 := run_len (M := 31) q.2.2.1 [] 1 wb st2 hr2
              match st2, hl2, hr2 with
              | [v2], _, hr2 =>
                have hev2 : ev (s.1 30) q.2.2.1 = some v2 := by rw [ev, hr2]
                rw [hev2] at hT
                rw [hr2] at hst3
                have est : st3 = [v2, v1] := by injection hst3 with z; exact z.symm
                rw [est] at hp3 ⊢
                have hM : u3.1 w 4 = nI ms := by rw [hF3.1 _ (by omega)]; exact h4
                have hA : u3.1 (w + 1) (i + q.2.1.length + q.2.2.1.length) = -15 := by rw [hF3.1 _ (by omega)]; exact b3
                have hA2 : u3.1 (w + 1) (i + q.2.1.length + q.2.2.1.length + 1) = nI (i + bl q) := by rw [hF3.1 _ (by omega)]; exact b4
                have hp31 : u3.1 (w + 4) 1 = v2 := hp3.1
                have hp30 : u3.1 (w + 4) 0 = v1 := hp3.2.1
                refine v_Laws_valueOf_23 w x1 _ _ _ hW ?_
                rw [hM, tn_n (show i + q.2.1.length + q.2.2.1.length < 2 ^ 31 by omega), hA, nI_1]
                refine ⟨fun z => absurd z (nI_ge (b := 400) (by omega) (by omega)), fun _ => ⟨fun z => absurd z (nI_pos (by omega)), fun _ => ⟨fun z => absurd z (nI_ge (by omega) (by omega)), fun _ => ⟨vp_in_nI (by omega) (by omega), fun z => absurd z (by decide), fun _ => ⟨fun _ => ?_, fun z => absurd (by decide) z⟩⟩⟩⟩⟩
                refine v_Laws_valueOf_98 w x1 _ _ _ _ (v_Laws_valueOf_101 w x1 _ _ _ _ _ hW ⟨fun _ => ⟨fun _ => ?_, fun z => absurd (by decide) z⟩, fun z => absurd rfl z⟩)
                have e1 : nI [v2, v1].length + (-1) = nI 1 := pk_m1 1
                have e2 : nI 1 - 1 = nI 0 := nI_pred 0
                have e3 : nI 1 + (-1) = (0 : Int32) := pk_m1 0
                rw [e1, e2, e3, tn_n (show 0 < 2 ^ 31 by omega), tn_n (show 1 < 2 ^ 31 by omega), hp31, hp30, hM, tn_n (show i + q.2.1.length + q.2.2.1.length + 1 < 2 ^ 31 by omega), hA2]
                refine ⟨fun _ => ⟨vp_in_nI (by omega) (by omega), vp_in_nI (by omega) (by omega), fun _ => ⟨fun c => ?_, fun c => ⟨fun _ => ⟨vp_in_nI (by omega) (by omega), ?_⟩, fun z => absurd (nI_lt (by omega) (by omega)) z⟩⟩, fun z => absurd rfl z⟩, fun z => absurd (nI_le (a := 2) (b := 2) (by omega) (by omega)) z⟩
                · refine v_Laws_valueOf_207 w x1 _ _ _ _ _ _ _ (v_Laws_valueOf_220 w x1 _ _ _ _ _ _ _ (v_Laws_valueOf_255 w x1 _ _ _ _ _ ?_))
                  rw [nI_1, nI_1]
                  simp only [if_pos c] at hT
                  exact last u3 _ _ hF3 b5 b6 (by omega) (by omega) hT.symm
                · refine v_Laws_valueOf_220 w x1 _ _ _ _ _ _ _ (v_Laws_valueOf_255 w x1 _ _ _ _ _ ?_)
                  rw [nI_1]
                  simp only [if_neg c] at hT
                  exact l_Laws_valueOf (i0 := i0) hS hW hw hms h4 x1 h l (i + bl q) n (dn3 + 1) u3 (lst_cons hl hq) hwl' hSL' hn (by omega) hT hF3
          · rw [show ([v1] : List Int32) = [] ++ [v1] from rfl, run_app (M := 31) [v1] q.2.2.1 [] 1 wb] at hst3
            have hev2 : ev (s.1 30) q.2.2.1 = none := by
              rw [ev]
              rcases hr2 : run (s.1 30) q.2.2.1 [] with _ | st2
              · rfl
              · rw [hr2] at hst3; exact absurd hst3 (by simp)
            rw [hev2] at hT
            exact GI.r (by rw [show (0 : Int32) = T from hT]; exact h u3 hF3)
      · have hev1 : ev (s.1 30) q.2.1 = none := by rw [ev, hst]
        rw [hev1] at hT
        exact GI.r (by rw [show (0 : Int32) = T from hT]; exact h u2 hF2)
    · rw [SB, if_neg hq] at hB
      have hbl : bl q = q.2.2.2.length + 1 := by rw [bl, if_neg hq]
      rw [lawV, if_neg hq] at hT
      exact last u i dn hF hB.1 hB.2 (by omega) hdn hT.symm
theorem f_Laws_valueOf {s : MS} {R : Int32 → MS → Prop} (hS : SX g) (hW : LW g w) (hw : 32 ≤ w) {k : Nat} (hk : k < 3) {ld : Nat → List Br} (hL : CLaw s w k (ld k)) (hu : s.1 1 k = unt k) (h : ∀ u, FrV w s u → R (lawOf ld k (s.1 30)) u) : GI E m_Laws_valueOf [.ref w, .int (nI k), .ref 30] g s R := by
  refine v_Laws_valueOf (Q := qI g R) w (nI k) hS hW ?_
  rw [tn_n (show k < 2 ^ 31 by omega)]
  rcases hL with ⟨h1, h2⟩ | ⟨h1, i, n, m, h2, h3, h4, h5, h6, h7⟩
  · refine ⟨vp_in_nI hk (by omega), fun z => absurd z (by rw [h2]; decide), fun _ => GI.r ?_⟩
    have := h s (FrV.rf w s)
    rw [lawOf, if_pos h1] at this
    rw [hu]; exact this
  · have hne : ¬ ld k = [] := fun z => by
      obtain ⟨l', x, e, -⟩ := h1
      rw [z] at e; exact absurd e (by simp)
    have hle := SL.le _ _ _ h3
    rw [h2]
    refine ⟨vp_in_nI hk (by omega), fun _ => ?_, fun z => absurd (nI_pos' (by omega)) z⟩
    exact l_Laws_valueOf hS hW hw h5 h6 (nI k) (i0 := i) (T := lawV (s.1 30) (ld k)) (fun u hF => by have := h u hF; rw [lawOf, if_neg hne] at this; exact this) (ld k) i n 0 s h1 h7 h3 h4 (by omega) rfl (FrV.rf w s)
/-- what LAWS of the class tell -/
theorem val_ok {b t : Nat} {e : PE} {s : MS} {ld : Nat → List Br} (hS : SX g) (et : t = 88 ∨ t = 104) (hW : LW g (t + 11)) (hb : HB b) (hL : ∀ k, k < 3 → CLaw s (t + 11) k (ld k)) (hu : ∀ k, k < 3 → s.1 1 k = unt k) (hv : eLv e = lawOf ld) : ValOK E g e b t s := by
  intro u hF k R hk h
  unfold HB at hb
  have m : ∀ a, t + 11 ≤ a → a ≤ t + 13 → u.1 a = s.1 a := fun a a1 a2 => hF.1 a (by omega) (by omega) (by omega) (by omega)
  refine f_Laws_valueOf hS hW (by omega) hk ((hL k hk).mv (m _ (by omega) (by omega)) (m _ (by omega) (by omega)) (m _ (by omega) (by omega))) (by rw [hF.1 1 (by omega) (by omega) (by omega) (by omega)]; exact hu k hk) (fun v hV => ?_)
  have := h v (hV.1 30 (by omega)) (hV.1 28 (by omega)) (fun a a1 a2 => hV.1 a (by omega)) ⟨fun a _ _ _ a4 => hV.1 a (by omega), fun j _ => by rw [hV.1 28 (by omega)], hV.2⟩
  rw [hv] at this
  exact this
theorem lv_c {e : PE} {ld : Nat → List Br} (hv : eLv e = lawOf ld) (hw : ∀ k, wfl (ld k)) : LvC e := by
  intro k V V' hV
  rw [hv, lawOf, lawOf]
  split
  · rfl
  · exact lawV_cg hV _ (hw k)
end ClsLaw
