/-! walks of the methods, by program (vcgen.py) -/
set_option maxRecDepth 20000 in
theorem v_House_allInHoles_4 {E : EN} {g : GS} {s : MS} {Q : Option Value → SG → Prop} (b : Nat) (x1 : Int32) (x2 : Int32) (h_b : HS g b) (h : ((6 ≤ x2 → Q (some (.int x1)) (mk g s)) ∧ (¬ 6 ≤ x2 → GI E m_House_allInHole [.ref b, .int x2] g s (fun y1_ t1_ => AWP E m_House_allInHoles 4 0 0 [(0, .ref b), (1, .int (x1 + y1_)), (2, .int (x2 + 1))] [] (mk g t1_) Q)))) : AWP E m_House_allInHoles 4 0 0 [(0, .ref b), (1, .int x1), (2, .int x2)] [] (mk g s) Q := by
  refine aw_iload_n (q := 5) (j := 2) rfl rfl rfl (List.mem_of_getElem? (i := 2) rfl) ?_
  refine aw_bipush (q := 7) (v := 6) rfl rfl (by decide) ?_
  refine aw_icmp_ge (q := 10) (tgt := 24) rfl rfl (by decide) ⟨fun cd_1 => ?_, fun cd_1 => ?_⟩
  · replace h := h.1 cd_1
    refine aw_iload_n (q := 25) (j := 1) rfl rfl rfl (List.mem_of_getElem? (i := 1) rfl) ?_
    exact aw_ireturn (ty := .int) rfl rfl rfl (by decide) (by decide) h
  · replace h := h.2 cd_1
    refine aw_iload_n (q := 11) (j := 1) rfl rfl rfl (List.mem_of_getElem? (i := 1) rfl) ?_
    refine aw_aload_n (q := 12) (j := 0) rfl rfl rfl (List.mem_of_getElem? (i := 0) rfl) ?_
    refine aw_iload_n (q := 13) (j := 2) rfl rfl rfl (List.mem_of_getElem? (i := 2) rfl) ?_
    refine ag_cvI (z := m_House_allInHole) (ci := 2) (av := [.int _]) (st := [.int _]) (q := 16) (k' := 0) (n' := 0) rfl rfl cv_House_78 ⟨by decide, by decide⟩ rfl rfl (by decide) (by decide) (HS.o h_b) rfl rfl rfl (Nat.le_of_ble_eq_true rfl) ?_
    refine GI.mono h (fun y1_ t1_ h => ?_)
    refine aw_iadd (q := 17) rfl rfl ?_
    refine aw_istore_n (q := 18) (j := 1) (ls' := [(1, .int _), (0, .ref _), (2, .int _)]) rfl rfl rfl (by decide) rfl ?_
    refine aw_iinc (q := 21) (v := _ + 1) (ls' := [(2, .int _), (1, .int _), (0, .ref _)]) rfl rfl (List.mem_of_getElem? (i := 2) rfl) rfl (by decide) rfl ?_
    refine aw_goto (tgt := 4) rfl (by decide) ?_
    refine aw_ls [2, 1, 0] rfl ?_
    exact h
set_option maxRecDepth 20000 in
theorem v_House_allInHoles {E : EN} {g : GS} {s : MS} {Q : Option Value → SG → Prop} (b : Nat) (h : AWP E m_House_allInHoles 4 0 0 [(0, .ref b), (1, .int 0), (2, .int 0)] [] (mk g s) Q) : AMet E m_House_allInHoles [.ref b] (mk g s) Q := by
  refine AMet.of (by decide) k_House_allInHoles [(0, .ref b)] (Nat.le_of_ble_eq_true rfl) rfl ?_
  refine aw_iconst (q := 1) (v := 0) rfl rfl (by decide) ?_
  refine aw_istore_n (q := 2) (j := 1) (ls' := [(1, .int _), (0, .ref _)]) rfl rfl rfl (by decide) rfl ?_
  refine aw_iconst (q := 3) (v := 0) rfl rfl (by decide) ?_
  refine aw_istore_n (q := 4) (j := 2) (ls' := [(2, .int _), (1, .int _), (0, .ref _)]) rfl rfl rfl (by decide) rfl ?_
  refine aw_ls [2, 1, 0] rfl ?_
  exact h
set_option maxRecDepth 20000 in
theorem v_House_misplaced_4 {E : EN} {g : GS} {s : MS} {Q : Option Value → SG → Prop} (b : Nat) (t : Nat) (x2 : Int32) (x3 : Int32) (hS : SX g) (h_b : HS g b) (et : t = 88 ∨ t = 104) (h : (((s.1 t 12) ≤ x3 → Q (some (.int x2)) (mk g s)) ∧ (¬ (s.1 t 12) ≤ x3 → GI E m_House_allInHole [.ref b, .int x3] g s (fun y1_ t1_ => vp_in x3 6 ∧ GI E m_House_inHole [.ref b, .int x3, .int (t1_.1 (t + 4) ((x3).toNatClampNeg))] g t1_ (fun y2_ t2_ => AWP E m_House_misplaced 4 0 0 [(0, .ref b), (1, .ref t), (2, .int (x2 + (y1_ - y2_))), (3, .int (x3 + 1))] [] (mk g t2_) Q))))) : AWP E m_House_misplaced 4 0 0 [(0, .ref b), (1, .ref t), (2, .int x2), (3, .int x3)] [] (mk g s) Q := by
  refine aw_iload_n (q := 5) (j := 3) rfl rfl rfl (List.mem_of_getElem? (i := 3) rfl) ?_
  refine aw_aload_n (q := 6) (j := 1) rfl rfl rfl (List.mem_of_getElem? (i := 1) rfl) ?_
  refine ag_getI (q := 9) rfl rfl fl_House_85 rfl (TS.o (TS.of hS et)) ?_
  refine aw_icmp_ge (q := 12) (tgt := 38) rfl rfl (by decide) ⟨fun cd_1 => ?_, fun cd_1 => ?_⟩
  · replace h := h.1 cd_1
    refine aw_iload_n (q := 39) (j := 2) rfl rfl rfl (List.mem_of_getElem? (i := 2) rfl) ?_
    exact aw_ireturn (ty := .int) rfl rfl rfl (by decide) (by decide) h
  · replace h := h.2 cd_1
    refine aw_iload_n (q := 13) (j := 2) rfl rfl rfl (List.mem_of_getElem? (i := 2) rfl) ?_
    refine aw_aload_n (q := 14) (j := 0) rfl rfl rfl (List.mem_of_getElem? (i := 0) rfl) ?_
    refine aw_iload_n (q := 15) (j := 3) rfl rfl rfl (List.mem_of_getElem? (i := 3) rfl) ?_
    refine ag_cvI (z := m_House_allInHole) (ci := 2) (av := [.int _]) (st := [.int _]) (q := 18) (k' := 0) (n' := 0) rfl rfl cv_House_78 ⟨by decide, by decide⟩ rfl rfl (by decide) (by decide) (HS.o h_b) rfl rfl rfl (Nat.le_of_ble_eq_true rfl) ?_
    refine GI.mono h (fun y1_ t1_ h => ?_)
    refine aw_aload_n (q := 19) (j := 0) rfl rfl rfl (List.mem_of_getElem? (i := 0) rfl) ?_
    refine aw_iload_n (q := 20) (j := 3) rfl rfl rfl (List.mem_of_getElem? (i := 3) rfl) ?_
    refine aw_aload_n (q := 21) (j := 1) rfl rfl rfl (List.mem_of_getElem? (i := 1) rfl) ?_
    refine ag_getR (q := 24) rfl rfl fl_House_87 rfl (TS.o (TS.of hS et)) (TS.r3 (TS.of hS et)) ?_
    refine aw_iload_n (q := 25) (j := 3) rfl rfl rfl (List.mem_of_getElem? (i := 3) rfl) ?_
    obtain ⟨bd_2, h⟩ := h
    refine ag_iaload (q := 26) (N := 6) rfl rfl (TS.a3 (TS.of hS et)) bd_2 ?_
    refine ag_cvI (z := m_House_inHole) (ci := 2) (av := [.int _, .int _]) (st := [.int _, .int _]) (q := 29) (k' := 0) (n' := 0) rfl rfl cv_House_74 ⟨by decide, by decide⟩ rfl rfl (by decide) (by decide) (HS.o h_b) rfl rfl rfl (Nat.le_of_ble_eq_true rfl) ?_
    refine GI.mono h (fun y2_ t2_ h => ?_)
    refine aw_isub (q := 30) rfl rfl ?_
    refine aw_iadd (q := 31) rfl rfl ?_
    refine aw_istore_n (q := 32) (j := 2) (ls' := [(2, .int _), (0, .ref _), (1, .ref _), (3, .int _)]) rfl rfl rfl (by decide) rfl ?_
    refine aw_iinc (q := 35) (v := _ + 1) (ls' := [(3, .int _), (2, .int _), (0, .ref _), (1, .ref _)]) rfl rfl (List.mem_of_getElem? (i := 3) rfl) rfl (by decide) rfl ?_
    refine aw_goto (tgt := 4) rfl (by decide) ?_
    refine aw_ls [2, 3, 1, 0] rfl ?_
    exact h
set_option maxRecDepth 20000 in
theorem v_House_misplaced {E : EN} {g : GS} {s : MS} {Q : Option Value → SG → Prop} (b : Nat) (t : Nat) (h : AWP E m_House_misplaced 4 0 0 [(0, .ref b), (1, .ref t), (2, .int 0), (3, .int 0)] [] (mk g s) Q) : AMet E m_House_misplaced [.ref b, .ref t] (mk g s) Q := by
  refine AMet.of (by decide) k_House_misplaced [(0, .ref b), (1, .ref t)] (Nat.le_of_ble_eq_true rfl) rfl ?_
  refine aw_iconst (q := 1) (v := 0) rfl rfl (by decide) ?_
  refine aw_istore_n (q := 2) (j := 2) (ls' := [(2, .int _), (0, .ref _), (1, .ref _)]) rfl rfl rfl (by decide) rfl ?_
  refine aw_iconst (q := 3) (v := 0) rfl rfl (by decide) ?_
  refine aw_istore_n (q := 4) (j := 3) (ls' := [(3, .int _), (2, .int _), (0, .ref _), (1, .ref _)]) rfl rfl rfl (by decide) rfl ?_
  refine aw_ls [2, 3, 1, 0] rfl ?_
  exact h
set_option maxRecDepth 20000 in
theorem v_House_allCarried_4 {E : EN} {g : GS} {s : MS} {Q : Option Value → SG → Prop} (b : Nat) (t : Nat) (x2 : Int32) (x3 : Int32) (hS : SX g) (h_b : HS g b) (et : t = 88 ∨ t = 104) (h : (((s.1 t 13) ≤ x3 → Q (some (.int x2)) (mk g s)) ∧ (¬ (s.1 t 13) ≤ x3 → vp_in x3 8 ∧ AWP E m_House_allCarried 4 0 0 [(0, .ref b), (1, .ref t), (2, .int (x2 + (s.1 (b + 4 + (x3).toNatClampNeg) 2))), (3, .int (x3 + 1))] [] (mk g s) Q))) : AWP E m_House_allCarried 4 0 0 [(0, .ref b), (1, .ref t), (2, .int x2), (3, .int x3)] [] (mk g s) Q := by
  refine aw_iload_n (q := 5) (j := 3) rfl rfl rfl (List.mem_of_getElem? (i := 3) rfl) ?_
  refine aw_aload_n (q := 6) (j := 1) rfl rfl rfl (List.mem_of_getElem? (i := 1) rfl) ?_
  refine ag_getI (q := 9) rfl rfl fl_House_34 rfl (TS.o (TS.of hS et)) ?_
  refine aw_icmp_ge (q := 12) (tgt := 30) rfl rfl (by decide) ⟨fun cd_1 => ?_, fun cd_1 => ?_⟩
  · replace h := h.1 cd_1
    refine aw_iload_n (q := 31) (j := 2) rfl rfl rfl (List.mem_of_getElem? (i := 2) rfl) ?_
    exact aw_ireturn (ty := .int) rfl rfl rfl (by decide) (by decide) h
  · replace h := h.2 cd_1
    refine aw_iload_n (q := 13) (j := 2) rfl rfl rfl (List.mem_of_getElem? (i := 2) rfl) ?_
    refine aw_aload_n (q := 14) (j := 0) rfl rfl rfl (List.mem_of_getElem? (i := 0) rfl) ?_
    refine ag_getR (q := 17) rfl rfl fl_House_20 rfl (HS.o h_b) (HS.r2 h_b) ?_
    refine aw_iload_n (q := 18) (j := 3) rfl rfl rfl (List.mem_of_getElem? (i := 3) rfl) ?_
    obtain ⟨bd_2, h⟩ := h
    refine ag_aaload (q := 19) rfl rfl (Or.inr rfl) (HS.a2 h_b) bd_2 (HS.rr h_b bd_2) ?_
    refine ag_getI (q := 22) rfl rfl fl_House_82 rfl (HS.ro h_b bd_2) ?_
    refine aw_iadd (q := 23) rfl rfl ?_
    refine aw_istore_n (q := 24) (j := 2) (ls' := [(2, .int _), (0, .ref _), (1, .ref _), (3, .int _)]) rfl rfl rfl (by decide) rfl ?_
    refine aw_iinc (q := 27) (v := _ + 1) (ls' := [(3, .int _), (2, .int _), (0, .ref _), (1, .ref _)]) rfl rfl (List.mem_of_getElem? (i := 3) rfl) rfl (by decide) rfl ?_
    refine aw_goto (tgt := 4) rfl (by decide) ?_
    refine aw_ls [2, 3, 1, 0] rfl ?_
    exact h
set_option maxRecDepth 20000 in
theorem v_House_allCarried {E : EN} {g : GS} {s : MS} {Q : Option Value → SG → Prop} (b : Nat) (t : Nat) (h : AWP E m_House_allCarried 4 0 0 [(0, .ref b), (1, .ref t), (2, .int 0), (3, .int 0)] [] (mk g s) Q) : AMet E m_House_allCarried [.ref b, .ref t] (mk g s) Q := by
  refine AMet.of (by decide) k_House_allCarried [(0, .ref b), (1, .ref t)] (Nat.le_of_ble_eq_true rfl) rfl ?_
  refine aw_iconst (q := 1) (v := 0) rfl rfl (by decide) ?_
  refine aw_istore_n (q := 2) (j := 2) (ls' := [(2, .int _), (0, .ref _), (1, .ref _)]) rfl rfl rfl (by decide) rfl ?_
  refine aw_iconst (q := 3) (v := 0) rfl rfl (by decide) ?_
  refine aw_istore_n (q := 4) (j := 3) (ls' := [(3, .int _), (2, .int _), (0, .ref _), (1, .ref _)]) rfl rfl rfl (by decide) rfl ?_
  refine aw_ls [2, 3, 1, 0] rfl ?_
  exact h
set_option maxRecDepth 20000 in
theorem v_Mill_use {E : EN} {g : GS} {s : MS} {Q : Option Value → SG → Prop} (t : Nat) (hS : SX g) (et : t = 88 ∨ t = 104) (h : (∀ s1_, s1_ = wi s 28 2 (s.1 t 17) → (∀ s2_, s2_ = si s1_ 29 (va_cpy (s1_.1 (t + 3)) (s1_.1 29) 0 0 6) → Q none (mk (gr g 28 0 (some t)) s2_)))) : AMet E m_Mill_use [.ref 28, .ref t] (mk g s) Q := by
  refine AMet.of (by decide) k_Mill_use [(0, .ref 28), (1, .ref t)] (Nat.le_of_ble_eq_true rfl) rfl ?_
  refine aw_aload_n (q := 1) (j := 0) rfl rfl rfl (List.mem_of_getElem? (i := 0) rfl) ?_
  refine aw_aload_n (q := 2) (j := 1) rfl rfl rfl (List.mem_of_getElem? (i := 1) rfl) ?_
  refine ag_putR (q := 5) rfl rfl fl_Mill_20 rfl rfl (SX.o hS rfl) ?_
  refine aw_aload_n (q := 6) (j := 0) rfl rfl rfl (List.mem_of_getElem? (i := 0) rfl) ?_
  refine aw_aload_n (q := 7) (j := 1) rfl rfl rfl (List.mem_of_getElem? (i := 1) rfl) ?_
  refine ag_getI (q := 10) rfl rfl fl_Mill_24 rfl (TS.o (TS.of (SX.gro hS rfl) et)) ?_
  refine ag_putI (q := 13) rfl rfl fl_Mill_30 rfl rfl (SX.o (SX.gro hS rfl) rfl) ?_
  replace h := h _ rfl
  refine aw_aload_n (q := 14) (j := 1) rfl rfl rfl (List.mem_of_getElem? (i := 1) rfl) ?_
  refine ag_getR (q := 17) rfl rfl fl_Mill_31 rfl (TS.o (TS.of (SX.gro hS rfl) et)) (TS.r2 (TS.of (SX.gro hS rfl) et)) ?_
  refine aw_iconst (q := 18) (v := 0) rfl rfl (by decide) ?_
  refine aw_aload_n (q := 19) (j := 0) rfl rfl rfl (List.mem_of_getElem? (i := 0) rfl) ?_
  refine ag_getR (q := 22) rfl rfl fl_Mill_9 rfl (SX.o (SX.gro hS rfl) rfl) (SX.r (SX.gro hS rfl) rfl) ?_
  refine aw_iconst (q := 23) (v := 0) rfl rfl (by decide) ?_
  refine aw_aload_n (q := 24) (j := 0) rfl rfl rfl (List.mem_of_getElem? (i := 0) rfl) ?_
  refine ag_getR (q := 27) rfl rfl fl_Mill_9 rfl (SX.o (SX.gro hS rfl) rfl) (SX.r (SX.gro hS rfl) rfl) ?_
  refine ag_alen (q := 28) (t := 0) (N := 6) (v := 6) rfl rfl (by decide) (SX.a (SX.gro hS rfl) rfl) (by decide) ?_
  refine ag_copy (q := 31) (n0 := 6) (n1 := 6) rfl rfl (tb_c2 224 rfl rfl) (tb_c2 226 rfl rfl) (tb_c2 225 rfl rfl) (tb_c1 12 rfl rfl) (by decide) (by decide) (Nat.le_of_ble_eq_true rfl) (TS.a2 (TS.of (SX.gro hS rfl) et)) (SX.a (SX.gro hS rfl) rfl) (by decide) (by decide) (by decide) (by decide) (by decide) ?_
  replace h := h _ rfl
  exact aw_return rfl rfl (by decide) (by decide) h
set_option maxRecDepth 20000 in
theorem v_Mill_goOn_2 {E : EN} {g : GS} {s : MS} {Q : Option Value → SG → Prop} (b : Nat) (x2 : Int32) (x3 : Int32) (hS : SX g) (h : ((x3 ≤ 0 → Q none (mk g s)) ∧ (¬ x3 ≤ 0 → GI E m_Mill_quietMinutes [.ref 28, .ref b, .int x3] g s (fun y1_ t1_ => ((y1_ ≤ 0 → GV E m_Mill_goMinute [.ref 28, .ref b] g t1_ (fun t2_ => AWP E m_Mill_goOn 2 0 0 [(0, .ref 28), (1, .ref b), (2, .int x2), (3, .int (x3 + (-1)))] [] (mk g t2_) Q)) ∧ (¬ y1_ ≤ 0 → GV E m_Mill_skip [.ref 28, .ref b, .int y1_] g t1_ (fun t3_ => AWP E m_Mill_goOn 2 0 0 [(0, .ref 28), (1, .ref b), (2, .int x2), (3, .int (x3 - y1_))] [] (mk g t3_) Q))))))) : AWP E m_Mill_goOn 2 0 0 [(0, .ref 28), (1, .ref b), (2, .int x2), (3, .int x3)] [] (mk g s) Q := by
  refine aw_iload_n (q := 3) (j := 3) rfl rfl rfl (List.mem_of_getElem? (i := 3) rfl) ?_
  refine aw_if_le (q := 6) (tgt := 45) rfl rfl (by decide) ⟨fun cd_1 => ?_, fun cd_1 => ?_⟩
  · replace h := h.1 cd_1
    exact aw_return rfl rfl (by decide) (by decide) h
  · replace h := h.2 cd_1
    refine aw_aload_n (q := 7) (j := 0) rfl rfl rfl (List.mem_of_getElem? (i := 0) rfl) ?_
    refine aw_aload_n (q := 8) (j := 1) rfl rfl rfl (List.mem_of_getElem? (i := 1) rfl) ?_
    refine aw_iload_n (q := 9) (j := 3) rfl rfl rfl (List.mem_of_getElem? (i := 3) rfl) ?_
    refine ag_cvI (z := m_Mill_quietMinutes) (ci := 4) (av := [.ref _, .int _]) (st := []) (q := 12) (k' := 0) (n' := 0) rfl rfl cv_Mill_38 ⟨by decide, by decide⟩ rfl rfl (by decide) (by decide) (SX.o hS rfl) rfl rfl rfl (Nat.le_of_ble_eq_true rfl) ?_
    refine GI.mono h (fun y1_ t1_ h => ?_)
    refine aw_istore (q := 14) (j := 4) (ls' := [(4, .int _), (0, .ref _), (1, .ref _), (2, .int _), (3, .int _)]) rfl rfl (by decide) rfl ?_
    refine aw_iload (q := 16) (j := 4) rfl rfl (List.mem_of_getElem? (i := 0) rfl) ?_
    refine aw_if_le (q := 19) (tgt := 34) rfl rfl (by decide) ⟨fun cd_2 => ?_, fun cd_2 => ?_⟩
    · replace h := h.1 cd_2
      refine aw_aload_n (q := 35) (j := 0) rfl rfl rfl (List.mem_of_getElem? (i := 1) rfl) ?_
      refine aw_aload_n (q := 36) (j := 1) rfl rfl rfl (List.mem_of_getElem? (i := 2) rfl) ?_
      refine ag_cvV (z := m_Mill_goMinute) (ci := 4) (av := [.ref _]) (st := []) (q := 39) (k' := 0) (n' := 0) rfl rfl cv_Mill_46 ⟨by decide, by decide⟩ rfl rfl (by decide) (by decide) (SX.o hS rfl) rfl rfl rfl (Nat.le_of_ble_eq_true rfl) ?_
      refine GV.mono h (fun t2_ h => ?_)
      refine aw_iinc (q := 42) (v := _ + (-1)) (ls' := [(3, .int _), (4, .int _), (0, .ref _), (1, .ref _), (2, .int _)]) rfl rfl (List.mem_of_getElem? (i := 4) rfl) rfl (by decide) rfl ?_
      refine aw_goto (tgt := 2) rfl (by decide) ?_
      refine aw_ls [2, 3, 4, 0] rfl ?_
      exact h
    · replace h := h.2 cd_2
      refine aw_aload_n (q := 20) (j := 0) rfl rfl rfl (List.mem_of_getElem? (i := 1) rfl) ?_
      refine aw_aload_n (q := 21) (j := 1) rfl rfl rfl (List.mem_of_getElem? (i := 2) rfl) ?_
      refine aw_iload (q := 23) (j := 4) rfl rfl (List.mem_of_getElem? (i := 0) rfl) ?_
      refine ag_cvV (z := m_Mill_skip) (ci := 4) (av := [.ref _, .int _]) (st := []) (q := 26) (k' := 0) (n' := 0) rfl rfl cv_Mill_42 ⟨by decide, by decide⟩ rfl rfl (by decide) (by decide) (SX.o hS rfl) rfl rfl rfl (Nat.le_of_ble_eq_true rfl) ?_
      refine GV.mono h (fun t3_ h => ?_)
      refine aw_iload_n (q := 27) (j := 3) rfl rfl rfl (List.mem_of_getElem? (i := 4) rfl) ?_
      refine aw_iload (q := 29) (j := 4) rfl rfl (List.mem_of_getElem? (i := 0) rfl) ?_
      refine aw_isub (q := 30) rfl rfl ?_
      refine aw_istore_n (q := 31) (j := 3) (ls' := [(3, .int _), (4, .int _), (0, .ref _), (1, .ref _), (2, .int _)]) rfl rfl rfl (by decide) rfl ?_
      refine aw_goto (tgt := 42) rfl (by decide) ?_
      refine aw_goto (tgt := 2) rfl (by decide) ?_
      refine aw_ls [2, 3, 4, 0] rfl ?_
      exact h
set_option maxRecDepth 20000 in
theorem v_Mill_goOn {E : EN} {g : GS} {s : MS} {Q : Option Value → SG → Prop} (b : Nat) (x2 : Int32) (h : AWP E m_Mill_goOn 2 0 0 [(0, .ref 28), (1, .ref b), (2, .int x2), (3, .int x2)] [] (mk g s) Q) : AMet E m_Mill_goOn [.ref 28, .ref b, .int x2] (mk g s) Q := by
  refine AMet.of (by decide) k_Mill_goOn [(0, .ref 28), (1, .ref b), (2, .int x2)] (Nat.le_of_ble_eq_true rfl) rfl ?_
  refine aw_iload_n (q := 1) (j := 2) rfl rfl rfl (List.mem_of_getElem? (i := 2) rfl) ?_
  refine aw_istore_n (q := 2) (j := 3) (ls' := [(3, .int _), (0, .ref _), (1, .ref _), (2, .int _)]) rfl rfl rfl (by decide) rfl ?_
  refine aw_ls [1, 2, 3, 0] rfl ?_
  exact h
set_option maxRecDepth 20000 in
theorem v_Mill_quietMinutes_5 {E : EN} {g : GS} {s : MS} {Q : Option Value → SG → Prop} (b : Nat) (x2 : Int32) (x3 : Int32) (x4 : Int32) (t : Nat) (hS : SX g) (h_b : HS g b) (et : t = 88 ∨ t = 104) (hm : g.2.2 28 0 = some t) (h : (((s.1 t 13) ≤ x4 → Q (some (.int x3)) (mk g s)) ∧ (¬ (s.1 t 13) ≤ x4 → ((x3 ≤ 0 → Q (some (.int x3)) (mk g s)) ∧ (¬ x3 ≤ 0 → vp_in x4 8 ∧ (((s.1 (b + 4 + (x4).toNatClampNeg) 0) = 0 → GI E m_Mill_waits [.ref 28, .ref b, .ref (b + 4 + (x4).toNatClampNeg), .int x3] g s (fun y1_ t1_ => AWP E m_Mill_quietMinutes 5 0 0 [(0, .ref 28), (1, .ref b), (2, .int x2), (3, .int (if y1_ < x3 then y1_ else x3)), (4, .int (x4 + 1))] [] (mk g t1_) Q)) ∧ (¬ (s.1 (b + 4 + (x4).toNatClampNeg) 0) = 0 → (((s.1 (b + 4 + (x4).toNatClampNeg) 0) = 3 → AWP E m_Mill_quietMinutes 5 0 0 [(0, .ref 28), (1, .ref b), (2, .int x2), (3, .int x3), (4, .int (x4 + 1))] [] (mk g s) Q) ∧ (¬ (s.1 (b + 4 + (x4).toNatClampNeg) 0) = 3 → AWP E m_Mill_quietMinutes 5 0 0 [(0, .ref 28), (1, .ref b), (2, .int x2), (3, .int (if ((s.1 (b + 4 + (x4).toNatClampNeg) 1) - 1) < x3 then ((s.1 (b + 4 + (x4).toNatClampNeg) 1) - 1) else x3)), (4, .int (x4 + 1))] [] (mk g s) Q))))))))) : AWP E m_Mill_quietMinutes 5 0 0 [(0, .ref 28), (1, .ref b), (2, .int x2), (3, .int x3), (4, .int x4)] [] (mk g s) Q := by
  refine aw_iload (q := 7) (j := 4) rfl rfl (List.mem_of_getElem? (i := 4) rfl) ?_
  refine aw_aload_n (q := 8) (j := 0) rfl rfl rfl (List.mem_of_getElem? (i := 0) rfl) ?_
  refine ag_getR (q := 11) rfl rfl fl_Mill_20 rfl (SX.o hS rfl) hm ?_
  refine ag_getI (q := 14) rfl rfl fl_Mill_53 rfl (TS.o (TS.of hS et)) ?_
  refine aw_icmp_ge (q := 17) (tgt := 81) rfl rfl (by decide) ⟨fun cd_1 => ?_, fun cd_1 => ?_⟩
  · replace h := h.1 cd_1
    refine aw_iload_n (q := 82) (j := 3) rfl rfl rfl (List.mem_of_getElem? (i := 3) rfl) ?_
    exact aw_ireturn (ty := .int) rfl rfl rfl (by decide) (by decide) h
  · replace h := h.2 cd_1
    refine aw_iload_n (q := 18) (j := 3) rfl rfl rfl (List.mem_of_getElem? (i := 3) rfl) ?_
    refine aw_if_le (q := 21) (tgt := 81) rfl rfl (by decide) ⟨fun cd_2 => ?_, fun cd_2 => ?_⟩
    · replace h := h.1 cd_2
      refine aw_iload_n (q := 82) (j := 3) rfl rfl rfl (List.mem_of_getElem? (i := 3) rfl) ?_
      exact aw_ireturn (ty := .int) rfl rfl rfl (by decide) (by decide) h
    · replace h := h.2 cd_2
      refine aw_aload_n (q := 22) (j := 1) rfl rfl rfl (List.mem_of_getElem? (i := 1) rfl) ?_
      refine ag_getR (q := 25) rfl rfl fl_Mill_56 rfl (HS.o h_b) (HS.r2 h_b) ?_
      refine aw_iload (q := 27) (j := 4) rfl rfl (List.mem_of_getElem? (i := 4) rfl) ?_
      obtain ⟨bd_3, h⟩ := h
      refine ag_aaload (q := 28) rfl rfl (Or.inr rfl) (HS.a2 h_b) bd_3 (HS.rr h_b bd_3) ?_
      refine aw_astore (q := 30) (j := 5) (ls' := [(5, .ref _), (0, .ref _), (1, .ref _), (2, .int _), (3, .int _), (4, .int _)]) rfl rfl (by decide) rfl ?_
      refine aw_aload (q := 32) (j := 5) rfl rfl (List.mem_of_getElem? (i := 0) rfl) ?_
      refine ag_getI (q := 35) rfl rfl fl_Mill_61 rfl (HS.ro h_b bd_3) ?_
      refine aw_if_ne (q := 38) (tgt := 54) rfl rfl (by decide) ⟨fun cd_4 => ?_, fun cd_4 => ?_⟩
      · replace h := h.1 cd_4
        refine aw_iload_n (q := 39) (j := 3) rfl rfl rfl (List.mem_of_getElem? (i := 4) rfl) ?_
        refine aw_aload_n (q := 40) (j := 0) rfl rfl rfl (List.mem_of_getElem? (i := 1) rfl) ?_
        refine aw_aload_n (q := 41) (j := 1) rfl rfl rfl (List.mem_of_getElem? (i := 2) rfl) ?_
        refine aw_aload (q := 43) (j := 5) rfl rfl (List.mem_of_getElem? (i := 0) rfl) ?_
        refine aw_iload_n (q := 44) (j := 3) rfl rfl rfl (List.mem_of_getElem? (i := 4) rfl) ?_
        refine ag_cvI (z := m_Mill_waits) (ci := 4) (av := [.ref _, .ref _, .int _]) (st := [.int _]) (q := 47) (k' := 0) (n' := 0) rfl rfl cv_Mill_164 ⟨by decide, by decide⟩ rfl rfl (by decide) (by decide) (SX.o hS rfl) rfl rfl rfl (Nat.le_of_ble_eq_true rfl) ?_
        refine GI.mono h (fun y1_ t1_ h => ?_)
        refine aw_mmin (q := 50) rfl rfl (tb_c4 180 rfl rfl) (tb_c3 142 rfl rfl) (tb_c1 18 rfl rfl) (tb_c3 143 rfl rfl) (by decide) (by decide) (by decide) (by decide) (Nat.le_of_ble_eq_true rfl) ?_
        refine aw_istore_n (q := 51) (j := 3) (ls' := [(3, .int _), (5, .ref _), (0, .ref _), (1, .ref _), (2, .int _), (4, .int _)]) rfl rfl rfl (by decide) rfl ?_
        refine aw_goto (tgt := 75) rfl (by decide) ?_
        refine aw_iinc (q := 78) (v := _ + 1) (ls' := [(4, .int _), (3, .int _), (5, .ref _), (0, .ref _), (1, .ref _), (2, .int _)]) rfl rfl (List.mem_of_getElem? (i := 5) rfl) rfl (by decide) rfl ?_
        refine aw_goto (tgt := 5) rfl (by decide) ?_
        refine aw_ls [3, 4, 5, 1, 0] rfl ?_
        exact h
      · replace h := h.2 cd_4
        refine aw_aload (q := 56) (j := 5) rfl rfl (List.mem_of_getElem? (i := 0) rfl) ?_
        refine ag_getI (q := 59) rfl rfl fl_Mill_61 rfl (HS.ro h_b bd_3) ?_
        refine aw_iconst (q := 60) (v := 3) rfl rfl (by decide) ?_
        refine aw_icmp_eq (q := 63) (tgt := 75) rfl rfl (by decide) ⟨fun cd_5 => ?_, fun cd_5 => ?_⟩
        · replace h := h.1 cd_5
          refine aw_iinc (q := 78) (v := _ + 1) (ls' := [(4, .int _), (5, .ref _), (0, .ref _), (1, .ref _), (2, .int _), (3, .int _)]) rfl rfl (List.mem_of_getElem? (i := 5) rfl) rfl (by decide) rfl ?_
          refine aw_goto (tgt := 5) rfl (by decide) ?_
          refine aw_ls [2, 3, 4, 5, 0] rfl ?_
          exact h
        · replace h := h.2 cd_5
          refine aw_iload_n (q := 64) (j := 3) rfl rfl rfl (List.mem_of_getElem? (i := 4) rfl) ?_
          refine aw_aload (q := 66) (j := 5) rfl rfl (List.mem_of_getElem? (i := 0) rfl) ?_
          refine ag_getI (q := 69) rfl rfl fl_Mill_149 rfl (HS.ro h_b bd_3) ?_
          refine aw_iconst (q := 70) (v := 1) rfl rfl (by decide) ?_
          refine aw_isub (q := 71) rfl rfl ?_
          refine aw_mmin (q := 74) rfl rfl (tb_c4 180 rfl rfl) (tb_c3 142 rfl rfl) (tb_c1 18 rfl rfl) (tb_c3 143 rfl rfl) (by decide) (by decide) (by decide) (by decide) (Nat.le_of_ble_eq_true rfl) ?_
          refine aw_istore_n (q := 75) (j := 3) (ls' := [(3, .int _), (5, .ref _), (0, .ref _), (1, .ref _), (2, .int _), (4, .int _)]) rfl rfl rfl (by decide) rfl ?_
          refine aw_iinc (q := 78) (v := _ + 1) (ls' := [(4, .int _), (3, .int _), (5, .ref _), (0, .ref _), (1, .ref _), (2, .int _)]) rfl rfl (List.mem_of_getElem? (i := 5) rfl) rfl (by decide) rfl ?_
          refine aw_goto (tgt := 5) rfl (by decide) ?_
          refine aw_ls [3, 4, 5, 1, 0] rfl ?_
          exact h
set_option maxRecDepth 20000 in
theorem v_Mill_quietMinutes {E : EN} {g : GS} {s : MS} {Q : Option Value → SG → Prop} (b : Nat) (x2 : Int32) (h : AWP E m_Mill_quietMinutes 5 0 0 [(0, .ref 28), (1, .ref b), (2, .int x2), (3, .int x2), (4, .int 0)] [] (mk g s) Q) : AMet E m_Mill_quietMinutes [.ref 28, .ref b, .int x2] (mk g s) Q := by
  refine AMet.of (by decide) k_Mill_quietMinutes [(0, .ref 28), (1, .ref b), (2, .int x2)] (Nat.le_of_ble_eq_true rfl) rfl ?_
  refine aw_iload_n (q := 1) (j := 2) rfl rfl rfl (List.mem_of_getElem? (i := 2) rfl) ?_
  refine aw_istore_n (q := 2) (j := 3) (ls' := [(3, .int _), (0, .ref _), (1, .ref _), (2, .int _)]) rfl rfl rfl (by decide) rfl ?_
  refine aw_iconst (q := 3) (v := 0) rfl rfl (by decide) ?_
  refine aw_istore (q := 5) (j := 4) (ls' := [(4, .int _), (3, .int _), (0, .ref _), (1, .ref _), (2, .int _)]) rfl rfl (by decide) rfl ?_
  refine aw_ls [2, 3, 4, 1, 0] rfl ?_
  exact h
set_option maxRecDepth 20000 in
theorem v_Mill_waits {E : EN} {g : GS} {s : MS} {Q : Option Value → SG → Prop} (b : Nat) (r : Nat) (x3 : Int32) (t : Nat) (hS : SX g) (h_b : HS g b) (h_r : OG g r 6) (et : t = 88 ∨ t = 104) (hm : g.2.2 28 0 = some t) (h : (((s.1 t 15) ≤ (s.1 b 3) → ((x3 ≤ (((s.1 t 16) - 1) - (s.1 r 4)) → Q (some (.int x3)) (mk g s)) ∧ (¬ x3 ≤ (((s.1 t 16) - 1) - (s.1 r 4)) → GI E m_House_allInHeap [.ref b] g s (fun y1_ t1_ => ((y1_ ≤ 0 → Q (some (.int x3)) (mk g t1_)) ∧ (¬ y1_ ≤ 0 → Q (some (.int (((s.1 t 16) - 1) - (s.1 r 4)))) (mk g t1_))))))) ∧ (¬ (s.1 t 15) ≤ (s.1 b 3) → vp_in (s.1 r 6) 6 ∧ (((s.1 (b + 1) (((s.1 r 6)).toNatClampNeg)) ≤ 0 → ((x3 ≤ (((s.1 t 16) - 1) - (s.1 r 4)) → Q (some (.int x3)) (mk g s)) ∧ (¬ x3 ≤ (((s.1 t 16) - 1) - (s.1 r 4)) → GI E m_House_allInHeap [.ref b] g s (fun y2_ t2_ => ((y2_ ≤ 0 → Q (some (.int x3)) (mk g t2_)) ∧ (¬ y2_ ≤ 0 → Q (some (.int (((s.1 t 16) - 1) - (s.1 r 4)))) (mk g t2_))))))) ∧ (¬ (s.1 (b + 1) (((s.1 r 6)).toNatClampNeg)) ≤ 0 → (((if (s.1 b 4) < x3 then (s.1 b 4) else x3) ≤ (((s.1 t 16) - 1) - (s.1 r 4)) → Q (some (.int (if (s.1 b 4) < x3 then (s.1 b 4) else x3))) (mk g s)) ∧ (¬ (if (s.1 b 4) < x3 then (s.1 b 4) else x3) ≤ (((s.1 t 16) - 1) - (s.1 r 4)) → GI E m_House_allInHeap [.ref b] g s (fun y3_ t3_ => ((y3_ ≤ 0 → Q (some (.int (if (s.1 b 4) < x3 then (s.1 b 4) else x3))) (mk g t3_)) ∧ (¬ y3_ ≤ 0 → Q (some (.int (((s.1 t 16) - 1) - (s.1 r 4)))) (mk g t3_))))))))))) : AMet E m_Mill_waits [.ref 28, .ref b, .ref r, .int x3] (mk g s) Q := by
  refine AMet.of (by decide) k_Mill_waits [(0, .ref 28), (1, .ref b), (2, .ref r), (3, .int x3)] (Nat.le_of_ble_eq_true rfl) rfl ?_
  refine aw_aload_n (q := 1) (j := 1) rfl rfl rfl (List.mem_of_getElem? (i := 1) rfl) ?_
  refine ag_getI (q := 4) rfl rfl fl_Mill_89 rfl (HS.o h_b) ?_
  refine aw_aload_n (q := 5) (j := 0) rfl rfl rfl (List.mem_of_getElem? (i := 0) rfl) ?_
  refine ag_getR (q := 8) rfl rfl fl_Mill_20 rfl (SX.o hS rfl) hm ?_
  refine ag_getI (q := 11) rfl rfl fl_Mill_92 rfl (TS.o (TS.of hS et)) ?_
  refine aw_icmp_ge (q := 14) (tgt := 30) rfl rfl (by decide) ⟨fun cd_1 => ?_, fun cd_1 => ?_⟩
  · replace h := h.1 cd_1
    refine aw_iconst (q := 31) (v := 0) rfl rfl (by decide) ?_
    refine aw_istore (q := 33) (j := 4) (ls' := [(4, .int _), (0, .ref _), (1, .ref _), (2, .ref _), (3, .int _)]) rfl rfl (by decide) rfl ?_
    refine aw_iload (q := 35) (j := 4) rfl rfl (List.mem_of_getElem? (i := 0) rfl) ?_
    refine aw_if_eq (q := 38) (tgt := 49) rfl rfl (by decide) ⟨fun _ => ?_, fun c => absurd (by decide) c⟩
    refine aw_iload_n (q := 50) (j := 3) rfl rfl rfl (List.mem_of_getElem? (i := 4) rfl) ?_
    refine aw_istore (q := 52) (j := 5) (ls' := [(5, .int _), (4, .int _), (0, .ref _), (1, .ref _), (2, .ref _), (3, .int _)]) rfl rfl (by decide) rfl ?_
    refine aw_aload_n (q := 53) (j := 0) rfl rfl rfl (List.mem_of_getElem? (i := 2) rfl) ?_
    refine ag_getR (q := 56) rfl rfl fl_Mill_20 rfl (SX.o hS rfl) hm ?_
    refine ag_getI (q := 59) rfl rfl fl_Mill_101 rfl (TS.o (TS.of hS et)) ?_
    refine aw_iconst (q := 60) (v := 1) rfl rfl (by decide) ?_
    refine aw_isub (q := 61) rfl rfl ?_
    refine aw_aload_n (q := 62) (j := 2) rfl rfl rfl (List.mem_of_getElem? (i := 4) rfl) ?_
    refine ag_getI (q := 65) rfl rfl fl_Mill_66 rfl h_r ?_
    refine aw_isub (q := 66) rfl rfl ?_
    refine aw_istore (q := 68) (j := 6) (ls' := [(6, .int _), (5, .int _), (4, .int _), (0, .ref _), (1, .ref _), (2, .ref _), (3, .int _)]) rfl rfl (by decide) rfl ?_
    refine aw_iload (q := 70) (j := 6) rfl rfl (List.mem_of_getElem? (i := 0) rfl) ?_
    refine aw_iload (q := 72) (j := 5) rfl rfl (List.mem_of_getElem? (i := 1) rfl) ?_
    refine aw_icmp_ge (q := 75) (tgt := 87) rfl rfl (by decide) ⟨fun cd_2 => ?_, fun cd_2 => ?_⟩
    · replace h := h.1 cd_2
      refine aw_iload (q := 89) (j := 5) rfl rfl (List.mem_of_getElem? (i := 1) rfl) ?_
      exact aw_ireturn (ty := .int) rfl rfl rfl (by decide) (by decide) h
    · replace h := h.2 cd_2
      refine aw_aload_n (q := 76) (j := 1) rfl rfl rfl (List.mem_of_getElem? (i := 4) rfl) ?_
      refine ag_cvI (z := m_House_allInHeap) (ci := 2) (av := []) (st := []) (q := 79) (k' := 0) (n' := 0) rfl rfl cv_Mill_168 ⟨by decide, by decide⟩ rfl rfl (by decide) (by decide) (HS.o h_b) rfl rfl rfl (Nat.le_of_ble_eq_true rfl) ?_
      refine GI.mono h (fun y1_ t1_ h => ?_)
      refine aw_if_le (q := 82) (tgt := 87) rfl rfl (by decide) ⟨fun cd_3 => ?_, fun cd_3 => ?_⟩
      · replace h := h.1 cd_3
        refine aw_iload (q := 89) (j := 5) rfl rfl (List.mem_of_getElem? (i := 1) rfl) ?_
        exact aw_ireturn (ty := .int) rfl rfl rfl (by decide) (by decide) h
      · replace h := h.2 cd_3
        refine aw_iload (q := 84) (j := 6) rfl rfl (List.mem_of_getElem? (i := 0) rfl) ?_
        refine aw_goto (tgt := 89) rfl (by decide) ?_
        exact aw_ireturn (ty := .int) rfl rfl rfl (by decide) (by decide) h
  · replace h := h.2 cd_1
    refine aw_aload_n (q := 15) (j := 1) rfl rfl rfl (List.mem_of_getElem? (i := 1) rfl) ?_
    refine ag_getR (q := 18) rfl rfl fl_Mill_95 rfl (HS.o h_b) (HS.r0 h_b) ?_
    refine aw_aload_n (q := 19) (j := 2) rfl rfl rfl (List.mem_of_getElem? (i := 2) rfl) ?_
    refine ag_getI (q := 22) rfl rfl fl_Mill_98 rfl h_r ?_
    obtain ⟨bd_4, h⟩ := h
    refine ag_iaload (q := 23) (N := 6) rfl rfl (HS.a0 h_b) bd_4 ?_
    refine aw_if_le (q := 26) (tgt := 30) rfl rfl (by decide) ⟨fun cd_5 => ?_, fun cd_5 => ?_⟩
    · replace h := h.1 cd_5
      refine aw_iconst (q := 31) (v := 0) rfl rfl (by decide) ?_
      refine aw_istore (q := 33) (j := 4) (ls' := [(4, .int _), (0, .ref _), (1, .ref _), (2, .ref _), (3, .int _)]) rfl rfl (by decide) rfl ?_
      refine aw_iload (q := 35) (j := 4) rfl rfl (List.mem_of_getElem? (i := 0) rfl) ?_
      refine aw_if_eq (q := 38) (tgt := 49) rfl rfl (by decide) ⟨fun _ => ?_, fun c => absurd (by decide) c⟩
      refine aw_iload_n (q := 50) (j := 3) rfl rfl rfl (List.mem_of_getElem? (i := 4) rfl) ?_
      refine aw_istore (q := 52) (j := 5) (ls' := [(5, .int _), (4, .int _), (0, .ref _), (1, .ref _), (2, .ref _), (3, .int _)]) rfl rfl (by decide) rfl ?_
      refine aw_aload_n (q := 53) (j := 0) rfl rfl rfl (List.mem_of_getElem? (i := 2) rfl) ?_
      refine ag_getR (q := 56) rfl rfl fl_Mill_20 rfl (SX.o hS rfl) hm ?_
      refine ag_getI (q := 59) rfl rfl fl_Mill_101 rfl (TS.o (TS.of hS et)) ?_
      refine aw_iconst (q := 60) (v := 1) rfl rfl (by decide) ?_
      refine aw_isub (q := 61) rfl rfl ?_
      refine aw_aload_n (q := 62) (j := 2) rfl rfl rfl (List.mem_of_getElem? (i := 4) rfl) ?_
      refine ag_getI (q := 65) rfl rfl fl_Mill_66 rfl h_r ?_
      refine aw_isub (q := 66) rfl rfl ?_
      refine aw_istore (q := 68) (j := 6) (ls' := [(6, .int _), (5, .int _), (4, .int _), (0, .ref _), (1, .ref _), (2, .ref _), (3, .int _)]) rfl rfl (by decide) rfl ?_
      refine aw_iload (q := 70) (j := 6) rfl rfl (List.mem_of_getElem? (i := 0) rfl) ?_
      refine aw_iload (q := 72) (j := 5) rfl rfl (List.mem_of_getElem? (i := 1) rfl) ?_
      refine aw_icmp_ge (q := 75) (tgt := 87) rfl rfl (by decide) ⟨fun cd_6 => ?_, fun cd_6 => ?_⟩
      · replace h := h.1 cd_6
        refine aw_iload (q := 89) (j := 5) rfl rfl (List.mem_of_getElem? (i := 1) rfl) ?_
        exact aw_ireturn (ty := .int) rfl rfl rfl (by decide) (by decide) h
      · replace h := h.2 cd_6
        refine aw_aload_n (q := 76) (j := 1) rfl rfl rfl (List.mem_of_getElem? (i := 4) rfl) ?_
        refine ag_cvI (z := m_House_allInHeap) (ci := 2) (av := []) (st := []) (q := 79) (k' := 0) (n' := 0) rfl rfl cv_Mill_168 ⟨by decide, by decide⟩ rfl rfl (by decide) (by decide) (HS.o h_b) rfl rfl rfl (Nat.le_of_ble_eq_true rfl) ?_
        refine GI.mono h (fun y2_ t2_ h => ?_)
        refine aw_if_le (q := 82) (tgt := 87) rfl rfl (by decide) ⟨fun cd_7 => ?_, fun cd_7 => ?_⟩
        · replace h := h.1 cd_7
          refine aw_iload (q := 89) (j := 5) rfl rfl (List.mem_of_getElem? (i := 1) rfl) ?_
          exact aw_ireturn (ty := .int) rfl rfl rfl (by decide) (by decide) h
        · replace h := h.2 cd_7
          refine aw_iload (q := 84) (j := 6) rfl rfl (List.mem_of_getElem? (i := 0) rfl) ?_
          refine aw_goto (tgt := 89) rfl (by decide) ?_
          exact aw_ireturn (ty := .int) rfl rfl rfl (by decide) (by decide) h
    · replace h := h.2 cd_5
      refine aw_iconst (q := 27) (v := 1) rfl rfl (by decide) ?_
      refine aw_goto (tgt := 31) rfl (by decide) ?_
      refine aw_istore (q := 33) (j := 4) (ls' := [(4, .int _), (0, .ref _), (1, .ref _), (2, .ref _), (3, .int _)]) rfl rfl (by decide) rfl ?_
      refine aw_iload (q := 35) (j := 4) rfl rfl (List.mem_of_getElem? (i := 0) rfl) ?_
      refine aw_if_eq (q := 38) (tgt := 49) rfl rfl (by decide) ⟨fun c => absurd c (by decide), fun _ => ?_⟩
      refine aw_iload_n (q := 39) (j := 3) rfl rfl rfl (List.mem_of_getElem? (i := 4) rfl) ?_
      refine aw_aload_n (q := 40) (j := 1) rfl rfl rfl (List.mem_of_getElem? (i := 2) rfl) ?_
      refine ag_getI (q := 43) rfl rfl fl_Mill_83 rfl (HS.o h_b) ?_
      refine aw_mmin (q := 46) rfl rfl (tb_c4 180 rfl rfl) (tb_c3 142 rfl rfl) (tb_c1 18 rfl rfl) (tb_c3 143 rfl rfl) (by decide) (by decide) (by decide) (by decide) (Nat.le_of_ble_eq_true rfl) ?_
      refine aw_goto (tgt := 50) rfl (by decide) ?_
      refine aw_istore (q := 52) (j := 5) (ls' := [(5, .int _), (4, .int _), (0, .ref _), (1, .ref _), (2, .ref _), (3, .int _)]) rfl rfl (by decide) rfl ?_
      refine aw_aload_n (q := 53) (j := 0) rfl rfl rfl (List.mem_of_getElem? (i := 2) rfl) ?_
      refine ag_getR (q := 56) rfl rfl fl_Mill_20 rfl (SX.o hS rfl) hm ?_
      refine ag_getI (q := 59) rfl rfl fl_Mill_101 rfl (TS.o (TS.of hS et)) ?_
      refine aw_iconst (q := 60) (v := 1) rfl rfl (by decide) ?_
      refine aw_isub (q := 61) rfl rfl ?_
      refine aw_aload_n (q := 62) (j := 2) rfl rfl rfl (List.mem_of_getElem? (i := 4) rfl) ?_
      refine ag_getI (q := 65) rfl rfl fl_Mill_66 rfl h_r ?_
      refine aw_isub (q := 66) rfl rfl ?_
      refine aw_istore (q := 68) (j := 6) (ls' := [(6, .int _), (5, .int _), (4, .int _), (0, .ref _), (1, .ref _), (2, .ref _), (3, .int _)]) rfl rfl (by decide) rfl ?_
      refine aw_iload (q := 70) (j := 6) rfl rfl (List.mem_of_getElem? (i := 0) rfl) ?_
      refine aw_iload (q := 72) (j := 5) rfl rfl (List.mem_of_getElem? (i := 1) rfl) ?_
      refine aw_icmp_ge (q := 75) (tgt := 87) rfl rfl (by decide) ⟨fun cd_8 => ?_, fun cd_8 => ?_⟩
      · replace h := h.1 cd_8
        refine aw_iload (q := 89) (j := 5) rfl rfl (List.mem_of_getElem? (i := 1) rfl) ?_
        exact aw_ireturn (ty := .int) rfl rfl rfl (by decide) (by decide) h
      · replace h := h.2 cd_8
        refine aw_aload_n (q := 76) (j := 1) rfl rfl rfl (List.mem_of_getElem? (i := 4) rfl) ?_
        refine ag_cvI (z := m_House_allInHeap) (ci := 2) (av := []) (st := []) (q := 79) (k' := 0) (n' := 0) rfl rfl cv_Mill_168 ⟨by decide, by decide⟩ rfl rfl (by decide) (by decide) (HS.o h_b) rfl rfl rfl (Nat.le_of_ble_eq_true rfl) ?_
        refine GI.mono h (fun y3_ t3_ h => ?_)
        refine aw_if_le (q := 82) (tgt := 87) rfl rfl (by decide) ⟨fun cd_9 => ?_, fun cd_9 => ?_⟩
        · replace h := h.1 cd_9
          refine aw_iload (q := 89) (j := 5) rfl rfl (List.mem_of_getElem? (i := 1) rfl) ?_
          exact aw_ireturn (ty := .int) rfl rfl rfl (by decide) (by decide) h
        · replace h := h.2 cd_9
          refine aw_iload (q := 84) (j := 6) rfl rfl (List.mem_of_getElem? (i := 0) rfl) ?_
          refine aw_goto (tgt := 89) rfl (by decide) ?_
          exact aw_ireturn (ty := .int) rfl rfl rfl (by decide) (by decide) h
set_option maxRecDepth 20000 in
theorem v_Mill_skip_2 {E : EN} {g : GS} {s : MS} {Q : Option Value → SG → Prop} (b : Nat) (x2 : Int32) (x3 : Int32) (t : Nat) (hS : SX g) (h_b : HS g b) (et : t = 88 ∨ t = 104) (hm : g.2.2 28 0 = some t) (h : (((s.1 t 13) ≤ x3 → (∀ s1_, s1_ = wi s b 4 (if 0 < ((s.1 b 4) - x2) then ((s.1 b 4) - x2) else 0) → (∀ s2_, s2_ = wi s1_ b 3 ((s1_.1 b 3) + x2) → Q none (mk g s2_)))) ∧ (¬ (s.1 t 13) ≤ x3 → vp_in x3 8 ∧ (((s.1 (b + 4 + (x3).toNatClampNeg) 0) = 3 → AWP E m_Mill_skip 2 0 0 [(0, .ref 28), (1, .ref b), (2, .int x2), (3, .int (x3 + 1))] [] (mk g s) Q) ∧ (¬ (s.1 (b + 4 + (x3).toNatClampNeg) 0) = 3 → (∀ s3_, s3_ = wi s (b + 4 + (x3).toNatClampNeg) 4 (if ((s.1 (b + 4 + (x3).toNatClampNeg) 4) + x2) < 99 then ((s.1 (b + 4 + (x3).toNatClampNeg) 4) + x2) else 99) → (∀ s4_, s4_ = wi s3_ (b + 4 + (x3).toNatClampNeg) 1 (if 0 < ((s3_.1 (b + 4 + (x3).toNatClampNeg) 1) - x2) then ((s3_.1 (b + 4 + (x3).toNatClampNeg) 1) - x2) else 0) → AWP E m_Mill_skip 2 0 0 [(0, .ref 28), (1, .ref b), (2, .int x2), (3, .int (x3 + 1))] [] (mk g s4_) Q))))))) : AWP E m_Mill_skip 2 0 0 [(0, .ref 28), (1, .ref b), (2, .int x2), (3, .int x3)] [] (mk g s) Q := by
  refine aw_iload_n (q := 3) (j := 3) rfl rfl rfl (List.mem_of_getElem? (i := 3) rfl) ?_
  refine aw_aload_n (q := 4) (j := 0) rfl rfl rfl (List.mem_of_getElem? (i := 0) rfl) ?_
  refine ag_getR (q := 7) rfl rfl fl_Mill_20 rfl (SX.o hS rfl) hm ?_
  refine ag_getI (q := 10) rfl rfl fl_Mill_53 rfl (TS.o (TS.of hS et)) ?_
  refine aw_icmp_ge (q := 13) (tgt := 69) rfl rfl (by decide) ⟨fun cd_1 => ?_, fun cd_1 => ?_⟩
  · replace h := h.1 cd_1
    refine aw_aload_n (q := 70) (j := 1) rfl rfl rfl (List.mem_of_getElem? (i := 1) rfl) ?_
    refine aw_iconst (q := 71) (v := 0) rfl rfl (by decide) ?_
    refine aw_aload_n (q := 72) (j := 1) rfl rfl rfl (List.mem_of_getElem? (i := 1) rfl) ?_
    refine ag_getI (q := 75) rfl rfl fl_Mill_83 rfl (HS.o h_b) ?_
    refine aw_iload_n (q := 76) (j := 2) rfl rfl rfl (List.mem_of_getElem? (i := 2) rfl) ?_
    refine aw_isub (q := 77) rfl rfl ?_
    refine aw_mmax (q := 80) rfl rfl (tb_c4 189 rfl rfl) (tb_c3 176 rfl rfl) (tb_c1 18 rfl rfl) (tb_c3 177 rfl rfl) (by decide) (by decide) (by decide) (by decide) (Nat.le_of_ble_eq_true rfl) ?_
    refine ag_putI (q := 83) rfl rfl fl_Mill_83 rfl rfl (HS.o h_b) ?_
    replace h := h _ rfl
    refine aw_aload_n (q := 84) (j := 1) rfl rfl rfl (List.mem_of_getElem? (i := 1) rfl) ?_
    refine aw_dup (q := 85) rfl rfl rfl ?_
    refine ag_getI (q := 88) rfl rfl fl_Mill_89 rfl (HS.o h_b) ?_
    refine aw_iload_n (q := 89) (j := 2) rfl rfl rfl (List.mem_of_getElem? (i := 2) rfl) ?_
    refine aw_iadd (q := 90) rfl rfl ?_
    refine ag_putI (q := 93) rfl rfl fl_Mill_89 rfl rfl (HS.o h_b) ?_
    replace h := h _ rfl
    exact aw_return rfl rfl (by decide) (by decide) h
  · replace h := h.2 cd_1
    refine aw_aload_n (q := 14) (j := 1) rfl rfl rfl (List.mem_of_getElem? (i := 1) rfl) ?_
    refine ag_getR (q := 17) rfl rfl fl_Mill_56 rfl (HS.o h_b) (HS.r2 h_b) ?_
    refine aw_iload_n (q := 18) (j := 3) rfl rfl rfl (List.mem_of_getElem? (i := 3) rfl) ?_
    obtain ⟨bd_2, h⟩ := h
    refine ag_aaload (q := 19) rfl rfl (Or.inr rfl) (HS.a2 h_b) bd_2 (HS.rr h_b bd_2) ?_
    refine aw_astore (q := 21) (j := 4) (ls' := [(4, .ref _), (0, .ref _), (1, .ref _), (2, .int _), (3, .int _)]) rfl rfl (by decide) rfl ?_
    refine aw_aload (q := 23) (j := 4) rfl rfl (List.mem_of_getElem? (i := 0) rfl) ?_
    refine ag_getI (q := 26) rfl rfl fl_Mill_61 rfl (HS.ro h_b bd_2) ?_
    refine aw_iconst (q := 27) (v := 3) rfl rfl (by decide) ?_
    refine aw_icmp_eq (q := 30) (tgt := 63) rfl rfl (by decide) ⟨fun cd_3 => ?_, fun cd_3 => ?_⟩
    · replace h := h.1 cd_3
      refine aw_iinc (q := 66) (v := _ + 1) (ls' := [(3, .int _), (4, .ref _), (0, .ref _), (1, .ref _), (2, .int _)]) rfl rfl (List.mem_of_getElem? (i := 4) rfl) rfl (by decide) rfl ?_
      refine aw_goto (tgt := 2) rfl (by decide) ?_
      refine aw_ls [2, 3, 4, 0] rfl ?_
      exact h
    · replace h := h.2 cd_3
      refine aw_aload (q := 32) (j := 4) rfl rfl (List.mem_of_getElem? (i := 0) rfl) ?_
      refine aw_bipush (q := 34) (v := 99) rfl rfl (by decide) ?_
      refine aw_aload (q := 36) (j := 4) rfl rfl (List.mem_of_getElem? (i := 0) rfl) ?_
      refine ag_getI (q := 39) rfl rfl fl_Mill_66 rfl (HS.ro h_b bd_2) ?_
      refine aw_iload_n (q := 40) (j := 2) rfl rfl rfl (List.mem_of_getElem? (i := 3) rfl) ?_
      refine aw_iadd (q := 41) rfl rfl ?_
      refine aw_mmin (q := 44) rfl rfl (tb_c4 180 rfl rfl) (tb_c3 142 rfl rfl) (tb_c1 18 rfl rfl) (tb_c3 143 rfl rfl) (by decide) (by decide) (by decide) (by decide) (Nat.le_of_ble_eq_true rfl) ?_
      refine ag_putI (q := 47) rfl rfl fl_Mill_66 rfl rfl (HS.ro h_b bd_2) ?_
      replace h := h _ rfl
      refine aw_aload (q := 49) (j := 4) rfl rfl (List.mem_of_getElem? (i := 0) rfl) ?_
      refine aw_iconst (q := 50) (v := 0) rfl rfl (by decide) ?_
      refine aw_aload (q := 52) (j := 4) rfl rfl (List.mem_of_getElem? (i := 0) rfl) ?_
      refine ag_getI (q := 55) rfl rfl fl_Mill_149 rfl (HS.ro h_b bd_2) ?_
      refine aw_iload_n (q := 56) (j := 2) rfl rfl rfl (List.mem_of_getElem? (i := 3) rfl) ?_
      refine aw_isub (q := 57) rfl rfl ?_
      refine aw_mmax (q := 60) rfl rfl (tb_c4 189 rfl rfl) (tb_c3 176 rfl rfl) (tb_c1 18 rfl rfl) (tb_c3 177 rfl rfl) (by decide) (by decide) (by decide) (by decide) (Nat.le_of_ble_eq_true rfl) ?_
      refine ag_putI (q := 63) rfl rfl fl_Mill_149 rfl rfl (HS.ro h_b bd_2) ?_
      replace h := h _ rfl
      refine aw_iinc (q := 66) (v := _ + 1) (ls' := [(3, .int _), (4, .ref _), (0, .ref _), (1, .ref _), (2, .int _)]) rfl rfl (List.mem_of_getElem? (i := 4) rfl) rfl (by decide) rfl ?_
      refine aw_goto (tgt := 2) rfl (by decide) ?_
      refine aw_ls [2, 3, 4, 0] rfl ?_
      exact h
set_option maxRecDepth 20000 in
theorem v_Mill_skip {E : EN} {g : GS} {s : MS} {Q : Option Value → SG → Prop} (b : Nat) (x2 : Int32) (h : AWP E m_Mill_skip 2 0 0 [(0, .ref 28), (1, .ref b), (2, .int x2), (3, .int 0)] [] (mk g s) Q) : AMet E m_Mill_skip [.ref 28, .ref b, .int x2] (mk g s) Q := by
  refine AMet.of (by decide) k_Mill_skip [(0, .ref 28), (1, .ref b), (2, .int x2)] (Nat.le_of_ble_eq_true rfl) rfl ?_
  refine aw_iconst (q := 1) (v := 0) rfl rfl (by decide) ?_
  refine aw_istore_n (q := 2) (j := 3) (ls' := [(3, .int _), (0, .ref _), (1, .ref _), (2, .int _)]) rfl rfl rfl (by decide) rfl ?_
  refine aw_ls [1, 2, 3, 0] rfl ?_
  exact h
set_option maxRecDepth 20000 in
theorem v_Mill_goMinute_7 {E : EN} {g : GS} {s : MS} {Q : Option Value → SG → Prop} (b : Nat) (x2 : Int32) (t : Nat) (hS : SX g) (h_b : HS g b) (et : t = 88 ∨ t = 104) (hm : g.2.2 28 0 = some t) (h : (((s.1 t 13) ≤ x2 → (∀ s1_, s1_ = wi s b 4 (if 0 < ((s.1 b 4) - 1) then ((s.1 b 4) - 1) else 0) → (∀ s2_, s2_ = wi s1_ b 3 ((s1_.1 b 3) + 1) → Q none (mk g s2_)))) ∧ (¬ (s.1 t 13) ≤ x2 → vp_in x2 8 ∧ (((s.1 (b + 4 + (x2).toNatClampNeg) 0) = 3 → AWP E m_Mill_goMinute 7 0 0 [(0, .ref 28), (1, .ref b), (2, .int (x2 + 1))] [] (mk g s) Q) ∧ (¬ (s.1 (b + 4 + (x2).toNatClampNeg) 0) = 3 → (∀ s3_, s3_ = wi s (b + 4 + (x2).toNatClampNeg) 4 (if ((s.1 (b + 4 + (x2).toNatClampNeg) 4) + 1) < 99 then ((s.1 (b + 4 + (x2).toNatClampNeg) 4) + 1) else 99) → (((s3_.1 (b + 4 + (x2).toNatClampNeg) 0) = 0 → GV E m_Mill_beAtHeap [.ref 28, .ref b, .ref (b + 4 + (x2).toNatClampNeg), .int x2] g s3_ (fun t4_ => AWP E m_Mill_goMinute 7 0 0 [(0, .ref 28), (1, .ref b), (2, .int (x2 + 1))] [] (mk g t4_) Q)) ∧ (¬ (s3_.1 (b + 4 + (x2).toNatClampNeg) 0) = 0 → GV E m_Mill_walk [.ref 28, .ref b, .ref (b + 4 + (x2).toNatClampNeg)] g s3_ (fun t5_ => AWP E m_Mill_goMinute 7 0 0 [(0, .ref 28), (1, .ref b), (2, .int (x2 + 1))] [] (mk g t5_) Q))))))))) : AWP E m_Mill_goMinute 7 0 0 [(0, .ref 28), (1, .ref b), (2, .int x2)] [] (mk g s) Q := by
  refine aw_iload_n (q := 8) (j := 2) rfl rfl rfl (List.mem_of_getElem? (i := 2) rfl) ?_
  refine aw_aload_n (q := 9) (j := 0) rfl rfl rfl (List.mem_of_getElem? (i := 0) rfl) ?_
  refine ag_getR (q := 12) rfl rfl fl_Mill_20 rfl (SX.o hS rfl) hm ?_
  refine ag_getI (q := 15) rfl rfl fl_Mill_53 rfl (TS.o (TS.of hS et)) ?_
  refine aw_icmp_ge (q := 18) (tgt := 80) rfl rfl (by decide) ⟨fun cd_1 => ?_, fun cd_1 => ?_⟩
  · replace h := h.1 cd_1
    refine aw_aload_n (q := 81) (j := 1) rfl rfl rfl (List.mem_of_getElem? (i := 1) rfl) ?_
    refine aw_iconst (q := 82) (v := 0) rfl rfl (by decide) ?_
    refine aw_aload_n (q := 83) (j := 1) rfl rfl rfl (List.mem_of_getElem? (i := 1) rfl) ?_
    refine ag_getI (q := 86) rfl rfl fl_Mill_83 rfl (HS.o h_b) ?_
    refine aw_iconst (q := 87) (v := 1) rfl rfl (by decide) ?_
    refine aw_isub (q := 88) rfl rfl ?_
    refine aw_mmax (q := 91) rfl rfl (tb_c4 189 rfl rfl) (tb_c3 176 rfl rfl) (tb_c1 18 rfl rfl) (tb_c3 177 rfl rfl) (by decide) (by decide) (by decide) (by decide) (Nat.le_of_ble_eq_true rfl) ?_
    refine ag_putI (q := 94) rfl rfl fl_Mill_83 rfl rfl (HS.o h_b) ?_
    replace h := h _ rfl
    refine aw_aload_n (q := 95) (j := 1) rfl rfl rfl (List.mem_of_getElem? (i := 1) rfl) ?_
    refine aw_dup (q := 96) rfl rfl rfl ?_
    refine ag_getI (q := 99) rfl rfl fl_Mill_89 rfl (HS.o h_b) ?_
    refine aw_iconst (q := 100) (v := 1) rfl rfl (by decide) ?_
    refine aw_iadd (q := 101) rfl rfl ?_
    refine ag_putI (q := 104) rfl rfl fl_Mill_89 rfl rfl (HS.o h_b) ?_
    replace h := h _ rfl
    exact aw_return rfl rfl (by decide) (by decide) h
  · replace h := h.2 cd_1
    refine aw_aload_n (q := 19) (j := 1) rfl rfl rfl (List.mem_of_getElem? (i := 1) rfl) ?_
    refine ag_getR (q := 22) rfl rfl fl_Mill_56 rfl (HS.o h_b) (HS.r2 h_b) ?_
    refine aw_iload_n (q := 23) (j := 2) rfl rfl rfl (List.mem_of_getElem? (i := 2) rfl) ?_
    obtain ⟨bd_2, h⟩ := h
    refine ag_aaload (q := 24) rfl rfl (Or.inr rfl) (HS.a2 h_b) bd_2 (HS.rr h_b bd_2) ?_
    refine aw_astore_n (q := 25) (j := 3) (ls' := [(3, .ref _), (0, .ref _), (1, .ref _), (2, .int _)]) rfl rfl rfl (by decide) rfl ?_
    refine aw_aload_n (q := 26) (j := 3) rfl rfl rfl (List.mem_of_getElem? (i := 0) rfl) ?_
    refine ag_getI (q := 29) rfl rfl fl_Mill_61 rfl (HS.ro h_b bd_2) ?_
    refine aw_iconst (q := 30) (v := 3) rfl rfl (by decide) ?_
    refine aw_icmp_ne (q := 33) (tgt := 36) rfl rfl (by decide) ⟨fun cd_3 => ?_, fun cd_3 => ?_⟩
    · replace h := h.1 cd_3
      refine aw_goto (tgt := 74) rfl (by decide) ?_
      refine aw_iinc (q := 77) (v := _ + 1) (ls' := [(2, .int _), (3, .ref _), (0, .ref _), (1, .ref _)]) rfl rfl (List.mem_of_getElem? (i := 3) rfl) rfl (by decide) rfl ?_
      refine aw_goto (tgt := 7) rfl (by decide) ?_
      refine aw_ls [2, 3, 0] rfl ?_
      exact h
    · replace h := h.2 cd_3
      refine aw_aload_n (q := 37) (j := 3) rfl rfl rfl (List.mem_of_getElem? (i := 0) rfl) ?_
      refine aw_bipush (q := 39) (v := 99) rfl rfl (by decide) ?_
      refine aw_aload_n (q := 40) (j := 3) rfl rfl rfl (List.mem_of_getElem? (i := 0) rfl) ?_
      refine ag_getI (q := 43) rfl rfl fl_Mill_66 rfl (HS.ro h_b bd_2) ?_
      refine aw_iconst (q := 44) (v := 1) rfl rfl (by decide) ?_
      refine aw_iadd (q := 45) rfl rfl ?_
      refine aw_mmin (q := 48) rfl rfl (tb_c4 180 rfl rfl) (tb_c3 142 rfl rfl) (tb_c1 18 rfl rfl) (tb_c3 143 rfl rfl) (by decide) (by decide) (by decide) (by decide) (Nat.le_of_ble_eq_true rfl) ?_
      refine ag_putI (q := 51) rfl rfl fl_Mill_66 rfl rfl (HS.ro h_b bd_2) ?_
      replace h := h _ rfl
      refine aw_aload_n (q := 52) (j := 3) rfl rfl rfl (List.mem_of_getElem? (i := 0) rfl) ?_
      refine ag_getI (q := 55) rfl rfl fl_Mill_61 rfl (HS.ro h_b bd_2) ?_
      refine aw_if_ne (q := 58) (tgt := 68) rfl rfl (by decide) ⟨fun cd_4 => ?_, fun cd_4 => ?_⟩
      · replace h := h.1 cd_4
        refine aw_aload_n (q := 59) (j := 0) rfl rfl rfl (List.mem_of_getElem? (i := 1) rfl) ?_
        refine aw_aload_n (q := 60) (j := 1) rfl rfl rfl (List.mem_of_getElem? (i := 2) rfl) ?_
        refine aw_aload_n (q := 61) (j := 3) rfl rfl rfl (List.mem_of_getElem? (i := 0) rfl) ?_
        refine aw_iload_n (q := 62) (j := 2) rfl rfl rfl (List.mem_of_getElem? (i := 3) rfl) ?_
        refine ag_cvV (z := m_Mill_beAtHeap) (ci := 4) (av := [.ref _, .ref _, .int _]) (st := []) (q := 65) (k' := 0) (n' := 0) rfl rfl cv_Mill_75 ⟨by decide, by decide⟩ rfl rfl (by decide) (by decide) (SX.o hS rfl) rfl rfl rfl (Nat.le_of_ble_eq_true rfl) ?_
        refine GV.mono h (fun t4_ h => ?_)
        refine aw_goto (tgt := 74) rfl (by decide) ?_
        refine aw_iinc (q := 77) (v := _ + 1) (ls' := [(2, .int _), (3, .ref _), (0, .ref _), (1, .ref _)]) rfl rfl (List.mem_of_getElem? (i := 3) rfl) rfl (by decide) rfl ?_
        refine aw_goto (tgt := 7) rfl (by decide) ?_
        refine aw_ls [2, 3, 0] rfl ?_
        exact h
      · replace h := h.2 cd_4
        refine aw_aload_n (q := 69) (j := 0) rfl rfl rfl (List.mem_of_getElem? (i := 1) rfl) ?_
        refine aw_aload_n (q := 70) (j := 1) rfl rfl rfl (List.mem_of_getElem? (i := 2) rfl) ?_
        refine aw_aload_n (q := 71) (j := 3) rfl rfl rfl (List.mem_of_getElem? (i := 0) rfl) ?_
        refine ag_cvV (z := m_Mill_walk) (ci := 4) (av := [.ref _, .ref _]) (st := []) (q := 74) (k' := 0) (n' := 0) rfl rfl cv_Mill_79 ⟨by decide, by decide⟩ rfl rfl (by decide) (by decide) (SX.o hS rfl) rfl rfl rfl (Nat.le_of_ble_eq_true rfl) ?_
        refine GV.mono h (fun t5_ h => ?_)
        refine aw_iinc (q := 77) (v := _ + 1) (ls' := [(2, .int _), (3, .ref _), (0, .ref _), (1, .ref _)]) rfl rfl (List.mem_of_getElem? (i := 3) rfl) rfl (by decide) rfl ?_
        refine aw_goto (tgt := 7) rfl (by decide) ?_
        refine aw_ls [2, 3, 0] rfl ?_
        exact h
set_option maxRecDepth 20000 in
theorem v_Mill_goMinute {E : EN} {g : GS} {s : MS} {Q : Option Value → SG → Prop} (b : Nat) (hS : SX g) (h : (∀ s1_, s1_ = wi s 28 4 0 → AWP E m_Mill_goMinute 7 0 0 [(0, .ref 28), (1, .ref b), (2, .int 0)] [] (mk g s1_) Q)) : AMet E m_Mill_goMinute [.ref 28, .ref b] (mk g s) Q := by
  refine AMet.of (by decide) k_Mill_goMinute [(0, .ref 28), (1, .ref b)] (Nat.le_of_ble_eq_true rfl) rfl ?_
  refine aw_aload_n (q := 1) (j := 0) rfl rfl rfl (List.mem_of_getElem? (i := 0) rfl) ?_
  refine aw_iconst (q := 2) (v := 0) rfl rfl (by decide) ?_
  refine ag_putI (q := 5) rfl rfl fl_Mill_50 rfl rfl (SX.o hS rfl) ?_
  replace h := h _ rfl
  refine aw_iconst (q := 6) (v := 0) rfl rfl (by decide) ?_
  refine aw_istore_n (q := 7) (j := 2) (ls' := [(2, .int _), (0, .ref _), (1, .ref _)]) rfl rfl rfl (by decide) rfl ?_
  refine aw_ls [1, 2, 0] rfl ?_
  exact h
set_option maxRecDepth 20000 in
theorem v_Mill_beAtHeap {E : EN} {g : GS} {s : MS} {Q : Option Value → SG → Prop} (b : Nat) (r : Nat) (x3 : Int32) (t : Nat) (hS : SX g) (h_b : HS g b) (h_r : OG g r 6) (et : t = 88 ∨ t = 104) (hm : g.2.2 28 0 = some t) (h : (((s.1 t 15) ≤ (s.1 b 3) → (((s.1 r 4) < (s.1 t 16) → Q none (mk g s)) ∧ (¬ (s.1 r 4) < (s.1 t 16) → GV E m_Mill_nibble [.ref 28, .ref b, .ref r] g s (fun t1_ => Q none (mk g t1_))))) ∧ (¬ (s.1 t 15) ≤ (s.1 b 3) → (((s.1 b 4) = 0 → vp_in (s.1 r 6) 6 ∧ (((s.1 (b + 1) (((s.1 r 6)).toNatClampNeg)) ≤ 0 → (((s.1 r 4) < (s.1 t 16) → Q none (mk g s)) ∧ (¬ (s.1 r 4) < (s.1 t 16) → GV E m_Mill_nibble [.ref 28, .ref b, .ref r] g s (fun t2_ => Q none (mk g t2_))))) ∧ (¬ (s.1 (b + 1) (((s.1 r 6)).toNatClampNeg)) ≤ 0 → ((((s.1 28 4) &&& (1 <<< ((s.1 r 6) &&& 31))) = 0 → GV E m_Mill_load [.ref 28, .ref b, .ref r, .int x3] g s (fun t3_ => Q none (mk g t3_))) ∧ (¬ ((s.1 28 4) &&& (1 <<< ((s.1 r 6) &&& 31))) = 0 → (∀ s4_, s4_ = wi s b 8 ((s.1 b 8) + 1) → Q none (mk g s4_))))))) ∧ (¬ (s.1 b 4) = 0 → (((s.1 r 4) < (s.1 t 16) → Q none (mk g s)) ∧ (¬ (s.1 r 4) < (s.1 t 16) → GV E m_Mill_nibble [.ref 28, .ref b, .ref r] g s (fun t5_ => Q none (mk g t5_))))))))) : AMet E m_Mill_beAtHeap [.ref 28, .ref b, .ref r, .int x3] (mk g s) Q := by
  refine AMet.of (by decide) k_Mill_beAtHeap [(0, .ref 28), (1, .ref b), (2, .ref r), (3, .int x3)] (Nat.le_of_ble_eq_true rfl) rfl ?_
  refine aw_aload_n (q := 1) (j := 1) rfl rfl rfl (List.mem_of_getElem? (i := 1) rfl) ?_
  refine ag_getI (q := 4) rfl rfl fl_Mill_89 rfl (HS.o h_b) ?_
  refine aw_aload_n (q := 5) (j := 0) rfl rfl rfl (List.mem_of_getElem? (i := 0) rfl) ?_
  refine ag_getR (q := 8) rfl rfl fl_Mill_20 rfl (SX.o hS rfl) hm ?_
  refine ag_getI (q := 11) rfl rfl fl_Mill_92 rfl (TS.o (TS.of hS et)) ?_
  refine aw_icmp_ge (q := 14) (tgt := 37) rfl rfl (by decide) ⟨fun cd_1 => ?_, fun cd_1 => ?_⟩
  · replace h := h.1 cd_1
    refine aw_iconst (q := 38) (v := 0) rfl rfl (by decide) ?_
    refine aw_istore (q := 40) (j := 4) (ls' := [(4, .int _), (0, .ref _), (1, .ref _), (2, .ref _), (3, .int _)]) rfl rfl (by decide) rfl ?_
    refine aw_iload (q := 42) (j := 4) rfl rfl (List.mem_of_getElem? (i := 0) rfl) ?_
    refine aw_if_ne (q := 45) (tgt := 68) rfl rfl (by decide) ⟨fun _ => ?_, fun c => absurd (by decide) c⟩
    refine aw_aload_n (q := 46) (j := 2) rfl rfl rfl (List.mem_of_getElem? (i := 3) rfl) ?_
    refine ag_getI (q := 49) rfl rfl fl_Mill_66 rfl h_r ?_
    refine aw_aload_n (q := 50) (j := 0) rfl rfl rfl (List.mem_of_getElem? (i := 1) rfl) ?_
    refine ag_getR (q := 53) rfl rfl fl_Mill_20 rfl (SX.o hS rfl) hm ?_
    refine ag_getI (q := 56) rfl rfl fl_Mill_101 rfl (TS.o (TS.of hS et)) ?_
    refine aw_icmp_lt (q := 59) (tgt := 102) rfl rfl (by decide) ⟨fun cd_2 => ?_, fun cd_2 => ?_⟩
    · replace h := h.1 cd_2
      exact aw_return rfl rfl (by decide) (by decide) h
    · replace h := h.2 cd_2
      refine aw_aload_n (q := 60) (j := 0) rfl rfl rfl (List.mem_of_getElem? (i := 1) rfl) ?_
      refine aw_aload_n (q := 61) (j := 1) rfl rfl rfl (List.mem_of_getElem? (i := 2) rfl) ?_
      refine aw_aload_n (q := 62) (j := 2) rfl rfl rfl (List.mem_of_getElem? (i := 3) rfl) ?_
      refine ag_cvV (z := m_Mill_nibble) (ci := 4) (av := [.ref _, .ref _]) (st := []) (q := 65) (k' := 0) (n' := 0) rfl rfl cv_Mill_104 ⟨by decide, by decide⟩ rfl rfl (by decide) (by decide) (SX.o hS rfl) rfl rfl rfl (Nat.le_of_ble_eq_true rfl) ?_
      refine GV.mono h (fun t1_ h => ?_)
      refine aw_goto (tgt := 102) rfl (by decide) ?_
      exact aw_return rfl rfl (by decide) (by decide) h
  · replace h := h.2 cd_1
    refine aw_aload_n (q := 15) (j := 1) rfl rfl rfl (List.mem_of_getElem? (i := 1) rfl) ?_
    refine ag_getI (q := 18) rfl rfl fl_Mill_83 rfl (HS.o h_b) ?_
    refine aw_if_ne (q := 21) (tgt := 37) rfl rfl (by decide) ⟨fun cd_3 => ?_, fun cd_3 => ?_⟩
    · replace h := h.1 cd_3
      refine aw_aload_n (q := 22) (j := 1) rfl rfl rfl (List.mem_of_getElem? (i := 1) rfl) ?_
      refine ag_getR (q := 25) rfl rfl fl_Mill_95 rfl (HS.o h_b) (HS.r0 h_b) ?_
      refine aw_aload_n (q := 26) (j := 2) rfl rfl rfl (List.mem_of_getElem? (i := 2) rfl) ?_
      refine ag_getI (q := 29) rfl rfl fl_Mill_98 rfl h_r ?_
      obtain ⟨bd_4, h⟩ := h
      refine ag_iaload (q := 30) (N := 6) rfl rfl (HS.a0 h_b) bd_4 ?_
      refine aw_if_le (q := 33) (tgt := 37) rfl rfl (by decide) ⟨fun cd_5 => ?_, fun cd_5 => ?_⟩
      · replace h := h.1 cd_5
        refine aw_iconst (q := 38) (v := 0) rfl rfl (by decide) ?_
        refine aw_istore (q := 40) (j := 4) (ls' := [(4, .int _), (0, .ref _), (1, .ref _), (2, .ref _), (3, .int _)]) rfl rfl (by decide) rfl ?_
        refine aw_iload (q := 42) (j := 4) rfl rfl (List.mem_of_getElem? (i := 0) rfl) ?_
        refine aw_if_ne (q := 45) (tgt := 68) rfl rfl (by decide) ⟨fun _ => ?_, fun c => absurd (by decide) c⟩
        refine aw_aload_n (q := 46) (j := 2) rfl rfl rfl (List.mem_of_getElem? (i := 3) rfl) ?_
        refine ag_getI (q := 49) rfl rfl fl_Mill_66 rfl h_r ?_
        refine aw_aload_n (q := 50) (j := 0) rfl rfl rfl (List.mem_of_getElem? (i := 1) rfl) ?_
        refine ag_getR (q := 53) rfl rfl fl_Mill_20 rfl (SX.o hS rfl) hm ?_
        refine ag_getI (q := 56) rfl rfl fl_Mill_101 rfl (TS.o (TS.of hS et)) ?_
        refine aw_icmp_lt (q := 59) (tgt := 102) rfl rfl (by decide) ⟨fun cd_6 => ?_, fun cd_6 => ?_⟩
        · replace h := h.1 cd_6
          exact aw_return rfl rfl (by decide) (by decide) h
        · replace h := h.2 cd_6
          refine aw_aload_n (q := 60) (j := 0) rfl rfl rfl (List.mem_of_getElem? (i := 1) rfl) ?_
          refine aw_aload_n (q := 61) (j := 1) rfl rfl rfl (List.mem_of_getElem? (i := 2) rfl) ?_
          refine aw_aload_n (q := 62) (j := 2) rfl rfl rfl (List.mem_of_getElem? (i := 3) rfl) ?_
          refine ag_cvV (z := m_Mill_nibble) (ci := 4) (av := [.ref _, .ref _]) (st := []) (q := 65) (k' := 0) (n' := 0) rfl rfl cv_Mill_104 ⟨by decide, by decide⟩ rfl rfl (by decide) (by decide) (SX.o hS rfl) rfl rfl rfl (Nat.le_of_ble_eq_true rfl) ?_
          refine GV.mono h (fun t2_ h => ?_)
          refine aw_goto (tgt := 102) rfl (by decide) ?_
          exact aw_return rfl rfl (by decide) (by decide) h
      · replace h := h.2 cd_5
        refine aw_iconst (q := 34) (v := 1) rfl rfl (by decide) ?_
        refine aw_goto (tgt := 38) rfl (by decide) ?_
        refine aw_istore (q := 40) (j := 4) (ls' := [(4, .int _), (0, .ref _), (1, .ref _), (2, .ref _), (3, .int _)]) rfl rfl (by decide) rfl ?_
        refine aw_iload (q := 42) (j := 4) rfl rfl (List.mem_of_getElem? (i := 0) rfl) ?_
        refine aw_if_ne (q := 45) (tgt := 68) rfl rfl (by decide) ⟨fun c => absurd c (by decide), fun _ => ?_⟩
        refine aw_aload_n (q := 69) (j := 0) rfl rfl rfl (List.mem_of_getElem? (i := 1) rfl) ?_
        refine ag_getI (q := 72) rfl rfl fl_Mill_50 rfl (SX.o hS rfl) ?_
        refine aw_iconst (q := 73) (v := 1) rfl rfl (by decide) ?_
        refine aw_aload_n (q := 74) (j := 2) rfl rfl rfl (List.mem_of_getElem? (i := 3) rfl) ?_
        refine ag_getI (q := 77) rfl rfl fl_Mill_98 rfl h_r ?_
        refine aw_ishl (q := 78) rfl rfl ?_
        refine aw_iand (q := 79) rfl rfl ?_
        refine aw_if_eq (q := 82) (tgt := 95) rfl rfl (by decide) ⟨fun cd_7 => ?_, fun cd_7 => ?_⟩
        · replace h := h.1 cd_7
          refine aw_aload_n (q := 96) (j := 0) rfl rfl rfl (List.mem_of_getElem? (i := 1) rfl) ?_
          refine aw_aload_n (q := 97) (j := 1) rfl rfl rfl (List.mem_of_getElem? (i := 2) rfl) ?_
          refine aw_aload_n (q := 98) (j := 2) rfl rfl rfl (List.mem_of_getElem? (i := 3) rfl) ?_
          refine aw_iload_n (q := 99) (j := 3) rfl rfl rfl (List.mem_of_getElem? (i := 4) rfl) ?_
          refine ag_cvV (z := m_Mill_load) (ci := 4) (av := [.ref _, .ref _, .int _]) (st := []) (q := 102) (k' := 0) (n' := 0) rfl rfl cv_Mill_110 ⟨by decide, by decide⟩ rfl rfl (by decide) (by decide) (SX.o hS rfl) rfl rfl rfl (Nat.le_of_ble_eq_true rfl) ?_
          refine GV.mono h (fun t3_ h => ?_)
          exact aw_return rfl rfl (by decide) (by decide) h
        · replace h := h.2 cd_7
          refine aw_aload_n (q := 83) (j := 1) rfl rfl rfl (List.mem_of_getElem? (i := 2) rfl) ?_
          refine aw_dup (q := 84) rfl rfl rfl ?_
          refine ag_getI (q := 87) rfl rfl fl_Mill_107 rfl (HS.o h_b) ?_
          refine aw_iconst (q := 88) (v := 1) rfl rfl (by decide) ?_
          refine aw_iadd (q := 89) rfl rfl ?_
          refine ag_putI (q := 92) rfl rfl fl_Mill_107 rfl rfl (HS.o h_b) ?_
          replace h := h _ rfl
          refine aw_goto (tgt := 102) rfl (by decide) ?_
          exact aw_return rfl rfl (by decide) (by decide) h
    · replace h := h.2 cd_3
      refine aw_iconst (q := 38) (v := 0) rfl rfl (by decide) ?_
      refine aw_istore (q := 40) (j := 4) (ls' := [(4, .int _), (0, .ref _), (1, .ref _), (2, .ref _), (3, .int _)]) rfl rfl (by decide) rfl ?_
      refine aw_iload (q := 42) (j := 4) rfl rfl (List.mem_of_getElem? (i := 0) rfl) ?_
      refine aw_if_ne (q := 45) (tgt := 68) rfl rfl (by decide) ⟨fun _ => ?_, fun c => absurd (by decide) c⟩
      refine aw_aload_n (q := 46) (j := 2) rfl rfl rfl (List.mem_of_getElem? (i := 3) rfl) ?_
      refine ag_getI (q := 49) rfl rfl fl_Mill_66 rfl h_r ?_
      refine aw_aload_n (q := 50) (j := 0) rfl rfl rfl (List.mem_of_getElem? (i := 1) rfl) ?_
      refine ag_getR (q := 53) rfl rfl fl_Mill_20 rfl (SX.o hS rfl) hm ?_
      refine ag_getI (q := 56) rfl rfl fl_Mill_101 rfl (TS.o (TS.of hS et)) ?_
      refine aw_icmp_lt (q := 59) (tgt := 102) rfl rfl (by decide) ⟨fun cd_8 => ?_, fun cd_8 => ?_⟩
      · replace h := h.1 cd_8
        exact aw_return rfl rfl (by decide) (by decide) h
      · replace h := h.2 cd_8
        refine aw_aload_n (q := 60) (j := 0) rfl rfl rfl (List.mem_of_getElem? (i := 1) rfl) ?_
        refine aw_aload_n (q := 61) (j := 1) rfl rfl rfl (List.mem_of_getElem? (i := 2) rfl) ?_
        refine aw_aload_n (q := 62) (j := 2) rfl rfl rfl (List.mem_of_getElem? (i := 3) rfl) ?_
        refine ag_cvV (z := m_Mill_nibble) (ci := 4) (av := [.ref _, .ref _]) (st := []) (q := 65) (k' := 0) (n' := 0) rfl rfl cv_Mill_104 ⟨by decide, by decide⟩ rfl rfl (by decide) (by decide) (SX.o hS rfl) rfl rfl rfl (Nat.le_of_ble_eq_true rfl) ?_
        refine GV.mono h (fun t5_ h => ?_)
        refine aw_goto (tgt := 102) rfl (by decide) ?_
        exact aw_return rfl rfl (by decide) (by decide) h
set_option maxRecDepth 20000 in
theorem v_Mill_nibble_5 {E : EN} {g : GS} {s : MS} {Q : Option Value → SG → Prop} (b : Nat) (r : Nat) (x3 : Int32) (x4 : Int32) (t : Nat) (hS : SX g) (h_b : HS g b) (h_r : OG g r 6) (et : t = 88 ∨ t = 104) (hm : g.2.2 28 0 = some t) (h : (((s.1 t 11) ≤ x4 → vp_in x3 6 ∧ (((s.1 (b + 1) ((x3).toNatClampNeg)) ≤ 0 → Q none (mk g s)) ∧ (¬ (s.1 (b + 1) ((x3).toNatClampNeg)) ≤ 0 → (∀ s1_, s1_ = wi s (b + 1) ((x3).toNatClampNeg) ((s.1 (b + 1) ((x3).toNatClampNeg)) - 1) → (∀ s2_, s2_ = wi s1_ b 5 ((s1_.1 b 5) + 1) → (∀ s3_, s3_ = wi s2_ r 4 0 → Q none (mk g s3_))))))) ∧ (¬ (s.1 t 11) ≤ x4 → vp_in x4 6 ∧ vp_in x3 6 ∧ (((s.1 (b + 1) ((x4).toNatClampNeg)) ≤ (s.1 (b + 1) ((x3).toNatClampNeg)) → AWP E m_Mill_nibble 5 0 0 [(0, .ref 28), (1, .ref b), (2, .ref r), (3, .int x3), (4, .int (x4 + 1))] [] (mk g s) Q) ∧ (¬ (s.1 (b + 1) ((x4).toNatClampNeg)) ≤ (s.1 (b + 1) ((x3).toNatClampNeg)) → AWP E m_Mill_nibble 5 0 0 [(0, .ref 28), (1, .ref b), (2, .ref r), (3, .int x4), (4, .int (x4 + 1))] [] (mk g s) Q))))) : AWP E m_Mill_nibble 5 0 0 [(0, .ref 28), (1, .ref b), (2, .ref r), (3, .int x3), (4, .int x4)] [] (mk g s) Q := by
  refine aw_iload (q := 7) (j := 4) rfl rfl (List.mem_of_getElem? (i := 4) rfl) ?_
  refine aw_aload_n (q := 8) (j := 0) rfl rfl rfl (List.mem_of_getElem? (i := 0) rfl) ?_
  refine ag_getR (q := 11) rfl rfl fl_Mill_20 rfl (SX.o hS rfl) hm ?_
  refine ag_getI (q := 14) rfl rfl fl_Mill_113 rfl (TS.o (TS.of hS et)) ?_
  refine aw_icmp_ge (q := 17) (tgt := 42) rfl rfl (by decide) ⟨fun cd_1 => ?_, fun cd_1 => ?_⟩
  · replace h := h.1 cd_1
    refine aw_aload_n (q := 43) (j := 1) rfl rfl rfl (List.mem_of_getElem? (i := 1) rfl) ?_
    refine ag_getR (q := 46) rfl rfl fl_Mill_95 rfl (HS.o h_b) (HS.r0 h_b) ?_
    refine aw_iload_n (q := 47) (j := 3) rfl rfl rfl (List.mem_of_getElem? (i := 3) rfl) ?_
    obtain ⟨bd_2, h⟩ := h
    refine ag_iaload (q := 48) (N := 6) rfl rfl (HS.a0 h_b) bd_2 ?_
    refine aw_if_le (q := 51) (tgt := 76) rfl rfl (by decide) ⟨fun cd_3 => ?_, fun cd_3 => ?_⟩
    · replace h := h.1 cd_3
      exact aw_return rfl rfl (by decide) (by decide) h
    · replace h := h.2 cd_3
      refine aw_aload_n (q := 52) (j := 1) rfl rfl rfl (List.mem_of_getElem? (i := 1) rfl) ?_
      refine ag_getR (q := 55) rfl rfl fl_Mill_95 rfl (HS.o h_b) (HS.r0 h_b) ?_
      refine aw_iload_n (q := 56) (j := 3) rfl rfl rfl (List.mem_of_getElem? (i := 3) rfl) ?_
      refine aw_dup2 (q := 57) rfl rfl rfl rfl ?_
      refine ag_iaload (q := 58) (N := 6) rfl rfl (HS.a0 h_b) bd_2 ?_
      refine aw_iconst (q := 59) (v := 1) rfl rfl (by decide) ?_
      refine aw_isub (q := 60) rfl rfl ?_
      refine ag_iastore (q := 61) (N := 6) rfl rfl (HS.a0 h_b) bd_2 ?_
      replace h := h _ rfl
      refine aw_aload_n (q := 62) (j := 1) rfl rfl rfl (List.mem_of_getElem? (i := 1) rfl) ?_
      refine aw_dup (q := 63) rfl rfl rfl ?_
      refine ag_getI (q := 66) rfl rfl fl_Mill_116 rfl (HS.o h_b) ?_
      refine aw_iconst (q := 67) (v := 1) rfl rfl (by decide) ?_
      refine aw_iadd (q := 68) rfl rfl ?_
      refine ag_putI (q := 71) rfl rfl fl_Mill_116 rfl rfl (HS.o h_b) ?_
      replace h := h _ rfl
      refine aw_aload_n (q := 72) (j := 2) rfl rfl rfl (List.mem_of_getElem? (i := 2) rfl) ?_
      refine aw_iconst (q := 73) (v := 0) rfl rfl (by decide) ?_
      refine ag_putI (q := 76) rfl rfl fl_Mill_66 rfl rfl h_r ?_
      replace h := h _ rfl
      exact aw_return rfl rfl (by decide) (by decide) h
  · replace h := h.2 cd_1
    refine aw_aload_n (q := 18) (j := 1) rfl rfl rfl (List.mem_of_getElem? (i := 1) rfl) ?_
    refine ag_getR (q := 21) rfl rfl fl_Mill_95 rfl (HS.o h_b) (HS.r0 h_b) ?_
    refine aw_iload (q := 23) (j := 4) rfl rfl (List.mem_of_getElem? (i := 4) rfl) ?_
    obtain ⟨bd_4, h⟩ := h
    refine ag_iaload (q := 24) (N := 6) rfl rfl (HS.a0 h_b) bd_4 ?_
    refine aw_aload_n (q := 25) (j := 1) rfl rfl rfl (List.mem_of_getElem? (i := 1) rfl) ?_
    refine ag_getR (q := 28) rfl rfl fl_Mill_95 rfl (HS.o h_b) (HS.r0 h_b) ?_
    refine aw_iload_n (q := 29) (j := 3) rfl rfl rfl (List.mem_of_getElem? (i := 3) rfl) ?_
    obtain ⟨bd_5, h⟩ := h
    refine ag_iaload (q := 30) (N := 6) rfl rfl (HS.a0 h_b) bd_5 ?_
    refine aw_icmp_le (q := 33) (tgt := 36) rfl rfl (by decide) ⟨fun cd_6 => ?_, fun cd_6 => ?_⟩
    · replace h := h.1 cd_6
      refine aw_iinc (q := 39) (v := _ + 1) (ls' := [(4, .int _), (0, .ref _), (1, .ref _), (2, .ref _), (3, .int _)]) rfl rfl (List.mem_of_getElem? (i := 4) rfl) rfl (by decide) rfl ?_
      refine aw_goto (tgt := 5) rfl (by decide) ?_
      refine aw_ls [1, 2, 3, 4, 0] rfl ?_
      exact h
    · replace h := h.2 cd_6
      refine aw_iload (q := 35) (j := 4) rfl rfl (List.mem_of_getElem? (i := 4) rfl) ?_
      refine aw_istore_n (q := 36) (j := 3) (ls' := [(3, .int _), (0, .ref _), (1, .ref _), (2, .ref _), (4, .int _)]) rfl rfl rfl (by decide) rfl ?_
      refine aw_iinc (q := 39) (v := _ + 1) (ls' := [(4, .int _), (3, .int _), (0, .ref _), (1, .ref _), (2, .ref _)]) rfl rfl (List.mem_of_getElem? (i := 4) rfl) rfl (by decide) rfl ?_
      refine aw_goto (tgt := 5) rfl (by decide) ?_
      refine aw_ls [2, 3, 4, 1, 0] rfl ?_
      exact h
set_option maxRecDepth 20000 in
theorem v_Mill_nibble {E : EN} {g : GS} {s : MS} {Q : Option Value → SG → Prop} (b : Nat) (r : Nat) (h : AWP E m_Mill_nibble 5 0 0 [(0, .ref 28), (1, .ref b), (2, .ref r), (3, .int 0), (4, .int 1)] [] (mk g s) Q) : AMet E m_Mill_nibble [.ref 28, .ref b, .ref r] (mk g s) Q := by
  refine AMet.of (by decide) k_Mill_nibble [(0, .ref 28), (1, .ref b), (2, .ref r)] (Nat.le_of_ble_eq_true rfl) rfl ?_
  refine aw_iconst (q := 1) (v := 0) rfl rfl (by decide) ?_
  refine aw_istore_n (q := 2) (j := 3) (ls' := [(3, .int _), (0, .ref _), (1, .ref _), (2, .ref _)]) rfl rfl rfl (by decide) rfl ?_
  refine aw_iconst (q := 3) (v := 1) rfl rfl (by decide) ?_
  refine aw_istore (q := 5) (j := 4) (ls' := [(4, .int _), (3, .int _), (0, .ref _), (1, .ref _), (2, .ref _)]) rfl rfl (by decide) rfl ?_
  refine aw_ls [2, 3, 4, 1, 0] rfl ?_
  exact h
set_option maxRecDepth 20000 in
theorem v_Mill_load_117 {E : EN} {g : GS} {s : MS} {Q : Option Value → SG → Prop} (b : Nat) (r : Nat) (x3 : Int32) (x4 : Int32) (x5 : Int32) (x6 : Int32) (x7 : Int32) (x8 : Int32) (t : Nat) (hS : SX g) (h_b : HS g b) (h_r : OG g r 6) (et : t = 88 ∨ t = 104) (hm : g.2.2 28 0 = some t) (h : (∀ s1_, s1_ = wi s 30 2 x5 → (∀ s2_, s2_ = wi s1_ 30 0 (s1_.1 r 4) → GI E m_Laws_valueOf [.ref (t + 11), .int 2, .ref 30] g s2_ (fun y3_ t3_ => GI E m_Mill_lot [.int 100, .int (t3_.1 28 2), .int ((8 * (t3_.1 b 3)) + x3)] g t3_ (fun y4_ t4_ => ((y3_ ≤ y4_ → AWP E m_Mill_load 182 0 0 [(0, .ref 28), (1, .ref b), (2, .ref r), (3, .int x3), (4, .int x4), (5, .int x5), (6, .int x6), (7, .int x7), (8, .int x8), (9, .int y3_), (10, .int 0)] [] (mk g t4_) Q) ∧ (¬ y3_ ≤ y4_ → AWP E m_Mill_load 182 0 0 [(0, .ref 28), (1, .ref b), (2, .ref r), (3, .int x3), (4, .int x4), (5, .int x5), (6, .int x6), (7, .int x7), (8, .int x8), (9, .int y3_), (10, .int 1)] [] (mk g t4_) Q))))))) : AWP E m_Mill_load 117 0 0 [(0, .ref 28), (1, .ref b), (2, .ref r), (3, .int x3), (4, .int x4), (5, .int x5), (6, .int x6), (7, .int x7), (8, .int x8)] [] (mk g s) Q := by
  refine aw_aload_n (q := 118) (j := 0) rfl rfl rfl (List.mem_of_getElem? (i := 0) rfl) ?_
  refine ag_getR (q := 121) rfl rfl fl_Mill_17 rfl (SX.o hS rfl) (SX.r hS rfl) ?_
  refine aw_iconst (q := 122) (v := 2) rfl rfl (by decide) ?_
  refine aw_iload (q := 124) (j := 5) rfl rfl (List.mem_of_getElem? (i := 5) rfl) ?_
  refine ag_iastore (q := 125) (N := 7) rfl rfl (SX.a hS rfl) (by unfold vp_in; decide) ?_
  replace h := h _ rfl
  refine aw_aload_n (q := 126) (j := 0) rfl rfl rfl (List.mem_of_getElem? (i := 0) rfl) ?_
  refine ag_getR (q := 129) rfl rfl fl_Mill_17 rfl (SX.o hS rfl) (SX.r hS rfl) ?_
  refine aw_iconst (q := 130) (v := 0) rfl rfl (by decide) ?_
  refine aw_aload_n (q := 131) (j := 2) rfl rfl rfl (List.mem_of_getElem? (i := 2) rfl) ?_
  refine ag_getI (q := 134) rfl rfl fl_Mill_66 rfl h_r ?_
  refine ag_iastore (q := 135) (N := 7) rfl rfl (SX.a hS rfl) (by unfold vp_in; decide) ?_
  replace h := h _ rfl
  refine aw_aload_n (q := 136) (j := 0) rfl rfl rfl (List.mem_of_getElem? (i := 0) rfl) ?_
  refine ag_getR (q := 139) rfl rfl fl_Mill_20 rfl (SX.o hS rfl) hm ?_
  refine ag_getR (q := 142) rfl rfl fl_Mill_125 rfl (TS.o (TS.of hS et)) (TS.r10 (TS.of hS et)) ?_
  refine aw_iconst (q := 143) (v := 2) rfl rfl (by decide) ?_
  refine aw_aload_n (q := 144) (j := 0) rfl rfl rfl (List.mem_of_getElem? (i := 0) rfl) ?_
  refine ag_getR (q := 147) rfl rfl fl_Mill_17 rfl (SX.o hS rfl) (SX.r hS rfl) ?_
  refine ag_cvI (z := m_Laws_valueOf) (ci := 3) (av := [.int _, .ref _]) (st := []) (q := 150) (k' := 0) (n' := 0) rfl rfl cv_Mill_129 ⟨by decide, by decide⟩ rfl rfl (by decide) (by decide) (LW.o (TS.l (TS.of hS et))) rfl rfl rfl (Nat.le_of_ble_eq_true rfl) ?_
  refine GI.mono h (fun y3_ t3_ h => ?_)
  refine aw_istore (q := 152) (j := 9) (ls' := [(9, .int _), (0, .ref _), (1, .ref _), (2, .ref _), (3, .int _), (4, .int _), (5, .int _), (6, .int _), (7, .int _), (8, .int _)]) rfl rfl (by decide) rfl ?_
  refine aw_bipush (q := 154) (v := 100) rfl rfl (by decide) ?_
  refine aw_aload_n (q := 155) (j := 0) rfl rfl rfl (List.mem_of_getElem? (i := 1) rfl) ?_
  refine ag_getI (q := 158) rfl rfl fl_Mill_30 rfl (SX.o hS rfl) ?_
  refine aw_bipush (q := 160) (v := 8) rfl rfl (by decide) ?_
  refine aw_aload_n (q := 161) (j := 1) rfl rfl rfl (List.mem_of_getElem? (i := 2) rfl) ?_
  refine ag_getI (q := 164) rfl rfl fl_Mill_89 rfl (HS.o h_b) ?_
  refine aw_imul (q := 165) rfl rfl ?_
  refine aw_iload_n (q := 166) (j := 3) rfl rfl rfl (List.mem_of_getElem? (i := 4) rfl) ?_
  refine aw_iadd (q := 167) rfl rfl ?_
  refine ag_csI (z := m_Mill_lot) (av := [.int _, .int _, .int _]) (st := []) (q := 170) (k' := 0) (n' := 0) rfl rfl cs_Mill_133 ⟨by decide, by decide⟩ rfl rfl (by decide) (by decide) rfl rfl (Nat.le_of_ble_eq_true rfl) ?_
  refine GI.mono h (fun y4_ t4_ h => ?_)
  refine aw_iload (q := 172) (j := 9) rfl rfl (List.mem_of_getElem? (i := 0) rfl) ?_
  refine aw_icmp_ge (q := 175) (tgt := 179) rfl rfl (by decide) ⟨fun cd_1 => ?_, fun cd_1 => ?_⟩
  · replace h := h.1 cd_1
    refine aw_iconst (q := 180) (v := 0) rfl rfl (by decide) ?_
    refine aw_istore (q := 182) (j := 10) (ls' := [(10, .int _), (9, .int _), (0, .ref _), (1, .ref _), (2, .ref _), (3, .int _), (4, .int _), (5, .int _), (6, .int _), (7, .int _), (8, .int _)]) rfl rfl (by decide) rfl ?_
    refine aw_ls [2, 3, 4, 5, 6, 7, 8, 9, 10, 1, 0] rfl ?_
    exact h
  · replace h := h.2 cd_1
    refine aw_iconst (q := 176) (v := 1) rfl rfl (by decide) ?_
    refine aw_goto (tgt := 180) rfl (by decide) ?_
    refine aw_istore (q := 182) (j := 10) (ls' := [(10, .int _), (9, .int _), (0, .ref _), (1, .ref _), (2, .ref _), (3, .int _), (4, .int _), (5, .int _), (6, .int _), (7, .int _), (8, .int _)]) rfl rfl (by decide) rfl ?_
    refine aw_ls [2, 3, 4, 5, 6, 7, 8, 9, 10, 1, 0] rfl ?_
    exact h
set_option maxRecDepth 20000 in
theorem v_Mill_load_182 {E : EN} {g : GS} {s : MS} {Q : Option Value → SG → Prop} (b : Nat) (r : Nat) (x3 : Int32) (x4 : Int32) (x5 : Int32) (x6 : Int32) (x7 : Int32) (x8 : Int32) (x9 : Int32) (x10 : Int32) (t : Nat) (hS : SX g) (h_b : HS g b) (h_r : OG g r 6) (et : t = 88 ∨ t = 104) (hm : g.2.2 28 0 = some t) (h : (∀ s1_, s1_ = wi s 28 4 ((s.1 28 4) ||| (1 <<< ((s.1 r 6) &&& 31))) → vp_in (s1_.1 r 6) 6 ∧ (∀ s2_, s2_ = wi s1_ (b + 1) (((s1_.1 r 6)).toNatClampNeg) ((s1_.1 (b + 1) (((s1_.1 r 6)).toNatClampNeg)) - x7) → (∀ s3_, s3_ = wi s2_ b 5 ((s2_.1 b 5) + x8) → (∀ s4_, s4_ = wi s3_ r 2 (x7 - x8) → (∀ s5_, s5_ = wi s4_ r 3 (s4_.1 r 6) → ((x10 = 0 → (∀ s6_, s6_ = wi s5_ r 8 x4 → AWP E m_Mill_load 275 0 0 [(0, .ref 28), (1, .ref b), (2, .ref r), (3, .int x3), (4, .int x4), (5, .int x5), (6, .int x6), (7, .int x7), (8, .int x8), (9, .int x9), (10, .int x10)] [] (mk g s6_) Q)) ∧ (¬ x10 = 0 → (((s5_.1 t 12) ≤ (x4 + 1) → (∀ s7_, s7_ = wi s5_ r 8 0 → AWP E m_Mill_load 275 0 0 [(0, .ref 28), (1, .ref b), (2, .ref r), (3, .int x3), (4, .int x4), (5, .int x5), (6, .int x6), (7, .int x7), (8, .int x8), (9, .int x9), (10, .int x10)] [] (mk g s7_) Q)) ∧ (¬ (s5_.1 t 12) ≤ (x4 + 1) → (∀ s8_, s8_ = wi s5_ r 8 (x4 + 1) → AWP E m_Mill_load 275 0 0 [(0, .ref 28), (1, .ref b), (2, .ref r), (3, .int x3), (4, .int x4), (5, .int x5), (6, .int x6), (7, .int x7), (8, .int x8), (9, .int x9), (10, .int x10)] [] (mk g s8_) Q))))))))))) : AWP E m_Mill_load 182 0 0 [(0, .ref 28), (1, .ref b), (2, .ref r), (3, .int x3), (4, .int x4), (5, .int x5), (6, .int x6), (7, .int x7), (8, .int x8), (9, .int x9), (10, .int x10)] [] (mk g s) Q := by
  refine aw_aload_n (q := 183) (j := 0) rfl rfl rfl (List.mem_of_getElem? (i := 0) rfl) ?_
  refine aw_dup (q := 184) rfl rfl rfl ?_
  refine ag_getI (q := 187) rfl rfl fl_Mill_50 rfl (SX.o hS rfl) ?_
  refine aw_iconst (q := 188) (v := 1) rfl rfl (by decide) ?_
  refine aw_aload_n (q := 189) (j := 2) rfl rfl rfl (List.mem_of_getElem? (i := 2) rfl) ?_
  refine ag_getI (q := 192) rfl rfl fl_Mill_98 rfl h_r ?_
  refine aw_ishl (q := 193) rfl rfl ?_
  refine aw_ior (q := 194) rfl rfl ?_
  refine ag_putI (q := 197) rfl rfl fl_Mill_50 rfl rfl (SX.o hS rfl) ?_
  replace h := h _ rfl
  refine aw_aload_n (q := 198) (j := 1) rfl rfl rfl (List.mem_of_getElem? (i := 1) rfl) ?_
  refine ag_getR (q := 201) rfl rfl fl_Mill_95 rfl (HS.o h_b) (HS.r0 h_b) ?_
  refine aw_aload_n (q := 202) (j := 2) rfl rfl rfl (List.mem_of_getElem? (i := 2) rfl) ?_
  refine ag_getI (q := 205) rfl rfl fl_Mill_98 rfl h_r ?_
  refine aw_dup2 (q := 206) rfl rfl rfl rfl ?_
  obtain ⟨bd_1, h⟩ := h
  refine ag_iaload (q := 207) (N := 6) rfl rfl (HS.a0 h_b) bd_1 ?_
  refine aw_iload (q := 209) (j := 7) rfl rfl (List.mem_of_getElem? (i := 7) rfl) ?_
  refine aw_isub (q := 210) rfl rfl ?_
  refine ag_iastore (q := 211) (N := 6) rfl rfl (HS.a0 h_b) bd_1 ?_
  replace h := h _ rfl
  refine aw_aload_n (q := 212) (j := 1) rfl rfl rfl (List.mem_of_getElem? (i := 1) rfl) ?_
  refine aw_dup (q := 213) rfl rfl rfl ?_
  refine ag_getI (q := 216) rfl rfl fl_Mill_116 rfl (HS.o h_b) ?_
  refine aw_iload (q := 218) (j := 8) rfl rfl (List.mem_of_getElem? (i := 8) rfl) ?_
  refine aw_iadd (q := 219) rfl rfl ?_
  refine ag_putI (q := 222) rfl rfl fl_Mill_116 rfl rfl (HS.o h_b) ?_
  replace h := h _ rfl
  refine aw_aload_n (q := 223) (j := 2) rfl rfl rfl (List.mem_of_getElem? (i := 2) rfl) ?_
  refine aw_iload (q := 225) (j := 7) rfl rfl (List.mem_of_getElem? (i := 7) rfl) ?_
  refine aw_iload (q := 227) (j := 8) rfl rfl (List.mem_of_getElem? (i := 8) rfl) ?_
  refine aw_isub (q := 228) rfl rfl ?_
  refine ag_putI (q := 231) rfl rfl fl_Mill_137 rfl rfl h_r ?_
  replace h := h _ rfl
  refine aw_aload_n (q := 232) (j := 2) rfl rfl rfl (List.mem_of_getElem? (i := 2) rfl) ?_
  refine aw_aload_n (q := 233) (j := 2) rfl rfl rfl (List.mem_of_getElem? (i := 2) rfl) ?_
  refine ag_getI (q := 236) rfl rfl fl_Mill_98 rfl h_r ?_
  refine ag_putI (q := 239) rfl rfl fl_Mill_140 rfl rfl h_r ?_
  replace h := h _ rfl
  refine aw_aload_n (q := 240) (j := 2) rfl rfl rfl (List.mem_of_getElem? (i := 2) rfl) ?_
  refine aw_iload (q := 242) (j := 10) rfl rfl (List.mem_of_getElem? (i := 10) rfl) ?_
  refine aw_if_ne (q := 245) (tgt := 250) rfl rfl (by decide) ⟨fun cd_2 => ?_, fun cd_2 => ?_⟩
  · replace h := h.1 cd_2
    refine aw_iload (q := 247) (j := 4) rfl rfl (List.mem_of_getElem? (i := 4) rfl) ?_
    refine aw_goto (tgt := 272) rfl (by decide) ?_
    refine ag_putI (q := 275) rfl rfl fl_Mill_146 rfl rfl h_r ?_
    replace h := h _ rfl
    refine aw_ls [0, 1, 2, 3, 4, 5, 6, 7, 8, 9, 10] rfl ?_
    exact h
  · replace h := h.2 cd_2
    refine aw_iload (q := 252) (j := 4) rfl rfl (List.mem_of_getElem? (i := 4) rfl) ?_
    refine aw_iconst (q := 253) (v := 1) rfl rfl (by decide) ?_
    refine aw_iadd (q := 254) rfl rfl ?_
    refine aw_aload_n (q := 255) (j := 0) rfl rfl rfl (List.mem_of_getElem? (i := 0) rfl) ?_
    refine ag_getR (q := 258) rfl rfl fl_Mill_20 rfl (SX.o hS rfl) hm ?_
    refine ag_getI (q := 261) rfl rfl fl_Mill_143 rfl (TS.o (TS.of hS et)) ?_
    refine aw_icmp_ge (q := 264) (tgt := 271) rfl rfl (by decide) ⟨fun cd_3 => ?_, fun cd_3 => ?_⟩
    · replace h := h.1 cd_3
      refine aw_iconst (q := 272) (v := 0) rfl rfl (by decide) ?_
      refine ag_putI (q := 275) rfl rfl fl_Mill_146 rfl rfl h_r ?_
      replace h := h _ rfl
      refine aw_ls [0, 1, 2, 3, 4, 5, 6, 7, 8, 9, 10] rfl ?_
      exact h
    · replace h := h.2 cd_3
      refine aw_iload (q := 266) (j := 4) rfl rfl (List.mem_of_getElem? (i := 4) rfl) ?_
      refine aw_iconst (q := 267) (v := 1) rfl rfl (by decide) ?_
      refine aw_iadd (q := 268) rfl rfl ?_
      refine aw_goto (tgt := 272) rfl (by decide) ?_
      refine ag_putI (q := 275) rfl rfl fl_Mill_146 rfl rfl h_r ?_
      replace h := h _ rfl
      refine aw_ls [0, 1, 2, 3, 4, 5, 6, 7, 8, 9, 10] rfl ?_
      exact h
set_option maxRecDepth 20000 in
theorem v_Mill_load_275 {E : EN} {g : GS} {s : MS} {Q : Option Value → SG → Prop} (b : Nat) (r : Nat) (x3 : Int32) (x4 : Int32) (x5 : Int32) (x6 : Int32) (x7 : Int32) (x8 : Int32) (x9 : Int32) (x10 : Int32) (hS : SX g) (h_r : OG g r 6) (h : (∀ s1_, s1_ = wi s r 0 1 → vp_in (s1_.1 r 8) 6 ∧ (∀ s2_, s2_ = wi s1_ r 1 (s1_.1 29 (((s1_.1 r 8)).toNatClampNeg)) → Q none (mk g s2_)))) : AWP E m_Mill_load 275 0 0 [(0, .ref 28), (1, .ref b), (2, .ref r), (3, .int x3), (4, .int x4), (5, .int x5), (6, .int x6), (7, .int x7), (8, .int x8), (9, .int x9), (10, .int x10)] [] (mk g s) Q := by
  refine aw_aload_n (q := 276) (j := 2) rfl rfl rfl (List.mem_of_getElem? (i := 2) rfl) ?_
  refine aw_iconst (q := 277) (v := 1) rfl rfl (by decide) ?_
  refine ag_putI (q := 280) rfl rfl fl_Mill_61 rfl rfl h_r ?_
  replace h := h _ rfl
  refine aw_aload_n (q := 281) (j := 2) rfl rfl rfl (List.mem_of_getElem? (i := 2) rfl) ?_
  refine aw_aload_n (q := 282) (j := 0) rfl rfl rfl (List.mem_of_getElem? (i := 0) rfl) ?_
  refine ag_getR (q := 285) rfl rfl fl_Mill_9 rfl (SX.o hS rfl) (SX.r hS rfl) ?_
  refine aw_aload_n (q := 286) (j := 2) rfl rfl rfl (List.mem_of_getElem? (i := 2) rfl) ?_
  refine ag_getI (q := 289) rfl rfl fl_Mill_146 rfl h_r ?_
  obtain ⟨bd_1, h⟩ := h
  refine ag_iaload (q := 290) (N := 6) rfl rfl (SX.a hS rfl) bd_1 ?_
  refine ag_putI (q := 293) rfl rfl fl_Mill_149 rfl rfl h_r ?_
  replace h := h _ rfl
  exact aw_return rfl rfl (by decide) (by decide) h
set_option maxRecDepth 20000 in
theorem v_Mill_load {E : EN} {g : GS} {s : MS} {Q : Option Value → SG → Prop} (b : Nat) (r : Nat) (x3 : Int32) (t : Nat) (hS : SX g) (h_b : HS g b) (h_r : OG g r 6) (et : t = 88 ∨ t = 104) (hm : g.2.2 28 0 = some t) (h : vp_in x3 8 ∧ (∀ n1_, n1_ = (s.1 (t + 6) ((x3).toNatClampNeg)) → vp_in (s.1 r 6) 6 ∧ (∀ n2_, n2_ = (s.1 (b + 1) (((s.1 r 6)).toNatClampNeg)) → GV E m_Mill_know [.ref 28, .ref b, .ref r, .int n1_] g s (fun t3_ => (∀ s4_, s4_ = wi t3_ 30 2 n2_ → GI E m_Laws_valueOf [.ref (t + 11), .int 0, .ref 30] g s4_ (fun y5_ t5_ => (∀ n6_, n6_ = (if 1 < (if y5_ < 99 then y5_ else 99) then (if y5_ < 99 then y5_ else 99) else 1) → (∀ n7_, n7_ = (if n2_ < n6_ then n2_ else n6_) → (∀ s8_, s8_ = wi t5_ 30 2 n7_ → GI E m_Laws_valueOf [.ref (t + 11), .int 1, .ref 30] g s8_ (fun y9_ t9_ => (∀ n10_, n10_ = (if 0 < (if y9_ < n7_ then y9_ else n7_) then (if y9_ < n7_ then y9_ else n7_) else 0) → ((n10_ ≤ 0 → AWP E m_Mill_load 117 0 0 [(0, .ref 28), (1, .ref b), (2, .ref r), (3, .int x3), (4, .int n1_), (5, .int n2_), (6, .int n6_), (7, .int n7_), (8, .int n10_)] [] (mk g t9_) Q) ∧ (¬ n10_ ≤ 0 → (∀ s11_, s11_ = wi t9_ r 4 0 → AWP E m_Mill_load 117 0 0 [(0, .ref 28), (1, .ref b), (2, .ref r), (3, .int x3), (4, .int n1_), (5, .int n2_), (6, .int n6_), (7, .int n7_), (8, .int n10_)] [] (mk g s11_) Q)))))))))))))) : AMet E m_Mill_load [.ref 28, .ref b, .ref r, .int x3] (mk g s) Q := by
  refine AMet.of (by decide) k_Mill_load [(0, .ref 28), (1, .ref b), (2, .ref r), (3, .int x3)] (Nat.le_of_ble_eq_true rfl) rfl ?_
  refine aw_aload_n (q := 1) (j := 0) rfl rfl rfl (List.mem_of_getElem? (i := 0) rfl) ?_
  refine ag_getR (q := 4) rfl rfl fl_Mill_20 rfl (SX.o hS rfl) hm ?_
  refine ag_getR (q := 7) rfl rfl fl_Mill_119 rfl (TS.o (TS.of hS et)) (TS.r5 (TS.of hS et)) ?_
  refine aw_iload_n (q := 8) (j := 3) rfl rfl rfl (List.mem_of_getElem? (i := 3) rfl) ?_
  obtain ⟨bd_1, h⟩ := h
  refine ag_iaload (q := 9) (N := 8) rfl rfl (TS.a5 (TS.of hS et)) bd_1 ?_
  refine aw_istore (q := 11) (j := 4) (ls' := [(4, .int _), (0, .ref _), (1, .ref _), (2, .ref _), (3, .int _)]) rfl rfl (by decide) rfl ?_
  replace h := h _ rfl
  refine aw_aload_n (q := 12) (j := 1) rfl rfl rfl (List.mem_of_getElem? (i := 2) rfl) ?_
  refine ag_getR (q := 15) rfl rfl fl_Mill_95 rfl (HS.o h_b) (HS.r0 h_b) ?_
  refine aw_aload_n (q := 16) (j := 2) rfl rfl rfl (List.mem_of_getElem? (i := 3) rfl) ?_
  refine ag_getI (q := 19) rfl rfl fl_Mill_98 rfl h_r ?_
  obtain ⟨bd_2, h⟩ := h
  refine ag_iaload (q := 20) (N := 6) rfl rfl (HS.a0 h_b) bd_2 ?_
  refine aw_istore (q := 22) (j := 5) (ls' := [(5, .int _), (4, .int _), (0, .ref _), (1, .ref _), (2, .ref _), (3, .int _)]) rfl rfl (by decide) rfl ?_
  replace h := h _ rfl
  refine aw_aload_n (q := 23) (j := 0) rfl rfl rfl (List.mem_of_getElem? (i := 2) rfl) ?_
  refine aw_aload_n (q := 24) (j := 1) rfl rfl rfl (List.mem_of_getElem? (i := 3) rfl) ?_
  refine aw_aload_n (q := 25) (j := 2) rfl rfl rfl (List.mem_of_getElem? (i := 4) rfl) ?_
  refine aw_iload (q := 27) (j := 4) rfl rfl (List.mem_of_getElem? (i := 1) rfl) ?_
  refine ag_cvV (z := m_Mill_know) (ci := 4) (av := [.ref _, .ref _, .int _]) (st := []) (q := 30) (k' := 0) (n' := 0) rfl rfl cv_Mill_122 ⟨by decide, by decide⟩ rfl rfl (by decide) (by decide) (SX.o hS rfl) rfl rfl rfl (Nat.le_of_ble_eq_true rfl) ?_
  refine GV.mono h (fun t3_ h => ?_)
  refine aw_aload_n (q := 31) (j := 0) rfl rfl rfl (List.mem_of_getElem? (i := 2) rfl) ?_
  refine ag_getR (q := 34) rfl rfl fl_Mill_17 rfl (SX.o hS rfl) (SX.r hS rfl) ?_
  refine aw_iconst (q := 35) (v := 2) rfl rfl (by decide) ?_
  refine aw_iload (q := 37) (j := 5) rfl rfl (List.mem_of_getElem? (i := 0) rfl) ?_
  refine ag_iastore (q := 38) (N := 7) rfl rfl (SX.a hS rfl) (by unfold vp_in; decide) ?_
  replace h := h _ rfl
  refine aw_iconst (q := 39) (v := 1) rfl rfl (by decide) ?_
  refine aw_bipush (q := 41) (v := 99) rfl rfl (by decide) ?_
  refine aw_aload_n (q := 42) (j := 0) rfl rfl rfl (List.mem_of_getElem? (i := 2) rfl) ?_
  refine ag_getR (q := 45) rfl rfl fl_Mill_20 rfl (SX.o hS rfl) hm ?_
  refine ag_getR (q := 48) rfl rfl fl_Mill_125 rfl (TS.o (TS.of hS et)) (TS.r10 (TS.of hS et)) ?_
  refine aw_iconst (q := 49) (v := 0) rfl rfl (by decide) ?_
  refine aw_aload_n (q := 50) (j := 0) rfl rfl rfl (List.mem_of_getElem? (i := 2) rfl) ?_
  refine ag_getR (q := 53) rfl rfl fl_Mill_17 rfl (SX.o hS rfl) (SX.r hS rfl) ?_
  refine ag_cvI (z := m_Laws_valueOf) (ci := 3) (av := [.int _, .ref _]) (st := [.int _, .int _]) (q := 56) (k' := 0) (n' := 0) rfl rfl cv_Mill_129 ⟨by decide, by decide⟩ rfl rfl (by decide) (by decide) (LW.o (TS.l (TS.of hS et))) rfl rfl rfl (Nat.le_of_ble_eq_true rfl) ?_
  refine GI.mono h (fun y5_ t5_ h => ?_)
  refine aw_mmin (q := 59) rfl rfl (tb_c4 180 rfl rfl) (tb_c3 142 rfl rfl) (tb_c1 18 rfl rfl) (tb_c3 143 rfl rfl) (by decide) (by decide) (by decide) (by decide) (Nat.le_of_ble_eq_true rfl) ?_
  refine aw_mmax (q := 62) rfl rfl (tb_c4 189 rfl rfl) (tb_c3 176 rfl rfl) (tb_c1 18 rfl rfl) (tb_c3 177 rfl rfl) (by decide) (by decide) (by decide) (by decide) (Nat.le_of_ble_eq_true rfl) ?_
  refine aw_istore (q := 64) (j := 6) (ls' := [(6, .int _), (5, .int _), (4, .int _), (0, .ref _), (1, .ref _), (2, .ref _), (3, .int _)]) rfl rfl (by decide) rfl ?_
  replace h := h _ rfl
  refine aw_iload (q := 66) (j := 6) rfl rfl (List.mem_of_getElem? (i := 0) rfl) ?_
  refine aw_iload (q := 68) (j := 5) rfl rfl (List.mem_of_getElem? (i := 1) rfl) ?_
  refine aw_mmin (q := 71) rfl rfl (tb_c4 180 rfl rfl) (tb_c3 142 rfl rfl) (tb_c1 18 rfl rfl) (tb_c3 143 rfl rfl) (by decide) (by decide) (by decide) (by decide) (Nat.le_of_ble_eq_true rfl) ?_
  refine aw_istore (q := 73) (j := 7) (ls' := [(7, .int _), (6, .int _), (5, .int _), (4, .int _), (0, .ref _), (1, .ref _), (2, .ref _), (3, .int _)]) rfl rfl (by decide) rfl ?_
  replace h := h _ rfl
  refine aw_aload_n (q := 74) (j := 0) rfl rfl rfl (List.mem_of_getElem? (i := 4) rfl) ?_
  refine ag_getR (q := 77) rfl rfl fl_Mill_17 rfl (SX.o hS rfl) (SX.r hS rfl) ?_
  refine aw_iconst (q := 78) (v := 2) rfl rfl (by decide) ?_
  refine aw_iload (q := 80) (j := 7) rfl rfl (List.mem_of_getElem? (i := 0) rfl) ?_
  refine ag_iastore (q := 81) (N := 7) rfl rfl (SX.a hS rfl) (by unfold vp_in; decide) ?_
  replace h := h _ rfl
  refine aw_iconst (q := 82) (v := 0) rfl rfl (by decide) ?_
  refine aw_iload (q := 84) (j := 7) rfl rfl (List.mem_of_getElem? (i := 0) rfl) ?_
  refine aw_aload_n (q := 85) (j := 0) rfl rfl rfl (List.mem_of_getElem? (i := 4) rfl) ?_
  refine ag_getR (q := 88) rfl rfl fl_Mill_20 rfl (SX.o hS rfl) hm ?_
  refine ag_getR (q := 91) rfl rfl fl_Mill_125 rfl (TS.o (TS.of hS et)) (TS.r10 (TS.of hS et)) ?_
  refine aw_iconst (q := 92) (v := 1) rfl rfl (by decide) ?_
  refine aw_aload_n (q := 93) (j := 0) rfl rfl rfl (List.mem_of_getElem? (i := 4) rfl) ?_
  refine ag_getR (q := 96) rfl rfl fl_Mill_17 rfl (SX.o hS rfl) (SX.r hS rfl) ?_
  refine ag_cvI (z := m_Laws_valueOf) (ci := 3) (av := [.int _, .ref _]) (st := [.int _, .int _]) (q := 99) (k' := 0) (n' := 0) rfl rfl cv_Mill_129 ⟨by decide, by decide⟩ rfl rfl (by decide) (by decide) (LW.o (TS.l (TS.of hS et))) rfl rfl rfl (Nat.le_of_ble_eq_true rfl) ?_
  refine GI.mono h (fun y9_ t9_ h => ?_)
  refine aw_mmin (q := 102) rfl rfl (tb_c4 180 rfl rfl) (tb_c3 142 rfl rfl) (tb_c1 18 rfl rfl) (tb_c3 143 rfl rfl) (by decide) (by decide) (by decide) (by decide) (Nat.le_of_ble_eq_true rfl) ?_
  refine aw_mmax (q := 105) rfl rfl (tb_c4 189 rfl rfl) (tb_c3 176 rfl rfl) (tb_c1 18 rfl rfl) (tb_c3 177 rfl rfl) (by decide) (by decide) (by decide) (by decide) (Nat.le_of_ble_eq_true rfl) ?_
  refine aw_istore (q := 107) (j := 8) (ls' := [(8, .int _), (7, .int _), (6, .int _), (5, .int _), (4, .int _), (0, .ref _), (1, .ref _), (2, .ref _), (3, .int _)]) rfl rfl (by decide) rfl ?_
  replace h := h _ rfl
  refine aw_iload (q := 109) (j := 8) rfl rfl (List.mem_of_getElem? (i := 0) rfl) ?_
  refine aw_if_le (q := 112) (tgt := 117) rfl rfl (by decide) ⟨fun cd_3 => ?_, fun cd_3 => ?_⟩
  · replace h := h.1 cd_3
    refine aw_ls [5, 6, 7, 8, 4, 3, 2, 1, 0] rfl ?_
    exact h
  · replace h := h.2 cd_3
    refine aw_aload_n (q := 113) (j := 2) rfl rfl rfl (List.mem_of_getElem? (i := 7) rfl) ?_
    refine aw_iconst (q := 114) (v := 0) rfl rfl (by decide) ?_
    refine ag_putI (q := 117) rfl rfl fl_Mill_66 rfl rfl h_r ?_
    replace h := h _ rfl
    refine aw_ls [5, 6, 7, 8, 4, 3, 2, 1, 0] rfl ?_
    exact h
set_option maxRecDepth 20000 in
theorem v_Mill_know {E : EN} {g : GS} {s : MS} {Q : Option Value → SG → Prop} (b : Nat) (r : Nat) (x3 : Int32) (t : Nat) (hS : SX g) (h_b : HS g b) (h_r : OG g r 6) (et : t = 88 ∨ t = 104) (hm : g.2.2 28 0 = some t) (h : (∀ s1_, s1_ = wi s 30 0 (s.1 r 4) → (∀ s2_, s2_ = wi s1_ 30 1 (s1_.1 r 5) → (∀ s3_, s3_ = wi s2_ 30 3 (if 0 < ((s2_.1 t 15) - (s2_.1 b 3)) then ((s2_.1 t 15) - (s2_.1 b 3)) else 0) → vp_in x3 6 ∧ (∀ s4_, s4_ = wi s3_ 30 4 (s.1 29 ((x3).toNatClampNeg)) → (∀ s5_, s5_ = wi s4_ 30 5 (s4_.1 r 6) → (∀ s6_, s6_ = wi s5_ 30 6 (s5_.1 r 7) → Q none (mk g s6_)))))))) : AMet E m_Mill_know [.ref 28, .ref b, .ref r, .int x3] (mk g s) Q := by
  refine AMet.of (by decide) k_Mill_know [(0, .ref 28), (1, .ref b), (2, .ref r), (3, .int x3)] (Nat.le_of_ble_eq_true rfl) rfl ?_
  refine aw_aload_n (q := 1) (j := 0) rfl rfl rfl (List.mem_of_getElem? (i := 0) rfl) ?_
  refine ag_getR (q := 4) rfl rfl fl_Mill_17 rfl (SX.o hS rfl) (SX.r hS rfl) ?_
  refine aw_iconst (q := 5) (v := 0) rfl rfl (by decide) ?_
  refine aw_aload_n (q := 6) (j := 2) rfl rfl rfl (List.mem_of_getElem? (i := 2) rfl) ?_
  refine ag_getI (q := 9) rfl rfl fl_Mill_66 rfl h_r ?_
  refine ag_iastore (q := 10) (N := 7) rfl rfl (SX.a hS rfl) (by unfold vp_in; decide) ?_
  replace h := h _ rfl
  refine aw_aload_n (q := 11) (j := 0) rfl rfl rfl (List.mem_of_getElem? (i := 0) rfl) ?_
  refine ag_getR (q := 14) rfl rfl fl_Mill_17 rfl (SX.o hS rfl) (SX.r hS rfl) ?_
  refine aw_iconst (q := 15) (v := 1) rfl rfl (by decide) ?_
  refine aw_aload_n (q := 16) (j := 2) rfl rfl rfl (List.mem_of_getElem? (i := 2) rfl) ?_
  refine ag_getI (q := 19) rfl rfl fl_Mill_152 rfl h_r ?_
  refine ag_iastore (q := 20) (N := 7) rfl rfl (SX.a hS rfl) (by unfold vp_in; decide) ?_
  replace h := h _ rfl
  refine aw_aload_n (q := 21) (j := 0) rfl rfl rfl (List.mem_of_getElem? (i := 0) rfl) ?_
  refine ag_getR (q := 24) rfl rfl fl_Mill_17 rfl (SX.o hS rfl) (SX.r hS rfl) ?_
  refine aw_iconst (q := 25) (v := 3) rfl rfl (by decide) ?_
  refine aw_iconst (q := 26) (v := 0) rfl rfl (by decide) ?_
  refine aw_aload_n (q := 27) (j := 0) rfl rfl rfl (List.mem_of_getElem? (i := 0) rfl) ?_
  refine ag_getR (q := 30) rfl rfl fl_Mill_20 rfl (SX.o hS rfl) hm ?_
  refine ag_getI (q := 33) rfl rfl fl_Mill_92 rfl (TS.o (TS.of hS et)) ?_
  refine aw_aload_n (q := 34) (j := 1) rfl rfl rfl (List.mem_of_getElem? (i := 1) rfl) ?_
  refine ag_getI (q := 37) rfl rfl fl_Mill_89 rfl (HS.o h_b) ?_
  refine aw_isub (q := 38) rfl rfl ?_
  refine aw_mmax (q := 41) rfl rfl (tb_c4 189 rfl rfl) (tb_c3 176 rfl rfl) (tb_c1 18 rfl rfl) (tb_c3 177 rfl rfl) (by decide) (by decide) (by decide) (by decide) (Nat.le_of_ble_eq_true rfl) ?_
  refine ag_iastore (q := 42) (N := 7) rfl rfl (SX.a hS rfl) (by unfold vp_in; decide) ?_
  replace h := h _ rfl
  refine aw_aload_n (q := 43) (j := 0) rfl rfl rfl (List.mem_of_getElem? (i := 0) rfl) ?_
  refine ag_getR (q := 46) rfl rfl fl_Mill_17 rfl (SX.o hS rfl) (SX.r hS rfl) ?_
  refine aw_iconst (q := 47) (v := 4) rfl rfl (by decide) ?_
  refine aw_aload_n (q := 48) (j := 0) rfl rfl rfl (List.mem_of_getElem? (i := 0) rfl) ?_
  refine ag_getR (q := 51) rfl rfl fl_Mill_9 rfl (SX.o hS rfl) (SX.r hS rfl) ?_
  refine aw_iload_n (q := 52) (j := 3) rfl rfl rfl (List.mem_of_getElem? (i := 3) rfl) ?_
  obtain ⟨bd_1, h⟩ := h
  refine ag_iaload (q := 53) (N := 6) rfl rfl (SX.a hS rfl) bd_1 ?_
  refine ag_iastore (q := 54) (N := 7) rfl rfl (SX.a hS rfl) (by unfold vp_in; decide) ?_
  replace h := h _ rfl
  refine aw_aload_n (q := 55) (j := 0) rfl rfl rfl (List.mem_of_getElem? (i := 0) rfl) ?_
  refine ag_getR (q := 58) rfl rfl fl_Mill_17 rfl (SX.o hS rfl) (SX.r hS rfl) ?_
  refine aw_iconst (q := 59) (v := 5) rfl rfl (by decide) ?_
  refine aw_aload_n (q := 60) (j := 2) rfl rfl rfl (List.mem_of_getElem? (i := 2) rfl) ?_
  refine ag_getI (q := 63) rfl rfl fl_Mill_98 rfl h_r ?_
  refine ag_iastore (q := 64) (N := 7) rfl rfl (SX.a hS rfl) (by unfold vp_in; decide) ?_
  replace h := h _ rfl
  refine aw_aload_n (q := 65) (j := 0) rfl rfl rfl (List.mem_of_getElem? (i := 0) rfl) ?_
  refine ag_getR (q := 68) rfl rfl fl_Mill_17 rfl (SX.o hS rfl) (SX.r hS rfl) ?_
  refine aw_bipush (q := 70) (v := 6) rfl rfl (by decide) ?_
  refine aw_aload_n (q := 71) (j := 2) rfl rfl rfl (List.mem_of_getElem? (i := 2) rfl) ?_
  refine ag_getI (q := 74) rfl rfl fl_Mill_155 rfl h_r ?_
  refine ag_iastore (q := 75) (N := 7) rfl rfl (SX.a hS rfl) (by unfold vp_in; decide) ?_
  replace h := h _ rfl
  exact aw_return rfl rfl (by decide) (by decide) h
set_option maxRecDepth 20000 in
theorem v_Mill_lot {E : EN} {g : GS} {s : MS} {Q : Option Value → SG → Prop} (x0 : Int32) (x1 : Int32) (x2 : Int32) (h : GI E m_Mill_stir [.int x1, .int 39] g s (fun y1_ t1_ => GI E m_Mill_stir [.int y1_, .int x2] g t1_ (fun y2_ t2_ => ((x0 ≤ 0 → Q (some (.int 0)) (mk g t2_)) ∧ (¬ x0 ≤ 0 → ¬ x0 = 0 ∧ Q (some (.int (((y2_.toUInt32 >>> ((1 : Int32).toUInt32 &&& Int32.toUInt32 31)).toInt32) - ((y2_.toUInt32 >>> ((1 : Int32).toUInt32 &&& Int32.toUInt32 31)).toInt32) / x0 * x0))) (mk g t2_)))))) : AMet E m_Mill_lot [.int x0, .int x1, .int x2] (mk g s) Q := by
  refine AMet.of (by decide) k_Mill_lot [(0, .int x0), (1, .int x1), (2, .int x2)] (Nat.le_of_ble_eq_true rfl) rfl ?_
  refine aw_iload_n (q := 1) (j := 1) rfl rfl rfl (List.mem_of_getElem? (i := 1) rfl) ?_
  refine aw_bipush (q := 3) (v := 39) rfl rfl (by decide) ?_
  refine ag_csI (z := m_Mill_stir) (av := [.int _, .int _]) (st := []) (q := 6) (k' := 0) (n' := 0) rfl rfl cs_Mill_160 ⟨by decide, by decide⟩ rfl rfl (by decide) (by decide) rfl rfl (Nat.le_of_ble_eq_true rfl) ?_
  refine GI.mono h (fun y1_ t1_ h => ?_)
  refine aw_iload_n (q := 7) (j := 2) rfl rfl rfl (List.mem_of_getElem? (i := 2) rfl) ?_
  refine ag_csI (z := m_Mill_stir) (av := [.int _, .int _]) (st := []) (q := 10) (k' := 0) (n' := 0) rfl rfl cs_Mill_160 ⟨by decide, by decide⟩ rfl rfl (by decide) (by decide) rfl rfl (Nat.le_of_ble_eq_true rfl) ?_
  refine GI.mono h (fun y2_ t2_ h => ?_)
  refine aw_istore_n (q := 11) (j := 3) (ls' := [(3, .int _), (0, .int _), (1, .int _), (2, .int _)]) rfl rfl rfl (by decide) rfl ?_
  refine aw_iload_n (q := 12) (j := 0) rfl rfl rfl (List.mem_of_getElem? (i := 1) rfl) ?_
  refine aw_if_le (q := 15) (tgt := 23) rfl rfl (by decide) ⟨fun cd_1 => ?_, fun cd_1 => ?_⟩
  · replace h := h.1 cd_1
    refine aw_iconst (q := 24) (v := 0) rfl rfl (by decide) ?_
    exact aw_ireturn (ty := .int) rfl rfl rfl (by decide) (by decide) h
  · replace h := h.2 cd_1
    refine aw_iload_n (q := 16) (j := 3) rfl rfl rfl (List.mem_of_getElem? (i := 0) rfl) ?_
    refine aw_iconst (q := 17) (v := 1) rfl rfl (by decide) ?_
    refine aw_iushr (q := 18) rfl rfl ?_
    refine aw_iload_n (q := 19) (j := 0) rfl rfl rfl (List.mem_of_getElem? (i := 1) rfl) ?_
    obtain ⟨zd_2, h⟩ := h
    refine aw_irem (q := 20) rfl rfl zd_2 ?_
    refine aw_goto (tgt := 24) rfl (by decide) ?_
    exact aw_ireturn (ty := .int) rfl rfl rfl (by decide) (by decide) h
set_option maxRecDepth 20000 in
theorem v_Mill_stir {E : EN} {g : GS} {s : MS} {Q : Option Value → SG → Prop} (x0 : Int32) (x1 : Int32) (h : Q (some (.int ((((x0 ^^^ x1) * 1103515245) + 12345) ^^^ (((((x0 ^^^ x1) * 1103515245) + 12345).toUInt32 >>> ((15 : Int32).toUInt32 &&& Int32.toUInt32 31)).toInt32)))) (mk g s)) : AMet E m_Mill_stir [.int x0, .int x1] (mk g s) Q := by
  refine AMet.of (by decide) k_Mill_stir [(0, .int x0), (1, .int x1)] (Nat.le_of_ble_eq_true rfl) rfl ?_
  refine aw_iload_n (q := 1) (j := 0) rfl rfl rfl (List.mem_of_getElem? (i := 0) rfl) ?_
  refine aw_iload_n (q := 2) (j := 1) rfl rfl rfl (List.mem_of_getElem? (i := 1) rfl) ?_
  refine aw_ixor (q := 3) rfl rfl ?_
  refine aw_ldc (q := 5) rfl rfl kc_Mill_163 ?_
  refine aw_imul (q := 6) rfl rfl ?_
  refine aw_sipush (q := 9) (v := 12345) rfl rfl (by decide) ?_
  refine aw_iadd (q := 10) rfl rfl ?_
  refine aw_istore_n (q := 11) (j := 2) (ls' := [(2, .int _), (0, .int _), (1, .int _)]) rfl rfl rfl (by decide) rfl ?_
  refine aw_iload_n (q := 12) (j := 2) rfl rfl rfl (List.mem_of_getElem? (i := 0) rfl) ?_
  refine aw_iload_n (q := 13) (j := 2) rfl rfl rfl (List.mem_of_getElem? (i := 0) rfl) ?_
  refine aw_bipush (q := 15) (v := 15) rfl rfl (by decide) ?_
  refine aw_iushr (q := 16) rfl rfl ?_
  refine aw_ixor (q := 17) rfl rfl ?_
  exact aw_ireturn (ty := .int) rfl rfl rfl (by decide) (by decide) h
set_option maxRecDepth 20000 in
theorem v_Mill_walk {E : EN} {g : GS} {s : MS} {Q : Option Value → SG → Prop} (b : Nat) (r : Nat) (hS : SX g) (h_b : HS g b) (h_r : OG g r 6) (h : (∀ s1_, s1_ = wi s r 1 ((s.1 r 1) - 1) → (((s1_.1 r 1) ≤ 0 → (((s1_.1 r 0) = 2 → (∀ s2_, s2_ = wi s1_ r 0 0 → Q none (mk g s2_))) ∧ (¬ (s1_.1 r 0) = 2 → vp_in (((s1_.1 r 8) * 6) + (s1_.1 r 3)) 36 ∧ (∀ s3_, s3_ = wi s1_ (b + 2) (((((s1_.1 r 8) * 6) + (s1_.1 r 3))).toNatClampNeg) ((s1_.1 (b + 2) (((((s1_.1 r 8) * 6) + (s1_.1 r 3))).toNatClampNeg)) + (s1_.1 r 2)) → (((s3_.1 r 2) ≤ 0 → (∀ s4_, s4_ = wi s3_ r 7 ((s3_.1 r 7) + 0) → (∀ s5_, s5_ = wi s4_ r 2 0 → (∀ s6_, s6_ = wi s5_ r 0 2 → vp_in (s6_.1 r 8) 6 ∧ (∀ s7_, s7_ = wi s6_ r 1 (s6_.1 29 (((s6_.1 r 8)).toNatClampNeg)) → Q none (mk g s7_)))))) ∧ (¬ (s3_.1 r 2) ≤ 0 → (∀ s8_, s8_ = wi s3_ r 7 ((s3_.1 r 7) + 1) → (∀ s9_, s9_ = wi s8_ r 2 0 → (∀ s10_, s10_ = wi s9_ r 0 2 → vp_in (s10_.1 r 8) 6 ∧ (∀ s11_, s11_ = wi s10_ r 1 (s10_.1 29 (((s10_.1 r 8)).toNatClampNeg)) → Q none (mk g s11_))))))))))) ∧ (¬ (s1_.1 r 1) ≤ 0 → Q none (mk g s1_))))) : AMet E m_Mill_walk [.ref 28, .ref b, .ref r] (mk g s) Q := by
  refine AMet.of (by decide) k_Mill_walk [(0, .ref 28), (1, .ref b), (2, .ref r)] (Nat.le_of_ble_eq_true rfl) rfl ?_
  refine aw_aload_n (q := 1) (j := 2) rfl rfl rfl (List.mem_of_getElem? (i := 2) rfl) ?_
  refine aw_dup (q := 2) rfl rfl rfl ?_
  refine ag_getI (q := 5) rfl rfl fl_Mill_149 rfl h_r ?_
  refine aw_iconst (q := 6) (v := 1) rfl rfl (by decide) ?_
  refine aw_isub (q := 7) rfl rfl ?_
  refine ag_putI (q := 10) rfl rfl fl_Mill_149 rfl rfl h_r ?_
  replace h := h _ rfl
  refine aw_aload_n (q := 11) (j := 2) rfl rfl rfl (List.mem_of_getElem? (i := 2) rfl) ?_
  refine ag_getI (q := 14) rfl rfl fl_Mill_149 rfl h_r ?_
  refine aw_if_le (q := 17) (tgt := 18) rfl rfl (by decide) ⟨fun cd_1 => ?_, fun cd_1 => ?_⟩
  · replace h := h.1 cd_1
    refine aw_aload_n (q := 19) (j := 2) rfl rfl rfl (List.mem_of_getElem? (i := 2) rfl) ?_
    refine ag_getI (q := 22) rfl rfl fl_Mill_61 rfl h_r ?_
    refine aw_iconst (q := 23) (v := 2) rfl rfl (by decide) ?_
    refine aw_icmp_ne (q := 26) (tgt := 32) rfl rfl (by decide) ⟨fun cd_2 => ?_, fun cd_2 => ?_⟩
    · replace h := h.1 cd_2
      refine aw_aload_n (q := 27) (j := 2) rfl rfl rfl (List.mem_of_getElem? (i := 2) rfl) ?_
      refine aw_iconst (q := 28) (v := 0) rfl rfl (by decide) ?_
      refine ag_putI (q := 31) rfl rfl fl_Mill_61 rfl rfl h_r ?_
      replace h := h _ rfl
      exact aw_return rfl rfl (by decide) (by decide) h
    · replace h := h.2 cd_2
      refine aw_aload_n (q := 33) (j := 1) rfl rfl rfl (List.mem_of_getElem? (i := 1) rfl) ?_
      refine ag_getR (q := 36) rfl rfl fl_Mill_158 rfl (HS.o h_b) (HS.r1 h_b) ?_
      refine aw_aload_n (q := 37) (j := 2) rfl rfl rfl (List.mem_of_getElem? (i := 2) rfl) ?_
      refine ag_getI (q := 40) rfl rfl fl_Mill_146 rfl h_r ?_
      refine aw_bipush (q := 42) (v := 6) rfl rfl (by decide) ?_
      refine aw_imul (q := 43) rfl rfl ?_
      refine aw_aload_n (q := 44) (j := 2) rfl rfl rfl (List.mem_of_getElem? (i := 2) rfl) ?_
      refine ag_getI (q := 47) rfl rfl fl_Mill_140 rfl h_r ?_
      refine aw_iadd (q := 48) rfl rfl ?_
      refine aw_dup2 (q := 49) rfl rfl rfl rfl ?_
      obtain ⟨bd_3, h⟩ := h
      refine ag_iaload (q := 50) (N := 36) rfl rfl (HS.a1 h_b) bd_3 ?_
      refine aw_aload_n (q := 51) (j := 2) rfl rfl rfl (List.mem_of_getElem? (i := 2) rfl) ?_
      refine ag_getI (q := 54) rfl rfl fl_Mill_137 rfl h_r ?_
      refine aw_iadd (q := 55) rfl rfl ?_
      refine ag_iastore (q := 56) (N := 36) rfl rfl (HS.a1 h_b) bd_3 ?_
      replace h := h _ rfl
      refine aw_aload_n (q := 57) (j := 2) rfl rfl rfl (List.mem_of_getElem? (i := 2) rfl) ?_
      refine aw_dup (q := 58) rfl rfl rfl ?_
      refine ag_getI (q := 61) rfl rfl fl_Mill_155 rfl h_r ?_
      refine aw_aload_n (q := 62) (j := 2) rfl rfl rfl (List.mem_of_getElem? (i := 2) rfl) ?_
      refine ag_getI (q := 65) rfl rfl fl_Mill_137 rfl h_r ?_
      refine aw_if_le (q := 68) (tgt := 72) rfl rfl (by decide) ⟨fun cd_4 => ?_, fun cd_4 => ?_⟩
      · replace h := h.1 cd_4
        refine aw_iconst (q := 73) (v := 0) rfl rfl (by decide) ?_
        refine aw_iadd (q := 74) rfl rfl ?_
        refine ag_putI (q := 77) rfl rfl fl_Mill_155 rfl rfl h_r ?_
        replace h := h _ rfl
        refine aw_aload_n (q := 78) (j := 2) rfl rfl rfl (List.mem_of_getElem? (i := 2) rfl) ?_
        refine aw_iconst (q := 79) (v := 0) rfl rfl (by decide) ?_
        refine ag_putI (q := 82) rfl rfl fl_Mill_137 rfl rfl h_r ?_
        replace h := h _ rfl
        refine aw_aload_n (q := 83) (j := 2) rfl rfl rfl (List.mem_of_getElem? (i := 2) rfl) ?_
        refine aw_iconst (q := 84) (v := 2) rfl rfl (by decide) ?_
        refine ag_putI (q := 87) rfl rfl fl_Mill_61 rfl rfl h_r ?_
        replace h := h _ rfl
        refine aw_aload_n (q := 88) (j := 2) rfl rfl rfl (List.mem_of_getElem? (i := 2) rfl) ?_
        refine aw_aload_n (q := 89) (j := 0) rfl rfl rfl (List.mem_of_getElem? (i := 0) rfl) ?_
        refine ag_getR (q := 92) rfl rfl fl_Mill_9 rfl (SX.o hS rfl) (SX.r hS rfl) ?_
        refine aw_aload_n (q := 93) (j := 2) rfl rfl rfl (List.mem_of_getElem? (i := 2) rfl) ?_
        refine ag_getI (q := 96) rfl rfl fl_Mill_146 rfl h_r ?_
        obtain ⟨bd_5, h⟩ := h
        refine ag_iaload (q := 97) (N := 6) rfl rfl (SX.a hS rfl) bd_5 ?_
        refine ag_putI (q := 100) rfl rfl fl_Mill_149 rfl rfl h_r ?_
        replace h := h _ rfl
        exact aw_return rfl rfl (by decide) (by decide) h
      · replace h := h.2 cd_4
        refine aw_iconst (q := 69) (v := 1) rfl rfl (by decide) ?_
        refine aw_goto (tgt := 73) rfl (by decide) ?_
        refine aw_iadd (q := 74) rfl rfl ?_
        refine ag_putI (q := 77) rfl rfl fl_Mill_155 rfl rfl h_r ?_
        replace h := h _ rfl
        refine aw_aload_n (q := 78) (j := 2) rfl rfl rfl (List.mem_of_getElem? (i := 2) rfl) ?_
        refine aw_iconst (q := 79) (v := 0) rfl rfl (by decide) ?_
        refine ag_putI (q := 82) rfl rfl fl_Mill_137 rfl rfl h_r ?_
        replace h := h _ rfl
        refine aw_aload_n (q := 83) (j := 2) rfl rfl rfl (List.mem_of_getElem? (i := 2) rfl) ?_
        refine aw_iconst (q := 84) (v := 2) rfl rfl (by decide) ?_
        refine ag_putI (q := 87) rfl rfl fl_Mill_61 rfl rfl h_r ?_
        replace h := h _ rfl
        refine aw_aload_n (q := 88) (j := 2) rfl rfl rfl (List.mem_of_getElem? (i := 2) rfl) ?_
        refine aw_aload_n (q := 89) (j := 0) rfl rfl rfl (List.mem_of_getElem? (i := 0) rfl) ?_
        refine ag_getR (q := 92) rfl rfl fl_Mill_9 rfl (SX.o hS rfl) (SX.r hS rfl) ?_
        refine aw_aload_n (q := 93) (j := 2) rfl rfl rfl (List.mem_of_getElem? (i := 2) rfl) ?_
        refine ag_getI (q := 96) rfl rfl fl_Mill_146 rfl h_r ?_
        obtain ⟨bd_6, h⟩ := h
        refine ag_iaload (q := 97) (N := 6) rfl rfl (SX.a hS rfl) bd_6 ?_
        refine ag_putI (q := 100) rfl rfl fl_Mill_149 rfl rfl h_r ?_
        replace h := h _ rfl
        exact aw_return rfl rfl (by decide) (by decide) h
  · replace h := h.2 cd_1
    exact aw_return rfl rfl (by decide) (by decide) h
set_option maxRecDepth 20000 in
theorem v_Mill_exchangeFar {E : EN} {g : GS} {s : MS} {Q : Option Value → SG → Prop} (x1 : Int32) (x2 : Int32) (hS : SX g) (h : vp_in x1 6 ∧ vp_in x2 6 ∧ (∀ s1_, s1_ = wi s 29 ((x1).toNatClampNeg) (s.1 29 ((x2).toNatClampNeg)) → (∀ s2_, s2_ = wi s1_ 29 ((x2).toNatClampNeg) (s.1 29 ((x1).toNatClampNeg)) → Q none (mk g s2_)))) : AMet E m_Mill_exchangeFar [.ref 28, .int x1, .int x2] (mk g s) Q := by
  refine AMet.of (by decide) k_Mill_exchangeFar [(0, .ref 28), (1, .int x1), (2, .int x2)] (Nat.le_of_ble_eq_true rfl) rfl ?_
  refine aw_aload_n (q := 1) (j := 0) rfl rfl rfl (List.mem_of_getElem? (i := 0) rfl) ?_
  refine ag_getR (q := 4) rfl rfl fl_Mill_9 rfl (SX.o hS rfl) (SX.r hS rfl) ?_
  refine aw_iload_n (q := 5) (j := 1) rfl rfl rfl (List.mem_of_getElem? (i := 1) rfl) ?_
  obtain ⟨bd_1, h⟩ := h
  refine ag_iaload (q := 6) (N := 6) rfl rfl (SX.a hS rfl) bd_1 ?_
  refine aw_istore_n (q := 7) (j := 3) (ls' := [(3, .int _), (0, .ref _), (1, .int _), (2, .int _)]) rfl rfl rfl (by decide) rfl ?_
  refine aw_aload_n (q := 8) (j := 0) rfl rfl rfl (List.mem_of_getElem? (i := 1) rfl) ?_
  refine ag_getR (q := 11) rfl rfl fl_Mill_9 rfl (SX.o hS rfl) (SX.r hS rfl) ?_
  refine aw_iload_n (q := 12) (j := 1) rfl rfl rfl (List.mem_of_getElem? (i := 2) rfl) ?_
  refine aw_aload_n (q := 13) (j := 0) rfl rfl rfl (List.mem_of_getElem? (i := 1) rfl) ?_
  refine ag_getR (q := 16) rfl rfl fl_Mill_9 rfl (SX.o hS rfl) (SX.r hS rfl) ?_
  refine aw_iload_n (q := 17) (j := 2) rfl rfl rfl (List.mem_of_getElem? (i := 3) rfl) ?_
  obtain ⟨bd_2, h⟩ := h
  refine ag_iaload (q := 18) (N := 6) rfl rfl (SX.a hS rfl) bd_2 ?_
  refine ag_iastore (q := 19) (N := 6) rfl rfl (SX.a hS rfl) bd_1 ?_
  replace h := h _ rfl
  refine aw_aload_n (q := 20) (j := 0) rfl rfl rfl (List.mem_of_getElem? (i := 1) rfl) ?_
  refine ag_getR (q := 23) rfl rfl fl_Mill_9 rfl (SX.o hS rfl) (SX.r hS rfl) ?_
  refine aw_iload_n (q := 24) (j := 2) rfl rfl rfl (List.mem_of_getElem? (i := 3) rfl) ?_
  refine aw_iload_n (q := 25) (j := 3) rfl rfl rfl (List.mem_of_getElem? (i := 0) rfl) ?_
  refine ag_iastore (q := 26) (N := 6) rfl rfl (SX.a hS rfl) bd_2 ?_
  replace h := h _ rfl
  exact aw_return rfl rfl (by decide) (by decide) h
set_option maxRecDepth 20000 in
theorem v_Planner_dropWays {E : EN} {g : GS} {s : MS} {Q : Option Value → SG → Prop}  (hS : SX g) (h : (∀ s1_, s1_ = wi s 31 4 0 → Q none (mk g s1_))) : AMet E m_Planner_dropWays [.ref 31] (mk g s) Q := by
  refine AMet.of (by decide) k_Planner_dropWays [(0, .ref 31)] (Nat.le_of_ble_eq_true rfl) rfl ?_
  refine aw_aload_n (q := 1) (j := 0) rfl rfl rfl (List.mem_of_getElem? (i := 0) rfl) ?_
  refine aw_iconst (q := 2) (v := 0) rfl rfl (by decide) ?_
  refine ag_putI (q := 5) rfl rfl fl_Planner_21 rfl rfl (SX.o hS rfl) ?_
  replace h := h _ rfl
  exact aw_return rfl rfl (by decide) (by decide) h
set_option maxRecDepth 20000 in
theorem v_Planner_cleanBy_11 {E : EN} {g : GS} {s : MS} {Q : Option Value → SG → Prop} (b : Nat) (x3 : Int32) (x4 : Int32) (t : Nat) (hS : SX g) (hm : g.2.2 28 0 = some t) (h : ((x3 < x4 → Q (some (.int (-2))) (mk g s)) ∧ (¬ x3 < x4 → GI E m_House_isSorted [.ref 32, .ref t] g s (fun y1_ t1_ => ((y1_ = 0 → GV E m_Mill_goMinute [.ref 28, .ref 32] g t1_ (fun t2_ => AWP E m_Planner_cleanBy 11 0 0 [(0, .ref 31), (1, .ref 28), (2, .ref b), (3, .int x3), (4, .int (x4 + 1))] [] (mk g t2_) Q)) ∧ (¬ y1_ = 0 → Q (some (.int x4)) (mk g t1_))))))) : AWP E m_Planner_cleanBy 11 0 0 [(0, .ref 31), (1, .ref 28), (2, .ref b), (3, .int x3), (4, .int x4)] [] (mk g s) Q := by
  refine aw_iload (q := 13) (j := 4) rfl rfl (List.mem_of_getElem? (i := 4) rfl) ?_
  refine aw_iload_n (q := 14) (j := 3) rfl rfl rfl (List.mem_of_getElem? (i := 3) rfl) ?_
  refine aw_icmp_gt (q := 17) (tgt := 48) rfl rfl (by decide) ⟨fun cd_1 => ?_, fun cd_1 => ?_⟩
  · replace h := h.1 cd_1
    refine aw_bipush (q := 50) (v := (-2)) rfl rfl (by decide) ?_
    exact aw_ireturn (ty := .int) rfl rfl rfl (by decide) (by decide) h
  · replace h := h.2 cd_1
    refine aw_aload_n (q := 18) (j := 0) rfl rfl rfl (List.mem_of_getElem? (i := 0) rfl) ?_
    refine ag_getR (q := 21) rfl rfl fl_Planner_12 rfl (SX.o hS rfl) (SX.r hS rfl) ?_
    refine aw_aload_n (q := 22) (j := 1) rfl rfl rfl (List.mem_of_getElem? (i := 1) rfl) ?_
    refine ag_getR (q := 25) rfl rfl fl_Planner_35 rfl (SX.o hS rfl) hm ?_
    refine ag_cvI (z := m_House_isSorted) (ci := 2) (av := [.ref _]) (st := []) (q := 28) (k' := 0) (n' := 0) rfl rfl cv_Planner_39 ⟨by decide, by decide⟩ rfl rfl (by decide) (by decide) (HS.o (HS.of hS (b := 32) rfl)) rfl rfl rfl (Nat.le_of_ble_eq_true rfl) ?_
    refine GI.mono h (fun y1_ t1_ h => ?_)
    refine aw_if_eq (q := 31) (tgt := 34) rfl rfl (by decide) ⟨fun cd_2 => ?_, fun cd_2 => ?_⟩
    · replace h := h.1 cd_2
      refine aw_aload_n (q := 35) (j := 1) rfl rfl rfl (List.mem_of_getElem? (i := 1) rfl) ?_
      refine aw_aload_n (q := 36) (j := 0) rfl rfl rfl (List.mem_of_getElem? (i := 0) rfl) ?_
      refine ag_getR (q := 39) rfl rfl fl_Planner_12 rfl (SX.o hS rfl) (SX.r hS rfl) ?_
      refine ag_cvV (z := m_Mill_goMinute) (ci := 4) (av := [.ref _]) (st := []) (q := 42) (k' := 0) (n' := 0) rfl rfl cv_Planner_43 ⟨by decide, by decide⟩ rfl rfl (by decide) (by decide) (SX.o hS rfl) rfl rfl rfl (Nat.le_of_ble_eq_true rfl) ?_
      refine GV.mono h (fun t2_ h => ?_)
      refine aw_iinc (q := 45) (v := _ + 1) (ls' := [(4, .int _), (0, .ref _), (1, .ref _), (2, .ref _), (3, .int _)]) rfl rfl (List.mem_of_getElem? (i := 4) rfl) rfl (by decide) rfl ?_
      refine aw_goto (tgt := 11) rfl (by decide) ?_
      refine aw_ls [1, 2, 3, 4, 0] rfl ?_
      exact h
    · replace h := h.2 cd_2
      refine aw_iload (q := 33) (j := 4) rfl rfl (List.mem_of_getElem? (i := 4) rfl) ?_
      exact aw_ireturn (ty := .int) rfl rfl rfl (by decide) (by decide) h
set_option maxRecDepth 20000 in
theorem v_Planner_cleanBy {E : EN} {g : GS} {s : MS} {Q : Option Value → SG → Prop} (b : Nat) (x3 : Int32) (hS : SX g) (h : GV E m_House_take [.ref 32, .ref b] g s (fun t1_ => AWP E m_Planner_cleanBy 11 0 0 [(0, .ref 31), (1, .ref 28), (2, .ref b), (3, .int x3), (4, .int 0)] [] (mk g t1_) Q)) : AMet E m_Planner_cleanBy [.ref 31, .ref 28, .ref b, .int x3] (mk g s) Q := by
  refine AMet.of (by decide) k_Planner_cleanBy [(0, .ref 31), (1, .ref 28), (2, .ref b), (3, .int x3)] (Nat.le_of_ble_eq_true rfl) rfl ?_
  refine aw_aload_n (q := 1) (j := 0) rfl rfl rfl (List.mem_of_getElem? (i := 0) rfl) ?_
  refine ag_getR (q := 4) rfl rfl fl_Planner_12 rfl (SX.o hS rfl) (SX.r hS rfl) ?_
  refine aw_aload_n (q := 5) (j := 2) rfl rfl rfl (List.mem_of_getElem? (i := 2) rfl) ?_
  refine ag_cvV (z := m_House_take) (ci := 2) (av := [.ref _]) (st := []) (q := 8) (k' := 0) (n' := 0) rfl rfl cv_Planner_25 ⟨by decide, by decide⟩ rfl rfl (by decide) (by decide) (HS.o (HS.of hS (b := 32) rfl)) rfl rfl rfl (Nat.le_of_ble_eq_true rfl) ?_
  refine GV.mono h (fun t1_ h => ?_)
  refine aw_iconst (q := 9) (v := 0) rfl rfl (by decide) ?_
  refine aw_istore (q := 11) (j := 4) (ls' := [(4, .int _), (0, .ref _), (1, .ref _), (2, .ref _), (3, .int _)]) rfl rfl (by decide) rfl ?_
  refine aw_ls [1, 2, 3, 4, 0] rfl ?_
  exact h
set_option maxRecDepth 20000 in
theorem v_Planner_ahead {E : EN} {g : GS} {s : MS} {Q : Option Value → SG → Prop} (b : Nat) (x3 : Int32) (hS : SX g) (h : GV E m_House_take [.ref 32, .ref b] g s (fun t1_ => GV E m_Mill_goOn [.ref 28, .ref 32, .int x3] g t1_ (fun t2_ => Q (some (.ref 32)) (mk g t2_)))) : AMet E m_Planner_ahead [.ref 31, .ref 28, .ref b, .int x3] (mk g s) Q := by
  refine AMet.of (by decide) k_Planner_ahead [(0, .ref 31), (1, .ref 28), (2, .ref b), (3, .int x3)] (Nat.le_of_ble_eq_true rfl) rfl ?_
  refine aw_aload_n (q := 1) (j := 0) rfl rfl rfl (List.mem_of_getElem? (i := 0) rfl) ?_
  refine ag_getR (q := 4) rfl rfl fl_Planner_12 rfl (SX.o hS rfl) (SX.r hS rfl) ?_
  refine aw_aload_n (q := 5) (j := 2) rfl rfl rfl (List.mem_of_getElem? (i := 2) rfl) ?_
  refine ag_cvV (z := m_House_take) (ci := 2) (av := [.ref _]) (st := []) (q := 8) (k' := 0) (n' := 0) rfl rfl cv_Planner_25 ⟨by decide, by decide⟩ rfl rfl (by decide) (by decide) (HS.o (HS.of hS (b := 32) rfl)) rfl rfl rfl (Nat.le_of_ble_eq_true rfl) ?_
  refine GV.mono h (fun t1_ h => ?_)
  refine aw_aload_n (q := 9) (j := 1) rfl rfl rfl (List.mem_of_getElem? (i := 1) rfl) ?_
  refine aw_aload_n (q := 10) (j := 0) rfl rfl rfl (List.mem_of_getElem? (i := 0) rfl) ?_
  refine ag_getR (q := 13) rfl rfl fl_Planner_12 rfl (SX.o hS rfl) (SX.r hS rfl) ?_
  refine aw_iload_n (q := 14) (j := 3) rfl rfl rfl (List.mem_of_getElem? (i := 3) rfl) ?_
  refine ag_cvV (z := m_Mill_goOn) (ci := 4) (av := [.ref _, .int _]) (st := []) (q := 17) (k' := 0) (n' := 0) rfl rfl cv_Planner_29 ⟨by decide, by decide⟩ rfl rfl (by decide) (by decide) (SX.o hS rfl) rfl rfl rfl (Nat.le_of_ble_eq_true rfl) ?_
  refine GV.mono h (fun t2_ h => ?_)
  refine aw_aload_n (q := 18) (j := 0) rfl rfl rfl (List.mem_of_getElem? (i := 0) rfl) ?_
  refine ag_getR (q := 21) rfl rfl fl_Planner_12 rfl (SX.o hS rfl) (SX.r hS rfl) ?_
  exact aw_areturn rfl rfl (by decide) (by decide) h
set_option maxRecDepth 20000 in
theorem v_Planner_seekHired_15 {E : EN} {g : GS} {s : MS} {Q : Option Value → SG → Prop} (b : Nat) (x3 : Int32) (x4 : Int32) (t : Nat) (hS : SX g) (et : t = 88 ∨ t = 104) (hm : g.2.2 28 0 = some t) (h : (((1 <<< ((s.1 t 13) &&& 31)) ≤ x4 → Q none (mk g s)) ∧ (¬ (1 <<< ((s.1 t 13) &&& 31)) ≤ x4 → GI E m_Planner_feesOf [.ref t, .int x4] g s (fun y1_ t1_ => GI E m_Planner_isCheaper [.ref 31, .int x4, .int y1_] g t1_ (fun y2_ t2_ => ((y2_ = 0 → AWP E m_Planner_seekHired 15 0 0 [(0, .ref 31), (1, .ref 28), (2, .ref b), (3, .int x3), (4, .int (x4 + 1))] [] (mk g t2_) Q) ∧ (¬ y2_ = 0 → GV E m_House_take [.ref 32, .ref b] g t2_ (fun t3_ => GV E m_Planner_keepOnly [.ref 31, .ref t, .int x4] g t3_ (fun t4_ => GV E m_Mill_goOn [.ref 28, .ref 32, .int x3] g t4_ (fun t5_ => GI E m_House_isSortedFor [.ref 32, .ref t, .int (-1)] g t5_ (fun y6_ t6_ => ((y6_ = 0 → AWP E m_Planner_seekHired 15 0 0 [(0, .ref 31), (1, .ref 28), (2, .ref b), (3, .int x3), (4, .int (x4 + 1))] [] (mk g t6_) Q) ∧ (¬ y6_ = 0 → (∀ s7_, s7_ = wi t6_ 31 2 x4 → (∀ s8_, s8_ = wi s7_ 31 3 y1_ → AWP E m_Planner_seekHired 15 0 0 [(0, .ref 31), (1, .ref 28), (2, .ref b), (3, .int x3), (4, .int (x4 + 1))] [] (mk g s8_) Q))))))))))))))) : AWP E m_Planner_seekHired 15 0 0 [(0, .ref 31), (1, .ref 28), (2, .ref b), (3, .int x3), (4, .int x4)] [] (mk g s) Q := by
  refine aw_iload (q := 17) (j := 4) rfl rfl (List.mem_of_getElem? (i := 4) rfl) ?_
  refine aw_iconst (q := 18) (v := 1) rfl rfl (by decide) ?_
  refine aw_aload_n (q := 19) (j := 1) rfl rfl rfl (List.mem_of_getElem? (i := 1) rfl) ?_
  refine ag_getR (q := 22) rfl rfl fl_Planner_35 rfl (SX.o hS rfl) hm ?_
  refine ag_getI (q := 25) rfl rfl fl_Planner_71 rfl (TS.o (TS.of hS et)) ?_
  refine aw_ishl (q := 26) rfl rfl ?_
  refine aw_icmp_ge (q := 29) (tgt := 111) rfl rfl (by decide) ⟨fun cd_1 => ?_, fun cd_1 => ?_⟩
  · replace h := h.1 cd_1
    exact aw_return rfl rfl (by decide) (by decide) h
  · replace h := h.2 cd_1
    refine aw_aload_n (q := 30) (j := 1) rfl rfl rfl (List.mem_of_getElem? (i := 1) rfl) ?_
    refine ag_getR (q := 33) rfl rfl fl_Planner_35 rfl (SX.o hS rfl) hm ?_
    refine aw_iload (q := 35) (j := 4) rfl rfl (List.mem_of_getElem? (i := 4) rfl) ?_
    refine ag_csI (z := m_Planner_feesOf) (av := [.ref _, .int _]) (st := []) (q := 38) (k' := 0) (n' := 0) rfl rfl cs_Planner_73 ⟨by decide, by decide⟩ rfl rfl (by decide) (by decide) rfl rfl (Nat.le_of_ble_eq_true rfl) ?_
    refine GI.mono h (fun y1_ t1_ h => ?_)
    refine aw_istore (q := 40) (j := 5) (ls' := [(5, .int _), (0, .ref _), (1, .ref _), (2, .ref _), (3, .int _), (4, .int _)]) rfl rfl (by decide) rfl ?_
    refine aw_aload_n (q := 41) (j := 0) rfl rfl rfl (List.mem_of_getElem? (i := 1) rfl) ?_
    refine aw_iload (q := 43) (j := 4) rfl rfl (List.mem_of_getElem? (i := 5) rfl) ?_
    refine aw_iload (q := 45) (j := 5) rfl rfl (List.mem_of_getElem? (i := 0) rfl) ?_
    refine ag_cvI (z := m_Planner_isCheaper) (ci := 5) (av := [.int _, .int _]) (st := []) (q := 48) (k' := 0) (n' := 0) rfl rfl cv_Planner_77 ⟨by decide, by decide⟩ rfl rfl (by decide) (by decide) (SX.o hS rfl) rfl rfl rfl (Nat.le_of_ble_eq_true rfl) ?_
    refine GI.mono h (fun y2_ t2_ h => ?_)
    refine aw_if_eq (q := 51) (tgt := 105) rfl rfl (by decide) ⟨fun cd_2 => ?_, fun cd_2 => ?_⟩
    · replace h := h.1 cd_2
      refine aw_iinc (q := 108) (v := _ + 1) (ls' := [(4, .int _), (5, .int _), (0, .ref _), (1, .ref _), (2, .ref _), (3, .int _)]) rfl rfl (List.mem_of_getElem? (i := 5) rfl) rfl (by decide) rfl ?_
      refine aw_goto (tgt := 15) rfl (by decide) ?_
      refine aw_ls [2, 3, 4, 5, 0] rfl ?_
      exact h
    · replace h := h.2 cd_2
      refine aw_aload_n (q := 52) (j := 0) rfl rfl rfl (List.mem_of_getElem? (i := 1) rfl) ?_
      refine ag_getR (q := 55) rfl rfl fl_Planner_12 rfl (SX.o hS rfl) (SX.r hS rfl) ?_
      refine aw_aload_n (q := 56) (j := 2) rfl rfl rfl (List.mem_of_getElem? (i := 3) rfl) ?_
      refine ag_cvV (z := m_House_take) (ci := 2) (av := [.ref _]) (st := []) (q := 59) (k' := 0) (n' := 0) rfl rfl cv_Planner_25 ⟨by decide, by decide⟩ rfl rfl (by decide) (by decide) (HS.o (HS.of hS (b := 32) rfl)) rfl rfl rfl (Nat.le_of_ble_eq_true rfl) ?_
      refine GV.mono h (fun t3_ h => ?_)
      refine aw_aload_n (q := 60) (j := 0) rfl rfl rfl (List.mem_of_getElem? (i := 1) rfl) ?_
      refine aw_aload_n (q := 61) (j := 1) rfl rfl rfl (List.mem_of_getElem? (i := 2) rfl) ?_
      refine ag_getR (q := 64) rfl rfl fl_Planner_35 rfl (SX.o hS rfl) hm ?_
      refine aw_iload (q := 66) (j := 4) rfl rfl (List.mem_of_getElem? (i := 5) rfl) ?_
      refine ag_cvV (z := m_Planner_keepOnly) (ci := 5) (av := [.ref _, .int _]) (st := []) (q := 69) (k' := 0) (n' := 0) rfl rfl cv_Planner_81 ⟨by decide, by decide⟩ rfl rfl (by decide) (by decide) (SX.o hS rfl) rfl rfl rfl (Nat.le_of_ble_eq_true rfl) ?_
      refine GV.mono h (fun t4_ h => ?_)
      refine aw_aload_n (q := 70) (j := 1) rfl rfl rfl (List.mem_of_getElem? (i := 2) rfl) ?_
      refine aw_aload_n (q := 71) (j := 0) rfl rfl rfl (List.mem_of_getElem? (i := 1) rfl) ?_
      refine ag_getR (q := 74) rfl rfl fl_Planner_12 rfl (SX.o hS rfl) (SX.r hS rfl) ?_
      refine aw_iload_n (q := 75) (j := 3) rfl rfl rfl (List.mem_of_getElem? (i := 4) rfl) ?_
      refine ag_cvV (z := m_Mill_goOn) (ci := 4) (av := [.ref _, .int _]) (st := []) (q := 78) (k' := 0) (n' := 0) rfl rfl cv_Planner_29 ⟨by decide, by decide⟩ rfl rfl (by decide) (by decide) (SX.o hS rfl) rfl rfl rfl (Nat.le_of_ble_eq_true rfl) ?_
      refine GV.mono h (fun t5_ h => ?_)
      refine aw_aload_n (q := 79) (j := 0) rfl rfl rfl (List.mem_of_getElem? (i := 1) rfl) ?_
      refine ag_getR (q := 82) rfl rfl fl_Planner_12 rfl (SX.o hS rfl) (SX.r hS rfl) ?_
      refine aw_aload_n (q := 83) (j := 1) rfl rfl rfl (List.mem_of_getElem? (i := 2) rfl) ?_
      refine ag_getR (q := 86) rfl rfl fl_Planner_35 rfl (SX.o hS rfl) hm ?_
      refine aw_iconst (q := 87) (v := (-1)) rfl rfl (by decide) ?_
      refine ag_cvI (z := m_House_isSortedFor) (ci := 2) (av := [.ref _, .int _]) (st := []) (q := 90) (k' := 0) (n' := 0) rfl rfl cv_Planner_85 ⟨by decide, by decide⟩ rfl rfl (by decide) (by decide) (HS.o (HS.of hS (b := 32) rfl)) rfl rfl rfl (Nat.le_of_ble_eq_true rfl) ?_
      refine GI.mono h (fun y6_ t6_ h => ?_)
      refine aw_if_eq (q := 93) (tgt := 105) rfl rfl (by decide) ⟨fun cd_3 => ?_, fun cd_3 => ?_⟩
      · replace h := h.1 cd_3
        refine aw_iinc (q := 108) (v := _ + 1) (ls' := [(4, .int _), (5, .int _), (0, .ref _), (1, .ref _), (2, .ref _), (3, .int _)]) rfl rfl (List.mem_of_getElem? (i := 5) rfl) rfl (by decide) rfl ?_
        refine aw_goto (tgt := 15) rfl (by decide) ?_
        refine aw_ls [2, 3, 4, 5, 0] rfl ?_
        exact h
      · replace h := h.2 cd_3
        refine aw_aload_n (q := 94) (j := 0) rfl rfl rfl (List.mem_of_getElem? (i := 1) rfl) ?_
        refine aw_iload (q := 96) (j := 4) rfl rfl (List.mem_of_getElem? (i := 5) rfl) ?_
        refine ag_putI (q := 99) rfl rfl fl_Planner_65 rfl rfl (SX.o hS rfl) ?_
        replace h := h _ rfl
        refine aw_aload_n (q := 100) (j := 0) rfl rfl rfl (List.mem_of_getElem? (i := 1) rfl) ?_
        refine aw_iload (q := 102) (j := 5) rfl rfl (List.mem_of_getElem? (i := 0) rfl) ?_
        refine ag_putI (q := 105) rfl rfl fl_Planner_68 rfl rfl (SX.o hS rfl) ?_
        replace h := h _ rfl
        refine aw_iinc (q := 108) (v := _ + 1) (ls' := [(4, .int _), (5, .int _), (0, .ref _), (1, .ref _), (2, .ref _), (3, .int _)]) rfl rfl (List.mem_of_getElem? (i := 5) rfl) rfl (by decide) rfl ?_
        refine aw_goto (tgt := 15) rfl (by decide) ?_
        refine aw_ls [2, 3, 4, 5, 0] rfl ?_
        exact h
set_option maxRecDepth 20000 in
theorem v_Planner_seekHired {E : EN} {g : GS} {s : MS} {Q : Option Value → SG → Prop} (b : Nat) (x3 : Int32) (hS : SX g) (h : (∀ s1_, s1_ = wi s 31 2 (-2) → (∀ s2_, s2_ = wi s1_ 31 3 (-2) → AWP E m_Planner_seekHired 15 0 0 [(0, .ref 31), (1, .ref 28), (2, .ref b), (3, .int x3), (4, .int 0)] [] (mk g s2_) Q))) : AMet E m_Planner_seekHired [.ref 31, .ref 28, .ref b, .int x3] (mk g s) Q := by
  refine AMet.of (by decide) k_Planner_seekHired [(0, .ref 31), (1, .ref 28), (2, .ref b), (3, .int x3)] (Nat.le_of_ble_eq_true rfl) rfl ?_
  refine aw_aload_n (q := 1) (j := 0) rfl rfl rfl (List.mem_of_getElem? (i := 0) rfl) ?_
  refine aw_bipush (q := 3) (v := (-2)) rfl rfl (by decide) ?_
  refine ag_putI (q := 6) rfl rfl fl_Planner_65 rfl rfl (SX.o hS rfl) ?_
  replace h := h _ rfl
  refine aw_aload_n (q := 7) (j := 0) rfl rfl rfl (List.mem_of_getElem? (i := 0) rfl) ?_
  refine aw_bipush (q := 9) (v := (-2)) rfl rfl (by decide) ?_
  refine ag_putI (q := 12) rfl rfl fl_Planner_68 rfl rfl (SX.o hS rfl) ?_
  replace h := h _ rfl
  refine aw_iconst (q := 13) (v := 0) rfl rfl (by decide) ?_
  refine aw_istore (q := 15) (j := 4) (ls' := [(4, .int _), (0, .ref _), (1, .ref _), (2, .ref _), (3, .int _)]) rfl rfl (by decide) rfl ?_
  refine aw_ls [1, 2, 3, 4, 0] rfl ?_
  exact h
set_option maxRecDepth 20000 in
theorem v_Planner_feesOf_4 {E : EN} {g : GS} {s : MS} {Q : Option Value → SG → Prop} (t : Nat) (x1 : Int32) (x2 : Int32) (x3 : Int32) (hS : SX g) (et : t = 88 ∨ t = 104) (h : (((s.1 t 13) ≤ x3 → Q (some (.int x2)) (mk g s)) ∧ (¬ (s.1 t 13) ≤ x3 → (((x1 &&& (1 <<< (x3 &&& 31))) = 0 → AWP E m_Planner_feesOf 4 0 0 [(0, .ref t), (1, .int x1), (2, .int (x2 + 0)), (3, .int (x3 + 1))] [] (mk g s) Q) ∧ (¬ (x1 &&& (1 <<< (x3 &&& 31))) = 0 → vp_in x3 8 ∧ AWP E m_Planner_feesOf 4 0 0 [(0, .ref t), (1, .int x1), (2, .int (x2 + (s.1 (t + 8) ((x3).toNatClampNeg)))), (3, .int (x3 + 1))] [] (mk g s) Q))))) : AWP E m_Planner_feesOf 4 0 0 [(0, .ref t), (1, .int x1), (2, .int x2), (3, .int x3)] [] (mk g s) Q := by
  refine aw_iload_n (q := 5) (j := 3) rfl rfl rfl (List.mem_of_getElem? (i := 3) rfl) ?_
  refine aw_aload_n (q := 6) (j := 0) rfl rfl rfl (List.mem_of_getElem? (i := 0) rfl) ?_
  refine ag_getI (q := 9) rfl rfl fl_Planner_71 rfl (TS.o (TS.of hS et)) ?_
  refine aw_icmp_ge (q := 12) (tgt := 39) rfl rfl (by decide) ⟨fun cd_1 => ?_, fun cd_1 => ?_⟩
  · replace h := h.1 cd_1
    refine aw_iload_n (q := 40) (j := 2) rfl rfl rfl (List.mem_of_getElem? (i := 2) rfl) ?_
    exact aw_ireturn (ty := .int) rfl rfl rfl (by decide) (by decide) h
  · replace h := h.2 cd_1
    refine aw_iload_n (q := 13) (j := 2) rfl rfl rfl (List.mem_of_getElem? (i := 2) rfl) ?_
    refine aw_iload_n (q := 14) (j := 1) rfl rfl rfl (List.mem_of_getElem? (i := 1) rfl) ?_
    refine aw_iconst (q := 15) (v := 1) rfl rfl (by decide) ?_
    refine aw_iload_n (q := 16) (j := 3) rfl rfl rfl (List.mem_of_getElem? (i := 3) rfl) ?_
    refine aw_ishl (q := 17) rfl rfl ?_
    refine aw_iand (q := 18) rfl rfl ?_
    refine aw_if_eq (q := 21) (tgt := 30) rfl rfl (by decide) ⟨fun cd_2 => ?_, fun cd_2 => ?_⟩
    · replace h := h.1 cd_2
      refine aw_iconst (q := 31) (v := 0) rfl rfl (by decide) ?_
      refine aw_iadd (q := 32) rfl rfl ?_
      refine aw_istore_n (q := 33) (j := 2) (ls' := [(2, .int _), (0, .ref _), (1, .int _), (3, .int _)]) rfl rfl rfl (by decide) rfl ?_
      refine aw_iinc (q := 36) (v := _ + 1) (ls' := [(3, .int _), (2, .int _), (0, .ref _), (1, .int _)]) rfl rfl (List.mem_of_getElem? (i := 3) rfl) rfl (by decide) rfl ?_
      refine aw_goto (tgt := 4) rfl (by decide) ?_
      refine aw_ls [2, 3, 1, 0] rfl ?_
      exact h
    · replace h := h.2 cd_2
      refine aw_aload_n (q := 22) (j := 0) rfl rfl rfl (List.mem_of_getElem? (i := 0) rfl) ?_
      refine ag_getR (q := 25) rfl rfl fl_Planner_95 rfl (TS.o (TS.of hS et)) (TS.r7 (TS.of hS et)) ?_
      refine aw_iload_n (q := 26) (j := 3) rfl rfl rfl (List.mem_of_getElem? (i := 3) rfl) ?_
      obtain ⟨bd_3, h⟩ := h
      refine ag_iaload (q := 27) (N := 8) rfl rfl (TS.a7 (TS.of hS et)) bd_3 ?_
      refine aw_goto (tgt := 31) rfl (by decide) ?_
      refine aw_iadd (q := 32) rfl rfl ?_
      refine aw_istore_n (q := 33) (j := 2) (ls' := [(2, .int _), (0, .ref _), (1, .int _), (3, .int _)]) rfl rfl rfl (by decide) rfl ?_
      refine aw_iinc (q := 36) (v := _ + 1) (ls' := [(3, .int _), (2, .int _), (0, .ref _), (1, .int _)]) rfl rfl (List.mem_of_getElem? (i := 3) rfl) rfl (by decide) rfl ?_
      refine aw_goto (tgt := 4) rfl (by decide) ?_
      refine aw_ls [2, 3, 1, 0] rfl ?_
      exact h
set_option maxRecDepth 20000 in
theorem v_Planner_feesOf {E : EN} {g : GS} {s : MS} {Q : Option Value → SG → Prop} (t : Nat) (x1 : Int32) (h : AWP E m_Planner_feesOf 4 0 0 [(0, .ref t), (1, .int x1), (2, .int 0), (3, .int 0)] [] (mk g s) Q) : AMet E m_Planner_feesOf [.ref t, .int x1] (mk g s) Q := by
  refine AMet.of (by decide) k_Planner_feesOf [(0, .ref t), (1, .int x1)] (Nat.le_of_ble_eq_true rfl) rfl ?_
  refine aw_iconst (q := 1) (v := 0) rfl rfl (by decide) ?_
  refine aw_istore_n (q := 2) (j := 2) (ls' := [(2, .int _), (0, .ref _), (1, .int _)]) rfl rfl rfl (by decide) rfl ?_
  refine aw_iconst (q := 3) (v := 0) rfl rfl (by decide) ?_
  refine aw_istore_n (q := 4) (j := 3) (ls' := [(3, .int _), (2, .int _), (0, .ref _), (1, .int _)]) rfl rfl rfl (by decide) rfl ?_
  refine aw_ls [2, 3, 1, 0] rfl ?_
  exact h
set_option maxRecDepth 20000 in
theorem v_Planner_isCheaper {E : EN} {g : GS} {s : MS} {Q : Option Value → SG → Prop} (x1 : Int32) (x2 : Int32) (hS : SX g) (h : (((s.1 31 2) = (-2) → Q (some (.int 1)) (mk g s)) ∧ (¬ (s.1 31 2) = (-2) → ((x2 < (s.1 31 3) → Q (some (.int 1)) (mk g s)) ∧ (¬ x2 < (s.1 31 3) → ((x2 = (s.1 31 3) → GI E m_Int_bitCount [.int x1] g s (fun y1_ t1_ => GI E m_Int_bitCount [.int (t1_.1 31 2)] g t1_ (fun y2_ t2_ => ((y2_ ≤ y1_ → Q (some (.int 0)) (mk g t2_)) ∧ (¬ y2_ ≤ y1_ → Q (some (.int 1)) (mk g t2_)))))) ∧ (¬ x2 = (s.1 31 3) → Q (some (.int 0)) (mk g s)))))))) : AMet E m_Planner_isCheaper [.ref 31, .int x1, .int x2] (mk g s) Q := by
  refine AMet.of (by decide) k_Planner_isCheaper [(0, .ref 31), (1, .int x1), (2, .int x2)] (Nat.le_of_ble_eq_true rfl) rfl ?_
  refine aw_aload_n (q := 1) (j := 0) rfl rfl rfl (List.mem_of_getElem? (i := 0) rfl) ?_
  refine ag_getI (q := 4) rfl rfl fl_Planner_65 rfl (SX.o hS rfl) ?_
  refine aw_bipush (q := 6) (v := (-2)) rfl rfl (by decide) ?_
  refine aw_icmp_eq (q := 9) (tgt := 39) rfl rfl (by decide) ⟨fun cd_1 => ?_, fun cd_1 => ?_⟩
  · replace h := h.1 cd_1
    refine aw_iconst (q := 40) (v := 1) rfl rfl (by decide) ?_
    refine aw_goto (tgt := 44) rfl (by decide) ?_
    exact aw_ireturn (ty := .boolean) rfl rfl rfl (by decide) (by decide) h
  · replace h := h.2 cd_1
    refine aw_iload_n (q := 10) (j := 2) rfl rfl rfl (List.mem_of_getElem? (i := 2) rfl) ?_
    refine aw_aload_n (q := 11) (j := 0) rfl rfl rfl (List.mem_of_getElem? (i := 0) rfl) ?_
    refine ag_getI (q := 14) rfl rfl fl_Planner_68 rfl (SX.o hS rfl) ?_
    refine aw_icmp_lt (q := 17) (tgt := 39) rfl rfl (by decide) ⟨fun cd_2 => ?_, fun cd_2 => ?_⟩
    · replace h := h.1 cd_2
      refine aw_iconst (q := 40) (v := 1) rfl rfl (by decide) ?_
      refine aw_goto (tgt := 44) rfl (by decide) ?_
      exact aw_ireturn (ty := .boolean) rfl rfl rfl (by decide) (by decide) h
    · replace h := h.2 cd_2
      refine aw_iload_n (q := 18) (j := 2) rfl rfl rfl (List.mem_of_getElem? (i := 2) rfl) ?_
      refine aw_aload_n (q := 19) (j := 0) rfl rfl rfl (List.mem_of_getElem? (i := 0) rfl) ?_
      refine ag_getI (q := 22) rfl rfl fl_Planner_68 rfl (SX.o hS rfl) ?_
      refine aw_icmp_ne (q := 25) (tgt := 43) rfl rfl (by decide) ⟨fun cd_3 => ?_, fun cd_3 => ?_⟩
      · replace h := h.1 cd_3
        refine aw_iload_n (q := 26) (j := 1) rfl rfl rfl (List.mem_of_getElem? (i := 1) rfl) ?_
        refine ag_csI (z := m_Int_bitCount) (av := [.int _]) (st := []) (q := 29) (k' := 0) (n' := 0) rfl rfl cs_Planner_89 ⟨by decide, by decide⟩ rfl rfl (by decide) (by decide) rfl rfl (Nat.le_of_ble_eq_true rfl) ?_
        refine GI.mono h (fun y1_ t1_ h => ?_)
        refine aw_aload_n (q := 30) (j := 0) rfl rfl rfl (List.mem_of_getElem? (i := 0) rfl) ?_
        refine ag_getI (q := 33) rfl rfl fl_Planner_65 rfl (SX.o hS rfl) ?_
        refine ag_csI (z := m_Int_bitCount) (av := [.int _]) (st := [.int _]) (q := 36) (k' := 0) (n' := 0) rfl rfl cs_Planner_89 ⟨by decide, by decide⟩ rfl rfl (by decide) (by decide) rfl rfl (Nat.le_of_ble_eq_true rfl) ?_
        refine GI.mono h (fun y2_ t2_ h => ?_)
        refine aw_icmp_ge (q := 39) (tgt := 43) rfl rfl (by decide) ⟨fun cd_4 => ?_, fun cd_4 => ?_⟩
        · replace h := h.1 cd_4
          refine aw_iconst (q := 44) (v := 0) rfl rfl (by decide) ?_
          exact aw_ireturn (ty := .boolean) rfl rfl rfl (by decide) (by decide) h
        · replace h := h.2 cd_4
          refine aw_iconst (q := 40) (v := 1) rfl rfl (by decide) ?_
          refine aw_goto (tgt := 44) rfl (by decide) ?_
          exact aw_ireturn (ty := .boolean) rfl rfl rfl (by decide) (by decide) h
      · replace h := h.2 cd_3
        refine aw_iconst (q := 44) (v := 0) rfl rfl (by decide) ?_
        exact aw_ireturn (ty := .boolean) rfl rfl rfl (by decide) (by decide) h
set_option maxRecDepth 20000 in
theorem v_Planner_keepOnly_2 {E : EN} {g : GS} {s : MS} {Q : Option Value → SG → Prop} (t : Nat) (x2 : Int32) (x3 : Int32) (hS : SX g) (et : t = 88 ∨ t = 104) (h : (((s.1 t 13) ≤ x3 → Q none (mk g s)) ∧ (¬ (s.1 t 13) ≤ x3 → (((x2 &&& (1 <<< (x3 &&& 31))) = 0 → vp_in x3 8 ∧ (((s.1 (36 + (x3).toNatClampNeg) 0) = 3 → AWP E m_Planner_keepOnly 2 0 0 [(0, .ref 31), (1, .ref t), (2, .int x2), (3, .int (x3 + 1))] [] (mk g s) Q) ∧ (¬ (s.1 (36 + (x3).toNatClampNeg) 0) = 3 → GV E m_House_sendHome [.ref 32, .int x3] g s (fun t1_ => AWP E m_Planner_keepOnly 2 0 0 [(0, .ref 31), (1, .ref t), (2, .int x2), (3, .int (x3 + 1))] [] (mk g t1_) Q)))) ∧ (¬ (x2 &&& (1 <<< (x3 &&& 31))) = 0 → vp_in x3 8 ∧ (((s.1 (36 + (x3).toNatClampNeg) 0) = 3 → GV E m_House_callBack [.ref 32, .int x3] g s (fun t2_ => AWP E m_Planner_keepOnly 2 0 0 [(0, .ref 31), (1, .ref t), (2, .int x2), (3, .int (x3 + 1))] [] (mk g t2_) Q)) ∧ (¬ (s.1 (36 + (x3).toNatClampNeg) 0) = 3 → AWP E m_Planner_keepOnly 2 0 0 [(0, .ref 31), (1, .ref t), (2, .int x2), (3, .int (x3 + 1))] [] (mk g s) Q))))))) : AWP E m_Planner_keepOnly 2 0 0 [(0, .ref 31), (1, .ref t), (2, .int x2), (3, .int x3)] [] (mk g s) Q := by
  refine aw_iload_n (q := 3) (j := 3) rfl rfl rfl (List.mem_of_getElem? (i := 3) rfl) ?_
  refine aw_aload_n (q := 4) (j := 1) rfl rfl rfl (List.mem_of_getElem? (i := 1) rfl) ?_
  refine ag_getI (q := 7) rfl rfl fl_Planner_71 rfl (TS.o (TS.of hS et)) ?_
  refine aw_icmp_ge (q := 10) (tgt := 93) rfl rfl (by decide) ⟨fun cd_1 => ?_, fun cd_1 => ?_⟩
  · replace h := h.1 cd_1
    exact aw_return rfl rfl (by decide) (by decide) h
  · replace h := h.2 cd_1
    refine aw_iload_n (q := 11) (j := 2) rfl rfl rfl (List.mem_of_getElem? (i := 2) rfl) ?_
    refine aw_iconst (q := 12) (v := 1) rfl rfl (by decide) ?_
    refine aw_iload_n (q := 13) (j := 3) rfl rfl rfl (List.mem_of_getElem? (i := 3) rfl) ?_
    refine aw_ishl (q := 14) rfl rfl ?_
    refine aw_iand (q := 15) rfl rfl ?_
    refine aw_if_eq (q := 18) (tgt := 22) rfl rfl (by decide) ⟨fun cd_2 => ?_, fun cd_2 => ?_⟩
    · replace h := h.1 cd_2
      refine aw_iconst (q := 23) (v := 0) rfl rfl (by decide) ?_
      refine aw_istore (q := 25) (j := 4) (ls' := [(4, .int _), (0, .ref _), (1, .ref _), (2, .int _), (3, .int _)]) rfl rfl (by decide) rfl ?_
      refine aw_aload_n (q := 26) (j := 0) rfl rfl rfl (List.mem_of_getElem? (i := 1) rfl) ?_
      refine ag_getR (q := 29) rfl rfl fl_Planner_12 rfl (SX.o hS rfl) (SX.r hS rfl) ?_
      refine ag_getR (q := 32) rfl rfl fl_Planner_46 rfl (HS.o (HS.of hS (b := 32) rfl)) (HS.r2 (HS.of hS (b := 32) rfl)) ?_
      refine aw_iload_n (q := 33) (j := 3) rfl rfl rfl (List.mem_of_getElem? (i := 4) rfl) ?_
      obtain ⟨bd_3, h⟩ := h
      refine ag_aaload (q := 34) rfl rfl (Or.inr rfl) (HS.a2 (HS.of hS (b := 32) rfl)) bd_3 (HS.rr (HS.of hS (b := 32) rfl) bd_3) ?_
      refine ag_getI (q := 37) rfl rfl fl_Planner_99 rfl (HS.ro (HS.of hS (b := 32) rfl) bd_3) ?_
      refine aw_iconst (q := 38) (v := 3) rfl rfl (by decide) ?_
      refine aw_icmp_ne (q := 41) (tgt := 45) rfl rfl (by decide) ⟨fun cd_4 => ?_, fun cd_4 => ?_⟩
      · replace h := h.1 cd_4
        refine aw_iconst (q := 42) (v := 1) rfl rfl (by decide) ?_
        refine aw_goto (tgt := 46) rfl (by decide) ?_
        refine aw_istore (q := 48) (j := 5) (ls' := [(5, .int _), (4, .int _), (0, .ref _), (1, .ref _), (2, .int _), (3, .int _)]) rfl rfl (by decide) rfl ?_
        refine aw_iload (q := 50) (j := 4) rfl rfl (List.mem_of_getElem? (i := 1) rfl) ?_
        refine aw_if_eq (q := 53) (tgt := 69) rfl rfl (by decide) ⟨fun _ => ?_, fun c => absurd (by decide) c⟩
        refine aw_iload (q := 71) (j := 4) rfl rfl (List.mem_of_getElem? (i := 1) rfl) ?_
        refine aw_if_ne (q := 74) (tgt := 87) rfl rfl (by decide) ⟨fun _ => ?_, fun c => absurd (by decide) c⟩
        refine aw_iload (q := 76) (j := 5) rfl rfl (List.mem_of_getElem? (i := 0) rfl) ?_
        refine aw_if_ne (q := 79) (tgt := 87) rfl rfl (by decide) ⟨fun c => absurd c (by decide), fun _ => ?_⟩
        refine aw_iinc (q := 90) (v := _ + 1) (ls' := [(3, .int _), (5, .int _), (4, .int _), (0, .ref _), (1, .ref _), (2, .int _)]) rfl rfl (List.mem_of_getElem? (i := 5) rfl) rfl (by decide) rfl ?_
        refine aw_goto (tgt := 2) rfl (by decide) ?_
        refine aw_ls [3, 4, 5, 0] rfl ?_
        exact h
      · replace h := h.2 cd_4
        refine aw_iconst (q := 46) (v := 0) rfl rfl (by decide) ?_
        refine aw_istore (q := 48) (j := 5) (ls' := [(5, .int _), (4, .int _), (0, .ref _), (1, .ref _), (2, .int _), (3, .int _)]) rfl rfl (by decide) rfl ?_
        refine aw_iload (q := 50) (j := 4) rfl rfl (List.mem_of_getElem? (i := 1) rfl) ?_
        refine aw_if_eq (q := 53) (tgt := 69) rfl rfl (by decide) ⟨fun _ => ?_, fun c => absurd (by decide) c⟩
        refine aw_iload (q := 71) (j := 4) rfl rfl (List.mem_of_getElem? (i := 1) rfl) ?_
        refine aw_if_ne (q := 74) (tgt := 87) rfl rfl (by decide) ⟨fun _ => ?_, fun c => absurd (by decide) c⟩
        refine aw_iload (q := 76) (j := 5) rfl rfl (List.mem_of_getElem? (i := 0) rfl) ?_
        refine aw_if_ne (q := 79) (tgt := 87) rfl rfl (by decide) ⟨fun _ => ?_, fun c => absurd (by decide) c⟩
        refine aw_aload_n (q := 80) (j := 0) rfl rfl rfl (List.mem_of_getElem? (i := 2) rfl) ?_
        refine ag_getR (q := 83) rfl rfl fl_Planner_12 rfl (SX.o hS rfl) (SX.r hS rfl) ?_
        refine aw_iload_n (q := 84) (j := 3) rfl rfl rfl (List.mem_of_getElem? (i := 5) rfl) ?_
        refine ag_cvV (z := m_House_sendHome) (ci := 2) (av := [.int _]) (st := []) (q := 87) (k' := 0) (n' := 0) rfl rfl cv_Planner_106 ⟨by decide, by decide⟩ rfl rfl (by decide) (by decide) (HS.o (HS.of hS (b := 32) rfl)) rfl rfl rfl (Nat.le_of_ble_eq_true rfl) ?_
        refine GV.mono h (fun t1_ h => ?_)
        refine aw_iinc (q := 90) (v := _ + 1) (ls' := [(3, .int _), (5, .int _), (4, .int _), (0, .ref _), (1, .ref _), (2, .int _)]) rfl rfl (List.mem_of_getElem? (i := 5) rfl) rfl (by decide) rfl ?_
        refine aw_goto (tgt := 2) rfl (by decide) ?_
        refine aw_ls [3, 4, 5, 0] rfl ?_
        exact h
    · replace h := h.2 cd_2
      refine aw_iconst (q := 19) (v := 1) rfl rfl (by decide) ?_
      refine aw_goto (tgt := 23) rfl (by decide) ?_
      refine aw_istore (q := 25) (j := 4) (ls' := [(4, .int _), (0, .ref _), (1, .ref _), (2, .int _), (3, .int _)]) rfl rfl (by decide) rfl ?_
      refine aw_aload_n (q := 26) (j := 0) rfl rfl rfl (List.mem_of_getElem? (i := 1) rfl) ?_
      refine ag_getR (q := 29) rfl rfl fl_Planner_12 rfl (SX.o hS rfl) (SX.r hS rfl) ?_
      refine ag_getR (q := 32) rfl rfl fl_Planner_46 rfl (HS.o (HS.of hS (b := 32) rfl)) (HS.r2 (HS.of hS (b := 32) rfl)) ?_
      refine aw_iload_n (q := 33) (j := 3) rfl rfl rfl (List.mem_of_getElem? (i := 4) rfl) ?_
      obtain ⟨bd_5, h⟩ := h
      refine ag_aaload (q := 34) rfl rfl (Or.inr rfl) (HS.a2 (HS.of hS (b := 32) rfl)) bd_5 (HS.rr (HS.of hS (b := 32) rfl) bd_5) ?_
      refine ag_getI (q := 37) rfl rfl fl_Planner_99 rfl (HS.ro (HS.of hS (b := 32) rfl) bd_5) ?_
      refine aw_iconst (q := 38) (v := 3) rfl rfl (by decide) ?_
      refine aw_icmp_ne (q := 41) (tgt := 45) rfl rfl (by decide) ⟨fun cd_6 => ?_, fun cd_6 => ?_⟩
      · replace h := h.1 cd_6
        refine aw_iconst (q := 42) (v := 1) rfl rfl (by decide) ?_
        refine aw_goto (tgt := 46) rfl (by decide) ?_
        refine aw_istore (q := 48) (j := 5) (ls' := [(5, .int _), (4, .int _), (0, .ref _), (1, .ref _), (2, .int _), (3, .int _)]) rfl rfl (by decide) rfl ?_
        refine aw_iload (q := 50) (j := 4) rfl rfl (List.mem_of_getElem? (i := 1) rfl) ?_
        refine aw_if_eq (q := 53) (tgt := 69) rfl rfl (by decide) ⟨fun c => absurd c (by decide), fun _ => ?_⟩
        refine aw_iload (q := 55) (j := 5) rfl rfl (List.mem_of_getElem? (i := 0) rfl) ?_
        refine aw_if_eq (q := 58) (tgt := 69) rfl rfl (by decide) ⟨fun c => absurd c (by decide), fun _ => ?_⟩
        refine aw_aload_n (q := 59) (j := 0) rfl rfl rfl (List.mem_of_getElem? (i := 2) rfl) ?_
        refine ag_getR (q := 62) rfl rfl fl_Planner_12 rfl (SX.o hS rfl) (SX.r hS rfl) ?_
        refine aw_iload_n (q := 63) (j := 3) rfl rfl rfl (List.mem_of_getElem? (i := 5) rfl) ?_
        refine ag_cvV (z := m_House_callBack) (ci := 2) (av := [.int _]) (st := []) (q := 66) (k' := 0) (n' := 0) rfl rfl cv_Planner_102 ⟨by decide, by decide⟩ rfl rfl (by decide) (by decide) (HS.o (HS.of hS (b := 32) rfl)) rfl rfl rfl (Nat.le_of_ble_eq_true rfl) ?_
        refine GV.mono h (fun t2_ h => ?_)
        refine aw_goto (tgt := 87) rfl (by decide) ?_
        refine aw_iinc (q := 90) (v := _ + 1) (ls' := [(3, .int _), (5, .int _), (4, .int _), (0, .ref _), (1, .ref _), (2, .int _)]) rfl rfl (List.mem_of_getElem? (i := 5) rfl) rfl (by decide) rfl ?_
        refine aw_goto (tgt := 2) rfl (by decide) ?_
        refine aw_ls [3, 4, 5, 0] rfl ?_
        exact h
      · replace h := h.2 cd_6
        refine aw_iconst (q := 46) (v := 0) rfl rfl (by decide) ?_
        refine aw_istore (q := 48) (j := 5) (ls' := [(5, .int _), (4, .int _), (0, .ref _), (1, .ref _), (2, .int _), (3, .int _)]) rfl rfl (by decide) rfl ?_
        refine aw_iload (q := 50) (j := 4) rfl rfl (List.mem_of_getElem? (i := 1) rfl) ?_
        refine aw_if_eq (q := 53) (tgt := 69) rfl rfl (by decide) ⟨fun c => absurd c (by decide), fun _ => ?_⟩
        refine aw_iload (q := 55) (j := 5) rfl rfl (List.mem_of_getElem? (i := 0) rfl) ?_
        refine aw_if_eq (q := 58) (tgt := 69) rfl rfl (by decide) ⟨fun _ => ?_, fun c => absurd (by decide) c⟩
        refine aw_iload (q := 71) (j := 4) rfl rfl (List.mem_of_getElem? (i := 1) rfl) ?_
        refine aw_if_ne (q := 74) (tgt := 87) rfl rfl (by decide) ⟨fun c => absurd c (by decide), fun _ => ?_⟩
        refine aw_iinc (q := 90) (v := _ + 1) (ls' := [(3, .int _), (5, .int _), (4, .int _), (0, .ref _), (1, .ref _), (2, .int _)]) rfl rfl (List.mem_of_getElem? (i := 5) rfl) rfl (by decide) rfl ?_
        refine aw_goto (tgt := 2) rfl (by decide) ?_
        refine aw_ls [3, 4, 5, 0] rfl ?_
        exact h
set_option maxRecDepth 20000 in
theorem v_Planner_keepOnly {E : EN} {g : GS} {s : MS} {Q : Option Value → SG → Prop} (t : Nat) (x2 : Int32) (h : AWP E m_Planner_keepOnly 2 0 0 [(0, .ref 31), (1, .ref t), (2, .int x2), (3, .int 0)] [] (mk g s) Q) : AMet E m_Planner_keepOnly [.ref 31, .ref t, .int x2] (mk g s) Q := by
  refine AMet.of (by decide) k_Planner_keepOnly [(0, .ref 31), (1, .ref t), (2, .int x2)] (Nat.le_of_ble_eq_true rfl) rfl ?_
  refine aw_iconst (q := 1) (v := 0) rfl rfl (by decide) ?_
  refine aw_istore_n (q := 2) (j := 3) (ls' := [(3, .int _), (0, .ref _), (1, .ref _), (2, .int _)]) rfl rfl rfl (by decide) rfl ?_
  refine aw_ls [1, 2, 3, 0] rfl ?_
  exact h
set_option maxRecDepth 20000 in
theorem v_Planner_seekWay_33 {E : EN} {g : GS} {s : MS} {Q : Option Value → SG → Prop} (b : Nat) (x3 : Int32) (x4 : Int32) (x5 : Int32) (x6 : Int32) (x7 : Int32) (hS : SX g) (h : GI E m_Int_bitCount [.int x3] g s (fun y1_ t1_ => ((y1_ ≤ x7 → (∀ s2_, s2_ = wi t1_ 31 4 x3 → (∀ s3_, s3_ = wi s2_ 31 5 x4 → (∀ s4_, s4_ = wi s3_ 31 7 (-1) → AWP E m_Planner_seekWay 74 0 0 [(0, .ref 31), (1, .ref 28), (2, .ref b), (3, .int x3), (4, .int x4), (5, .int x5), (6, .int x6), (7, .int 0)] [] (mk g s4_) Q)))) ∧ (¬ y1_ ≤ x7 → AWP E m_Planner_seekWay 33 0 0 [(0, .ref 31), (1, .ref 28), (2, .ref b), (3, .int x3), (4, .int x4), (5, .int x5), (6, .int (x6 * x5)), (7, .int (x7 + 1))] [] (mk g t1_) Q)))) : AWP E m_Planner_seekWay 33 0 0 [(0, .ref 31), (1, .ref 28), (2, .ref b), (3, .int x3), (4, .int x4), (5, .int x5), (6, .int x6), (7, .int x7)] [] (mk g s) Q := by
  refine aw_iload (q := 35) (j := 7) rfl rfl (List.mem_of_getElem? (i := 7) rfl) ?_
  refine aw_iload_n (q := 36) (j := 3) rfl rfl rfl (List.mem_of_getElem? (i := 3) rfl) ?_
  refine ag_csI (z := m_Int_bitCount) (av := [.int _]) (st := [.int _]) (q := 39) (k' := 0) (n' := 0) rfl rfl cs_Planner_89 ⟨by decide, by decide⟩ rfl rfl (by decide) (by decide) rfl rfl (Nat.le_of_ble_eq_true rfl) ?_
  refine GI.mono h (fun y1_ t1_ h => ?_)
  refine aw_icmp_ge (q := 42) (tgt := 55) rfl rfl (by decide) ⟨fun cd_1 => ?_, fun cd_1 => ?_⟩
  · replace h := h.1 cd_1
    refine aw_aload_n (q := 56) (j := 0) rfl rfl rfl (List.mem_of_getElem? (i := 0) rfl) ?_
    refine aw_iload_n (q := 57) (j := 3) rfl rfl rfl (List.mem_of_getElem? (i := 3) rfl) ?_
    refine ag_putI (q := 60) rfl rfl fl_Planner_21 rfl rfl (SX.o hS rfl) ?_
    replace h := h _ rfl
    refine aw_aload_n (q := 61) (j := 0) rfl rfl rfl (List.mem_of_getElem? (i := 0) rfl) ?_
    refine aw_iload (q := 63) (j := 4) rfl rfl (List.mem_of_getElem? (i := 4) rfl) ?_
    refine ag_putI (q := 66) rfl rfl fl_Planner_109 rfl rfl (SX.o hS rfl) ?_
    replace h := h _ rfl
    refine aw_aload_n (q := 67) (j := 0) rfl rfl rfl (List.mem_of_getElem? (i := 0) rfl) ?_
    refine aw_iconst (q := 68) (v := (-1)) rfl rfl (by decide) ?_
    refine ag_putI (q := 71) rfl rfl fl_Planner_115 rfl rfl (SX.o hS rfl) ?_
    replace h := h _ rfl
    refine aw_iconst (q := 72) (v := 0) rfl rfl (by decide) ?_
    refine aw_istore (q := 74) (j := 7) (ls' := [(7, .int _), (0, .ref _), (1, .ref _), (2, .ref _), (3, .int _), (4, .int _), (5, .int _), (6, .int _)]) rfl rfl (by decide) rfl ?_
    refine aw_ls [1, 2, 3, 4, 5, 6, 7, 0] rfl ?_
    exact h
  · replace h := h.2 cd_1
    refine aw_iload (q := 44) (j := 6) rfl rfl (List.mem_of_getElem? (i := 6) rfl) ?_
    refine aw_iload (q := 46) (j := 5) rfl rfl (List.mem_of_getElem? (i := 5) rfl) ?_
    refine aw_imul (q := 47) rfl rfl ?_
    refine aw_istore (q := 49) (j := 6) (ls' := [(6, .int _), (0, .ref _), (1, .ref _), (2, .ref _), (3, .int _), (4, .int _), (5, .int _), (7, .int _)]) rfl rfl (by decide) rfl ?_
    refine aw_iinc (q := 52) (v := _ + 1) (ls' := [(7, .int _), (6, .int _), (0, .ref _), (1, .ref _), (2, .ref _), (3, .int _), (4, .int _), (5, .int _)]) rfl rfl (List.mem_of_getElem? (i := 7) rfl) rfl (by decide) rfl ?_
    refine aw_goto (tgt := 33) rfl (by decide) ?_
    refine aw_ls [2, 3, 4, 5, 6, 7, 1, 0] rfl ?_
    exact h
set_option maxRecDepth 20000 in
theorem v_Planner_seekWay_74 {E : EN} {g : GS} {s : MS} {Q : Option Value → SG → Prop} (b : Nat) (x3 : Int32) (x4 : Int32) (x5 : Int32) (x6 : Int32) (x7 : Int32) (t : Nat) (hS : SX g) (hm : g.2.2 28 0 = some t) (h : ((x6 ≤ x7 → Q none (mk g s)) ∧ (¬ x6 ≤ x7 → GV E m_House_take [.ref 32, .ref b] g s (fun t1_ => GV E m_Planner_teachWay [.ref 31, .int x5, .int x3, .int x7] g t1_ (fun t2_ => GV E m_Mill_goOn [.ref 28, .ref 32, .int x4] g t2_ (fun t3_ => GI E m_House_allWorth [.ref 32, .ref t] g t3_ (fun y4_ t4_ => ((y4_ ≤ (t4_.1 31 7) → AWP E m_Planner_seekWay 74 0 0 [(0, .ref 31), (1, .ref 28), (2, .ref b), (3, .int x3), (4, .int x4), (5, .int x5), (6, .int x6), (7, .int (x7 + 1))] [] (mk g t4_) Q) ∧ (¬ y4_ ≤ (t4_.1 31 7) → (∀ s5_, s5_ = wi t4_ 31 7 y4_ → (∀ s6_, s6_ = wi s5_ 31 6 x7 → AWP E m_Planner_seekWay 74 0 0 [(0, .ref 31), (1, .ref 28), (2, .ref b), (3, .int x3), (4, .int x4), (5, .int x5), (6, .int x6), (7, .int (x7 + 1))] [] (mk g s6_) Q))))))))))) : AWP E m_Planner_seekWay 74 0 0 [(0, .ref 31), (1, .ref 28), (2, .ref b), (3, .int x3), (4, .int x4), (5, .int x5), (6, .int x6), (7, .int x7)] [] (mk g s) Q := by
  refine aw_iload (q := 76) (j := 7) rfl rfl (List.mem_of_getElem? (i := 7) rfl) ?_
  refine aw_iload (q := 78) (j := 6) rfl rfl (List.mem_of_getElem? (i := 6) rfl) ?_
  refine aw_icmp_ge (q := 81) (tgt := 148) rfl rfl (by decide) ⟨fun cd_1 => ?_, fun cd_1 => ?_⟩
  · replace h := h.1 cd_1
    exact aw_return rfl rfl (by decide) (by decide) h
  · replace h := h.2 cd_1
    refine aw_aload_n (q := 82) (j := 0) rfl rfl rfl (List.mem_of_getElem? (i := 0) rfl) ?_
    refine ag_getR (q := 85) rfl rfl fl_Planner_12 rfl (SX.o hS rfl) (SX.r hS rfl) ?_
    refine aw_aload_n (q := 86) (j := 2) rfl rfl rfl (List.mem_of_getElem? (i := 2) rfl) ?_
    refine ag_cvV (z := m_House_take) (ci := 2) (av := [.ref _]) (st := []) (q := 89) (k' := 0) (n' := 0) rfl rfl cv_Planner_25 ⟨by decide, by decide⟩ rfl rfl (by decide) (by decide) (HS.o (HS.of hS (b := 32) rfl)) rfl rfl rfl (Nat.le_of_ble_eq_true rfl) ?_
    refine GV.mono h (fun t1_ h => ?_)
    refine aw_aload_n (q := 90) (j := 0) rfl rfl rfl (List.mem_of_getElem? (i := 0) rfl) ?_
    refine aw_iload (q := 92) (j := 5) rfl rfl (List.mem_of_getElem? (i := 5) rfl) ?_
    refine aw_iload_n (q := 93) (j := 3) rfl rfl rfl (List.mem_of_getElem? (i := 3) rfl) ?_
    refine aw_iload (q := 95) (j := 7) rfl rfl (List.mem_of_getElem? (i := 7) rfl) ?_
    refine ag_cvV (z := m_Planner_teachWay) (ci := 5) (av := [.int _, .int _, .int _]) (st := []) (q := 98) (k' := 0) (n' := 0) rfl rfl cv_Planner_118 ⟨by decide, by decide⟩ rfl rfl (by decide) (by decide) (SX.o hS rfl) rfl rfl rfl (Nat.le_of_ble_eq_true rfl) ?_
    refine GV.mono h (fun t2_ h => ?_)
    refine aw_aload_n (q := 99) (j := 1) rfl rfl rfl (List.mem_of_getElem? (i := 1) rfl) ?_
    refine aw_aload_n (q := 100) (j := 0) rfl rfl rfl (List.mem_of_getElem? (i := 0) rfl) ?_
    refine ag_getR (q := 103) rfl rfl fl_Planner_12 rfl (SX.o hS rfl) (SX.r hS rfl) ?_
    refine aw_iload (q := 105) (j := 4) rfl rfl (List.mem_of_getElem? (i := 4) rfl) ?_
    refine ag_cvV (z := m_Mill_goOn) (ci := 4) (av := [.ref _, .int _]) (st := []) (q := 108) (k' := 0) (n' := 0) rfl rfl cv_Planner_29 ⟨by decide, by decide⟩ rfl rfl (by decide) (by decide) (SX.o hS rfl) rfl rfl rfl (Nat.le_of_ble_eq_true rfl) ?_
    refine GV.mono h (fun t3_ h => ?_)
    refine aw_aload_n (q := 109) (j := 0) rfl rfl rfl (List.mem_of_getElem? (i := 0) rfl) ?_
    refine ag_getR (q := 112) rfl rfl fl_Planner_12 rfl (SX.o hS rfl) (SX.r hS rfl) ?_
    refine aw_aload_n (q := 113) (j := 1) rfl rfl rfl (List.mem_of_getElem? (i := 1) rfl) ?_
    refine ag_getR (q := 116) rfl rfl fl_Planner_35 rfl (SX.o hS rfl) hm ?_
    refine ag_cvI (z := m_House_allWorth) (ci := 2) (av := [.ref _]) (st := []) (q := 119) (k' := 0) (n' := 0) rfl rfl cv_Planner_122 ⟨by decide, by decide⟩ rfl rfl (by decide) (by decide) (HS.o (HS.of hS (b := 32) rfl)) rfl rfl rfl (Nat.le_of_ble_eq_true rfl) ?_
    refine GI.mono h (fun y4_ t4_ h => ?_)
    refine aw_istore (q := 121) (j := 8) (ls' := [(8, .int _), (0, .ref _), (1, .ref _), (2, .ref _), (3, .int _), (4, .int _), (5, .int _), (6, .int _), (7, .int _)]) rfl rfl (by decide) rfl ?_
    refine aw_iload (q := 123) (j := 8) rfl rfl (List.mem_of_getElem? (i := 0) rfl) ?_
    refine aw_aload_n (q := 124) (j := 0) rfl rfl rfl (List.mem_of_getElem? (i := 1) rfl) ?_
    refine ag_getI (q := 127) rfl rfl fl_Planner_115 rfl (SX.o hS rfl) ?_
    refine aw_icmp_le (q := 130) (tgt := 142) rfl rfl (by decide) ⟨fun cd_2 => ?_, fun cd_2 => ?_⟩
    · replace h := h.1 cd_2
      refine aw_iinc (q := 145) (v := _ + 1) (ls' := [(7, .int _), (8, .int _), (0, .ref _), (1, .ref _), (2, .ref _), (3, .int _), (4, .int _), (5, .int _), (6, .int _)]) rfl rfl (List.mem_of_getElem? (i := 8) rfl) rfl (by decide) rfl ?_
      refine aw_goto (tgt := 74) rfl (by decide) ?_
      refine aw_ls [2, 3, 4, 5, 6, 7, 8, 0] rfl ?_
      exact h
    · replace h := h.2 cd_2
      refine aw_aload_n (q := 131) (j := 0) rfl rfl rfl (List.mem_of_getElem? (i := 1) rfl) ?_
      refine aw_iload (q := 133) (j := 8) rfl rfl (List.mem_of_getElem? (i := 0) rfl) ?_
      refine ag_putI (q := 136) rfl rfl fl_Planner_115 rfl rfl (SX.o hS rfl) ?_
      replace h := h _ rfl
      refine aw_aload_n (q := 137) (j := 0) rfl rfl rfl (List.mem_of_getElem? (i := 1) rfl) ?_
      refine aw_iload (q := 139) (j := 7) rfl rfl (List.mem_of_getElem? (i := 8) rfl) ?_
      refine ag_putI (q := 142) rfl rfl fl_Planner_125 rfl rfl (SX.o hS rfl) ?_
      replace h := h _ rfl
      refine aw_iinc (q := 145) (v := _ + 1) (ls' := [(7, .int _), (8, .int _), (0, .ref _), (1, .ref _), (2, .ref _), (3, .int _), (4, .int _), (5, .int _), (6, .int _)]) rfl rfl (List.mem_of_getElem? (i := 8) rfl) rfl (by decide) rfl ?_
      refine aw_goto (tgt := 74) rfl (by decide) ?_
      refine aw_ls [2, 3, 4, 5, 6, 7, 8, 0] rfl ?_
      exact h
set_option maxRecDepth 20000 in
theorem v_Planner_seekWay {E : EN} {g : GS} {s : MS} {Q : Option Value → SG → Prop} (b : Nat) (x3 : Int32) (x4 : Int32) (t : Nat) (hS : SX g) (et : t = 88 ∨ t = 104) (hm : g.2.2 28 0 = some t) (h : (((s.1 31 4) = x3 → (((s.1 31 5) = x4 → Q none (mk g s)) ∧ (¬ (s.1 31 5) = x4 → AWP E m_Planner_seekWay 33 0 0 [(0, .ref 31), (1, .ref 28), (2, .ref b), (3, .int x3), (4, .int x4), (5, .int (s.1 t 11)), (6, .int 1), (7, .int 0)] [] (mk g s) Q))) ∧ (¬ (s.1 31 4) = x3 → AWP E m_Planner_seekWay 33 0 0 [(0, .ref 31), (1, .ref 28), (2, .ref b), (3, .int x3), (4, .int x4), (5, .int (s.1 t 11)), (6, .int 1), (7, .int 0)] [] (mk g s) Q))) : AMet E m_Planner_seekWay [.ref 31, .ref 28, .ref b, .int x3, .int x4] (mk g s) Q := by
  refine AMet.of (by decide) k_Planner_seekWay [(0, .ref 31), (1, .ref 28), (2, .ref b), (3, .int x3), (4, .int x4)] (Nat.le_of_ble_eq_true rfl) rfl ?_
  refine aw_aload_n (q := 1) (j := 0) rfl rfl rfl (List.mem_of_getElem? (i := 0) rfl) ?_
  refine ag_getI (q := 4) rfl rfl fl_Planner_21 rfl (SX.o hS rfl) ?_
  refine aw_iload_n (q := 5) (j := 3) rfl rfl rfl (List.mem_of_getElem? (i := 3) rfl) ?_
  refine aw_icmp_ne (q := 8) (tgt := 18) rfl rfl (by decide) ⟨fun cd_1 => ?_, fun cd_1 => ?_⟩
  · replace h := h.1 cd_1
    refine aw_aload_n (q := 9) (j := 0) rfl rfl rfl (List.mem_of_getElem? (i := 0) rfl) ?_
    refine ag_getI (q := 12) rfl rfl fl_Planner_109 rfl (SX.o hS rfl) ?_
    refine aw_iload (q := 14) (j := 4) rfl rfl (List.mem_of_getElem? (i := 4) rfl) ?_
    refine aw_icmp_ne (q := 17) (tgt := 18) rfl rfl (by decide) ⟨fun cd_2 => ?_, fun cd_2 => ?_⟩
    · replace h := h.1 cd_2
      exact aw_return rfl rfl (by decide) (by decide) h
    · replace h := h.2 cd_2
      refine aw_aload_n (q := 19) (j := 1) rfl rfl rfl (List.mem_of_getElem? (i := 1) rfl) ?_
      refine ag_getR (q := 22) rfl rfl fl_Planner_35 rfl (SX.o hS rfl) hm ?_
      refine ag_getI (q := 25) rfl rfl fl_Planner_112 rfl (TS.o (TS.of hS et)) ?_
      refine aw_istore (q := 27) (j := 5) (ls' := [(5, .int _), (0, .ref _), (1, .ref _), (2, .ref _), (3, .int _), (4, .int _)]) rfl rfl (by decide) rfl ?_
      refine aw_iconst (q := 28) (v := 1) rfl rfl (by decide) ?_
      refine aw_istore (q := 30) (j := 6) (ls' := [(6, .int _), (5, .int _), (0, .ref _), (1, .ref _), (2, .ref _), (3, .int _), (4, .int _)]) rfl rfl (by decide) rfl ?_
      refine aw_iconst (q := 31) (v := 0) rfl rfl (by decide) ?_
      refine aw_istore (q := 33) (j := 7) (ls' := [(7, .int _), (6, .int _), (5, .int _), (0, .ref _), (1, .ref _), (2, .ref _), (3, .int _), (4, .int _)]) rfl rfl (by decide) rfl ?_
      refine aw_ls [3, 4, 5, 6, 7, 2, 1, 0] rfl ?_
      exact h
  · replace h := h.2 cd_1
    refine aw_aload_n (q := 19) (j := 1) rfl rfl rfl (List.mem_of_getElem? (i := 1) rfl) ?_
    refine ag_getR (q := 22) rfl rfl fl_Planner_35 rfl (SX.o hS rfl) hm ?_
    refine ag_getI (q := 25) rfl rfl fl_Planner_112 rfl (TS.o (TS.of hS et)) ?_
    refine aw_istore (q := 27) (j := 5) (ls' := [(5, .int _), (0, .ref _), (1, .ref _), (2, .ref _), (3, .int _), (4, .int _)]) rfl rfl (by decide) rfl ?_
    refine aw_iconst (q := 28) (v := 1) rfl rfl (by decide) ?_
    refine aw_istore (q := 30) (j := 6) (ls' := [(6, .int _), (5, .int _), (0, .ref _), (1, .ref _), (2, .ref _), (3, .int _), (4, .int _)]) rfl rfl (by decide) rfl ?_
    refine aw_iconst (q := 31) (v := 0) rfl rfl (by decide) ?_
    refine aw_istore (q := 33) (j := 7) (ls' := [(7, .int _), (6, .int _), (5, .int _), (0, .ref _), (1, .ref _), (2, .ref _), (3, .int _), (4, .int _)]) rfl rfl (by decide) rfl ?_
    refine aw_ls [3, 4, 5, 6, 7, 2, 1, 0] rfl ?_
    exact h
set_option maxRecDepth 20000 in
theorem v_Planner_teachWay_7 {E : EN} {g : GS} {s : MS} {Q : Option Value → SG → Prop} (x1 : Int32) (x2 : Int32) (x3 : Int32) (x4 : Int32) (x5 : Int32) (hS : SX g) (h : ((x5 < 0 → Q none (mk g s)) ∧ (¬ x5 < 0 → (((x2 &&& (1 <<< (x5 &&& 31))) = 0 → AWP E m_Planner_teachWay 7 0 0 [(0, .ref 31), (1, .int x1), (2, .int x2), (3, .int x3), (4, .int x4), (5, .int (x5 + (-1)))] [] (mk g s) Q) ∧ (¬ (x2 &&& (1 <<< (x5 &&& 31))) = 0 → ((x1 ≤ 0 → AWP E m_Planner_teachWay 7 0 0 [(0, .ref 31), (1, .int x1), (2, .int x2), (3, .int x3), (4, .int x4), (5, .int (x5 + (-1)))] [] (mk g s) Q) ∧ (¬ x1 ≤ 0 → vp_in x5 8 ∧ ¬ x1 = 0 ∧ (∀ s1_, s1_ = wi s (36 + (x5).toNatClampNeg) 6 (x4 - x4 / x1 * x1) → ¬ x1 = 0 ∧ AWP E m_Planner_teachWay 7 0 0 [(0, .ref 31), (1, .int x1), (2, .int x2), (3, .int x3), (4, .int (x4 / x1)), (5, .int (x5 + (-1)))] [] (mk g s1_) Q)))))))) : AWP E m_Planner_teachWay 7 0 0 [(0, .ref 31), (1, .int x1), (2, .int x2), (3, .int x3), (4, .int x4), (5, .int x5)] [] (mk g s) Q := by
  refine aw_iload (q := 9) (j := 5) rfl rfl (List.mem_of_getElem? (i := 5) rfl) ?_
  refine aw_if_lt (q := 12) (tgt := 54) rfl rfl (by decide) ⟨fun cd_1 => ?_, fun cd_1 => ?_⟩
  · replace h := h.1 cd_1
    exact aw_return rfl rfl (by decide) (by decide) h
  · replace h := h.2 cd_1
    refine aw_iload_n (q := 13) (j := 2) rfl rfl rfl (List.mem_of_getElem? (i := 2) rfl) ?_
    refine aw_iconst (q := 14) (v := 1) rfl rfl (by decide) ?_
    refine aw_iload (q := 16) (j := 5) rfl rfl (List.mem_of_getElem? (i := 5) rfl) ?_
    refine aw_ishl (q := 17) rfl rfl ?_
    refine aw_iand (q := 18) rfl rfl ?_
    refine aw_if_eq (q := 21) (tgt := 48) rfl rfl (by decide) ⟨fun cd_2 => ?_, fun cd_2 => ?_⟩
    · replace h := h.1 cd_2
      refine aw_iinc (q := 51) (v := _ + (-1)) (ls' := [(5, .int _), (0, .ref _), (1, .int _), (2, .int _), (3, .int _), (4, .int _)]) rfl rfl (List.mem_of_getElem? (i := 5) rfl) rfl (by decide) rfl ?_
      refine aw_goto (tgt := 7) rfl (by decide) ?_
      refine aw_ls [1, 2, 3, 4, 5, 0] rfl ?_
      exact h
    · replace h := h.2 cd_2
      refine aw_iload_n (q := 22) (j := 1) rfl rfl rfl (List.mem_of_getElem? (i := 1) rfl) ?_
      refine aw_if_le (q := 25) (tgt := 48) rfl rfl (by decide) ⟨fun cd_3 => ?_, fun cd_3 => ?_⟩
      · replace h := h.1 cd_3
        refine aw_iinc (q := 51) (v := _ + (-1)) (ls' := [(5, .int _), (0, .ref _), (1, .int _), (2, .int _), (3, .int _), (4, .int _)]) rfl rfl (List.mem_of_getElem? (i := 5) rfl) rfl (by decide) rfl ?_
        refine aw_goto (tgt := 7) rfl (by decide) ?_
        refine aw_ls [1, 2, 3, 4, 5, 0] rfl ?_
        exact h
      · replace h := h.2 cd_3
        refine aw_aload_n (q := 26) (j := 0) rfl rfl rfl (List.mem_of_getElem? (i := 0) rfl) ?_
        refine ag_getR (q := 29) rfl rfl fl_Planner_12 rfl (SX.o hS rfl) (SX.r hS rfl) ?_
        refine ag_getR (q := 32) rfl rfl fl_Planner_46 rfl (HS.o (HS.of hS (b := 32) rfl)) (HS.r2 (HS.of hS (b := 32) rfl)) ?_
        refine aw_iload (q := 34) (j := 5) rfl rfl (List.mem_of_getElem? (i := 5) rfl) ?_
        obtain ⟨bd_4, h⟩ := h
        refine ag_aaload (q := 35) rfl rfl (Or.inr rfl) (HS.a2 (HS.of hS (b := 32) rfl)) bd_4 (HS.rr (HS.of hS (b := 32) rfl) bd_4) ?_
        refine aw_iload (q := 37) (j := 4) rfl rfl (List.mem_of_getElem? (i := 4) rfl) ?_
        refine aw_iload_n (q := 38) (j := 1) rfl rfl rfl (List.mem_of_getElem? (i := 1) rfl) ?_
        obtain ⟨zd_5, h⟩ := h
        refine aw_irem (q := 39) rfl rfl zd_5 ?_
        refine ag_putI (q := 42) rfl rfl fl_Planner_128 rfl rfl (HS.ro (HS.of hS (b := 32) rfl) bd_4) ?_
        replace h := h _ rfl
        refine aw_iload (q := 44) (j := 4) rfl rfl (List.mem_of_getElem? (i := 4) rfl) ?_
        refine aw_iload_n (q := 45) (j := 1) rfl rfl rfl (List.mem_of_getElem? (i := 1) rfl) ?_
        obtain ⟨zd_6, h⟩ := h
        refine aw_idiv (q := 46) rfl rfl zd_6 ?_
        refine aw_istore (q := 48) (j := 4) (ls' := [(4, .int _), (0, .ref _), (1, .int _), (2, .int _), (3, .int _), (5, .int _)]) rfl rfl (by decide) rfl ?_
        refine aw_iinc (q := 51) (v := _ + (-1)) (ls' := [(5, .int _), (4, .int _), (0, .ref _), (1, .int _), (2, .int _), (3, .int _)]) rfl rfl (List.mem_of_getElem? (i := 5) rfl) rfl (by decide) rfl ?_
        refine aw_goto (tgt := 7) rfl (by decide) ?_
        refine aw_ls [2, 3, 4, 5, 1, 0] rfl ?_
        exact h
set_option maxRecDepth 20000 in
theorem v_Planner_teachWay {E : EN} {g : GS} {s : MS} {Q : Option Value → SG → Prop} (x1 : Int32) (x2 : Int32) (x3 : Int32) (h : AWP E m_Planner_teachWay 7 0 0 [(0, .ref 31), (1, .int x1), (2, .int x2), (3, .int x3), (4, .int x3), (5, .int 7)] [] (mk g s) Q) : AMet E m_Planner_teachWay [.ref 31, .int x1, .int x2, .int x3] (mk g s) Q := by
  refine AMet.of (by decide) k_Planner_teachWay [(0, .ref 31), (1, .int x1), (2, .int x2), (3, .int x3)] (Nat.le_of_ble_eq_true rfl) rfl ?_
  refine aw_iload_n (q := 1) (j := 3) rfl rfl rfl (List.mem_of_getElem? (i := 3) rfl) ?_
  refine aw_istore (q := 3) (j := 4) (ls' := [(4, .int _), (0, .ref _), (1, .int _), (2, .int _), (3, .int _)]) rfl rfl (by decide) rfl ?_
  refine aw_bipush (q := 5) (v := 7) rfl rfl (by decide) ?_
  refine aw_istore (q := 7) (j := 5) (ls' := [(5, .int _), (4, .int _), (0, .ref _), (1, .int _), (2, .int _), (3, .int _)]) rfl rfl (by decide) rfl ?_
  refine aw_ls [2, 3, 4, 5, 1, 0] rfl ?_
  exact h
set_option maxRecDepth 20000 in
theorem v_Planner_grainOf_16 {E : EN} {g : GS} {s : MS} {Q : Option Value → SG → Prop} (x1 : Int32) (x2 : Int32) (x3 : Int32) (x4 : Int32) (h : ((x4 ≤ x1 → ((x2 ≤ 0 → Q (some (.int (-1))) (mk g s)) ∧ (¬ x2 ≤ 0 → ¬ x2 = 0 ∧ Q (some (.int (x3 - x3 / x2 * x2))) (mk g s)))) ∧ (¬ x4 ≤ x1 → ((x2 ≤ 0 → ((x2 ≤ 0 → Q (some (.int (-1))) (mk g s)) ∧ (¬ x2 ≤ 0 → ¬ x2 = 0 ∧ Q (some (.int (x3 - x3 / x2 * x2))) (mk g s)))) ∧ (¬ x2 ≤ 0 → ¬ x2 = 0 ∧ AWP E m_Planner_grainOf 16 0 0 [(0, .ref 31), (1, .int x1), (2, .int x2), (3, .int (x3 / x2)), (4, .int (x4 + (-1)))] [] (mk g s) Q))))) : AWP E m_Planner_grainOf 16 0 0 [(0, .ref 31), (1, .int x1), (2, .int x2), (3, .int x3), (4, .int x4)] [] (mk g s) Q := by
  refine aw_iload (q := 18) (j := 4) rfl rfl (List.mem_of_getElem? (i := 4) rfl) ?_
  refine aw_iload_n (q := 19) (j := 1) rfl rfl rfl (List.mem_of_getElem? (i := 1) rfl) ?_
  refine aw_icmp_le (q := 22) (tgt := 36) rfl rfl (by decide) ⟨fun cd_1 => ?_, fun cd_1 => ?_⟩
  · replace h := h.1 cd_1
    refine aw_iload_n (q := 37) (j := 2) rfl rfl rfl (List.mem_of_getElem? (i := 2) rfl) ?_
    refine aw_if_le (q := 40) (tgt := 46) rfl rfl (by decide) ⟨fun cd_2 => ?_, fun cd_2 => ?_⟩
    · replace h := h.1 cd_2
      refine aw_iconst (q := 47) (v := (-1)) rfl rfl (by decide) ?_
      exact aw_ireturn (ty := .int) rfl rfl rfl (by decide) (by decide) h
    · replace h := h.2 cd_2
      refine aw_iload_n (q := 41) (j := 3) rfl rfl rfl (List.mem_of_getElem? (i := 3) rfl) ?_
      refine aw_iload_n (q := 42) (j := 2) rfl rfl rfl (List.mem_of_getElem? (i := 2) rfl) ?_
      obtain ⟨zd_3, h⟩ := h
      refine aw_irem (q := 43) rfl rfl zd_3 ?_
      refine aw_goto (tgt := 47) rfl (by decide) ?_
      exact aw_ireturn (ty := .int) rfl rfl rfl (by decide) (by decide) h
  · replace h := h.2 cd_1
    refine aw_iload_n (q := 23) (j := 2) rfl rfl rfl (List.mem_of_getElem? (i := 2) rfl) ?_
    refine aw_if_le (q := 26) (tgt := 36) rfl rfl (by decide) ⟨fun cd_4 => ?_, fun cd_4 => ?_⟩
    · replace h := h.1 cd_4
      refine aw_iload_n (q := 37) (j := 2) rfl rfl rfl (List.mem_of_getElem? (i := 2) rfl) ?_
      refine aw_if_le (q := 40) (tgt := 46) rfl rfl (by decide) ⟨fun cd_5 => ?_, fun cd_5 => ?_⟩
      · replace h := h.1 cd_5
        refine aw_iconst (q := 47) (v := (-1)) rfl rfl (by decide) ?_
        exact aw_ireturn (ty := .int) rfl rfl rfl (by decide) (by decide) h
      · replace h := h.2 cd_5
        refine aw_iload_n (q := 41) (j := 3) rfl rfl rfl (List.mem_of_getElem? (i := 3) rfl) ?_
        refine aw_iload_n (q := 42) (j := 2) rfl rfl rfl (List.mem_of_getElem? (i := 2) rfl) ?_
        obtain ⟨zd_6, h⟩ := h
        refine aw_irem (q := 43) rfl rfl zd_6 ?_
        refine aw_goto (tgt := 47) rfl (by decide) ?_
        exact aw_ireturn (ty := .int) rfl rfl rfl (by decide) (by decide) h
    · replace h := h.2 cd_4
      refine aw_iload_n (q := 27) (j := 3) rfl rfl rfl (List.mem_of_getElem? (i := 3) rfl) ?_
      refine aw_iload_n (q := 28) (j := 2) rfl rfl rfl (List.mem_of_getElem? (i := 2) rfl) ?_
      obtain ⟨zd_7, h⟩ := h
      refine aw_idiv (q := 29) rfl rfl zd_7 ?_
      refine aw_istore_n (q := 30) (j := 3) (ls' := [(3, .int _), (0, .ref _), (1, .int _), (2, .int _), (4, .int _)]) rfl rfl rfl (by decide) rfl ?_
      refine aw_iinc (q := 33) (v := _ + (-1)) (ls' := [(4, .int _), (3, .int _), (0, .ref _), (1, .int _), (2, .int _)]) rfl rfl (List.mem_of_getElem? (i := 4) rfl) rfl (by decide) rfl ?_
      refine aw_goto (tgt := 16) rfl (by decide) ?_
      refine aw_ls [2, 3, 4, 1, 0] rfl ?_
      exact h
set_option maxRecDepth 20000 in
theorem v_Planner_grainOf {E : EN} {g : GS} {s : MS} {Q : Option Value → SG → Prop} (x1 : Int32) (x2 : Int32) (hS : SX g) (h : GI E m_Int_bitCount [.int (s.1 31 4)] g s (fun y1_ t1_ => AWP E m_Planner_grainOf 16 0 0 [(0, .ref 31), (1, .int x1), (2, .int x2), (3, .int (s.1 31 6)), (4, .int (y1_ - 1))] [] (mk g t1_) Q)) : AMet E m_Planner_grainOf [.ref 31, .int x1, .int x2] (mk g s) Q := by
  refine AMet.of (by decide) k_Planner_grainOf [(0, .ref 31), (1, .int x1), (2, .int x2)] (Nat.le_of_ble_eq_true rfl) rfl ?_
  refine aw_aload_n (q := 1) (j := 0) rfl rfl rfl (List.mem_of_getElem? (i := 0) rfl) ?_
  refine ag_getI (q := 4) rfl rfl fl_Planner_125 rfl (SX.o hS rfl) ?_
  refine aw_istore_n (q := 5) (j := 3) (ls' := [(3, .int _), (0, .ref _), (1, .int _), (2, .int _)]) rfl rfl rfl (by decide) rfl ?_
  refine aw_aload_n (q := 6) (j := 0) rfl rfl rfl (List.mem_of_getElem? (i := 1) rfl) ?_
  refine ag_getI (q := 9) rfl rfl fl_Planner_21 rfl (SX.o hS rfl) ?_
  refine ag_csI (z := m_Int_bitCount) (av := [.int _]) (st := []) (q := 12) (k' := 0) (n' := 0) rfl rfl cs_Planner_89 ⟨by decide, by decide⟩ rfl rfl (by decide) (by decide) rfl rfl (Nat.le_of_ble_eq_true rfl) ?_
  refine GI.mono h (fun y1_ t1_ h => ?_)
  refine aw_iconst (q := 13) (v := 1) rfl rfl (by decide) ?_
  refine aw_isub (q := 14) rfl rfl ?_
  refine aw_istore (q := 16) (j := 4) (ls' := [(4, .int _), (3, .int _), (0, .ref _), (1, .int _), (2, .int _)]) rfl rfl (by decide) rfl ?_
  refine aw_ls [2, 3, 4, 1, 0] rfl ?_
  exact h
set_option maxRecDepth 20000 in
theorem v_Planner_seekSwap_21 {E : EN} {g : GS} {s : MS} {Q : Option Value → SG → Prop} (b : Nat) (x3 : Int32) (t : Nat) (hS : SX g) (et : t = 88 ∨ t = 104) (hm : g.2.2 28 0 = some t) (h : (((s.1 t 12) ≤ x3 → Q none (mk g s)) ∧ (¬ (s.1 t 12) ≤ x3 → AWP E m_Planner_seekSwap 37 0 0 [(0, .ref 31), (1, .ref 28), (2, .ref b), (3, .int x3), (4, .int (x3 + 1))] [] (mk g s) Q))) : AWP E m_Planner_seekSwap 21 0 0 [(0, .ref 31), (1, .ref 28), (2, .ref b), (3, .int x3)] [] (mk g s) Q := by
  refine aw_iload_n (q := 22) (j := 3) rfl rfl rfl (List.mem_of_getElem? (i := 3) rfl) ?_
  refine aw_aload_n (q := 23) (j := 1) rfl rfl rfl (List.mem_of_getElem? (i := 1) rfl) ?_
  refine ag_getR (q := 26) rfl rfl fl_Planner_35 rfl (SX.o hS rfl) hm ?_
  refine ag_getI (q := 29) rfl rfl fl_Planner_135 rfl (TS.o (TS.of hS et)) ?_
  refine aw_icmp_ge (q := 32) (tgt := 128) rfl rfl (by decide) ⟨fun cd_1 => ?_, fun cd_1 => ?_⟩
  · replace h := h.1 cd_1
    exact aw_return rfl rfl (by decide) (by decide) h
  · replace h := h.2 cd_1
    refine aw_iload_n (q := 33) (j := 3) rfl rfl rfl (List.mem_of_getElem? (i := 3) rfl) ?_
    refine aw_iconst (q := 34) (v := 1) rfl rfl (by decide) ?_
    refine aw_iadd (q := 35) rfl rfl ?_
    refine aw_istore (q := 37) (j := 4) (ls' := [(4, .int _), (0, .ref _), (1, .ref _), (2, .ref _), (3, .int _)]) rfl rfl (by decide) rfl ?_
    refine aw_ls [1, 2, 3, 4, 0] rfl ?_
    exact h
set_option maxRecDepth 20000 in
theorem v_Planner_seekSwap_37 {E : EN} {g : GS} {s : MS} {Q : Option Value → SG → Prop} (b : Nat) (x3 : Int32) (x4 : Int32) (t : Nat) (hS : SX g) (et : t = 88 ∨ t = 104) (hm : g.2.2 28 0 = some t) (h : (((s.1 t 12) ≤ x4 → AWP E m_Planner_seekSwap 21 0 0 [(0, .ref 31), (1, .ref 28), (2, .ref b), (3, .int (x3 + 1))] [] (mk g s) Q) ∧ (¬ (s.1 t 12) ≤ x4 → GV E m_Mill_exchangeFar [.ref 28, .int x3, .int x4] g s (fun t1_ => (((t1_.1 31 3) = (-2) → GI E m_Planner_cleanBy [.ref 31, .ref 28, .ref b, .int 600] g t1_ (fun y2_ t2_ => GV E m_Mill_exchangeFar [.ref 28, .int x3, .int x4] g t2_ (fun t3_ => ((y2_ = (-2) → AWP E m_Planner_seekSwap 37 0 0 [(0, .ref 31), (1, .ref 28), (2, .ref b), (3, .int x3), (4, .int (x4 + 1))] [] (mk g t3_) Q) ∧ (¬ y2_ = (-2) → (∀ s4_, s4_ = wi t3_ 31 2 ((10 * x3) + x4) → (∀ s5_, s5_ = wi s4_ 31 3 y2_ → AWP E m_Planner_seekSwap 37 0 0 [(0, .ref 31), (1, .ref 28), (2, .ref b), (3, .int x3), (4, .int (x4 + 1))] [] (mk g s5_) Q))))))) ∧ (¬ (t1_.1 31 3) = (-2) → GI E m_Planner_cleanBy [.ref 31, .ref 28, .ref b, .int ((t1_.1 31 3) - 1)] g t1_ (fun y6_ t6_ => GV E m_Mill_exchangeFar [.ref 28, .int x3, .int x4] g t6_ (fun t7_ => ((y6_ = (-2) → AWP E m_Planner_seekSwap 37 0 0 [(0, .ref 31), (1, .ref 28), (2, .ref b), (3, .int x3), (4, .int (x4 + 1))] [] (mk g t7_) Q) ∧ (¬ y6_ = (-2) → (∀ s8_, s8_ = wi t7_ 31 2 ((10 * x3) + x4) → (∀ s9_, s9_ = wi s8_ 31 3 y6_ → AWP E m_Planner_seekSwap 37 0 0 [(0, .ref 31), (1, .ref 28), (2, .ref b), (3, .int x3), (4, .int (x4 + 1))] [] (mk g s9_) Q)))))))))))) : AWP E m_Planner_seekSwap 37 0 0 [(0, .ref 31), (1, .ref 28), (2, .ref b), (3, .int x3), (4, .int x4)] [] (mk g s) Q := by
  refine aw_iload (q := 39) (j := 4) rfl rfl (List.mem_of_getElem? (i := 4) rfl) ?_
  refine aw_aload_n (q := 40) (j := 1) rfl rfl rfl (List.mem_of_getElem? (i := 1) rfl) ?_
  refine ag_getR (q := 43) rfl rfl fl_Planner_35 rfl (SX.o hS rfl) hm ?_
  refine ag_getI (q := 46) rfl rfl fl_Planner_135 rfl (TS.o (TS.of hS et)) ?_
  refine aw_icmp_ge (q := 49) (tgt := 122) rfl rfl (by decide) ⟨fun cd_1 => ?_, fun cd_1 => ?_⟩
  · replace h := h.1 cd_1
    refine aw_iinc (q := 125) (v := _ + 1) (ls' := [(3, .int _), (0, .ref _), (1, .ref _), (2, .ref _), (4, .int _)]) rfl rfl (List.mem_of_getElem? (i := 3) rfl) rfl (by decide) rfl ?_
    refine aw_goto (tgt := 21) rfl (by decide) ?_
    refine aw_ls [1, 2, 3, 0] rfl ?_
    exact h
  · replace h := h.2 cd_1
    refine aw_aload_n (q := 50) (j := 1) rfl rfl rfl (List.mem_of_getElem? (i := 1) rfl) ?_
    refine aw_iload_n (q := 51) (j := 3) rfl rfl rfl (List.mem_of_getElem? (i := 3) rfl) ?_
    refine aw_iload (q := 53) (j := 4) rfl rfl (List.mem_of_getElem? (i := 4) rfl) ?_
    refine ag_cvV (z := m_Mill_exchangeFar) (ci := 4) (av := [.int _, .int _]) (st := []) (q := 56) (k' := 0) (n' := 0) rfl rfl cv_Planner_138 ⟨by decide, by decide⟩ rfl rfl (by decide) (by decide) (SX.o hS rfl) rfl rfl rfl (Nat.le_of_ble_eq_true rfl) ?_
    refine GV.mono h (fun t1_ h => ?_)
    refine aw_aload_n (q := 57) (j := 0) rfl rfl rfl (List.mem_of_getElem? (i := 0) rfl) ?_
    refine aw_aload_n (q := 58) (j := 1) rfl rfl rfl (List.mem_of_getElem? (i := 1) rfl) ?_
    refine aw_aload_n (q := 59) (j := 2) rfl rfl rfl (List.mem_of_getElem? (i := 2) rfl) ?_
    refine aw_aload_n (q := 60) (j := 0) rfl rfl rfl (List.mem_of_getElem? (i := 0) rfl) ?_
    refine ag_getI (q := 63) rfl rfl fl_Planner_68 rfl (SX.o hS rfl) ?_
    refine aw_bipush (q := 65) (v := (-2)) rfl rfl (by decide) ?_
    refine aw_icmp_ne (q := 68) (tgt := 74) rfl rfl (by decide) ⟨fun cd_2 => ?_, fun cd_2 => ?_⟩
    · replace h := h.1 cd_2
      refine aw_sipush (q := 71) (v := 600) rfl rfl (by decide) ?_
      refine aw_goto (tgt := 80) rfl (by decide) ?_
      refine ag_cvI (z := m_Planner_cleanBy) (ci := 5) (av := [.ref _, .ref _, .int _]) (st := []) (q := 83) (k' := 0) (n' := 0) rfl rfl cv_Planner_131 ⟨by decide, by decide⟩ rfl rfl (by decide) (by decide) (SX.o hS rfl) rfl rfl rfl (Nat.le_of_ble_eq_true rfl) ?_
      refine GI.mono h (fun y2_ t2_ h => ?_)
      refine aw_istore (q := 85) (j := 5) (ls' := [(5, .int _), (0, .ref _), (1, .ref _), (2, .ref _), (3, .int _), (4, .int _)]) rfl rfl (by decide) rfl ?_
      refine aw_aload_n (q := 86) (j := 1) rfl rfl rfl (List.mem_of_getElem? (i := 2) rfl) ?_
      refine aw_iload_n (q := 87) (j := 3) rfl rfl rfl (List.mem_of_getElem? (i := 4) rfl) ?_
      refine aw_iload (q := 89) (j := 4) rfl rfl (List.mem_of_getElem? (i := 5) rfl) ?_
      refine ag_cvV (z := m_Mill_exchangeFar) (ci := 4) (av := [.int _, .int _]) (st := []) (q := 92) (k' := 0) (n' := 0) rfl rfl cv_Planner_138 ⟨by decide, by decide⟩ rfl rfl (by decide) (by decide) (SX.o hS rfl) rfl rfl rfl (Nat.le_of_ble_eq_true rfl) ?_
      refine GV.mono h (fun t3_ h => ?_)
      refine aw_iload (q := 94) (j := 5) rfl rfl (List.mem_of_getElem? (i := 0) rfl) ?_
      refine aw_bipush (q := 96) (v := (-2)) rfl rfl (by decide) ?_
      refine aw_icmp_eq (q := 99) (tgt := 116) rfl rfl (by decide) ⟨fun cd_3 => ?_, fun cd_3 => ?_⟩
      · replace h := h.1 cd_3
        refine aw_iinc (q := 119) (v := _ + 1) (ls' := [(4, .int _), (5, .int _), (0, .ref _), (1, .ref _), (2, .ref _), (3, .int _)]) rfl rfl (List.mem_of_getElem? (i := 5) rfl) rfl (by decide) rfl ?_
        refine aw_goto (tgt := 37) rfl (by decide) ?_
        refine aw_ls [2, 3, 4, 5, 0] rfl ?_
        exact h
      · replace h := h.2 cd_3
        refine aw_aload_n (q := 100) (j := 0) rfl rfl rfl (List.mem_of_getElem? (i := 1) rfl) ?_
        refine aw_bipush (q := 102) (v := 10) rfl rfl (by decide) ?_
        refine aw_iload_n (q := 103) (j := 3) rfl rfl rfl (List.mem_of_getElem? (i := 4) rfl) ?_
        refine aw_imul (q := 104) rfl rfl ?_
        refine aw_iload (q := 106) (j := 4) rfl rfl (List.mem_of_getElem? (i := 5) rfl) ?_
        refine aw_iadd (q := 107) rfl rfl ?_
        refine ag_putI (q := 110) rfl rfl fl_Planner_65 rfl rfl (SX.o hS rfl) ?_
        replace h := h _ rfl
        refine aw_aload_n (q := 111) (j := 0) rfl rfl rfl (List.mem_of_getElem? (i := 1) rfl) ?_
        refine aw_iload (q := 113) (j := 5) rfl rfl (List.mem_of_getElem? (i := 0) rfl) ?_
        refine ag_putI (q := 116) rfl rfl fl_Planner_68 rfl rfl (SX.o hS rfl) ?_
        replace h := h _ rfl
        refine aw_iinc (q := 119) (v := _ + 1) (ls' := [(4, .int _), (5, .int _), (0, .ref _), (1, .ref _), (2, .ref _), (3, .int _)]) rfl rfl (List.mem_of_getElem? (i := 5) rfl) rfl (by decide) rfl ?_
        refine aw_goto (tgt := 37) rfl (by decide) ?_
        refine aw_ls [2, 3, 4, 5, 0] rfl ?_
        exact h
    · replace h := h.2 cd_2
      refine aw_aload_n (q := 75) (j := 0) rfl rfl rfl (List.mem_of_getElem? (i := 0) rfl) ?_
      refine ag_getI (q := 78) rfl rfl fl_Planner_68 rfl (SX.o hS rfl) ?_
      refine aw_iconst (q := 79) (v := 1) rfl rfl (by decide) ?_
      refine aw_isub (q := 80) rfl rfl ?_
      refine ag_cvI (z := m_Planner_cleanBy) (ci := 5) (av := [.ref _, .ref _, .int _]) (st := []) (q := 83) (k' := 0) (n' := 0) rfl rfl cv_Planner_131 ⟨by decide, by decide⟩ rfl rfl (by decide) (by decide) (SX.o hS rfl) rfl rfl rfl (Nat.le_of_ble_eq_true rfl) ?_
      refine GI.mono h (fun y6_ t6_ h => ?_)
      refine aw_istore (q := 85) (j := 5) (ls' := [(5, .int _), (0, .ref _), (1, .ref _), (2, .ref _), (3, .int _), (4, .int _)]) rfl rfl (by decide) rfl ?_
      refine aw_aload_n (q := 86) (j := 1) rfl rfl rfl (List.mem_of_getElem? (i := 2) rfl) ?_
      refine aw_iload_n (q := 87) (j := 3) rfl rfl rfl (List.mem_of_getElem? (i := 4) rfl) ?_
      refine aw_iload (q := 89) (j := 4) rfl rfl (List.mem_of_getElem? (i := 5) rfl) ?_
      refine ag_cvV (z := m_Mill_exchangeFar) (ci := 4) (av := [.int _, .int _]) (st := []) (q := 92) (k' := 0) (n' := 0) rfl rfl cv_Planner_138 ⟨by decide, by decide⟩ rfl rfl (by decide) (by decide) (SX.o hS rfl) rfl rfl rfl (Nat.le_of_ble_eq_true rfl) ?_
      refine GV.mono h (fun t7_ h => ?_)
      refine aw_iload (q := 94) (j := 5) rfl rfl (List.mem_of_getElem? (i := 0) rfl) ?_
      refine aw_bipush (q := 96) (v := (-2)) rfl rfl (by decide) ?_
      refine aw_icmp_eq (q := 99) (tgt := 116) rfl rfl (by decide) ⟨fun cd_4 => ?_, fun cd_4 => ?_⟩
      · replace h := h.1 cd_4
        refine aw_iinc (q := 119) (v := _ + 1) (ls' := [(4, .int _), (5, .int _), (0, .ref _), (1, .ref _), (2, .ref _), (3, .int _)]) rfl rfl (List.mem_of_getElem? (i := 5) rfl) rfl (by decide) rfl ?_
        refine aw_goto (tgt := 37) rfl (by decide) ?_
        refine aw_ls [2, 3, 4, 5, 0] rfl ?_
        exact h
      · replace h := h.2 cd_4
        refine aw_aload_n (q := 100) (j := 0) rfl rfl rfl (List.mem_of_getElem? (i := 1) rfl) ?_
        refine aw_bipush (q := 102) (v := 10) rfl rfl (by decide) ?_
        refine aw_iload_n (q := 103) (j := 3) rfl rfl rfl (List.mem_of_getElem? (i := 4) rfl) ?_
        refine aw_imul (q := 104) rfl rfl ?_
        refine aw_iload (q := 106) (j := 4) rfl rfl (List.mem_of_getElem? (i := 5) rfl) ?_
        refine aw_iadd (q := 107) rfl rfl ?_
        refine ag_putI (q := 110) rfl rfl fl_Planner_65 rfl rfl (SX.o hS rfl) ?_
        replace h := h _ rfl
        refine aw_aload_n (q := 111) (j := 0) rfl rfl rfl (List.mem_of_getElem? (i := 1) rfl) ?_
        refine aw_iload (q := 113) (j := 5) rfl rfl (List.mem_of_getElem? (i := 0) rfl) ?_
        refine ag_putI (q := 116) rfl rfl fl_Planner_68 rfl rfl (SX.o hS rfl) ?_
        replace h := h _ rfl
        refine aw_iinc (q := 119) (v := _ + 1) (ls' := [(4, .int _), (5, .int _), (0, .ref _), (1, .ref _), (2, .ref _), (3, .int _)]) rfl rfl (List.mem_of_getElem? (i := 5) rfl) rfl (by decide) rfl ?_
        refine aw_goto (tgt := 37) rfl (by decide) ?_
        refine aw_ls [2, 3, 4, 5, 0] rfl ?_
        exact h
set_option maxRecDepth 20000 in
theorem v_Planner_seekSwap {E : EN} {g : GS} {s : MS} {Q : Option Value → SG → Prop} (b : Nat) (hS : SX g) (h : (∀ s1_, s1_ = wi s 31 2 (-2) → GI E m_Planner_cleanBy [.ref 31, .ref 28, .ref b, .int 600] g s1_ (fun y2_ t2_ => (∀ s3_, s3_ = wi t2_ 31 3 y2_ → AWP E m_Planner_seekSwap 21 0 0 [(0, .ref 31), (1, .ref 28), (2, .ref b), (3, .int 0)] [] (mk g s3_) Q)))) : AMet E m_Planner_seekSwap [.ref 31, .ref 28, .ref b] (mk g s) Q := by
  refine AMet.of (by decide) k_Planner_seekSwap [(0, .ref 31), (1, .ref 28), (2, .ref b)] (Nat.le_of_ble_eq_true rfl) rfl ?_
  refine aw_aload_n (q := 1) (j := 0) rfl rfl rfl (List.mem_of_getElem? (i := 0) rfl) ?_
  refine aw_bipush (q := 3) (v := (-2)) rfl rfl (by decide) ?_
  refine ag_putI (q := 6) rfl rfl fl_Planner_65 rfl rfl (SX.o hS rfl) ?_
  replace h := h _ rfl
  refine aw_aload_n (q := 7) (j := 0) rfl rfl rfl (List.mem_of_getElem? (i := 0) rfl) ?_
  refine aw_aload_n (q := 8) (j := 0) rfl rfl rfl (List.mem_of_getElem? (i := 0) rfl) ?_
  refine aw_aload_n (q := 9) (j := 1) rfl rfl rfl (List.mem_of_getElem? (i := 1) rfl) ?_
  refine aw_aload_n (q := 10) (j := 2) rfl rfl rfl (List.mem_of_getElem? (i := 2) rfl) ?_
  refine aw_sipush (q := 13) (v := 600) rfl rfl (by decide) ?_
  refine ag_cvI (z := m_Planner_cleanBy) (ci := 5) (av := [.ref _, .ref _, .int _]) (st := [.ref _]) (q := 16) (k' := 0) (n' := 0) rfl rfl cv_Planner_131 ⟨by decide, by decide⟩ rfl rfl (by decide) (by decide) (SX.o hS rfl) rfl rfl rfl (Nat.le_of_ble_eq_true rfl) ?_
  refine GI.mono h (fun y2_ t2_ h => ?_)
  refine ag_putI (q := 19) rfl rfl fl_Planner_68 rfl rfl (SX.o hS rfl) ?_
  replace h := h _ rfl
  refine aw_iconst (q := 20) (v := 0) rfl rfl (by decide) ?_
  refine aw_istore_n (q := 21) (j := 3) (ls' := [(3, .int _), (0, .ref _), (1, .ref _), (2, .ref _)]) rfl rfl rfl (by decide) rfl ?_
  refine aw_ls [1, 2, 3, 0] rfl ?_
  exact h
set_option maxRecDepth 20000 in
theorem v_Planner_seekMissed_15 {E : EN} {g : GS} {s : MS} {Q : Option Value → SG → Prop} (b : Nat) (x3 : Int32) (x4 : Int32) (t : Nat) (hS : SX g) (h_b : HS g b) (et : t = 88 ∨ t = 104) (hm : g.2.2 28 0 = some t) (h : (((s.1 t 13) ≤ x4 → Q none (mk g s)) ∧ (¬ (s.1 t 13) ≤ x4 → vp_in x4 8 ∧ (((s.1 (b + 4 + (x4).toNatClampNeg) 0) = 3 → AWP E m_Planner_seekMissed 15 0 0 [(0, .ref 31), (1, .ref 28), (2, .ref b), (3, .int x3), (4, .int (x4 + 1))] [] (mk g s) Q) ∧ (¬ (s.1 (b + 4 + (x4).toNatClampNeg) 0) = 3 → GV E m_House_take [.ref 32, .ref b] g s (fun t1_ => GV E m_House_sendHome [.ref 32, .int x4] g t1_ (fun t2_ => GV E m_Mill_goOn [.ref 28, .ref 32, .int x3] g t2_ (fun t3_ => GI E m_House_allWorth [.ref 32, .ref t] g t3_ (fun y4_ t4_ => (((t4_.1 31 2) = (-2) → (∀ s5_, s5_ = wi t4_ 31 2 x4 → (∀ s6_, s6_ = wi s5_ 31 3 y4_ → AWP E m_Planner_seekMissed 15 0 0 [(0, .ref 31), (1, .ref 28), (2, .ref b), (3, .int x3), (4, .int (x4 + 1))] [] (mk g s6_) Q))) ∧ (¬ (t4_.1 31 2) = (-2) → (((t4_.1 31 3) ≤ y4_ → AWP E m_Planner_seekMissed 15 0 0 [(0, .ref 31), (1, .ref 28), (2, .ref b), (3, .int x3), (4, .int (x4 + 1))] [] (mk g t4_) Q) ∧ (¬ (t4_.1 31 3) ≤ y4_ → (∀ s7_, s7_ = wi t4_ 31 2 x4 → (∀ s8_, s8_ = wi s7_ 31 3 y4_ → AWP E m_Planner_seekMissed 15 0 0 [(0, .ref 31), (1, .ref 28), (2, .ref b), (3, .int x3), (4, .int (x4 + 1))] [] (mk g s8_) Q))))))))))))))) : AWP E m_Planner_seekMissed 15 0 0 [(0, .ref 31), (1, .ref 28), (2, .ref b), (3, .int x3), (4, .int x4)] [] (mk g s) Q := by
  refine aw_iload (q := 17) (j := 4) rfl rfl (List.mem_of_getElem? (i := 4) rfl) ?_
  refine aw_aload_n (q := 18) (j := 1) rfl rfl rfl (List.mem_of_getElem? (i := 1) rfl) ?_
  refine ag_getR (q := 21) rfl rfl fl_Planner_35 rfl (SX.o hS rfl) hm ?_
  refine ag_getI (q := 24) rfl rfl fl_Planner_71 rfl (TS.o (TS.of hS et)) ?_
  refine aw_icmp_ge (q := 27) (tgt := 119) rfl rfl (by decide) ⟨fun cd_1 => ?_, fun cd_1 => ?_⟩
  · replace h := h.1 cd_1
    exact aw_return rfl rfl (by decide) (by decide) h
  · replace h := h.2 cd_1
    refine aw_aload_n (q := 28) (j := 2) rfl rfl rfl (List.mem_of_getElem? (i := 2) rfl) ?_
    refine ag_getR (q := 31) rfl rfl fl_Planner_46 rfl (HS.o h_b) (HS.r2 h_b) ?_
    refine aw_iload (q := 33) (j := 4) rfl rfl (List.mem_of_getElem? (i := 4) rfl) ?_
    obtain ⟨bd_2, h⟩ := h
    refine ag_aaload (q := 34) rfl rfl (Or.inr rfl) (HS.a2 h_b) bd_2 (HS.rr h_b bd_2) ?_
    refine ag_getI (q := 37) rfl rfl fl_Planner_99 rfl (HS.ro h_b bd_2) ?_
    refine aw_iconst (q := 38) (v := 3) rfl rfl (by decide) ?_
    refine aw_icmp_ne (q := 41) (tgt := 44) rfl rfl (by decide) ⟨fun cd_3 => ?_, fun cd_3 => ?_⟩
    · replace h := h.1 cd_3
      refine aw_goto (tgt := 113) rfl (by decide) ?_
      refine aw_iinc (q := 116) (v := _ + 1) (ls' := [(4, .int _), (0, .ref _), (1, .ref _), (2, .ref _), (3, .int _)]) rfl rfl (List.mem_of_getElem? (i := 4) rfl) rfl (by decide) rfl ?_
      refine aw_goto (tgt := 15) rfl (by decide) ?_
      refine aw_ls [1, 2, 3, 4, 0] rfl ?_
      exact h
    · replace h := h.2 cd_3
      refine aw_aload_n (q := 45) (j := 0) rfl rfl rfl (List.mem_of_getElem? (i := 0) rfl) ?_
      refine ag_getR (q := 48) rfl rfl fl_Planner_12 rfl (SX.o hS rfl) (SX.r hS rfl) ?_
      refine aw_aload_n (q := 49) (j := 2) rfl rfl rfl (List.mem_of_getElem? (i := 2) rfl) ?_
      refine ag_cvV (z := m_House_take) (ci := 2) (av := [.ref _]) (st := []) (q := 52) (k' := 0) (n' := 0) rfl rfl cv_Planner_25 ⟨by decide, by decide⟩ rfl rfl (by decide) (by decide) (HS.o (HS.of hS (b := 32) rfl)) rfl rfl rfl (Nat.le_of_ble_eq_true rfl) ?_
      refine GV.mono h (fun t1_ h => ?_)
      refine aw_aload_n (q := 53) (j := 0) rfl rfl rfl (List.mem_of_getElem? (i := 0) rfl) ?_
      refine ag_getR (q := 56) rfl rfl fl_Planner_12 rfl (SX.o hS rfl) (SX.r hS rfl) ?_
      refine aw_iload (q := 58) (j := 4) rfl rfl (List.mem_of_getElem? (i := 4) rfl) ?_
      refine ag_cvV (z := m_House_sendHome) (ci := 2) (av := [.int _]) (st := []) (q := 61) (k' := 0) (n' := 0) rfl rfl cv_Planner_106 ⟨by decide, by decide⟩ rfl rfl (by decide) (by decide) (HS.o (HS.of hS (b := 32) rfl)) rfl rfl rfl (Nat.le_of_ble_eq_true rfl) ?_
      refine GV.mono h (fun t2_ h => ?_)
      refine aw_aload_n (q := 62) (j := 1) rfl rfl rfl (List.mem_of_getElem? (i := 1) rfl) ?_
      refine aw_aload_n (q := 63) (j := 0) rfl rfl rfl (List.mem_of_getElem? (i := 0) rfl) ?_
      refine ag_getR (q := 66) rfl rfl fl_Planner_12 rfl (SX.o hS rfl) (SX.r hS rfl) ?_
      refine aw_iload_n (q := 67) (j := 3) rfl rfl rfl (List.mem_of_getElem? (i := 3) rfl) ?_
      refine ag_cvV (z := m_Mill_goOn) (ci := 4) (av := [.ref _, .int _]) (st := []) (q := 70) (k' := 0) (n' := 0) rfl rfl cv_Planner_29 ⟨by decide, by decide⟩ rfl rfl (by decide) (by decide) (SX.o hS rfl) rfl rfl rfl (Nat.le_of_ble_eq_true rfl) ?_
      refine GV.mono h (fun t3_ h => ?_)
      refine aw_aload_n (q := 71) (j := 0) rfl rfl rfl (List.mem_of_getElem? (i := 0) rfl) ?_
      refine ag_getR (q := 74) rfl rfl fl_Planner_12 rfl (SX.o hS rfl) (SX.r hS rfl) ?_
      refine aw_aload_n (q := 75) (j := 1) rfl rfl rfl (List.mem_of_getElem? (i := 1) rfl) ?_
      refine ag_getR (q := 78) rfl rfl fl_Planner_35 rfl (SX.o hS rfl) hm ?_
      refine ag_cvI (z := m_House_allWorth) (ci := 2) (av := [.ref _]) (st := []) (q := 81) (k' := 0) (n' := 0) rfl rfl cv_Planner_122 ⟨by decide, by decide⟩ rfl rfl (by decide) (by decide) (HS.o (HS.of hS (b := 32) rfl)) rfl rfl rfl (Nat.le_of_ble_eq_true rfl) ?_
      refine GI.mono h (fun y4_ t4_ h => ?_)
      refine aw_istore (q := 83) (j := 5) (ls' := [(5, .int _), (0, .ref _), (1, .ref _), (2, .ref _), (3, .int _), (4, .int _)]) rfl rfl (by decide) rfl ?_
      refine aw_aload_n (q := 84) (j := 0) rfl rfl rfl (List.mem_of_getElem? (i := 1) rfl) ?_
      refine ag_getI (q := 87) rfl rfl fl_Planner_65 rfl (SX.o hS rfl) ?_
      refine aw_bipush (q := 89) (v := (-2)) rfl rfl (by decide) ?_
      refine aw_icmp_eq (q := 92) (tgt := 101) rfl rfl (by decide) ⟨fun cd_4 => ?_, fun cd_4 => ?_⟩
      · replace h := h.1 cd_4
        refine aw_aload_n (q := 102) (j := 0) rfl rfl rfl (List.mem_of_getElem? (i := 1) rfl) ?_
        refine aw_iload (q := 104) (j := 4) rfl rfl (List.mem_of_getElem? (i := 5) rfl) ?_
        refine ag_putI (q := 107) rfl rfl fl_Planner_65 rfl rfl (SX.o hS rfl) ?_
        replace h := h _ rfl
        refine aw_aload_n (q := 108) (j := 0) rfl rfl rfl (List.mem_of_getElem? (i := 1) rfl) ?_
        refine aw_iload (q := 110) (j := 5) rfl rfl (List.mem_of_getElem? (i := 0) rfl) ?_
        refine ag_putI (q := 113) rfl rfl fl_Planner_68 rfl rfl (SX.o hS rfl) ?_
        replace h := h _ rfl
        refine aw_iinc (q := 116) (v := _ + 1) (ls' := [(4, .int _), (5, .int _), (0, .ref _), (1, .ref _), (2, .ref _), (3, .int _)]) rfl rfl (List.mem_of_getElem? (i := 5) rfl) rfl (by decide) rfl ?_
        refine aw_goto (tgt := 15) rfl (by decide) ?_
        refine aw_ls [2, 3, 4, 5, 0] rfl ?_
        exact h
      · replace h := h.2 cd_4
        refine aw_iload (q := 94) (j := 5) rfl rfl (List.mem_of_getElem? (i := 0) rfl) ?_
        refine aw_aload_n (q := 95) (j := 0) rfl rfl rfl (List.mem_of_getElem? (i := 1) rfl) ?_
        refine ag_getI (q := 98) rfl rfl fl_Planner_68 rfl (SX.o hS rfl) ?_
        refine aw_icmp_ge (q := 101) (tgt := 113) rfl rfl (by decide) ⟨fun cd_5 => ?_, fun cd_5 => ?_⟩
        · replace h := h.1 cd_5
          refine aw_iinc (q := 116) (v := _ + 1) (ls' := [(4, .int _), (5, .int _), (0, .ref _), (1, .ref _), (2, .ref _), (3, .int _)]) rfl rfl (List.mem_of_getElem? (i := 5) rfl) rfl (by decide) rfl ?_
          refine aw_goto (tgt := 15) rfl (by decide) ?_
          refine aw_ls [2, 3, 4, 5, 0] rfl ?_
          exact h
        · replace h := h.2 cd_5
          refine aw_aload_n (q := 102) (j := 0) rfl rfl rfl (List.mem_of_getElem? (i := 1) rfl) ?_
          refine aw_iload (q := 104) (j := 4) rfl rfl (List.mem_of_getElem? (i := 5) rfl) ?_
          refine ag_putI (q := 107) rfl rfl fl_Planner_65 rfl rfl (SX.o hS rfl) ?_
          replace h := h _ rfl
          refine aw_aload_n (q := 108) (j := 0) rfl rfl rfl (List.mem_of_getElem? (i := 1) rfl) ?_
          refine aw_iload (q := 110) (j := 5) rfl rfl (List.mem_of_getElem? (i := 0) rfl) ?_
          refine ag_putI (q := 113) rfl rfl fl_Planner_68 rfl rfl (SX.o hS rfl) ?_
          replace h := h _ rfl
          refine aw_iinc (q := 116) (v := _ + 1) (ls' := [(4, .int _), (5, .int _), (0, .ref _), (1, .ref _), (2, .ref _), (3, .int _)]) rfl rfl (List.mem_of_getElem? (i := 5) rfl) rfl (by decide) rfl ?_
          refine aw_goto (tgt := 15) rfl (by decide) ?_
          refine aw_ls [2, 3, 4, 5, 0] rfl ?_
          exact h
set_option maxRecDepth 20000 in
theorem v_Planner_seekMissed {E : EN} {g : GS} {s : MS} {Q : Option Value → SG → Prop} (b : Nat) (x3 : Int32) (hS : SX g) (h : (∀ s1_, s1_ = wi s 31 2 (-2) → (∀ s2_, s2_ = wi s1_ 31 3 (-2) → AWP E m_Planner_seekMissed 15 0 0 [(0, .ref 31), (1, .ref 28), (2, .ref b), (3, .int x3), (4, .int 0)] [] (mk g s2_) Q))) : AMet E m_Planner_seekMissed [.ref 31, .ref 28, .ref b, .int x3] (mk g s) Q := by
  refine AMet.of (by decide) k_Planner_seekMissed [(0, .ref 31), (1, .ref 28), (2, .ref b), (3, .int x3)] (Nat.le_of_ble_eq_true rfl) rfl ?_
  refine aw_aload_n (q := 1) (j := 0) rfl rfl rfl (List.mem_of_getElem? (i := 0) rfl) ?_
  refine aw_bipush (q := 3) (v := (-2)) rfl rfl (by decide) ?_
  refine ag_putI (q := 6) rfl rfl fl_Planner_65 rfl rfl (SX.o hS rfl) ?_
  replace h := h _ rfl
  refine aw_aload_n (q := 7) (j := 0) rfl rfl rfl (List.mem_of_getElem? (i := 0) rfl) ?_
  refine aw_bipush (q := 9) (v := (-2)) rfl rfl (by decide) ?_
  refine ag_putI (q := 12) rfl rfl fl_Planner_68 rfl rfl (SX.o hS rfl) ?_
  replace h := h _ rfl
  refine aw_iconst (q := 13) (v := 0) rfl rfl (by decide) ?_
  refine aw_istore (q := 15) (j := 4) (ls' := [(4, .int _), (0, .ref _), (1, .ref _), (2, .ref _), (3, .int _)]) rfl rfl (by decide) rfl ?_
  refine aw_ls [1, 2, 3, 4, 0] rfl ?_
  exact h
set_option maxRecDepth 20000 in
theorem v_Planner_seekCat_21 {E : EN} {g : GS} {s : MS} {Q : Option Value → SG → Prop} (b : Nat) (x3 : Int32) (x4 : Int32) (t : Nat) (hS : SX g) (hm : g.2.2 28 0 = some t) (h : ((x3 ≤ x4 → Q none (mk g s)) ∧ (¬ x3 ≤ x4 → GV E m_House_take [.ref 32, .ref 44] g s (fun t1_ => (∀ s2_, s2_ = wi t1_ 32 4 ((t1_.1 32 4) + 10) → GV E m_Mill_goOn [.ref 28, .ref 32, .int ((x3 + 10) - x4)] g s2_ (fun t3_ => GI E m_House_allWorth [.ref 32, .ref t] g t3_ (fun y4_ t4_ => ((y4_ ≤ (t4_.1 31 3) → GV E m_Mill_goMinute [.ref 28, .ref 44] g t4_ (fun t5_ => AWP E m_Planner_seekCat 21 0 0 [(0, .ref 31), (1, .ref 28), (2, .ref b), (3, .int x3), (4, .int (x4 + 1))] [] (mk g t5_) Q)) ∧ (¬ y4_ ≤ (t4_.1 31 3) → (∀ s6_, s6_ = wi t4_ 31 2 x4 → (∀ s7_, s7_ = wi s6_ 31 3 y4_ → GV E m_Mill_goMinute [.ref 28, .ref 44] g s7_ (fun t8_ => AWP E m_Planner_seekCat 21 0 0 [(0, .ref 31), (1, .ref 28), (2, .ref b), (3, .int x3), (4, .int (x4 + 1))] [] (mk g t8_) Q)))))))))))) : AWP E m_Planner_seekCat 21 0 0 [(0, .ref 31), (1, .ref 28), (2, .ref b), (3, .int x3), (4, .int x4)] [] (mk g s) Q := by
  refine aw_iload (q := 23) (j := 4) rfl rfl (List.mem_of_getElem? (i := 4) rfl) ?_
  refine aw_iload_n (q := 24) (j := 3) rfl rfl rfl (List.mem_of_getElem? (i := 3) rfl) ?_
  refine aw_icmp_ge (q := 27) (tgt := 115) rfl rfl (by decide) ⟨fun cd_1 => ?_, fun cd_1 => ?_⟩
  · replace h := h.1 cd_1
    exact aw_return rfl rfl (by decide) (by decide) h
  · replace h := h.2 cd_1
    refine aw_aload_n (q := 28) (j := 0) rfl rfl rfl (List.mem_of_getElem? (i := 0) rfl) ?_
    refine ag_getR (q := 31) rfl rfl fl_Planner_12 rfl (SX.o hS rfl) (SX.r hS rfl) ?_
    refine aw_aload_n (q := 32) (j := 0) rfl rfl rfl (List.mem_of_getElem? (i := 0) rfl) ?_
    refine ag_getR (q := 35) rfl rfl fl_Planner_18 rfl (SX.o hS rfl) (SX.r hS rfl) ?_
    refine ag_cvV (z := m_House_take) (ci := 2) (av := [.ref _]) (st := []) (q := 38) (k' := 0) (n' := 0) rfl rfl cv_Planner_25 ⟨by decide, by decide⟩ rfl rfl (by decide) (by decide) (HS.o (HS.of hS (b := 32) rfl)) rfl rfl rfl (Nat.le_of_ble_eq_true rfl) ?_
    refine GV.mono h (fun t1_ h => ?_)
    refine aw_aload_n (q := 39) (j := 0) rfl rfl rfl (List.mem_of_getElem? (i := 0) rfl) ?_
    refine ag_getR (q := 42) rfl rfl fl_Planner_12 rfl (SX.o hS rfl) (SX.r hS rfl) ?_
    refine aw_dup (q := 43) rfl rfl rfl ?_
    refine ag_getI (q := 46) rfl rfl fl_Planner_142 rfl (HS.o (HS.of hS (b := 32) rfl)) ?_
    refine aw_bipush (q := 48) (v := 10) rfl rfl (by decide) ?_
    refine aw_iadd (q := 49) rfl rfl ?_
    refine ag_putI (q := 52) rfl rfl fl_Planner_142 rfl rfl (HS.o (HS.of hS (b := 32) rfl)) ?_
    replace h := h _ rfl
    refine aw_aload_n (q := 53) (j := 1) rfl rfl rfl (List.mem_of_getElem? (i := 1) rfl) ?_
    refine aw_aload_n (q := 54) (j := 0) rfl rfl rfl (List.mem_of_getElem? (i := 0) rfl) ?_
    refine ag_getR (q := 57) rfl rfl fl_Planner_12 rfl (SX.o hS rfl) (SX.r hS rfl) ?_
    refine aw_iload_n (q := 58) (j := 3) rfl rfl rfl (List.mem_of_getElem? (i := 3) rfl) ?_
    refine aw_bipush (q := 60) (v := 10) rfl rfl (by decide) ?_
    refine aw_iadd (q := 61) rfl rfl ?_
    refine aw_iload (q := 63) (j := 4) rfl rfl (List.mem_of_getElem? (i := 4) rfl) ?_
    refine aw_isub (q := 64) rfl rfl ?_
    refine ag_cvV (z := m_Mill_goOn) (ci := 4) (av := [.ref _, .int _]) (st := []) (q := 67) (k' := 0) (n' := 0) rfl rfl cv_Planner_29 ⟨by decide, by decide⟩ rfl rfl (by decide) (by decide) (SX.o hS rfl) rfl rfl rfl (Nat.le_of_ble_eq_true rfl) ?_
    refine GV.mono h (fun t3_ h => ?_)
    refine aw_aload_n (q := 68) (j := 0) rfl rfl rfl (List.mem_of_getElem? (i := 0) rfl) ?_
    refine ag_getR (q := 71) rfl rfl fl_Planner_12 rfl (SX.o hS rfl) (SX.r hS rfl) ?_
    refine aw_aload_n (q := 72) (j := 1) rfl rfl rfl (List.mem_of_getElem? (i := 1) rfl) ?_
    refine ag_getR (q := 75) rfl rfl fl_Planner_35 rfl (SX.o hS rfl) hm ?_
    refine ag_cvI (z := m_House_allWorth) (ci := 2) (av := [.ref _]) (st := []) (q := 78) (k' := 0) (n' := 0) rfl rfl cv_Planner_122 ⟨by decide, by decide⟩ rfl rfl (by decide) (by decide) (HS.o (HS.of hS (b := 32) rfl)) rfl rfl rfl (Nat.le_of_ble_eq_true rfl) ?_
    refine GI.mono h (fun y4_ t4_ h => ?_)
    refine aw_istore (q := 80) (j := 5) (ls' := [(5, .int _), (0, .ref _), (1, .ref _), (2, .ref _), (3, .int _), (4, .int _)]) rfl rfl (by decide) rfl ?_
    refine aw_iload (q := 82) (j := 5) rfl rfl (List.mem_of_getElem? (i := 0) rfl) ?_
    refine aw_aload_n (q := 83) (j := 0) rfl rfl rfl (List.mem_of_getElem? (i := 1) rfl) ?_
    refine ag_getI (q := 86) rfl rfl fl_Planner_68 rfl (SX.o hS rfl) ?_
    refine aw_icmp_le (q := 89) (tgt := 101) rfl rfl (by decide) ⟨fun cd_2 => ?_, fun cd_2 => ?_⟩
    · replace h := h.1 cd_2
      refine aw_aload_n (q := 102) (j := 1) rfl rfl rfl (List.mem_of_getElem? (i := 2) rfl) ?_
      refine aw_aload_n (q := 103) (j := 0) rfl rfl rfl (List.mem_of_getElem? (i := 1) rfl) ?_
      refine ag_getR (q := 106) rfl rfl fl_Planner_18 rfl (SX.o hS rfl) (SX.r hS rfl) ?_
      refine ag_cvV (z := m_Mill_goMinute) (ci := 4) (av := [.ref _]) (st := []) (q := 109) (k' := 0) (n' := 0) rfl rfl cv_Planner_43 ⟨by decide, by decide⟩ rfl rfl (by decide) (by decide) (SX.o hS rfl) rfl rfl rfl (Nat.le_of_ble_eq_true rfl) ?_
      refine GV.mono h (fun t5_ h => ?_)
      refine aw_iinc (q := 112) (v := _ + 1) (ls' := [(4, .int _), (5, .int _), (0, .ref _), (1, .ref _), (2, .ref _), (3, .int _)]) rfl rfl (List.mem_of_getElem? (i := 5) rfl) rfl (by decide) rfl ?_
      refine aw_goto (tgt := 21) rfl (by decide) ?_
      refine aw_ls [2, 3, 4, 5, 0] rfl ?_
      exact h
    · replace h := h.2 cd_2
      refine aw_aload_n (q := 90) (j := 0) rfl rfl rfl (List.mem_of_getElem? (i := 1) rfl) ?_
      refine aw_iload (q := 92) (j := 4) rfl rfl (List.mem_of_getElem? (i := 5) rfl) ?_
      refine ag_putI (q := 95) rfl rfl fl_Planner_65 rfl rfl (SX.o hS rfl) ?_
      replace h := h _ rfl
      refine aw_aload_n (q := 96) (j := 0) rfl rfl rfl (List.mem_of_getElem? (i := 1) rfl) ?_
      refine aw_iload (q := 98) (j := 5) rfl rfl (List.mem_of_getElem? (i := 0) rfl) ?_
      refine ag_putI (q := 101) rfl rfl fl_Planner_68 rfl rfl (SX.o hS rfl) ?_
      replace h := h _ rfl
      refine aw_aload_n (q := 102) (j := 1) rfl rfl rfl (List.mem_of_getElem? (i := 2) rfl) ?_
      refine aw_aload_n (q := 103) (j := 0) rfl rfl rfl (List.mem_of_getElem? (i := 1) rfl) ?_
      refine ag_getR (q := 106) rfl rfl fl_Planner_18 rfl (SX.o hS rfl) (SX.r hS rfl) ?_
      refine ag_cvV (z := m_Mill_goMinute) (ci := 4) (av := [.ref _]) (st := []) (q := 109) (k' := 0) (n' := 0) rfl rfl cv_Planner_43 ⟨by decide, by decide⟩ rfl rfl (by decide) (by decide) (SX.o hS rfl) rfl rfl rfl (Nat.le_of_ble_eq_true rfl) ?_
      refine GV.mono h (fun t8_ h => ?_)
      refine aw_iinc (q := 112) (v := _ + 1) (ls' := [(4, .int _), (5, .int _), (0, .ref _), (1, .ref _), (2, .ref _), (3, .int _)]) rfl rfl (List.mem_of_getElem? (i := 5) rfl) rfl (by decide) rfl ?_
      refine aw_goto (tgt := 21) rfl (by decide) ?_
      refine aw_ls [2, 3, 4, 5, 0] rfl ?_
      exact h
set_option maxRecDepth 20000 in
theorem v_Planner_seekCat {E : EN} {g : GS} {s : MS} {Q : Option Value → SG → Prop} (b : Nat) (x3 : Int32) (hS : SX g) (h : (∀ s1_, s1_ = wi s 31 2 (-1) → (∀ s2_, s2_ = wi s1_ 31 3 (-1) → GV E m_House_take [.ref 44, .ref b] g s2_ (fun t3_ => AWP E m_Planner_seekCat 21 0 0 [(0, .ref 31), (1, .ref 28), (2, .ref b), (3, .int x3), (4, .int 0)] [] (mk g t3_) Q)))) : AMet E m_Planner_seekCat [.ref 31, .ref 28, .ref b, .int x3] (mk g s) Q := by
  refine AMet.of (by decide) k_Planner_seekCat [(0, .ref 31), (1, .ref 28), (2, .ref b), (3, .int x3)] (Nat.le_of_ble_eq_true rfl) rfl ?_
  refine aw_aload_n (q := 1) (j := 0) rfl rfl rfl (List.mem_of_getElem? (i := 0) rfl) ?_
  refine aw_iconst (q := 2) (v := (-1)) rfl rfl (by decide) ?_
  refine ag_putI (q := 5) rfl rfl fl_Planner_65 rfl rfl (SX.o hS rfl) ?_
  replace h := h _ rfl
  refine aw_aload_n (q := 6) (j := 0) rfl rfl rfl (List.mem_of_getElem? (i := 0) rfl) ?_
  refine aw_iconst (q := 7) (v := (-1)) rfl rfl (by decide) ?_
  refine ag_putI (q := 10) rfl rfl fl_Planner_68 rfl rfl (SX.o hS rfl) ?_
  replace h := h _ rfl
  refine aw_aload_n (q := 11) (j := 0) rfl rfl rfl (List.mem_of_getElem? (i := 0) rfl) ?_
  refine ag_getR (q := 14) rfl rfl fl_Planner_18 rfl (SX.o hS rfl) (SX.r hS rfl) ?_
  refine aw_aload_n (q := 15) (j := 2) rfl rfl rfl (List.mem_of_getElem? (i := 2) rfl) ?_
  refine ag_cvV (z := m_House_take) (ci := 2) (av := [.ref _]) (st := []) (q := 18) (k' := 0) (n' := 0) rfl rfl cv_Planner_25 ⟨by decide, by decide⟩ rfl rfl (by decide) (by decide) (HS.o (HS.of hS (b := 44) rfl)) rfl rfl rfl (Nat.le_of_ble_eq_true rfl) ?_
  refine GV.mono h (fun t3_ h => ?_)
  refine aw_iconst (q := 19) (v := 0) rfl rfl (by decide) ?_
  refine aw_istore (q := 21) (j := 4) (ls' := [(4, .int _), (0, .ref _), (1, .ref _), (2, .ref _), (3, .int _)]) rfl rfl (by decide) rfl ?_
  refine aw_ls [1, 2, 3, 4, 0] rfl ?_
  exact h
set_option maxRecDepth 20000 in
theorem v_Planner_starvesBy_11 {E : EN} {g : GS} {s : MS} {Q : Option Value → SG → Prop} (b : Nat) (x3 : Int32) (x4 : Int32) (hS : SX g) (h : ((600 < x4 → Q (some (.int (-2))) (mk g s)) ∧ (¬ 600 < x4 → vp_in x3 8 ∧ (((s.1 (36 + (x3).toNatClampNeg) 4) < 99 → GV E m_Mill_goMinute [.ref 28, .ref 32] g s (fun t1_ => AWP E m_Planner_starvesBy 11 0 0 [(0, .ref 31), (1, .ref 28), (2, .ref b), (3, .int x3), (4, .int (x4 + 1))] [] (mk g t1_) Q)) ∧ (¬ (s.1 (36 + (x3).toNatClampNeg) 4) < 99 → Q (some (.int x4)) (mk g s)))))) : AWP E m_Planner_starvesBy 11 0 0 [(0, .ref 31), (1, .ref 28), (2, .ref b), (3, .int x3), (4, .int x4)] [] (mk g s) Q := by
  refine aw_iload (q := 13) (j := 4) rfl rfl (List.mem_of_getElem? (i := 4) rfl) ?_
  refine aw_sipush (q := 16) (v := 600) rfl rfl (by decide) ?_
  refine aw_icmp_gt (q := 19) (tgt := 53) rfl rfl (by decide) ⟨fun cd_1 => ?_, fun cd_1 => ?_⟩
  · replace h := h.1 cd_1
    refine aw_bipush (q := 55) (v := (-2)) rfl rfl (by decide) ?_
    exact aw_ireturn (ty := .int) rfl rfl rfl (by decide) (by decide) h
  · replace h := h.2 cd_1
    refine aw_aload_n (q := 20) (j := 0) rfl rfl rfl (List.mem_of_getElem? (i := 0) rfl) ?_
    refine ag_getR (q := 23) rfl rfl fl_Planner_12 rfl (SX.o hS rfl) (SX.r hS rfl) ?_
    refine ag_getR (q := 26) rfl rfl fl_Planner_46 rfl (HS.o (HS.of hS (b := 32) rfl)) (HS.r2 (HS.of hS (b := 32) rfl)) ?_
    refine aw_iload_n (q := 27) (j := 3) rfl rfl rfl (List.mem_of_getElem? (i := 3) rfl) ?_
    obtain ⟨bd_2, h⟩ := h
    refine ag_aaload (q := 28) rfl rfl (Or.inr rfl) (HS.a2 (HS.of hS (b := 32) rfl)) bd_2 (HS.rr (HS.of hS (b := 32) rfl) bd_2) ?_
    refine ag_getI (q := 31) rfl rfl fl_Planner_50 rfl (HS.ro (HS.of hS (b := 32) rfl) bd_2) ?_
    refine aw_bipush (q := 33) (v := 99) rfl rfl (by decide) ?_
    refine aw_icmp_lt (q := 36) (tgt := 39) rfl rfl (by decide) ⟨fun cd_3 => ?_, fun cd_3 => ?_⟩
    · replace h := h.1 cd_3
      refine aw_aload_n (q := 40) (j := 1) rfl rfl rfl (List.mem_of_getElem? (i := 1) rfl) ?_
      refine aw_aload_n (q := 41) (j := 0) rfl rfl rfl (List.mem_of_getElem? (i := 0) rfl) ?_
      refine ag_getR (q := 44) rfl rfl fl_Planner_12 rfl (SX.o hS rfl) (SX.r hS rfl) ?_
      refine ag_cvV (z := m_Mill_goMinute) (ci := 4) (av := [.ref _]) (st := []) (q := 47) (k' := 0) (n' := 0) rfl rfl cv_Planner_43 ⟨by decide, by decide⟩ rfl rfl (by decide) (by decide) (SX.o hS rfl) rfl rfl rfl (Nat.le_of_ble_eq_true rfl) ?_
      refine GV.mono h (fun t1_ h => ?_)
      refine aw_iinc (q := 50) (v := _ + 1) (ls' := [(4, .int _), (0, .ref _), (1, .ref _), (2, .ref _), (3, .int _)]) rfl rfl (List.mem_of_getElem? (i := 4) rfl) rfl (by decide) rfl ?_
      refine aw_goto (tgt := 11) rfl (by decide) ?_
      refine aw_ls [1, 2, 3, 4, 0] rfl ?_
      exact h
    · replace h := h.2 cd_3
      refine aw_iload (q := 38) (j := 4) rfl rfl (List.mem_of_getElem? (i := 4) rfl) ?_
      exact aw_ireturn (ty := .int) rfl rfl rfl (by decide) (by decide) h
set_option maxRecDepth 20000 in
theorem v_Planner_starvesBy {E : EN} {g : GS} {s : MS} {Q : Option Value → SG → Prop} (b : Nat) (x3 : Int32) (hS : SX g) (h : GV E m_House_take [.ref 32, .ref b] g s (fun t1_ => AWP E m_Planner_starvesBy 11 0 0 [(0, .ref 31), (1, .ref 28), (2, .ref b), (3, .int x3), (4, .int 0)] [] (mk g t1_) Q)) : AMet E m_Planner_starvesBy [.ref 31, .ref 28, .ref b, .int x3] (mk g s) Q := by
  refine AMet.of (by decide) k_Planner_starvesBy [(0, .ref 31), (1, .ref 28), (2, .ref b), (3, .int x3)] (Nat.le_of_ble_eq_true rfl) rfl ?_
  refine aw_aload_n (q := 1) (j := 0) rfl rfl rfl (List.mem_of_getElem? (i := 0) rfl) ?_
  refine ag_getR (q := 4) rfl rfl fl_Planner_12 rfl (SX.o hS rfl) (SX.r hS rfl) ?_
  refine aw_aload_n (q := 5) (j := 2) rfl rfl rfl (List.mem_of_getElem? (i := 2) rfl) ?_
  refine ag_cvV (z := m_House_take) (ci := 2) (av := [.ref _]) (st := []) (q := 8) (k' := 0) (n' := 0) rfl rfl cv_Planner_25 ⟨by decide, by decide⟩ rfl rfl (by decide) (by decide) (HS.o (HS.of hS (b := 32) rfl)) rfl rfl rfl (Nat.le_of_ble_eq_true rfl) ?_
  refine GV.mono h (fun t1_ h => ?_)
  refine aw_iconst (q := 9) (v := 0) rfl rfl (by decide) ?_
  refine aw_istore (q := 11) (j := 4) (ls' := [(4, .int _), (0, .ref _), (1, .ref _), (2, .ref _), (3, .int _)]) rfl rfl (by decide) rfl ?_
  refine aw_ls [1, 2, 3, 4, 0] rfl ?_
  exact h
set_option maxRecDepth 20000 in
theorem v_Planner_misplacedOf_6 {E : EN} {g : GS} {s : MS} {Q : Option Value → SG → Prop} (b : Nat) (x3 : Int32) (x4 : Int32) (x5 : Int32) (x6 : Int32) (t : Nat) (hS : SX g) (et : t = 88 ∨ t = 104) (hm : g.2.2 28 0 = some t) (h : ((x3 ≤ x6 → (∀ s1_, s1_ = wi s 28 2 (s.1 t 17) → Q (some (.int x5)) (mk g s1_))) ∧ (¬ x3 ≤ x6 → (∀ s2_, s2_ = wi s 28 2 ((s.1 t 17) + x6) → GV E m_House_take [.ref 32, .ref b] g s2_ (fun t3_ => GV E m_Mill_goOn [.ref 28, .ref 32, .int x4] g t3_ (fun t4_ => GI E m_House_misplaced [.ref 32, .ref t] g t4_ (fun y5_ t5_ => AWP E m_Planner_misplacedOf 6 0 0 [(0, .ref 31), (1, .ref 28), (2, .ref b), (3, .int x3), (4, .int x4), (5, .int (x5 + y5_)), (6, .int (x6 + 1))] [] (mk g t5_) Q))))))) : AWP E m_Planner_misplacedOf 6 0 0 [(0, .ref 31), (1, .ref 28), (2, .ref b), (3, .int x3), (4, .int x4), (5, .int x5), (6, .int x6)] [] (mk g s) Q := by
  refine aw_iload (q := 8) (j := 6) rfl rfl (List.mem_of_getElem? (i := 6) rfl) ?_
  refine aw_iload_n (q := 9) (j := 3) rfl rfl rfl (List.mem_of_getElem? (i := 3) rfl) ?_
  refine aw_icmp_ge (q := 12) (tgt := 66) rfl rfl (by decide) ⟨fun cd_1 => ?_, fun cd_1 => ?_⟩
  · replace h := h.1 cd_1
    refine aw_aload_n (q := 67) (j := 1) rfl rfl rfl (List.mem_of_getElem? (i := 1) rfl) ?_
    refine aw_aload_n (q := 68) (j := 1) rfl rfl rfl (List.mem_of_getElem? (i := 1) rfl) ?_
    refine ag_getR (q := 71) rfl rfl fl_Planner_35 rfl (SX.o hS rfl) hm ?_
    refine ag_getI (q := 74) rfl rfl fl_Planner_55 rfl (TS.o (TS.of hS et)) ?_
    refine ag_putI (q := 77) rfl rfl fl_Planner_60 rfl rfl (SX.o hS rfl) ?_
    replace h := h _ rfl
    refine aw_iload (q := 79) (j := 5) rfl rfl (List.mem_of_getElem? (i := 5) rfl) ?_
    exact aw_ireturn (ty := .int) rfl rfl rfl (by decide) (by decide) h
  · replace h := h.2 cd_1
    refine aw_aload_n (q := 13) (j := 1) rfl rfl rfl (List.mem_of_getElem? (i := 1) rfl) ?_
    refine aw_aload_n (q := 14) (j := 1) rfl rfl rfl (List.mem_of_getElem? (i := 1) rfl) ?_
    refine ag_getR (q := 17) rfl rfl fl_Planner_35 rfl (SX.o hS rfl) hm ?_
    refine ag_getI (q := 20) rfl rfl fl_Planner_55 rfl (TS.o (TS.of hS et)) ?_
    refine aw_iload (q := 22) (j := 6) rfl rfl (List.mem_of_getElem? (i := 6) rfl) ?_
    refine aw_iadd (q := 23) rfl rfl ?_
    refine ag_putI (q := 26) rfl rfl fl_Planner_60 rfl rfl (SX.o hS rfl) ?_
    replace h := h _ rfl
    refine aw_aload_n (q := 27) (j := 0) rfl rfl rfl (List.mem_of_getElem? (i := 0) rfl) ?_
    refine ag_getR (q := 30) rfl rfl fl_Planner_12 rfl (SX.o hS rfl) (SX.r hS rfl) ?_
    refine aw_aload_n (q := 31) (j := 2) rfl rfl rfl (List.mem_of_getElem? (i := 2) rfl) ?_
    refine ag_cvV (z := m_House_take) (ci := 2) (av := [.ref _]) (st := []) (q := 34) (k' := 0) (n' := 0) rfl rfl cv_Planner_25 ⟨by decide, by decide⟩ rfl rfl (by decide) (by decide) (HS.o (HS.of hS (b := 32) rfl)) rfl rfl rfl (Nat.le_of_ble_eq_true rfl) ?_
    refine GV.mono h (fun t3_ h => ?_)
    refine aw_aload_n (q := 35) (j := 1) rfl rfl rfl (List.mem_of_getElem? (i := 1) rfl) ?_
    refine aw_aload_n (q := 36) (j := 0) rfl rfl rfl (List.mem_of_getElem? (i := 0) rfl) ?_
    refine ag_getR (q := 39) rfl rfl fl_Planner_12 rfl (SX.o hS rfl) (SX.r hS rfl) ?_
    refine aw_iload (q := 41) (j := 4) rfl rfl (List.mem_of_getElem? (i := 4) rfl) ?_
    refine ag_cvV (z := m_Mill_goOn) (ci := 4) (av := [.ref _, .int _]) (st := []) (q := 44) (k' := 0) (n' := 0) rfl rfl cv_Planner_29 ⟨by decide, by decide⟩ rfl rfl (by decide) (by decide) (SX.o hS rfl) rfl rfl rfl (Nat.le_of_ble_eq_true rfl) ?_
    refine GV.mono h (fun t4_ h => ?_)
    refine aw_iload (q := 46) (j := 5) rfl rfl (List.mem_of_getElem? (i := 5) rfl) ?_
    refine aw_aload_n (q := 47) (j := 0) rfl rfl rfl (List.mem_of_getElem? (i := 0) rfl) ?_
    refine ag_getR (q := 50) rfl rfl fl_Planner_12 rfl (SX.o hS rfl) (SX.r hS rfl) ?_
    refine aw_aload_n (q := 51) (j := 1) rfl rfl rfl (List.mem_of_getElem? (i := 1) rfl) ?_
    refine ag_getR (q := 54) rfl rfl fl_Planner_35 rfl (SX.o hS rfl) hm ?_
    refine ag_cvI (z := m_House_misplaced) (ci := 2) (av := [.ref _]) (st := [.int _]) (q := 57) (k' := 0) (n' := 0) rfl rfl cv_Planner_61 ⟨by decide, by decide⟩ rfl rfl (by decide) (by decide) (HS.o (HS.of hS (b := 32) rfl)) rfl rfl rfl (Nat.le_of_ble_eq_true rfl) ?_
    refine GI.mono h (fun y5_ t5_ h => ?_)
    refine aw_iadd (q := 58) rfl rfl ?_
    refine aw_istore (q := 60) (j := 5) (ls' := [(5, .int _), (0, .ref _), (1, .ref _), (2, .ref _), (3, .int _), (4, .int _), (6, .int _)]) rfl rfl (by decide) rfl ?_
    refine aw_iinc (q := 63) (v := _ + 1) (ls' := [(6, .int _), (5, .int _), (0, .ref _), (1, .ref _), (2, .ref _), (3, .int _), (4, .int _)]) rfl rfl (List.mem_of_getElem? (i := 6) rfl) rfl (by decide) rfl ?_
    refine aw_goto (tgt := 6) rfl (by decide) ?_
    refine aw_ls [2, 3, 4, 5, 6, 1, 0] rfl ?_
    exact h
set_option maxRecDepth 20000 in
theorem v_Planner_misplacedOf {E : EN} {g : GS} {s : MS} {Q : Option Value → SG → Prop} (b : Nat) (x3 : Int32) (x4 : Int32) (h : AWP E m_Planner_misplacedOf 6 0 0 [(0, .ref 31), (1, .ref 28), (2, .ref b), (3, .int x3), (4, .int x4), (5, .int 0), (6, .int 0)] [] (mk g s) Q) : AMet E m_Planner_misplacedOf [.ref 31, .ref 28, .ref b, .int x3, .int x4] (mk g s) Q := by
  refine AMet.of (by decide) k_Planner_misplacedOf [(0, .ref 31), (1, .ref 28), (2, .ref b), (3, .int x3), (4, .int x4)] (Nat.le_of_ble_eq_true rfl) rfl ?_
  refine aw_iconst (q := 1) (v := 0) rfl rfl (by decide) ?_
  refine aw_istore (q := 3) (j := 5) (ls' := [(5, .int _), (0, .ref _), (1, .ref _), (2, .ref _), (3, .int _), (4, .int _)]) rfl rfl (by decide) rfl ?_
  refine aw_iconst (q := 4) (v := 0) rfl rfl (by decide) ?_
  refine aw_istore (q := 6) (j := 6) (ls' := [(6, .int _), (5, .int _), (0, .ref _), (1, .ref _), (2, .ref _), (3, .int _), (4, .int _)]) rfl rfl (by decide) rfl ?_
  refine aw_ls [2, 3, 4, 5, 6, 1, 0] rfl ?_
  exact h
