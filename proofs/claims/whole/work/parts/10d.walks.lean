/-! walks of the methods, by program (vcgen.py) -/
set_option maxRecDepth 20000 in
theorem v_Planner_seekSales_12 {E : EN} {g : GS} {s : MS} {Q : Option Value → SG → Prop} (t : Nat) (b : Nat) (x3 : Int32) (hS : SX g) (et : t = 88 ∨ t = 104) (h : (((1 <<< ((s.1 t 14) &&& 31)) ≤ x3 → Q none (mk g s)) ∧ (¬ (1 <<< ((s.1 t 14) &&& 31)) ≤ x3 → AWP E m_Planner_seekSales 28 0 0 [(0, .ref 31), (1, .ref t), (2, .ref b), (3, .int x3), (4, .int 0), (5, .int 0)] [] (mk g s) Q))) : AWP E m_Planner_seekSales 12 0 0 [(0, .ref 31), (1, .ref t), (2, .ref b), (3, .int x3)] [] (mk g s) Q := by
  refine aw_iload_n (q := 13) (j := 3) rfl rfl rfl (List.mem_of_getElem? (i := 3) rfl) ?_
  refine aw_iconst (q := 14) (v := 1) rfl rfl (by decide) ?_
  refine aw_aload_n (q := 15) (j := 1) rfl rfl rfl (List.mem_of_getElem? (i := 1) rfl) ?_
  refine ag_getI (q := 18) rfl rfl fl_Planner_145 rfl (TS.o (TS.of hS et)) ?_
  refine aw_ishl (q := 19) rfl rfl ?_
  refine aw_icmp_ge (q := 22) (tgt := 112) rfl rfl (by decide) ⟨fun cd_1 => ?_, fun cd_1 => ?_⟩
  · replace h := h.1 cd_1
    exact aw_return rfl rfl (by decide) (by decide) h
  · replace h := h.2 cd_1
    refine aw_iconst (q := 23) (v := 0) rfl rfl (by decide) ?_
    refine aw_istore (q := 25) (j := 4) (ls' := [(4, .int _), (0, .ref _), (1, .ref _), (2, .ref _), (3, .int _)]) rfl rfl (by decide) rfl ?_
    refine aw_iconst (q := 26) (v := 0) rfl rfl (by decide) ?_
    refine aw_istore (q := 28) (j := 5) (ls' := [(5, .int _), (4, .int _), (0, .ref _), (1, .ref _), (2, .ref _), (3, .int _)]) rfl rfl (by decide) rfl ?_
    refine aw_ls [2, 3, 4, 5, 1, 0] rfl ?_
    exact h
set_option maxRecDepth 20000 in
theorem v_Planner_seekSales_28 {E : EN} {g : GS} {s : MS} {Q : Option Value → SG → Prop} (t : Nat) (b : Nat) (x3 : Int32) (x4 : Int32) (x5 : Int32) (hS : SX g) (et : t = 88 ∨ t = 104) (h_b : HS g b) (h : (((s.1 t 14) ≤ x5 → (((x3 &&& (s.1 b 7)) = 0 → ((x4 ≤ (s.1 31 3) → AWP E m_Planner_seekSales 12 0 0 [(0, .ref 31), (1, .ref t), (2, .ref b), (3, .int (x3 + 1))] [] (mk g s) Q) ∧ (¬ x4 ≤ (s.1 31 3) → GI E m_House_hasFor [.ref b, .ref t, .int x3] g s (fun y1_ t1_ => ((y1_ = 0 → AWP E m_Planner_seekSales 12 0 0 [(0, .ref 31), (1, .ref t), (2, .ref b), (3, .int (x3 + 1))] [] (mk g t1_) Q) ∧ (¬ y1_ = 0 → (∀ s2_, s2_ = wi t1_ 31 2 x3 → (∀ s3_, s3_ = wi s2_ 31 3 x4 → AWP E m_Planner_seekSales 12 0 0 [(0, .ref 31), (1, .ref t), (2, .ref b), (3, .int (x3 + 1))] [] (mk g s3_) Q)))))))) ∧ (¬ (x3 &&& (s.1 b 7)) = 0 → AWP E m_Planner_seekSales 12 0 0 [(0, .ref 31), (1, .ref t), (2, .ref b), (3, .int (x3 + 1))] [] (mk g s) Q))) ∧ (¬ (s.1 t 14) ≤ x5 → (((x3 &&& (1 <<< (x5 &&& 31))) = 0 → AWP E m_Planner_seekSales 28 0 0 [(0, .ref 31), (1, .ref t), (2, .ref b), (3, .int x3), (4, .int (x4 + 0)), (5, .int (x5 + 1))] [] (mk g s) Q) ∧ (¬ (x3 &&& (1 <<< (x5 &&& 31))) = 0 → vp_in x5 5 ∧ AWP E m_Planner_seekSales 28 0 0 [(0, .ref 31), (1, .ref t), (2, .ref b), (3, .int x3), (4, .int (x4 + (s.1 (t + 9) ((x5).toNatClampNeg)))), (5, .int (x5 + 1))] [] (mk g s) Q))))) : AWP E m_Planner_seekSales 28 0 0 [(0, .ref 31), (1, .ref t), (2, .ref b), (3, .int x3), (4, .int x4), (5, .int x5)] [] (mk g s) Q := by
  refine aw_iload (q := 30) (j := 5) rfl rfl (List.mem_of_getElem? (i := 5) rfl) ?_
  refine aw_aload_n (q := 31) (j := 1) rfl rfl rfl (List.mem_of_getElem? (i := 1) rfl) ?_
  refine ag_getI (q := 34) rfl rfl fl_Planner_145 rfl (TS.o (TS.of hS et)) ?_
  refine aw_icmp_ge (q := 37) (tgt := 68) rfl rfl (by decide) ⟨fun cd_1 => ?_, fun cd_1 => ?_⟩
  · replace h := h.1 cd_1
    refine aw_iload_n (q := 69) (j := 3) rfl rfl rfl (List.mem_of_getElem? (i := 3) rfl) ?_
    refine aw_aload_n (q := 70) (j := 2) rfl rfl rfl (List.mem_of_getElem? (i := 2) rfl) ?_
    refine ag_getI (q := 73) rfl rfl fl_Planner_151 rfl (HS.o h_b) ?_
    refine aw_iand (q := 74) rfl rfl ?_
    refine aw_if_ne (q := 77) (tgt := 106) rfl rfl (by decide) ⟨fun cd_2 => ?_, fun cd_2 => ?_⟩
    · replace h := h.1 cd_2
      refine aw_iload (q := 79) (j := 4) rfl rfl (List.mem_of_getElem? (i := 4) rfl) ?_
      refine aw_aload_n (q := 80) (j := 0) rfl rfl rfl (List.mem_of_getElem? (i := 0) rfl) ?_
      refine ag_getI (q := 83) rfl rfl fl_Planner_68 rfl (SX.o hS rfl) ?_
      refine aw_icmp_le (q := 86) (tgt := 106) rfl rfl (by decide) ⟨fun cd_3 => ?_, fun cd_3 => ?_⟩
      · replace h := h.1 cd_3
        refine aw_iinc (q := 109) (v := _ + 1) (ls' := [(3, .int _), (0, .ref _), (1, .ref _), (2, .ref _), (4, .int _), (5, .int _)]) rfl rfl (List.mem_of_getElem? (i := 3) rfl) rfl (by decide) rfl ?_
        refine aw_goto (tgt := 12) rfl (by decide) ?_
        refine aw_ls [1, 2, 3, 0] rfl ?_
        exact h
      · replace h := h.2 cd_3
        refine aw_aload_n (q := 87) (j := 2) rfl rfl rfl (List.mem_of_getElem? (i := 2) rfl) ?_
        refine aw_aload_n (q := 88) (j := 1) rfl rfl rfl (List.mem_of_getElem? (i := 1) rfl) ?_
        refine aw_iload_n (q := 89) (j := 3) rfl rfl rfl (List.mem_of_getElem? (i := 3) rfl) ?_
        refine ag_cvI (z := m_House_hasFor) (ci := 2) (av := [.ref _, .int _]) (st := []) (q := 92) (k' := 0) (n' := 0) rfl rfl cv_Planner_154 ⟨by decide, by decide⟩ rfl rfl (by decide) (by decide) (HS.o h_b) rfl rfl rfl (Nat.le_of_ble_eq_true rfl) ?_
        refine GI.mono h (fun y1_ t1_ h => ?_)
        refine aw_if_eq (q := 95) (tgt := 106) rfl rfl (by decide) ⟨fun cd_4 => ?_, fun cd_4 => ?_⟩
        · replace h := h.1 cd_4
          refine aw_iinc (q := 109) (v := _ + 1) (ls' := [(3, .int _), (0, .ref _), (1, .ref _), (2, .ref _), (4, .int _), (5, .int _)]) rfl rfl (List.mem_of_getElem? (i := 3) rfl) rfl (by decide) rfl ?_
          refine aw_goto (tgt := 12) rfl (by decide) ?_
          refine aw_ls [1, 2, 3, 0] rfl ?_
          exact h
        · replace h := h.2 cd_4
          refine aw_aload_n (q := 96) (j := 0) rfl rfl rfl (List.mem_of_getElem? (i := 0) rfl) ?_
          refine aw_iload_n (q := 97) (j := 3) rfl rfl rfl (List.mem_of_getElem? (i := 3) rfl) ?_
          refine ag_putI (q := 100) rfl rfl fl_Planner_65 rfl rfl (SX.o hS rfl) ?_
          replace h := h _ rfl
          refine aw_aload_n (q := 101) (j := 0) rfl rfl rfl (List.mem_of_getElem? (i := 0) rfl) ?_
          refine aw_iload (q := 103) (j := 4) rfl rfl (List.mem_of_getElem? (i := 4) rfl) ?_
          refine ag_putI (q := 106) rfl rfl fl_Planner_68 rfl rfl (SX.o hS rfl) ?_
          replace h := h _ rfl
          refine aw_iinc (q := 109) (v := _ + 1) (ls' := [(3, .int _), (0, .ref _), (1, .ref _), (2, .ref _), (4, .int _), (5, .int _)]) rfl rfl (List.mem_of_getElem? (i := 3) rfl) rfl (by decide) rfl ?_
          refine aw_goto (tgt := 12) rfl (by decide) ?_
          refine aw_ls [1, 2, 3, 0] rfl ?_
          exact h
    · replace h := h.2 cd_2
      refine aw_iinc (q := 109) (v := _ + 1) (ls' := [(3, .int _), (0, .ref _), (1, .ref _), (2, .ref _), (4, .int _), (5, .int _)]) rfl rfl (List.mem_of_getElem? (i := 3) rfl) rfl (by decide) rfl ?_
      refine aw_goto (tgt := 12) rfl (by decide) ?_
      refine aw_ls [1, 2, 3, 0] rfl ?_
      exact h
  · replace h := h.2 cd_1
    refine aw_iload (q := 39) (j := 4) rfl rfl (List.mem_of_getElem? (i := 4) rfl) ?_
    refine aw_iload_n (q := 40) (j := 3) rfl rfl rfl (List.mem_of_getElem? (i := 3) rfl) ?_
    refine aw_iconst (q := 41) (v := 1) rfl rfl (by decide) ?_
    refine aw_iload (q := 43) (j := 5) rfl rfl (List.mem_of_getElem? (i := 5) rfl) ?_
    refine aw_ishl (q := 44) rfl rfl ?_
    refine aw_iand (q := 45) rfl rfl ?_
    refine aw_if_eq (q := 48) (tgt := 58) rfl rfl (by decide) ⟨fun cd_5 => ?_, fun cd_5 => ?_⟩
    · replace h := h.1 cd_5
      refine aw_iconst (q := 59) (v := 0) rfl rfl (by decide) ?_
      refine aw_iadd (q := 60) rfl rfl ?_
      refine aw_istore (q := 62) (j := 4) (ls' := [(4, .int _), (0, .ref _), (1, .ref _), (2, .ref _), (3, .int _), (5, .int _)]) rfl rfl (by decide) rfl ?_
      refine aw_iinc (q := 65) (v := _ + 1) (ls' := [(5, .int _), (4, .int _), (0, .ref _), (1, .ref _), (2, .ref _), (3, .int _)]) rfl rfl (List.mem_of_getElem? (i := 5) rfl) rfl (by decide) rfl ?_
      refine aw_goto (tgt := 28) rfl (by decide) ?_
      refine aw_ls [2, 3, 4, 5, 1, 0] rfl ?_
      exact h
    · replace h := h.2 cd_5
      refine aw_aload_n (q := 49) (j := 1) rfl rfl rfl (List.mem_of_getElem? (i := 1) rfl) ?_
      refine ag_getR (q := 52) rfl rfl fl_Planner_148 rfl (TS.o (TS.of hS et)) (TS.r8 (TS.of hS et)) ?_
      refine aw_iload (q := 54) (j := 5) rfl rfl (List.mem_of_getElem? (i := 5) rfl) ?_
      obtain ⟨bd_6, h⟩ := h
      refine ag_iaload (q := 55) (N := 5) rfl rfl (TS.a8 (TS.of hS et)) bd_6 ?_
      refine aw_goto (tgt := 59) rfl (by decide) ?_
      refine aw_iadd (q := 60) rfl rfl ?_
      refine aw_istore (q := 62) (j := 4) (ls' := [(4, .int _), (0, .ref _), (1, .ref _), (2, .ref _), (3, .int _), (5, .int _)]) rfl rfl (by decide) rfl ?_
      refine aw_iinc (q := 65) (v := _ + 1) (ls' := [(5, .int _), (4, .int _), (0, .ref _), (1, .ref _), (2, .ref _), (3, .int _)]) rfl rfl (List.mem_of_getElem? (i := 5) rfl) rfl (by decide) rfl ?_
      refine aw_goto (tgt := 28) rfl (by decide) ?_
      refine aw_ls [2, 3, 4, 5, 1, 0] rfl ?_
      exact h
set_option maxRecDepth 20000 in
theorem v_Planner_seekSales {E : EN} {g : GS} {s : MS} {Q : Option Value → SG → Prop} (t : Nat) (b : Nat) (hS : SX g) (h : (∀ s1_, s1_ = wi s 31 2 0 → (∀ s2_, s2_ = wi s1_ 31 3 0 → AWP E m_Planner_seekSales 12 0 0 [(0, .ref 31), (1, .ref t), (2, .ref b), (3, .int 1)] [] (mk g s2_) Q))) : AMet E m_Planner_seekSales [.ref 31, .ref t, .ref b] (mk g s) Q := by
  refine AMet.of (by decide) k_Planner_seekSales [(0, .ref 31), (1, .ref t), (2, .ref b)] (Nat.le_of_ble_eq_true rfl) rfl ?_
  refine aw_aload_n (q := 1) (j := 0) rfl rfl rfl (List.mem_of_getElem? (i := 0) rfl) ?_
  refine aw_iconst (q := 2) (v := 0) rfl rfl (by decide) ?_
  refine ag_putI (q := 5) rfl rfl fl_Planner_65 rfl rfl (SX.o hS rfl) ?_
  replace h := h _ rfl
  refine aw_aload_n (q := 6) (j := 0) rfl rfl rfl (List.mem_of_getElem? (i := 0) rfl) ?_
  refine aw_iconst (q := 7) (v := 0) rfl rfl (by decide) ?_
  refine ag_putI (q := 10) rfl rfl fl_Planner_68 rfl rfl (SX.o hS rfl) ?_
  replace h := h _ rfl
  refine aw_iconst (q := 11) (v := 1) rfl rfl (by decide) ?_
  refine aw_istore_n (q := 12) (j := 3) (ls' := [(3, .int _), (0, .ref _), (1, .ref _), (2, .ref _)]) rfl rfl rfl (by decide) rfl ?_
  refine aw_ls [1, 2, 3, 0] rfl ?_
  exact h
set_option maxRecDepth 20000 in
theorem v_Facts_clear {E : EN} {g : GS} {s : MS} {Q : Option Value → SG → Prop}  (hS : SX g) (h : (∀ s1_, s1_ = wi s 56 7 0 → (∀ s2_, s2_ = wi s1_ 56 6 0 → Q none (mk g s2_)))) : AMet E m_Facts_clear [.ref 56] (mk g s) Q := by
  refine AMet.of (by decide) k_Facts_clear [(0, .ref 56)] (Nat.le_of_ble_eq_true rfl) rfl ?_
  refine aw_aload_n (q := 1) (j := 0) rfl rfl rfl (List.mem_of_getElem? (i := 0) rfl) ?_
  refine aw_iconst (q := 2) (v := 0) rfl rfl (by decide) ?_
  refine ag_putI (q := 5) rfl rfl fl_Facts_34 rfl rfl (SX.o hS rfl) ?_
  replace h := h _ rfl
  refine aw_aload_n (q := 6) (j := 0) rfl rfl rfl (List.mem_of_getElem? (i := 0) rfl) ?_
  refine aw_iconst (q := 7) (v := 0) rfl rfl (by decide) ?_
  refine ag_putZ (q := 10) rfl rfl fl_Facts_38 rfl rfl (by decide) (SX.o hS rfl) ?_
  replace h := h _ rfl
  exact aw_return rfl rfl (by decide) (by decide) h
set_option maxRecDepth 20000 in
theorem v_Facts_note {E : EN} {g : GS} {s : MS} {Q : Option Value → SG → Prop} (x1 : Int32) (x2 : Int32) (x3 : Int32) (x4 : Int32) (hS : SX g) (h : (((s.1 56 7) < 20 → vp_in (s.1 56 7) 20 ∧ (∀ s1_, s1_ = wi s 57 (((s.1 56 7)).toNatClampNeg) x1 → (∀ s2_, s2_ = wi s1_ 58 (((s.1 56 7)).toNatClampNeg) x2 → (∀ s3_, s3_ = wi s2_ 59 (((s.1 56 7)).toNatClampNeg) x3 → (∀ s4_, s4_ = wi s3_ 60 (((s.1 56 7)).toNatClampNeg) x4 → (∀ s5_, s5_ = wi s4_ 56 7 ((s.1 56 7) + 1) → Q (some (.int (((s.1 56 7) + 1) - 1))) (mk g s5_))))))) ∧ (¬ (s.1 56 7) < 20 → Q (some (.int (-1))) (mk g s)))) : AMet E m_Facts_note [.ref 56, .int x1, .int x2, .int x3, .int x4] (mk g s) Q := by
  refine AMet.of (by decide) k_Facts_note [(0, .ref 56), (1, .int x1), (2, .int x2), (3, .int x3), (4, .int x4)] (Nat.le_of_ble_eq_true rfl) rfl ?_
  refine aw_aload_n (q := 1) (j := 0) rfl rfl rfl (List.mem_of_getElem? (i := 0) rfl) ?_
  refine ag_getI (q := 4) rfl rfl fl_Facts_34 rfl (SX.o hS rfl) ?_
  refine aw_bipush (q := 6) (v := 20) rfl rfl (by decide) ?_
  refine aw_icmp_lt (q := 9) (tgt := 11) rfl rfl (by decide) ⟨fun cd_1 => ?_, fun cd_1 => ?_⟩
  · replace h := h.1 cd_1
    refine aw_aload_n (q := 12) (j := 0) rfl rfl rfl (List.mem_of_getElem? (i := 0) rfl) ?_
    refine ag_getR (q := 15) rfl rfl fl_Facts_9 rfl (SX.o hS rfl) (SX.r hS rfl) ?_
    refine aw_aload_n (q := 16) (j := 0) rfl rfl rfl (List.mem_of_getElem? (i := 0) rfl) ?_
    refine ag_getI (q := 19) rfl rfl fl_Facts_34 rfl (SX.o hS rfl) ?_
    refine aw_iload_n (q := 20) (j := 1) rfl rfl rfl (List.mem_of_getElem? (i := 1) rfl) ?_
    obtain ⟨bd_2, h⟩ := h
    refine ag_iastore (q := 21) (N := 20) rfl rfl (SX.a hS rfl) bd_2 ?_
    replace h := h _ rfl
    refine aw_aload_n (q := 22) (j := 0) rfl rfl rfl (List.mem_of_getElem? (i := 0) rfl) ?_
    refine ag_getR (q := 25) rfl rfl fl_Facts_15 rfl (SX.o hS rfl) (SX.r hS rfl) ?_
    refine aw_aload_n (q := 26) (j := 0) rfl rfl rfl (List.mem_of_getElem? (i := 0) rfl) ?_
    refine ag_getI (q := 29) rfl rfl fl_Facts_34 rfl (SX.o hS rfl) ?_
    refine aw_iload_n (q := 30) (j := 2) rfl rfl rfl (List.mem_of_getElem? (i := 2) rfl) ?_
    refine ag_iastore (q := 31) (N := 20) rfl rfl (SX.a hS rfl) bd_2 ?_
    replace h := h _ rfl
    refine aw_aload_n (q := 32) (j := 0) rfl rfl rfl (List.mem_of_getElem? (i := 0) rfl) ?_
    refine ag_getR (q := 35) rfl rfl fl_Facts_18 rfl (SX.o hS rfl) (SX.r hS rfl) ?_
    refine aw_aload_n (q := 36) (j := 0) rfl rfl rfl (List.mem_of_getElem? (i := 0) rfl) ?_
    refine ag_getI (q := 39) rfl rfl fl_Facts_34 rfl (SX.o hS rfl) ?_
    refine aw_iload_n (q := 40) (j := 3) rfl rfl rfl (List.mem_of_getElem? (i := 3) rfl) ?_
    refine ag_iastore (q := 41) (N := 20) rfl rfl (SX.a hS rfl) bd_2 ?_
    replace h := h _ rfl
    refine aw_aload_n (q := 42) (j := 0) rfl rfl rfl (List.mem_of_getElem? (i := 0) rfl) ?_
    refine ag_getR (q := 45) rfl rfl fl_Facts_21 rfl (SX.o hS rfl) (SX.r hS rfl) ?_
    refine aw_aload_n (q := 46) (j := 0) rfl rfl rfl (List.mem_of_getElem? (i := 0) rfl) ?_
    refine ag_getI (q := 49) rfl rfl fl_Facts_34 rfl (SX.o hS rfl) ?_
    refine aw_iload (q := 51) (j := 4) rfl rfl (List.mem_of_getElem? (i := 4) rfl) ?_
    refine ag_iastore (q := 52) (N := 20) rfl rfl (SX.a hS rfl) bd_2 ?_
    replace h := h _ rfl
    refine aw_aload_n (q := 53) (j := 0) rfl rfl rfl (List.mem_of_getElem? (i := 0) rfl) ?_
    refine aw_dup (q := 54) rfl rfl rfl ?_
    refine ag_getI (q := 57) rfl rfl fl_Facts_34 rfl (SX.o hS rfl) ?_
    refine aw_iconst (q := 58) (v := 1) rfl rfl (by decide) ?_
    refine aw_iadd (q := 59) rfl rfl ?_
    refine ag_putI (q := 62) rfl rfl fl_Facts_34 rfl rfl (SX.o hS rfl) ?_
    replace h := h _ rfl
    refine aw_aload_n (q := 63) (j := 0) rfl rfl rfl (List.mem_of_getElem? (i := 0) rfl) ?_
    refine ag_getI (q := 66) rfl rfl fl_Facts_34 rfl (SX.o hS rfl) ?_
    refine aw_iconst (q := 67) (v := 1) rfl rfl (by decide) ?_
    refine aw_isub (q := 68) rfl rfl ?_
    exact aw_ireturn (ty := .int) rfl rfl rfl (by decide) (by decide) h
  · replace h := h.2 cd_1
    refine aw_iconst (q := 10) (v := (-1)) rfl rfl (by decide) ?_
    exact aw_ireturn (ty := .int) rfl rfl rfl (by decide) (by decide) h
set_option maxRecDepth 20000 in
theorem v_Facts_watch_26 {E : EN} {g : GS} {s : MS} {Q : Option Value → SG → Prop} (x2 : Int32) (hS : SX g) (h : ((99 < x2 → Q none (mk g s)) ∧ (¬ 99 < x2 → (¬ (0 : Int32) < 0 ∧ ¬ ((x2 * 36) : Int32) < 0 ∧ ¬ (36 : Int32) < 0 ∧ (0 + 36 ≤ 36) ∧ (((x2 * 36)).toNatClampNeg + 36 ≤ 3600)) ∧ (∀ s1_, s1_ = si s 61 (va_cpy (s.1 64) (s.1 61) 0 ((x2 * 36)).toNatClampNeg 36) → GV E m_Mill_goMinute [.ref 28, .ref 62] g s1_ (fun t2_ => AWP E m_Facts_watch 26 0 0 [(0, .ref 56), (1, .ref 28), (2, .int (x2 + 1))] [] (mk g t2_) Q))))) : AWP E m_Facts_watch 26 0 0 [(0, .ref 56), (1, .ref 28), (2, .int x2)] [] (mk g s) Q := by
  refine aw_iload_n (q := 27) (j := 2) rfl rfl rfl (List.mem_of_getElem? (i := 2) rfl) ?_
  refine aw_bipush (q := 29) (v := 99) rfl rfl (by decide) ?_
  refine aw_icmp_gt (q := 32) (tgt := 67) rfl rfl (by decide) ⟨fun cd_1 => ?_, fun cd_1 => ?_⟩
  · replace h := h.1 cd_1
    exact aw_return rfl rfl (by decide) (by decide) h
  · replace h := h.2 cd_1
    refine aw_aload_n (q := 33) (j := 0) rfl rfl rfl (List.mem_of_getElem? (i := 0) rfl) ?_
    refine ag_getR (q := 36) rfl rfl fl_Facts_30 rfl (SX.o hS rfl) (SX.r hS rfl) ?_
    refine ag_getR (q := 39) rfl rfl fl_Facts_52 rfl (HS.o (HS.of hS (b := 62) rfl)) (HS.r1 (HS.of hS (b := 62) rfl)) ?_
    refine aw_iconst (q := 40) (v := 0) rfl rfl (by decide) ?_
    refine aw_aload_n (q := 41) (j := 0) rfl rfl rfl (List.mem_of_getElem? (i := 0) rfl) ?_
    refine ag_getR (q := 44) rfl rfl fl_Facts_24 rfl (SX.o hS rfl) (SX.r hS rfl) ?_
    refine aw_iload_n (q := 45) (j := 2) rfl rfl rfl (List.mem_of_getElem? (i := 2) rfl) ?_
    refine aw_bipush (q := 47) (v := 36) rfl rfl (by decide) ?_
    refine aw_imul (q := 48) rfl rfl ?_
    refine aw_bipush (q := 50) (v := 36) rfl rfl (by decide) ?_
    obtain ⟨bd_2, h⟩ := h
    refine ag_copy (q := 53) (n0 := 36) (n1 := 3600) rfl rfl (tb_c5 231 rfl rfl) (tb_c2 226 rfl rfl) (tb_c2 225 rfl rfl) (tb_c1 12 rfl rfl) (by decide) (by decide) (Nat.le_of_ble_eq_true rfl) (HS.a1 (HS.of hS (b := 62) rfl)) (SX.a hS rfl) bd_2.1 bd_2.2.1 bd_2.2.2.1 bd_2.2.2.2.1 bd_2.2.2.2.2 ?_
    replace h := h _ rfl
    refine aw_aload_n (q := 54) (j := 1) rfl rfl rfl (List.mem_of_getElem? (i := 1) rfl) ?_
    refine aw_aload_n (q := 55) (j := 0) rfl rfl rfl (List.mem_of_getElem? (i := 0) rfl) ?_
    refine ag_getR (q := 58) rfl rfl fl_Facts_30 rfl (SX.o hS rfl) (SX.r hS rfl) ?_
    refine ag_cvV (z := m_Mill_goMinute) (ci := 4) (av := [.ref _]) (st := []) (q := 61) (k' := 0) (n' := 0) rfl rfl cv_Facts_59 ⟨by decide, by decide⟩ rfl rfl (by decide) (by decide) (SX.o hS rfl) rfl rfl rfl (Nat.le_of_ble_eq_true rfl) ?_
    refine GV.mono h (fun t2_ h => ?_)
    refine aw_iinc (q := 64) (v := _ + 1) (ls' := [(2, .int _), (0, .ref _), (1, .ref _)]) rfl rfl (List.mem_of_getElem? (i := 2) rfl) rfl (by decide) rfl ?_
    refine aw_goto (tgt := 26) rfl (by decide) ?_
    refine aw_ls [1, 2, 0] rfl ?_
    exact h
set_option maxRecDepth 20000 in
theorem v_Facts_watch {E : EN} {g : GS} {s : MS} {Q : Option Value → SG → Prop} (t : Nat) (hS : SX g) (hm : g.2.2 28 0 = some t) (h : (((s.1 56 6) = 0 → (∀ s1_, s1_ = wi s 56 6 1 → GV E m_House_begin [.ref 62, .ref t] g s1_ (fun t2_ => AWP E m_Facts_watch 26 0 0 [(0, .ref 56), (1, .ref 28), (2, .int 0)] [] (mk g t2_) Q))) ∧ (¬ (s.1 56 6) = 0 → Q none (mk g s)))) : AMet E m_Facts_watch [.ref 56, .ref 28] (mk g s) Q := by
  refine AMet.of (by decide) k_Facts_watch [(0, .ref 56), (1, .ref 28)] (Nat.le_of_ble_eq_true rfl) rfl ?_
  refine aw_aload_n (q := 1) (j := 0) rfl rfl rfl (List.mem_of_getElem? (i := 0) rfl) ?_
  refine ag_getI (q := 4) rfl rfl fl_Facts_38 rfl (SX.o hS rfl) ?_
  refine aw_if_eq (q := 7) (tgt := 8) rfl rfl (by decide) ⟨fun cd_1 => ?_, fun cd_1 => ?_⟩
  · replace h := h.1 cd_1
    refine aw_aload_n (q := 9) (j := 0) rfl rfl rfl (List.mem_of_getElem? (i := 0) rfl) ?_
    refine aw_iconst (q := 10) (v := 1) rfl rfl (by decide) ?_
    refine ag_putZ (q := 13) rfl rfl fl_Facts_38 rfl rfl (by decide) (SX.o hS rfl) ?_
    replace h := h _ rfl
    refine aw_aload_n (q := 14) (j := 0) rfl rfl rfl (List.mem_of_getElem? (i := 0) rfl) ?_
    refine ag_getR (q := 17) rfl rfl fl_Facts_30 rfl (SX.o hS rfl) (SX.r hS rfl) ?_
    refine aw_aload_n (q := 18) (j := 1) rfl rfl rfl (List.mem_of_getElem? (i := 1) rfl) ?_
    refine ag_getR (q := 21) rfl rfl fl_Facts_42 rfl (SX.o hS rfl) hm ?_
    refine ag_cvV (z := m_House_begin) (ci := 2) (av := [.ref _]) (st := []) (q := 24) (k' := 0) (n' := 0) rfl rfl cv_Facts_48 ⟨by decide, by decide⟩ rfl rfl (by decide) (by decide) (HS.o (HS.of hS (b := 62) rfl)) rfl rfl rfl (Nat.le_of_ble_eq_true rfl) ?_
    refine GV.mono h (fun t2_ h => ?_)
    refine aw_iconst (q := 25) (v := 0) rfl rfl (by decide) ?_
    refine aw_istore_n (q := 26) (j := 2) (ls' := [(2, .int _), (0, .ref _), (1, .ref _)]) rfl rfl rfl (by decide) rfl ?_
    refine aw_ls [1, 2, 0] rfl ?_
    exact h
  · replace h := h.2 cd_1
    exact aw_return rfl rfl (by decide) (by decide) h
set_option maxRecDepth 20000 in
theorem v_Facts_seekJoke_27 {E : EN} {g : GS} {s : MS} {Q : Option Value → SG → Prop} (x1 : Int32) (x2 : Int32) (x3 : Int32) (x4 : Int32) (x5 : Int32) (h : ((x1 ≤ x5 → ((x3 = (-1) → Q (some (.int x4)) (mk g s)) ∧ (¬ x3 = (-1) → Q (some (.int (-1))) (mk g s)))) ∧ (¬ x1 ≤ x5 → AWP E m_Facts_seekJoke 39 0 0 [(0, .ref 56), (1, .int x1), (2, .int x2), (3, .int x3), (4, .int x4), (5, .int x5), (6, .int (x5 + 1))] [] (mk g s) Q))) : AWP E m_Facts_seekJoke 27 0 0 [(0, .ref 56), (1, .int x1), (2, .int x2), (3, .int x3), (4, .int x4), (5, .int x5)] [] (mk g s) Q := by
  refine aw_iload (q := 29) (j := 5) rfl rfl (List.mem_of_getElem? (i := 5) rfl) ?_
  refine aw_iload_n (q := 30) (j := 1) rfl rfl rfl (List.mem_of_getElem? (i := 1) rfl) ?_
  refine aw_icmp_ge (q := 33) (tgt := 112) rfl rfl (by decide) ⟨fun cd_1 => ?_, fun cd_1 => ?_⟩
  · replace h := h.1 cd_1
    refine aw_iload_n (q := 113) (j := 3) rfl rfl rfl (List.mem_of_getElem? (i := 3) rfl) ?_
    refine aw_iconst (q := 114) (v := (-1)) rfl rfl (by decide) ?_
    refine aw_icmp_ne (q := 117) (tgt := 122) rfl rfl (by decide) ⟨fun cd_2 => ?_, fun cd_2 => ?_⟩
    · replace h := h.1 cd_2
      refine aw_iload (q := 119) (j := 4) rfl rfl (List.mem_of_getElem? (i := 4) rfl) ?_
      refine aw_goto (tgt := 123) rfl (by decide) ?_
      exact aw_ireturn (ty := .int) rfl rfl rfl (by decide) (by decide) h
    · replace h := h.2 cd_2
      refine aw_iconst (q := 123) (v := (-1)) rfl rfl (by decide) ?_
      exact aw_ireturn (ty := .int) rfl rfl rfl (by decide) (by decide) h
  · replace h := h.2 cd_1
    refine aw_iload (q := 35) (j := 5) rfl rfl (List.mem_of_getElem? (i := 5) rfl) ?_
    refine aw_iconst (q := 36) (v := 1) rfl rfl (by decide) ?_
    refine aw_iadd (q := 37) rfl rfl ?_
    refine aw_istore (q := 39) (j := 6) (ls' := [(6, .int _), (0, .ref _), (1, .int _), (2, .int _), (3, .int _), (4, .int _), (5, .int _)]) rfl rfl (by decide) rfl ?_
    refine aw_ls [1, 2, 3, 4, 5, 6, 0] rfl ?_
    exact h
set_option maxRecDepth 20000 in
theorem v_Facts_seekJoke_39 {E : EN} {g : GS} {s : MS} {Q : Option Value → SG → Prop} (x1 : Int32) (x2 : Int32) (x3 : Int32) (x4 : Int32) (x5 : Int32) (x6 : Int32) (h : ((x1 ≤ x6 → AWP E m_Facts_seekJoke 27 0 0 [(0, .ref 56), (1, .int x1), (2, .int x2), (3, .int x3), (4, .int x4), (5, .int (x5 + 1))] [] (mk g s) Q) ∧ (¬ x1 ≤ x6 → AWP E m_Facts_seekJoke 48 0 0 [(0, .ref 56), (1, .int x1), (2, .int x2), (3, .int x3), (4, .int x4), (5, .int x5), (6, .int x6), (7, .int 0)] [] (mk g s) Q))) : AWP E m_Facts_seekJoke 39 0 0 [(0, .ref 56), (1, .int x1), (2, .int x2), (3, .int x3), (4, .int x4), (5, .int x5), (6, .int x6)] [] (mk g s) Q := by
  refine aw_iload (q := 41) (j := 6) rfl rfl (List.mem_of_getElem? (i := 6) rfl) ?_
  refine aw_iload_n (q := 42) (j := 1) rfl rfl rfl (List.mem_of_getElem? (i := 1) rfl) ?_
  refine aw_icmp_ge (q := 45) (tgt := 106) rfl rfl (by decide) ⟨fun cd_1 => ?_, fun cd_1 => ?_⟩
  · replace h := h.1 cd_1
    refine aw_iinc (q := 109) (v := _ + 1) (ls' := [(5, .int _), (0, .ref _), (1, .int _), (2, .int _), (3, .int _), (4, .int _), (6, .int _)]) rfl rfl (List.mem_of_getElem? (i := 5) rfl) rfl (by decide) rfl ?_
    refine aw_goto (tgt := 27) rfl (by decide) ?_
    refine aw_ls [1, 2, 3, 4, 5, 0] rfl ?_
    exact h
  · replace h := h.2 cd_1
    refine aw_iconst (q := 46) (v := 0) rfl rfl (by decide) ?_
    refine aw_istore (q := 48) (j := 7) (ls' := [(7, .int _), (0, .ref _), (1, .int _), (2, .int _), (3, .int _), (4, .int _), (5, .int _), (6, .int _)]) rfl rfl (by decide) rfl ?_
    refine aw_ls [1, 2, 3, 4, 5, 6, 7, 0] rfl ?_
    exact h
set_option maxRecDepth 20000 in
theorem v_Facts_seekJoke_48 {E : EN} {g : GS} {s : MS} {Q : Option Value → SG → Prop} (x1 : Int32) (x2 : Int32) (x3 : Int32) (x4 : Int32) (x5 : Int32) (x6 : Int32) (x7 : Int32) (hS : SX g) (h : ((60 < x7 → AWP E m_Facts_seekJoke 39 0 0 [(0, .ref 56), (1, .int x1), (2, .int x2), (3, .int x3), (4, .int x4), (5, .int x5), (6, .int (x6 + 1))] [] (mk g s) Q) ∧ (¬ 60 < x7 → GI E m_Facts_fits [.ref 56, .int x2, .int x5, .int x6, .int x7] g s (fun y1_ t1_ => ((y1_ = 0 → AWP E m_Facts_seekJoke 48 0 0 [(0, .ref 56), (1, .int x1), (2, .int x2), (3, .int x3), (4, .int x4), (5, .int x5), (6, .int x6), (7, .int (x7 + 1))] [] (mk g t1_) Q) ∧ (¬ y1_ = 0 → ((x3 = x4 → Q (some (.int (((1000 * x5) + (100 * x6)) + x7))) (mk g t1_)) ∧ (¬ x3 = x4 → AWP E m_Facts_seekJoke 48 0 0 [(0, .ref 56), (1, .int x1), (2, .int x2), (3, .int x3), (4, .int (x4 + 1)), (5, .int x5), (6, .int x6), (7, .int (x7 + 1))] [] (mk g t1_) Q)))))))) : AWP E m_Facts_seekJoke 48 0 0 [(0, .ref 56), (1, .int x1), (2, .int x2), (3, .int x3), (4, .int x4), (5, .int x5), (6, .int x6), (7, .int x7)] [] (mk g s) Q := by
  refine aw_iload (q := 50) (j := 7) rfl rfl (List.mem_of_getElem? (i := 7) rfl) ?_
  refine aw_bipush (q := 52) (v := 60) rfl rfl (by decide) ?_
  refine aw_icmp_gt (q := 55) (tgt := 100) rfl rfl (by decide) ⟨fun cd_1 => ?_, fun cd_1 => ?_⟩
  · replace h := h.1 cd_1
    refine aw_iinc (q := 103) (v := _ + 1) (ls' := [(6, .int _), (0, .ref _), (1, .int _), (2, .int _), (3, .int _), (4, .int _), (5, .int _), (7, .int _)]) rfl rfl (List.mem_of_getElem? (i := 6) rfl) rfl (by decide) rfl ?_
    refine aw_goto (tgt := 39) rfl (by decide) ?_
    refine aw_ls [1, 2, 3, 4, 5, 6, 0] rfl ?_
    exact h
  · replace h := h.2 cd_1
    refine aw_aload_n (q := 56) (j := 0) rfl rfl rfl (List.mem_of_getElem? (i := 0) rfl) ?_
    refine aw_iload_n (q := 57) (j := 2) rfl rfl rfl (List.mem_of_getElem? (i := 2) rfl) ?_
    refine aw_iload (q := 59) (j := 5) rfl rfl (List.mem_of_getElem? (i := 5) rfl) ?_
    refine aw_iload (q := 61) (j := 6) rfl rfl (List.mem_of_getElem? (i := 6) rfl) ?_
    refine aw_iload (q := 63) (j := 7) rfl rfl (List.mem_of_getElem? (i := 7) rfl) ?_
    refine ag_cvI (z := m_Facts_fits) (ci := 0) (av := [.int _, .int _, .int _, .int _]) (st := []) (q := 66) (k' := 0) (n' := 0) rfl rfl cv_Facts_63 ⟨by decide, by decide⟩ rfl rfl (by decide) (by decide) (SX.o hS rfl) rfl rfl rfl (Nat.le_of_ble_eq_true rfl) ?_
    refine GI.mono h (fun y1_ t1_ h => ?_)
    refine aw_if_eq (q := 69) (tgt := 94) rfl rfl (by decide) ⟨fun cd_2 => ?_, fun cd_2 => ?_⟩
    · replace h := h.1 cd_2
      refine aw_iinc (q := 97) (v := _ + 1) (ls' := [(7, .int _), (0, .ref _), (1, .int _), (2, .int _), (3, .int _), (4, .int _), (5, .int _), (6, .int _)]) rfl rfl (List.mem_of_getElem? (i := 7) rfl) rfl (by decide) rfl ?_
      refine aw_goto (tgt := 48) rfl (by decide) ?_
      refine aw_ls [1, 2, 3, 4, 5, 6, 7, 0] rfl ?_
      exact h
    · replace h := h.2 cd_2
      refine aw_iload_n (q := 70) (j := 3) rfl rfl rfl (List.mem_of_getElem? (i := 3) rfl) ?_
      refine aw_iload (q := 72) (j := 4) rfl rfl (List.mem_of_getElem? (i := 4) rfl) ?_
      refine aw_icmp_ne (q := 75) (tgt := 91) rfl rfl (by decide) ⟨fun cd_3 => ?_, fun cd_3 => ?_⟩
      · replace h := h.1 cd_3
        refine aw_sipush (q := 78) (v := 1000) rfl rfl (by decide) ?_
        refine aw_iload (q := 80) (j := 5) rfl rfl (List.mem_of_getElem? (i := 5) rfl) ?_
        refine aw_imul (q := 81) rfl rfl ?_
        refine aw_bipush (q := 83) (v := 100) rfl rfl (by decide) ?_
        refine aw_iload (q := 85) (j := 6) rfl rfl (List.mem_of_getElem? (i := 6) rfl) ?_
        refine aw_imul (q := 86) rfl rfl ?_
        refine aw_iadd (q := 87) rfl rfl ?_
        refine aw_iload (q := 89) (j := 7) rfl rfl (List.mem_of_getElem? (i := 7) rfl) ?_
        refine aw_iadd (q := 90) rfl rfl ?_
        exact aw_ireturn (ty := .int) rfl rfl rfl (by decide) (by decide) h
      · replace h := h.2 cd_3
        refine aw_iinc (q := 94) (v := _ + 1) (ls' := [(4, .int _), (0, .ref _), (1, .int _), (2, .int _), (3, .int _), (5, .int _), (6, .int _), (7, .int _)]) rfl rfl (List.mem_of_getElem? (i := 4) rfl) rfl (by decide) rfl ?_
        refine aw_iinc (q := 97) (v := _ + 1) (ls' := [(7, .int _), (4, .int _), (0, .ref _), (1, .int _), (2, .int _), (3, .int _), (5, .int _), (6, .int _)]) rfl rfl (List.mem_of_getElem? (i := 7) rfl) rfl (by decide) rfl ?_
        refine aw_goto (tgt := 48) rfl (by decide) ?_
        refine aw_ls [2, 3, 4, 5, 1, 6, 7, 0] rfl ?_
        exact h
set_option maxRecDepth 20000 in
theorem v_Facts_seekJoke {E : EN} {g : GS} {s : MS} {Q : Option Value → SG → Prop} (x1 : Int32) (x2 : Int32) (x3 : Int32) (hS : SX g) (h : GI E m_Facts_fits [.ref 56, .int x2, .int (-1), .int (-1), .int 0] g s (fun y1_ t1_ => ((y1_ = 0 → AWP E m_Facts_seekJoke 27 0 0 [(0, .ref 56), (1, .int x1), (2, .int x2), (3, .int x3), (4, .int 0), (5, .int 0)] [] (mk g t1_) Q) ∧ (¬ y1_ = 0 → ((x3 = 0 → Q (some (.int (-3))) (mk g t1_)) ∧ (¬ x3 = 0 → AWP E m_Facts_seekJoke 27 0 0 [(0, .ref 56), (1, .int x1), (2, .int x2), (3, .int x3), (4, .int 1), (5, .int 0)] [] (mk g t1_) Q)))))) : AMet E m_Facts_seekJoke [.ref 56, .int x1, .int x2, .int x3] (mk g s) Q := by
  refine AMet.of (by decide) k_Facts_seekJoke [(0, .ref 56), (1, .int x1), (2, .int x2), (3, .int x3)] (Nat.le_of_ble_eq_true rfl) rfl ?_
  refine aw_iconst (q := 1) (v := 0) rfl rfl (by decide) ?_
  refine aw_istore (q := 3) (j := 4) (ls' := [(4, .int _), (0, .ref _), (1, .int _), (2, .int _), (3, .int _)]) rfl rfl (by decide) rfl ?_
  refine aw_aload_n (q := 4) (j := 0) rfl rfl rfl (List.mem_of_getElem? (i := 1) rfl) ?_
  refine aw_iload_n (q := 5) (j := 2) rfl rfl rfl (List.mem_of_getElem? (i := 3) rfl) ?_
  refine aw_iconst (q := 6) (v := (-1)) rfl rfl (by decide) ?_
  refine aw_iconst (q := 7) (v := (-1)) rfl rfl (by decide) ?_
  refine aw_iconst (q := 8) (v := 0) rfl rfl (by decide) ?_
  refine ag_cvI (z := m_Facts_fits) (ci := 0) (av := [.int _, .int _, .int _, .int _]) (st := []) (q := 11) (k' := 0) (n' := 0) rfl rfl cv_Facts_63 ⟨by decide, by decide⟩ rfl rfl (by decide) (by decide) (SX.o hS rfl) rfl rfl rfl (Nat.le_of_ble_eq_true rfl) ?_
  refine GI.mono h (fun y1_ t1_ h => ?_)
  refine aw_if_eq (q := 14) (tgt := 24) rfl rfl (by decide) ⟨fun cd_1 => ?_, fun cd_1 => ?_⟩
  · replace h := h.1 cd_1
    refine aw_iconst (q := 25) (v := 0) rfl rfl (by decide) ?_
    refine aw_istore (q := 27) (j := 5) (ls' := [(5, .int _), (4, .int _), (0, .ref _), (1, .int _), (2, .int _), (3, .int _)]) rfl rfl (by decide) rfl ?_
    refine aw_ls [2, 3, 4, 5, 1, 0] rfl ?_
    exact h
  · replace h := h.2 cd_1
    refine aw_iload_n (q := 15) (j := 3) rfl rfl rfl (List.mem_of_getElem? (i := 4) rfl) ?_
    refine aw_if_ne (q := 18) (tgt := 21) rfl rfl (by decide) ⟨fun cd_2 => ?_, fun cd_2 => ?_⟩
    · replace h := h.1 cd_2
      refine aw_bipush (q := 20) (v := (-3)) rfl rfl (by decide) ?_
      exact aw_ireturn (ty := .int) rfl rfl rfl (by decide) (by decide) h
    · replace h := h.2 cd_2
      refine aw_iinc (q := 24) (v := 1) (ls' := [(4, .int _), (0, .ref _), (1, .int _), (2, .int _), (3, .int _)]) rfl rfl (List.mem_of_getElem? (i := 0) rfl) rfl (by decide) rfl ?_
      refine aw_iconst (q := 25) (v := 0) rfl rfl (by decide) ?_
      refine aw_istore (q := 27) (j := 5) (ls' := [(5, .int _), (4, .int _), (0, .ref _), (1, .int _), (2, .int _), (3, .int _)]) rfl rfl (by decide) rfl ?_
      refine aw_ls [2, 3, 4, 5, 1, 0] rfl ?_
      exact h
set_option maxRecDepth 20000 in
theorem v_Facts_fits_3 {E : EN} {g : GS} {s : MS} {Q : Option Value → SG → Prop} (x1 : Int32) (x2 : Int32) (x3 : Int32) (x4 : Int32) (x5 : Int32) (hS : SX g) (h : ((x1 ≤ x5 → Q (some (.int 1)) (mk g s)) ∧ (¬ x1 ≤ x5 → vp_in x5 20 ∧ GI E m_Facts_seenIn [.ref 56, .int (s.1 57 ((x5).toNatClampNeg)), .int x5, .int (s.1 59 ((x5).toNatClampNeg))] g s (fun y1_ t1_ => (((t1_.1 59 ((x5).toNatClampNeg)) < x4 → ((y1_ = (t1_.1 60 ((x5).toNatClampNeg)) → AWP E m_Facts_fits 3 0 0 [(0, .ref 56), (1, .int x1), (2, .int x2), (3, .int x3), (4, .int x4), (5, .int (x5 + 1))] [] (mk g t1_) Q) ∧ (¬ y1_ = (t1_.1 60 ((x5).toNatClampNeg)) → Q (some (.int 0)) (mk g t1_)))) ∧ (¬ (t1_.1 59 ((x5).toNatClampNeg)) < x4 → (((s.1 57 ((x5).toNatClampNeg)) = x2 → (((s.1 57 ((x5).toNatClampNeg)) = x2 → GI E m_Facts_seenIn [.ref 56, .int x3, .int x5, .int x4] g t1_ (fun y2_ t2_ => GI E m_Facts_seenIn [.ref 56, .int (s.1 57 ((x5).toNatClampNeg)), .int x5, .int x4] g t2_ (fun y3_ t3_ => (((y1_ + (y2_ - y3_)) = (t3_.1 60 ((x5).toNatClampNeg)) → AWP E m_Facts_fits 3 0 0 [(0, .ref 56), (1, .int x1), (2, .int x2), (3, .int x3), (4, .int x4), (5, .int (x5 + 1))] [] (mk g t3_) Q) ∧ (¬ (y1_ + (y2_ - y3_)) = (t3_.1 60 ((x5).toNatClampNeg)) → Q (some (.int 0)) (mk g t3_)))))) ∧ (¬ (s.1 57 ((x5).toNatClampNeg)) = x2 → GI E m_Facts_seenIn [.ref 56, .int x2, .int x5, .int x4] g t1_ (fun y4_ t4_ => GI E m_Facts_seenIn [.ref 56, .int (s.1 57 ((x5).toNatClampNeg)), .int x5, .int x4] g t4_ (fun y5_ t5_ => (((y1_ + (y4_ - y5_)) = (t5_.1 60 ((x5).toNatClampNeg)) → AWP E m_Facts_fits 3 0 0 [(0, .ref 56), (1, .int x1), (2, .int x2), (3, .int x3), (4, .int x4), (5, .int (x5 + 1))] [] (mk g t5_) Q) ∧ (¬ (y1_ + (y4_ - y5_)) = (t5_.1 60 ((x5).toNatClampNeg)) → Q (some (.int 0)) (mk g t5_)))))))) ∧ (¬ (s.1 57 ((x5).toNatClampNeg)) = x2 → (((s.1 57 ((x5).toNatClampNeg)) = x3 → (((s.1 57 ((x5).toNatClampNeg)) = x2 → GI E m_Facts_seenIn [.ref 56, .int x3, .int x5, .int x4] g t1_ (fun y6_ t6_ => GI E m_Facts_seenIn [.ref 56, .int (s.1 57 ((x5).toNatClampNeg)), .int x5, .int x4] g t6_ (fun y7_ t7_ => (((y1_ + (y6_ - y7_)) = (t7_.1 60 ((x5).toNatClampNeg)) → AWP E m_Facts_fits 3 0 0 [(0, .ref 56), (1, .int x1), (2, .int x2), (3, .int x3), (4, .int x4), (5, .int (x5 + 1))] [] (mk g t7_) Q) ∧ (¬ (y1_ + (y6_ - y7_)) = (t7_.1 60 ((x5).toNatClampNeg)) → Q (some (.int 0)) (mk g t7_)))))) ∧ (¬ (s.1 57 ((x5).toNatClampNeg)) = x2 → GI E m_Facts_seenIn [.ref 56, .int x2, .int x5, .int x4] g t1_ (fun y8_ t8_ => GI E m_Facts_seenIn [.ref 56, .int (s.1 57 ((x5).toNatClampNeg)), .int x5, .int x4] g t8_ (fun y9_ t9_ => (((y1_ + (y8_ - y9_)) = (t9_.1 60 ((x5).toNatClampNeg)) → AWP E m_Facts_fits 3 0 0 [(0, .ref 56), (1, .int x1), (2, .int x2), (3, .int x3), (4, .int x4), (5, .int (x5 + 1))] [] (mk g t9_) Q) ∧ (¬ (y1_ + (y8_ - y9_)) = (t9_.1 60 ((x5).toNatClampNeg)) → Q (some (.int 0)) (mk g t9_)))))))) ∧ (¬ (s.1 57 ((x5).toNatClampNeg)) = x3 → ((y1_ = (t1_.1 60 ((x5).toNatClampNeg)) → AWP E m_Facts_fits 3 0 0 [(0, .ref 56), (1, .int x1), (2, .int x2), (3, .int x3), (4, .int x4), (5, .int (x5 + 1))] [] (mk g t1_) Q) ∧ (¬ y1_ = (t1_.1 60 ((x5).toNatClampNeg)) → Q (some (.int 0)) (mk g t1_))))))))))))) : AWP E m_Facts_fits 3 0 0 [(0, .ref 56), (1, .int x1), (2, .int x2), (3, .int x3), (4, .int x4), (5, .int x5)] [] (mk g s) Q := by
  refine aw_iload (q := 5) (j := 5) rfl rfl (List.mem_of_getElem? (i := 5) rfl) ?_
  refine aw_iload_n (q := 6) (j := 1) rfl rfl rfl (List.mem_of_getElem? (i := 1) rfl) ?_
  refine aw_icmp_ge (q := 9) (tgt := 118) rfl rfl (by decide) ⟨fun cd_1 => ?_, fun cd_1 => ?_⟩
  · replace h := h.1 cd_1
    refine aw_iconst (q := 119) (v := 1) rfl rfl (by decide) ?_
    exact aw_ireturn (ty := .boolean) rfl rfl rfl (by decide) (by decide) h
  · replace h := h.2 cd_1
    refine aw_aload_n (q := 10) (j := 0) rfl rfl rfl (List.mem_of_getElem? (i := 0) rfl) ?_
    refine ag_getR (q := 13) rfl rfl fl_Facts_9 rfl (SX.o hS rfl) (SX.r hS rfl) ?_
    refine aw_iload (q := 15) (j := 5) rfl rfl (List.mem_of_getElem? (i := 5) rfl) ?_
    obtain ⟨bd_2, h⟩ := h
    refine ag_iaload (q := 16) (N := 20) rfl rfl (SX.a hS rfl) bd_2 ?_
    refine aw_istore (q := 18) (j := 6) (ls' := [(6, .int _), (0, .ref _), (1, .int _), (2, .int _), (3, .int _), (4, .int _), (5, .int _)]) rfl rfl (by decide) rfl ?_
    refine aw_aload_n (q := 19) (j := 0) rfl rfl rfl (List.mem_of_getElem? (i := 1) rfl) ?_
    refine aw_iload (q := 21) (j := 6) rfl rfl (List.mem_of_getElem? (i := 0) rfl) ?_
    refine aw_iload (q := 23) (j := 5) rfl rfl (List.mem_of_getElem? (i := 6) rfl) ?_
    refine aw_aload_n (q := 24) (j := 0) rfl rfl rfl (List.mem_of_getElem? (i := 1) rfl) ?_
    refine ag_getR (q := 27) rfl rfl fl_Facts_18 rfl (SX.o hS rfl) (SX.r hS rfl) ?_
    refine aw_iload (q := 29) (j := 5) rfl rfl (List.mem_of_getElem? (i := 6) rfl) ?_
    refine ag_iaload (q := 30) (N := 20) rfl rfl (SX.a hS rfl) bd_2 ?_
    refine ag_cvI (z := m_Facts_seenIn) (ci := 0) (av := [.int _, .int _, .int _]) (st := []) (q := 33) (k' := 0) (n' := 0) rfl rfl cv_Facts_67 ⟨by decide, by decide⟩ rfl rfl (by decide) (by decide) (SX.o hS rfl) rfl rfl rfl (Nat.le_of_ble_eq_true rfl) ?_
    refine GI.mono h (fun y1_ t1_ h => ?_)
    refine aw_istore (q := 35) (j := 7) (ls' := [(7, .int _), (6, .int _), (0, .ref _), (1, .int _), (2, .int _), (3, .int _), (4, .int _), (5, .int _)]) rfl rfl (by decide) rfl ?_
    refine aw_aload_n (q := 36) (j := 0) rfl rfl rfl (List.mem_of_getElem? (i := 2) rfl) ?_
    refine ag_getR (q := 39) rfl rfl fl_Facts_18 rfl (SX.o hS rfl) (SX.r hS rfl) ?_
    refine aw_iload (q := 41) (j := 5) rfl rfl (List.mem_of_getElem? (i := 7) rfl) ?_
    refine ag_iaload (q := 42) (N := 20) rfl rfl (SX.a hS rfl) bd_2 ?_
    refine aw_iload (q := 44) (j := 4) rfl rfl (List.mem_of_getElem? (i := 6) rfl) ?_
    refine aw_icmp_lt (q := 47) (tgt := 98) rfl rfl (by decide) ⟨fun cd_3 => ?_, fun cd_3 => ?_⟩
    · replace h := h.1 cd_3
      refine aw_iload (q := 100) (j := 7) rfl rfl (List.mem_of_getElem? (i := 0) rfl) ?_
      refine aw_aload_n (q := 101) (j := 0) rfl rfl rfl (List.mem_of_getElem? (i := 2) rfl) ?_
      refine ag_getR (q := 104) rfl rfl fl_Facts_21 rfl (SX.o hS rfl) (SX.r hS rfl) ?_
      refine aw_iload (q := 106) (j := 5) rfl rfl (List.mem_of_getElem? (i := 7) rfl) ?_
      refine ag_iaload (q := 107) (N := 20) rfl rfl (SX.a hS rfl) bd_2 ?_
      refine aw_icmp_eq (q := 110) (tgt := 112) rfl rfl (by decide) ⟨fun cd_4 => ?_, fun cd_4 => ?_⟩
      · replace h := h.1 cd_4
        refine aw_iinc (q := 115) (v := _ + 1) (ls' := [(5, .int _), (7, .int _), (6, .int _), (0, .ref _), (1, .int _), (2, .int _), (3, .int _), (4, .int _)]) rfl rfl (List.mem_of_getElem? (i := 7) rfl) rfl (by decide) rfl ?_
        refine aw_goto (tgt := 3) rfl (by decide) ?_
        refine aw_ls [3, 4, 5, 6, 7, 0] rfl ?_
        exact h
      · replace h := h.2 cd_4
        refine aw_iconst (q := 111) (v := 0) rfl rfl (by decide) ?_
        exact aw_ireturn (ty := .boolean) rfl rfl rfl (by decide) (by decide) h
    · replace h := h.2 cd_3
      refine aw_iload (q := 49) (j := 6) rfl rfl (List.mem_of_getElem? (i := 1) rfl) ?_
      refine aw_iload_n (q := 50) (j := 2) rfl rfl rfl (List.mem_of_getElem? (i := 4) rfl) ?_
      refine aw_icmp_eq (q := 53) (tgt := 59) rfl rfl (by decide) ⟨fun cd_5 => ?_, fun cd_5 => ?_⟩
      · replace h := h.1 cd_5
        refine aw_iload (q := 61) (j := 6) rfl rfl (List.mem_of_getElem? (i := 1) rfl) ?_
        refine aw_iload_n (q := 62) (j := 2) rfl rfl rfl (List.mem_of_getElem? (i := 4) rfl) ?_
        refine aw_icmp_ne (q := 65) (tgt := 69) rfl rfl (by decide) ⟨fun cd_6 => ?_, fun cd_6 => ?_⟩
        · replace h := h.1 cd_6
          refine aw_iload_n (q := 66) (j := 3) rfl rfl rfl (List.mem_of_getElem? (i := 5) rfl) ?_
          refine aw_goto (tgt := 70) rfl (by decide) ?_
          refine aw_istore (q := 72) (j := 8) (ls' := [(8, .int _), (7, .int _), (6, .int _), (0, .ref _), (1, .int _), (2, .int _), (3, .int _), (4, .int _), (5, .int _)]) rfl rfl (by decide) rfl ?_
          refine aw_iload (q := 74) (j := 7) rfl rfl (List.mem_of_getElem? (i := 1) rfl) ?_
          refine aw_aload_n (q := 75) (j := 0) rfl rfl rfl (List.mem_of_getElem? (i := 3) rfl) ?_
          refine aw_iload (q := 77) (j := 8) rfl rfl (List.mem_of_getElem? (i := 0) rfl) ?_
          refine aw_iload (q := 79) (j := 5) rfl rfl (List.mem_of_getElem? (i := 8) rfl) ?_
          refine aw_iload (q := 81) (j := 4) rfl rfl (List.mem_of_getElem? (i := 7) rfl) ?_
          refine ag_cvI (z := m_Facts_seenIn) (ci := 0) (av := [.int _, .int _, .int _]) (st := [.int _]) (q := 84) (k' := 0) (n' := 0) rfl rfl cv_Facts_67 ⟨by decide, by decide⟩ rfl rfl (by decide) (by decide) (SX.o hS rfl) rfl rfl rfl (Nat.le_of_ble_eq_true rfl) ?_
          refine GI.mono h (fun y2_ t2_ h => ?_)
          refine aw_aload_n (q := 85) (j := 0) rfl rfl rfl (List.mem_of_getElem? (i := 3) rfl) ?_
          refine aw_iload (q := 87) (j := 6) rfl rfl (List.mem_of_getElem? (i := 2) rfl) ?_
          refine aw_iload (q := 89) (j := 5) rfl rfl (List.mem_of_getElem? (i := 8) rfl) ?_
          refine aw_iload (q := 91) (j := 4) rfl rfl (List.mem_of_getElem? (i := 7) rfl) ?_
          refine ag_cvI (z := m_Facts_seenIn) (ci := 0) (av := [.int _, .int _, .int _]) (st := [.int _, .int _]) (q := 94) (k' := 0) (n' := 0) rfl rfl cv_Facts_67 ⟨by decide, by decide⟩ rfl rfl (by decide) (by decide) (SX.o hS rfl) rfl rfl rfl (Nat.le_of_ble_eq_true rfl) ?_
          refine GI.mono h (fun y3_ t3_ h => ?_)
          refine aw_isub (q := 95) rfl rfl ?_
          refine aw_iadd (q := 96) rfl rfl ?_
          refine aw_istore (q := 98) (j := 7) (ls' := [(7, .int _), (8, .int _), (6, .int _), (0, .ref _), (1, .int _), (2, .int _), (3, .int _), (4, .int _), (5, .int _)]) rfl rfl (by decide) rfl ?_
          refine aw_iload (q := 100) (j := 7) rfl rfl (List.mem_of_getElem? (i := 0) rfl) ?_
          refine aw_aload_n (q := 101) (j := 0) rfl rfl rfl (List.mem_of_getElem? (i := 3) rfl) ?_
          refine ag_getR (q := 104) rfl rfl fl_Facts_21 rfl (SX.o hS rfl) (SX.r hS rfl) ?_
          refine aw_iload (q := 106) (j := 5) rfl rfl (List.mem_of_getElem? (i := 8) rfl) ?_
          refine ag_iaload (q := 107) (N := 20) rfl rfl (SX.a hS rfl) bd_2 ?_
          refine aw_icmp_eq (q := 110) (tgt := 112) rfl rfl (by decide) ⟨fun cd_7 => ?_, fun cd_7 => ?_⟩
          · replace h := h.1 cd_7
            refine aw_iinc (q := 115) (v := _ + 1) (ls' := [(5, .int _), (7, .int _), (8, .int _), (6, .int _), (0, .ref _), (1, .int _), (2, .int _), (3, .int _), (4, .int _)]) rfl rfl (List.mem_of_getElem? (i := 8) rfl) rfl (by decide) rfl ?_
            refine aw_goto (tgt := 3) rfl (by decide) ?_
            refine aw_ls [4, 5, 6, 7, 8, 0] rfl ?_
            exact h
          · replace h := h.2 cd_7
            refine aw_iconst (q := 111) (v := 0) rfl rfl (by decide) ?_
            exact aw_ireturn (ty := .boolean) rfl rfl rfl (by decide) (by decide) h
        · replace h := h.2 cd_6
          refine aw_iload_n (q := 70) (j := 2) rfl rfl rfl (List.mem_of_getElem? (i := 4) rfl) ?_
          refine aw_istore (q := 72) (j := 8) (ls' := [(8, .int _), (7, .int _), (6, .int _), (0, .ref _), (1, .int _), (2, .int _), (3, .int _), (4, .int _), (5, .int _)]) rfl rfl (by decide) rfl ?_
          refine aw_iload (q := 74) (j := 7) rfl rfl (List.mem_of_getElem? (i := 1) rfl) ?_
          refine aw_aload_n (q := 75) (j := 0) rfl rfl rfl (List.mem_of_getElem? (i := 3) rfl) ?_
          refine aw_iload (q := 77) (j := 8) rfl rfl (List.mem_of_getElem? (i := 0) rfl) ?_
          refine aw_iload (q := 79) (j := 5) rfl rfl (List.mem_of_getElem? (i := 8) rfl) ?_
          refine aw_iload (q := 81) (j := 4) rfl rfl (List.mem_of_getElem? (i := 7) rfl) ?_
          refine ag_cvI (z := m_Facts_seenIn) (ci := 0) (av := [.int _, .int _, .int _]) (st := [.int _]) (q := 84) (k' := 0) (n' := 0) rfl rfl cv_Facts_67 ⟨by decide, by decide⟩ rfl rfl (by decide) (by decide) (SX.o hS rfl) rfl rfl rfl (Nat.le_of_ble_eq_true rfl) ?_
          refine GI.mono h (fun y4_ t4_ h => ?_)
          refine aw_aload_n (q := 85) (j := 0) rfl rfl rfl (List.mem_of_getElem? (i := 3) rfl) ?_
          refine aw_iload (q := 87) (j := 6) rfl rfl (List.mem_of_getElem? (i := 2) rfl) ?_
          refine aw_iload (q := 89) (j := 5) rfl rfl (List.mem_of_getElem? (i := 8) rfl) ?_
          refine aw_iload (q := 91) (j := 4) rfl rfl (List.mem_of_getElem? (i := 7) rfl) ?_
          refine ag_cvI (z := m_Facts_seenIn) (ci := 0) (av := [.int _, .int _, .int _]) (st := [.int _, .int _]) (q := 94) (k' := 0) (n' := 0) rfl rfl cv_Facts_67 ⟨by decide, by decide⟩ rfl rfl (by decide) (by decide) (SX.o hS rfl) rfl rfl rfl (Nat.le_of_ble_eq_true rfl) ?_
          refine GI.mono h (fun y5_ t5_ h => ?_)
          refine aw_isub (q := 95) rfl rfl ?_
          refine aw_iadd (q := 96) rfl rfl ?_
          refine aw_istore (q := 98) (j := 7) (ls' := [(7, .int _), (8, .int _), (6, .int _), (0, .ref _), (1, .int _), (2, .int _), (3, .int _), (4, .int _), (5, .int _)]) rfl rfl (by decide) rfl ?_
          refine aw_iload (q := 100) (j := 7) rfl rfl (List.mem_of_getElem? (i := 0) rfl) ?_
          refine aw_aload_n (q := 101) (j := 0) rfl rfl rfl (List.mem_of_getElem? (i := 3) rfl) ?_
          refine ag_getR (q := 104) rfl rfl fl_Facts_21 rfl (SX.o hS rfl) (SX.r hS rfl) ?_
          refine aw_iload (q := 106) (j := 5) rfl rfl (List.mem_of_getElem? (i := 8) rfl) ?_
          refine ag_iaload (q := 107) (N := 20) rfl rfl (SX.a hS rfl) bd_2 ?_
          refine aw_icmp_eq (q := 110) (tgt := 112) rfl rfl (by decide) ⟨fun cd_8 => ?_, fun cd_8 => ?_⟩
          · replace h := h.1 cd_8
            refine aw_iinc (q := 115) (v := _ + 1) (ls' := [(5, .int _), (7, .int _), (8, .int _), (6, .int _), (0, .ref _), (1, .int _), (2, .int _), (3, .int _), (4, .int _)]) rfl rfl (List.mem_of_getElem? (i := 8) rfl) rfl (by decide) rfl ?_
            refine aw_goto (tgt := 3) rfl (by decide) ?_
            refine aw_ls [4, 5, 6, 7, 8, 0] rfl ?_
            exact h
          · replace h := h.2 cd_8
            refine aw_iconst (q := 111) (v := 0) rfl rfl (by decide) ?_
            exact aw_ireturn (ty := .boolean) rfl rfl rfl (by decide) (by decide) h
      · replace h := h.2 cd_5
        refine aw_iload (q := 55) (j := 6) rfl rfl (List.mem_of_getElem? (i := 1) rfl) ?_
        refine aw_iload_n (q := 56) (j := 3) rfl rfl rfl (List.mem_of_getElem? (i := 5) rfl) ?_
        refine aw_icmp_ne (q := 59) (tgt := 98) rfl rfl (by decide) ⟨fun cd_9 => ?_, fun cd_9 => ?_⟩
        · replace h := h.1 cd_9
          refine aw_iload (q := 61) (j := 6) rfl rfl (List.mem_of_getElem? (i := 1) rfl) ?_
          refine aw_iload_n (q := 62) (j := 2) rfl rfl rfl (List.mem_of_getElem? (i := 4) rfl) ?_
          refine aw_icmp_ne (q := 65) (tgt := 69) rfl rfl (by decide) ⟨fun cd_10 => ?_, fun cd_10 => ?_⟩
          · replace h := h.1 cd_10
            refine aw_iload_n (q := 66) (j := 3) rfl rfl rfl (List.mem_of_getElem? (i := 5) rfl) ?_
            refine aw_goto (tgt := 70) rfl (by decide) ?_
            refine aw_istore (q := 72) (j := 8) (ls' := [(8, .int _), (7, .int _), (6, .int _), (0, .ref _), (1, .int _), (2, .int _), (3, .int _), (4, .int _), (5, .int _)]) rfl rfl (by decide) rfl ?_
            refine aw_iload (q := 74) (j := 7) rfl rfl (List.mem_of_getElem? (i := 1) rfl) ?_
            refine aw_aload_n (q := 75) (j := 0) rfl rfl rfl (List.mem_of_getElem? (i := 3) rfl) ?_
            refine aw_iload (q := 77) (j := 8) rfl rfl (List.mem_of_getElem? (i := 0) rfl) ?_
            refine aw_iload (q := 79) (j := 5) rfl rfl (List.mem_of_getElem? (i := 8) rfl) ?_
            refine aw_iload (q := 81) (j := 4) rfl rfl (List.mem_of_getElem? (i := 7) rfl) ?_
            refine ag_cvI (z := m_Facts_seenIn) (ci := 0) (av := [.int _, .int _, .int _]) (st := [.int _]) (q := 84) (k' := 0) (n' := 0) rfl rfl cv_Facts_67 ⟨by decide, by decide⟩ rfl rfl (by decide) (by decide) (SX.o hS rfl) rfl rfl rfl (Nat.le_of_ble_eq_true rfl) ?_
            refine GI.mono h (fun y6_ t6_ h => ?_)
            refine aw_aload_n (q := 85) (j := 0) rfl rfl rfl (List.mem_of_getElem? (i := 3) rfl) ?_
            refine aw_iload (q := 87) (j := 6) rfl rfl (List.mem_of_getElem? (i := 2) rfl) ?_
            refine aw_iload (q := 89) (j := 5) rfl rfl (List.mem_of_getElem? (i := 8) rfl) ?_
            refine aw_iload (q := 91) (j := 4) rfl rfl (List.mem_of_getElem? (i := 7) rfl) ?_
            refine ag_cvI (z := m_Facts_seenIn) (ci := 0) (av := [.int _, .int _, .int _]) (st := [.int _, .int _]) (q := 94) (k' := 0) (n' := 0) rfl rfl cv_Facts_67 ⟨by decide, by decide⟩ rfl rfl (by decide) (by decide) (SX.o hS rfl) rfl rfl rfl (Nat.le_of_ble_eq_true rfl) ?_
            refine GI.mono h (fun y7_ t7_ h => ?_)
            refine aw_isub (q := 95) rfl rfl ?_
            refine aw_iadd (q := 96) rfl rfl ?_
            refine aw_istore (q := 98) (j := 7) (ls' := [(7, .int _), (8, .int _), (6, .int _), (0, .ref _), (1, .int _), (2, .int _), (3, .int _), (4, .int _), (5, .int _)]) rfl rfl (by decide) rfl ?_
            refine aw_iload (q := 100) (j := 7) rfl rfl (List.mem_of_getElem? (i := 0) rfl) ?_
            refine aw_aload_n (q := 101) (j := 0) rfl rfl rfl (List.mem_of_getElem? (i := 3) rfl) ?_
            refine ag_getR (q := 104) rfl rfl fl_Facts_21 rfl (SX.o hS rfl) (SX.r hS rfl) ?_
            refine aw_iload (q := 106) (j := 5) rfl rfl (List.mem_of_getElem? (i := 8) rfl) ?_
            refine ag_iaload (q := 107) (N := 20) rfl rfl (SX.a hS rfl) bd_2 ?_
            refine aw_icmp_eq (q := 110) (tgt := 112) rfl rfl (by decide) ⟨fun cd_11 => ?_, fun cd_11 => ?_⟩
            · replace h := h.1 cd_11
              refine aw_iinc (q := 115) (v := _ + 1) (ls' := [(5, .int _), (7, .int _), (8, .int _), (6, .int _), (0, .ref _), (1, .int _), (2, .int _), (3, .int _), (4, .int _)]) rfl rfl (List.mem_of_getElem? (i := 8) rfl) rfl (by decide) rfl ?_
              refine aw_goto (tgt := 3) rfl (by decide) ?_
              refine aw_ls [4, 5, 6, 7, 8, 0] rfl ?_
              exact h
            · replace h := h.2 cd_11
              refine aw_iconst (q := 111) (v := 0) rfl rfl (by decide) ?_
              exact aw_ireturn (ty := .boolean) rfl rfl rfl (by decide) (by decide) h
          · replace h := h.2 cd_10
            refine aw_iload_n (q := 70) (j := 2) rfl rfl rfl (List.mem_of_getElem? (i := 4) rfl) ?_
            refine aw_istore (q := 72) (j := 8) (ls' := [(8, .int _), (7, .int _), (6, .int _), (0, .ref _), (1, .int _), (2, .int _), (3, .int _), (4, .int _), (5, .int _)]) rfl rfl (by decide) rfl ?_
            refine aw_iload (q := 74) (j := 7) rfl rfl (List.mem_of_getElem? (i := 1) rfl) ?_
            refine aw_aload_n (q := 75) (j := 0) rfl rfl rfl (List.mem_of_getElem? (i := 3) rfl) ?_
            refine aw_iload (q := 77) (j := 8) rfl rfl (List.mem_of_getElem? (i := 0) rfl) ?_
            refine aw_iload (q := 79) (j := 5) rfl rfl (List.mem_of_getElem? (i := 8) rfl) ?_
            refine aw_iload (q := 81) (j := 4) rfl rfl (List.mem_of_getElem? (i := 7) rfl) ?_
            refine ag_cvI (z := m_Facts_seenIn) (ci := 0) (av := [.int _, .int _, .int _]) (st := [.int _]) (q := 84) (k' := 0) (n' := 0) rfl rfl cv_Facts_67 ⟨by decide, by decide⟩ rfl rfl (by decide) (by decide) (SX.o hS rfl) rfl rfl rfl (Nat.le_of_ble_eq_true rfl) ?_
            refine GI.mono h (fun y8_ t8_ h => ?_)
            refine aw_aload_n (q := 85) (j := 0) rfl rfl rfl (List.mem_of_getElem? (i := 3) rfl) ?_
            refine aw_iload (q := 87) (j := 6) rfl rfl (List.mem_of_getElem? (i := 2) rfl) ?_
            refine aw_iload (q := 89) (j := 5) rfl rfl (List.mem_of_getElem? (i := 8) rfl) ?_
            refine aw_iload (q := 91) (j := 4) rfl rfl (List.mem_of_getElem? (i := 7) rfl) ?_
            refine ag_cvI (z := m_Facts_seenIn) (ci := 0) (av := [.int _, .int _, .int _]) (st := [.int _, .int _]) (q := 94) (k' := 0) (n' := 0) rfl rfl cv_Facts_67 ⟨by decide, by decide⟩ rfl rfl (by decide) (by decide) (SX.o hS rfl) rfl rfl rfl (Nat.le_of_ble_eq_true rfl) ?_
            refine GI.mono h (fun y9_ t9_ h => ?_)
            refine aw_isub (q := 95) rfl rfl ?_
            refine aw_iadd (q := 96) rfl rfl ?_
            refine aw_istore (q := 98) (j := 7) (ls' := [(7, .int _), (8, .int _), (6, .int _), (0, .ref _), (1, .int _), (2, .int _), (3, .int _), (4, .int _), (5, .int _)]) rfl rfl (by decide) rfl ?_
            refine aw_iload (q := 100) (j := 7) rfl rfl (List.mem_of_getElem? (i := 0) rfl) ?_
            refine aw_aload_n (q := 101) (j := 0) rfl rfl rfl (List.mem_of_getElem? (i := 3) rfl) ?_
            refine ag_getR (q := 104) rfl rfl fl_Facts_21 rfl (SX.o hS rfl) (SX.r hS rfl) ?_
            refine aw_iload (q := 106) (j := 5) rfl rfl (List.mem_of_getElem? (i := 8) rfl) ?_
            refine ag_iaload (q := 107) (N := 20) rfl rfl (SX.a hS rfl) bd_2 ?_
            refine aw_icmp_eq (q := 110) (tgt := 112) rfl rfl (by decide) ⟨fun cd_12 => ?_, fun cd_12 => ?_⟩
            · replace h := h.1 cd_12
              refine aw_iinc (q := 115) (v := _ + 1) (ls' := [(5, .int _), (7, .int _), (8, .int _), (6, .int _), (0, .ref _), (1, .int _), (2, .int _), (3, .int _), (4, .int _)]) rfl rfl (List.mem_of_getElem? (i := 8) rfl) rfl (by decide) rfl ?_
              refine aw_goto (tgt := 3) rfl (by decide) ?_
              refine aw_ls [4, 5, 6, 7, 8, 0] rfl ?_
              exact h
            · replace h := h.2 cd_12
              refine aw_iconst (q := 111) (v := 0) rfl rfl (by decide) ?_
              exact aw_ireturn (ty := .boolean) rfl rfl rfl (by decide) (by decide) h
        · replace h := h.2 cd_9
          refine aw_iload (q := 100) (j := 7) rfl rfl (List.mem_of_getElem? (i := 0) rfl) ?_
          refine aw_aload_n (q := 101) (j := 0) rfl rfl rfl (List.mem_of_getElem? (i := 2) rfl) ?_
          refine ag_getR (q := 104) rfl rfl fl_Facts_21 rfl (SX.o hS rfl) (SX.r hS rfl) ?_
          refine aw_iload (q := 106) (j := 5) rfl rfl (List.mem_of_getElem? (i := 7) rfl) ?_
          refine ag_iaload (q := 107) (N := 20) rfl rfl (SX.a hS rfl) bd_2 ?_
          refine aw_icmp_eq (q := 110) (tgt := 112) rfl rfl (by decide) ⟨fun cd_13 => ?_, fun cd_13 => ?_⟩
          · replace h := h.1 cd_13
            refine aw_iinc (q := 115) (v := _ + 1) (ls' := [(5, .int _), (7, .int _), (6, .int _), (0, .ref _), (1, .int _), (2, .int _), (3, .int _), (4, .int _)]) rfl rfl (List.mem_of_getElem? (i := 7) rfl) rfl (by decide) rfl ?_
            refine aw_goto (tgt := 3) rfl (by decide) ?_
            refine aw_ls [3, 4, 5, 6, 7, 0] rfl ?_
            exact h
          · replace h := h.2 cd_13
            refine aw_iconst (q := 111) (v := 0) rfl rfl (by decide) ?_
            exact aw_ireturn (ty := .boolean) rfl rfl rfl (by decide) (by decide) h
set_option maxRecDepth 20000 in
theorem v_Facts_fits {E : EN} {g : GS} {s : MS} {Q : Option Value → SG → Prop} (x1 : Int32) (x2 : Int32) (x3 : Int32) (x4 : Int32) (h : AWP E m_Facts_fits 3 0 0 [(0, .ref 56), (1, .int x1), (2, .int x2), (3, .int x3), (4, .int x4), (5, .int 0)] [] (mk g s) Q) : AMet E m_Facts_fits [.ref 56, .int x1, .int x2, .int x3, .int x4] (mk g s) Q := by
  refine AMet.of (by decide) k_Facts_fits [(0, .ref 56), (1, .int x1), (2, .int x2), (3, .int x3), (4, .int x4)] (Nat.le_of_ble_eq_true rfl) rfl ?_
  refine aw_iconst (q := 1) (v := 0) rfl rfl (by decide) ?_
  refine aw_istore (q := 3) (j := 5) (ls' := [(5, .int _), (0, .ref _), (1, .int _), (2, .int _), (3, .int _), (4, .int _)]) rfl rfl (by decide) rfl ?_
  refine aw_ls [1, 2, 3, 4, 5, 0] rfl ?_
  exact h
set_option maxRecDepth 20000 in
theorem v_Facts_seenIn {E : EN} {g : GS} {s : MS} {Q : Option Value → SG → Prop} (x1 : Int32) (x2 : Int32) (x3 : Int32) (hS : SX g) (h : vp_in x2 20 ∧ vp_in (((x3 * 36) + (x1 * 6)) + (s.1 58 ((x2).toNatClampNeg))) 3600 ∧ Q (some (.int (s.1 61 (((((x3 * 36) + (x1 * 6)) + (s.1 58 ((x2).toNatClampNeg)))).toNatClampNeg)))) (mk g s)) : AMet E m_Facts_seenIn [.ref 56, .int x1, .int x2, .int x3] (mk g s) Q := by
  refine AMet.of (by decide) k_Facts_seenIn [(0, .ref 56), (1, .int x1), (2, .int x2), (3, .int x3)] (Nat.le_of_ble_eq_true rfl) rfl ?_
  refine aw_aload_n (q := 1) (j := 0) rfl rfl rfl (List.mem_of_getElem? (i := 0) rfl) ?_
  refine ag_getR (q := 4) rfl rfl fl_Facts_24 rfl (SX.o hS rfl) (SX.r hS rfl) ?_
  refine aw_iload_n (q := 5) (j := 3) rfl rfl rfl (List.mem_of_getElem? (i := 3) rfl) ?_
  refine aw_bipush (q := 7) (v := 36) rfl rfl (by decide) ?_
  refine aw_imul (q := 8) rfl rfl ?_
  refine aw_iload_n (q := 9) (j := 1) rfl rfl rfl (List.mem_of_getElem? (i := 1) rfl) ?_
  refine aw_bipush (q := 11) (v := 6) rfl rfl (by decide) ?_
  refine aw_imul (q := 12) rfl rfl ?_
  refine aw_iadd (q := 13) rfl rfl ?_
  refine aw_aload_n (q := 14) (j := 0) rfl rfl rfl (List.mem_of_getElem? (i := 0) rfl) ?_
  refine ag_getR (q := 17) rfl rfl fl_Facts_15 rfl (SX.o hS rfl) (SX.r hS rfl) ?_
  refine aw_iload_n (q := 18) (j := 2) rfl rfl rfl (List.mem_of_getElem? (i := 2) rfl) ?_
  obtain ⟨bd_1, h⟩ := h
  refine ag_iaload (q := 19) (N := 20) rfl rfl (SX.a hS rfl) bd_1 ?_
  refine aw_iadd (q := 20) rfl rfl ?_
  obtain ⟨bd_2, h⟩ := h
  refine ag_iaload (q := 21) (N := 3600) rfl rfl (SX.a hS rfl) bd_2 ?_
  exact aw_ireturn (ty := .int) rfl rfl rfl (by decide) (by decide) h
set_option maxRecDepth 20000 in
theorem v_Rs_startOver {E : EN} {g : GS} {s : MS} {Q : Option Value → SG → Prop} (t : Nat) (hS : SX g) (ht : g.2.2 16 10 = some t) (h : XV E m_Mill_use [.ref 28, .ref t] g s (fun g1_ t1_ => SX g1_ ∧ g1_.2.2 16 10 = some t ∧ GV E m_House_begin [.ref 74, .ref t] g1_ t1_ (fun t2_ => GV E m_Facts_clear [.ref 56] g1_ t2_ (fun t3_ => GV E m_Planner_dropWays [.ref 31] g1_ t3_ (fun t4_ => (∀ s5_, s5_ = wi t4_ 16 15 0 → (∀ s6_, s6_ = wi s5_ 16 16 0 → Q none (mk g1_ s6_)))))))) : AMet E m_Rs_startOver [.ref 16] (mk g s) Q := by
  refine AMet.of (by decide) k_Rs_startOver [(0, .ref 16)] (Nat.le_of_ble_eq_true rfl) rfl ?_
  refine aw_aload_n (q := 1) (j := 0) rfl rfl rfl (List.mem_of_getElem? (i := 0) rfl) ?_
  refine ag_getR (q := 4) rfl rfl fl_Rs_81 rfl (SX.o hS rfl) (SX.r hS rfl) ?_
  refine aw_aload_n (q := 5) (j := 0) rfl rfl rfl (List.mem_of_getElem? (i := 0) rfl) ?_
  refine ag_getR (q := 8) rfl rfl fl_Rs_60 rfl (SX.o hS rfl) ht ?_
  refine ax_cvV (z := m_Mill_use) (ci := 4) (av := [.ref _]) (st := []) (q := 11) (k' := 0) (n' := 0) rfl rfl cv_Rs_353 ⟨by decide, by decide⟩ rfl rfl (by decide) (by decide) (SX.o hS rfl) rfl rfl rfl (Nat.le_of_ble_eq_true rfl) ?_
  refine XV.mono h (fun g1_ t1_ h => ?_)
  obtain ⟨hS1_, h⟩ := h
  obtain ⟨ht1_, h⟩ := h
  refine aw_aload_n (q := 12) (j := 0) rfl rfl rfl (List.mem_of_getElem? (i := 0) rfl) ?_
  refine ag_getR (q := 15) rfl rfl fl_Rs_46 rfl (SX.o hS1_ rfl) (SX.r hS1_ rfl) ?_
  refine aw_aload_n (q := 16) (j := 0) rfl rfl rfl (List.mem_of_getElem? (i := 0) rfl) ?_
  refine ag_getR (q := 19) rfl rfl fl_Rs_60 rfl (SX.o hS1_ rfl) ht1_ ?_
  refine ag_cvV (z := m_House_begin) (ci := 2) (av := [.ref _]) (st := []) (q := 22) (k' := 0) (n' := 0) rfl rfl cv_Rs_356 ⟨by decide, by decide⟩ rfl rfl (by decide) (by decide) (HS.o (HS.of hS1_ (b := 74) rfl)) rfl rfl rfl (Nat.le_of_ble_eq_true rfl) ?_
  refine GV.mono h (fun t2_ h => ?_)
  refine aw_aload_n (q := 23) (j := 0) rfl rfl rfl (List.mem_of_getElem? (i := 0) rfl) ?_
  refine ag_getR (q := 26) rfl rfl fl_Rs_39 rfl (SX.o hS1_ rfl) (SX.r hS1_ rfl) ?_
  refine ag_cvV (z := m_Facts_clear) (ci := 0) (av := []) (st := []) (q := 29) (k' := 0) (n' := 0) rfl rfl cv_Rs_359 ⟨by decide, by decide⟩ rfl rfl (by decide) (by decide) (SX.o hS1_ rfl) rfl rfl rfl (Nat.le_of_ble_eq_true rfl) ?_
  refine GV.mono h (fun t3_ h => ?_)
  refine aw_aload_n (q := 30) (j := 0) rfl rfl rfl (List.mem_of_getElem? (i := 0) rfl) ?_
  refine ag_getR (q := 33) rfl rfl fl_Rs_32 rfl (SX.o hS1_ rfl) (SX.r hS1_ rfl) ?_
  refine ag_cvV (z := m_Planner_dropWays) (ci := 5) (av := []) (st := []) (q := 36) (k' := 0) (n' := 0) rfl rfl cv_Rs_243 ⟨by decide, by decide⟩ rfl rfl (by decide) (by decide) (SX.o hS1_ rfl) rfl rfl rfl (Nat.le_of_ble_eq_true rfl) ?_
  refine GV.mono h (fun t4_ h => ?_)
  refine aw_aload_n (q := 37) (j := 0) rfl rfl rfl (List.mem_of_getElem? (i := 0) rfl) ?_
  refine aw_iconst (q := 38) (v := 0) rfl rfl (by decide) ?_
  refine ag_putI (q := 41) rfl rfl fl_Rs_233 rfl rfl (SX.o hS1_ rfl) ?_
  replace h := h _ rfl
  refine aw_aload_n (q := 42) (j := 0) rfl rfl rfl (List.mem_of_getElem? (i := 0) rfl) ?_
  refine aw_iconst (q := 43) (v := 0) rfl rfl (by decide) ?_
  refine ag_putI (q := 46) rfl rfl fl_Rs_341 rfl rfl (SX.o hS1_ rfl) ?_
  replace h := h _ rfl
  exact aw_return rfl rfl (by decide) (by decide) h
set_option maxRecDepth 20000 in
theorem v_Rs_feed {E : EN} {g : GS} {s : MS} {Q : Option Value → SG → Prop} (x1 : Int32) (x2 : Int32) (x3 : Int32) (x4 : Int32) (x5 : Int32) (hS : SX g) (h : ((((s.1 16 12) + 20) ≤ 2000 → GV E m_Rs_putFour [.ref 16, .int x1] g s (fun t1_ => GV E m_Rs_putFour [.ref 16, .int x2] g t1_ (fun t2_ => GV E m_Rs_putFour [.ref 16, .int x3] g t2_ (fun t3_ => GV E m_Rs_putFour [.ref 16, .int x4] g t3_ (fun t4_ => GV E m_Rs_putFour [.ref 16, .int x5] g t4_ (fun t5_ => Q (some (.int (t5_.1 16 12))) (mk g t5_))))))) ∧ (¬ ((s.1 16 12) + 20) ≤ 2000 → Q (some (.int (-1))) (mk g s)))) : AMet E m_Rs_feed [.ref 16, .int x1, .int x2, .int x3, .int x4, .int x5] (mk g s) Q := by
  refine AMet.of (by decide) k_Rs_feed [(0, .ref 16), (1, .int x1), (2, .int x2), (3, .int x3), (4, .int x4), (5, .int x5)] (Nat.le_of_ble_eq_true rfl) rfl ?_
  refine aw_aload_n (q := 1) (j := 0) rfl rfl rfl (List.mem_of_getElem? (i := 0) rfl) ?_
  refine ag_getI (q := 4) rfl rfl fl_Rs_92 rfl (SX.o hS rfl) ?_
  refine aw_bipush (q := 6) (v := 20) rfl rfl (by decide) ?_
  refine aw_iadd (q := 7) rfl rfl ?_
  refine aw_sipush (q := 10) (v := 2000) rfl rfl (by decide) ?_
  refine aw_icmp_le (q := 13) (tgt := 15) rfl rfl (by decide) ⟨fun cd_1 => ?_, fun cd_1 => ?_⟩
  · replace h := h.1 cd_1
    refine aw_aload_n (q := 16) (j := 0) rfl rfl rfl (List.mem_of_getElem? (i := 0) rfl) ?_
    refine aw_iload_n (q := 17) (j := 1) rfl rfl rfl (List.mem_of_getElem? (i := 1) rfl) ?_
    refine ag_cvV (z := m_Rs_putFour) (ci := 10) (av := [.int _]) (st := []) (q := 20) (k' := 0) (n' := 0) rfl rfl cv_Rs_95 ⟨by decide, by decide⟩ rfl rfl (by decide) (by decide) (SX.o hS rfl) rfl rfl rfl (Nat.le_of_ble_eq_true rfl) ?_
    refine GV.mono h (fun t1_ h => ?_)
    refine aw_aload_n (q := 21) (j := 0) rfl rfl rfl (List.mem_of_getElem? (i := 0) rfl) ?_
    refine aw_iload_n (q := 22) (j := 2) rfl rfl rfl (List.mem_of_getElem? (i := 2) rfl) ?_
    refine ag_cvV (z := m_Rs_putFour) (ci := 10) (av := [.int _]) (st := []) (q := 25) (k' := 0) (n' := 0) rfl rfl cv_Rs_95 ⟨by decide, by decide⟩ rfl rfl (by decide) (by decide) (SX.o hS rfl) rfl rfl rfl (Nat.le_of_ble_eq_true rfl) ?_
    refine GV.mono h (fun t2_ h => ?_)
    refine aw_aload_n (q := 26) (j := 0) rfl rfl rfl (List.mem_of_getElem? (i := 0) rfl) ?_
    refine aw_iload_n (q := 27) (j := 3) rfl rfl rfl (List.mem_of_getElem? (i := 3) rfl) ?_
    refine ag_cvV (z := m_Rs_putFour) (ci := 10) (av := [.int _]) (st := []) (q := 30) (k' := 0) (n' := 0) rfl rfl cv_Rs_95 ⟨by decide, by decide⟩ rfl rfl (by decide) (by decide) (SX.o hS rfl) rfl rfl rfl (Nat.le_of_ble_eq_true rfl) ?_
    refine GV.mono h (fun t3_ h => ?_)
    refine aw_aload_n (q := 31) (j := 0) rfl rfl rfl (List.mem_of_getElem? (i := 0) rfl) ?_
    refine aw_iload (q := 33) (j := 4) rfl rfl (List.mem_of_getElem? (i := 4) rfl) ?_
    refine ag_cvV (z := m_Rs_putFour) (ci := 10) (av := [.int _]) (st := []) (q := 36) (k' := 0) (n' := 0) rfl rfl cv_Rs_95 ⟨by decide, by decide⟩ rfl rfl (by decide) (by decide) (SX.o hS rfl) rfl rfl rfl (Nat.le_of_ble_eq_true rfl) ?_
    refine GV.mono h (fun t4_ h => ?_)
    refine aw_aload_n (q := 37) (j := 0) rfl rfl rfl (List.mem_of_getElem? (i := 0) rfl) ?_
    refine aw_iload (q := 39) (j := 5) rfl rfl (List.mem_of_getElem? (i := 5) rfl) ?_
    refine ag_cvV (z := m_Rs_putFour) (ci := 10) (av := [.int _]) (st := []) (q := 42) (k' := 0) (n' := 0) rfl rfl cv_Rs_95 ⟨by decide, by decide⟩ rfl rfl (by decide) (by decide) (SX.o hS rfl) rfl rfl rfl (Nat.le_of_ble_eq_true rfl) ?_
    refine GV.mono h (fun t5_ h => ?_)
    refine aw_aload_n (q := 43) (j := 0) rfl rfl rfl (List.mem_of_getElem? (i := 0) rfl) ?_
    refine ag_getI (q := 46) rfl rfl fl_Rs_92 rfl (SX.o hS rfl) ?_
    exact aw_ireturn (ty := .int) rfl rfl rfl (by decide) (by decide) h
  · replace h := h.2 cd_1
    refine aw_iconst (q := 14) (v := (-1)) rfl rfl (by decide) ?_
    exact aw_ireturn (ty := .int) rfl rfl rfl (by decide) (by decide) h
set_option maxRecDepth 20000 in
theorem v_Rs_putFour_3 {E : EN} {g : GS} {s : MS} {Q : Option Value → SG → Prop} (x1 : Int32) (x2 : Int32) (hS : SX g) (h : ((x2 < 0 → Q none (mk g s)) ∧ (¬ x2 < 0 → ((2000 ≤ (s.1 16 12) → Q none (mk g s)) ∧ (¬ 2000 ≤ (s.1 16 12) → vp_in (s.1 16 12) 2000 ∧ (∀ s1_, s1_ = wi s 17 (((s.1 16 12)).toNatClampNeg) (vp_nar .char (((Int32.toUInt32 (((x1.toUInt32 >>> ((x2 : Int32).toUInt32 &&& Int32.toUInt32 31)).toInt32) &&& 255)) % 65536).toInt32)) → (∀ s2_, s2_ = wi s1_ 16 12 ((s.1 16 12) + 1) → AWP E m_Rs_putFour 3 0 0 [(0, .ref 16), (1, .int x1), (2, .int (x2 + (-8)))] [] (mk g s2_) Q))))))) : AWP E m_Rs_putFour 3 0 0 [(0, .ref 16), (1, .int x1), (2, .int x2)] [] (mk g s) Q := by
  refine aw_iload_n (q := 4) (j := 2) rfl rfl rfl (List.mem_of_getElem? (i := 2) rfl) ?_
  refine aw_if_lt (q := 7) (tgt := 50) rfl rfl (by decide) ⟨fun cd_1 => ?_, fun cd_1 => ?_⟩
  · replace h := h.1 cd_1
    exact aw_return rfl rfl (by decide) (by decide) h
  · replace h := h.2 cd_1
    refine aw_aload_n (q := 8) (j := 0) rfl rfl rfl (List.mem_of_getElem? (i := 0) rfl) ?_
    refine ag_getI (q := 11) rfl rfl fl_Rs_92 rfl (SX.o hS rfl) ?_
    refine aw_sipush (q := 14) (v := 2000) rfl rfl (by decide) ?_
    refine aw_icmp_ge (q := 17) (tgt := 50) rfl rfl (by decide) ⟨fun cd_2 => ?_, fun cd_2 => ?_⟩
    · replace h := h.1 cd_2
      exact aw_return rfl rfl (by decide) (by decide) h
    · replace h := h.2 cd_2
      refine aw_aload_n (q := 18) (j := 0) rfl rfl rfl (List.mem_of_getElem? (i := 0) rfl) ?_
      refine ag_getR (q := 21) rfl rfl fl_Rs_9 rfl (SX.o hS rfl) (SX.r hS rfl) ?_
      refine aw_aload_n (q := 22) (j := 0) rfl rfl rfl (List.mem_of_getElem? (i := 0) rfl) ?_
      refine ag_getI (q := 25) rfl rfl fl_Rs_92 rfl (SX.o hS rfl) ?_
      refine aw_iload_n (q := 26) (j := 1) rfl rfl rfl (List.mem_of_getElem? (i := 1) rfl) ?_
      refine aw_iload_n (q := 27) (j := 2) rfl rfl rfl (List.mem_of_getElem? (i := 2) rfl) ?_
      refine aw_iushr (q := 28) rfl rfl ?_
      refine aw_sipush (q := 31) (v := 255) rfl rfl (by decide) ?_
      refine aw_iand (q := 32) rfl rfl ?_
      refine aw_i2c (q := 33) rfl rfl ?_
      obtain ⟨bd_3, h⟩ := h
      refine ag_castore (q := 34) (N := 2000) rfl rfl (SX.a hS rfl) bd_3 ?_
      replace h := h _ rfl
      refine aw_aload_n (q := 35) (j := 0) rfl rfl rfl (List.mem_of_getElem? (i := 0) rfl) ?_
      refine aw_dup (q := 36) rfl rfl rfl ?_
      refine ag_getI (q := 39) rfl rfl fl_Rs_92 rfl (SX.o hS rfl) ?_
      refine aw_iconst (q := 40) (v := 1) rfl rfl (by decide) ?_
      refine aw_iadd (q := 41) rfl rfl ?_
      refine ag_putI (q := 44) rfl rfl fl_Rs_92 rfl rfl (SX.o hS rfl) ?_
      replace h := h _ rfl
      refine aw_iinc (q := 47) (v := _ + (-8)) (ls' := [(2, .int _), (0, .ref _), (1, .int _)]) rfl rfl (List.mem_of_getElem? (i := 2) rfl) rfl (by decide) rfl ?_
      refine aw_goto (tgt := 3) rfl (by decide) ?_
      refine aw_ls [1, 2, 0] rfl ?_
      exact h
set_option maxRecDepth 20000 in
theorem v_Rs_putFour {E : EN} {g : GS} {s : MS} {Q : Option Value → SG → Prop} (x1 : Int32) (h : AWP E m_Rs_putFour 3 0 0 [(0, .ref 16), (1, .int x1), (2, .int 24)] [] (mk g s) Q) : AMet E m_Rs_putFour [.ref 16, .int x1] (mk g s) Q := by
  refine AMet.of (by decide) k_Rs_putFour [(0, .ref 16), (1, .int x1)] (Nat.le_of_ble_eq_true rfl) rfl ?_
  refine aw_bipush (q := 2) (v := 24) rfl rfl (by decide) ?_
  refine aw_istore_n (q := 3) (j := 2) (ls' := [(2, .int _), (0, .ref _), (1, .int _)]) rfl rfl rfl (by decide) rfl ?_
  refine aw_ls [1, 2, 0] rfl ?_
  exact h
set_option maxRecDepth 20000 in
theorem v_Rs_back {E : EN} {g : GS} {s : MS} {Q : Option Value → SG → Prop} (x1 : Int32) (hS : SX g) (h : ((x1 < 0 → Q (some (.int (-1))) (mk g s)) ∧ (¬ x1 < 0 → ((x1 ≤ (s.1 16 12) → (∀ s1_, s1_ = wi s 16 12 ((s.1 16 12) - x1) → Q (some (.int ((s.1 16 12) - x1))) (mk g s1_))) ∧ (¬ x1 ≤ (s.1 16 12) → Q (some (.int (-1))) (mk g s)))))) : AMet E m_Rs_back [.ref 16, .int x1] (mk g s) Q := by
  refine AMet.of (by decide) k_Rs_back [(0, .ref 16), (1, .int x1)] (Nat.le_of_ble_eq_true rfl) rfl ?_
  refine aw_iload_n (q := 1) (j := 1) rfl rfl rfl (List.mem_of_getElem? (i := 1) rfl) ?_
  refine aw_if_lt (q := 4) (tgt := 12) rfl rfl (by decide) ⟨fun cd_1 => ?_, fun cd_1 => ?_⟩
  · replace h := h.1 cd_1
    refine aw_iconst (q := 13) (v := (-1)) rfl rfl (by decide) ?_
    exact aw_ireturn (ty := .int) rfl rfl rfl (by decide) (by decide) h
  · replace h := h.2 cd_1
    refine aw_iload_n (q := 5) (j := 1) rfl rfl rfl (List.mem_of_getElem? (i := 1) rfl) ?_
    refine aw_aload_n (q := 6) (j := 0) rfl rfl rfl (List.mem_of_getElem? (i := 0) rfl) ?_
    refine ag_getI (q := 9) rfl rfl fl_Rs_92 rfl (SX.o hS rfl) ?_
    refine aw_icmp_le (q := 12) (tgt := 14) rfl rfl (by decide) ⟨fun cd_2 => ?_, fun cd_2 => ?_⟩
    · replace h := h.1 cd_2
      refine aw_aload_n (q := 15) (j := 0) rfl rfl rfl (List.mem_of_getElem? (i := 0) rfl) ?_
      refine aw_dup (q := 16) rfl rfl rfl ?_
      refine ag_getI (q := 19) rfl rfl fl_Rs_92 rfl (SX.o hS rfl) ?_
      refine aw_iload_n (q := 20) (j := 1) rfl rfl rfl (List.mem_of_getElem? (i := 1) rfl) ?_
      refine aw_isub (q := 21) rfl rfl ?_
      refine ag_putI (q := 24) rfl rfl fl_Rs_92 rfl rfl (SX.o hS rfl) ?_
      replace h := h _ rfl
      refine aw_aload_n (q := 25) (j := 0) rfl rfl rfl (List.mem_of_getElem? (i := 0) rfl) ?_
      refine ag_getI (q := 28) rfl rfl fl_Rs_92 rfl (SX.o hS rfl) ?_
      exact aw_ireturn (ty := .int) rfl rfl rfl (by decide) (by decide) h
    · replace h := h.2 cd_2
      refine aw_iconst (q := 13) (v := (-1)) rfl rfl (by decide) ?_
      exact aw_ireturn (ty := .int) rfl rfl rfl (by decide) (by decide) h
set_option maxRecDepth 20000 in
theorem v_Rs_read {E : EN} {g : GS} {s : MS} {Q : Option Value → SG → Prop} (t : Nat) (t2 : Nat) (hS : SX g) (h : GV E m_Tokens_scan [.ref 18, .ref 17, .int (s.1 16 12)] g s (fun t1_ => (∀ s2_, s2_ = wi t1_ 16 12 0 → XI E m_Grammar_check [.ref 22] g s2_ (fun y3_ g3_ t3_ => SX g3_ ∧ g3_.2.2 16 11 = some t2 ∧ g3_.2.2 16 10 = some t ∧ ((y3_ = 0 → XI E m_Teller_fill [.ref 24, .ref t2] g3_ t3_ (fun y4_ g4_ t4_ => SX g4_ ∧ g4_.2.2 16 10 = some t ∧ g4_.2.2 16 11 = some t2 ∧ ((y4_ = 0 → (∀ s5_, s5_ = wi t4_ 16 13 (-1) → XV E m_Rs_startOver [.ref 16] (gr (gr g4_ 16 10 (some t2)) 16 11 (some t)) s5_ (fun g6_ t6_ => SX g6_ ∧ Q (some (.int 0)) (mk g6_ t6_)))) ∧ (¬ y4_ = 0 → GI E m_Tokens_placeOf [.ref 18, .int (t4_.1 24 6)] g4_ t4_ (fun y7_ t7_ => (∀ s8_, s8_ = wi t7_ 16 13 y7_ → Q (some (.int y4_)) (mk g4_ s8_))))))) ∧ (¬ y3_ = 0 → ((y3_ = 0 → (∀ s9_, s9_ = wi t3_ 16 13 (-1) → XV E m_Rs_startOver [.ref 16] (gr (gr g3_ 16 10 (some t2)) 16 11 (some t)) s9_ (fun g10_ t10_ => SX g10_ ∧ Q (some (.int 0)) (mk g10_ t10_)))) ∧ (¬ y3_ = 0 → GI E m_Tokens_placeOf [.ref 18, .int (t3_.1 22 1)] g3_ t3_ (fun y11_ t11_ => (∀ s12_, s12_ = wi t11_ 16 13 y11_ → Q (some (.int y3_)) (mk g3_ s12_))))))))))) : AMet E m_Rs_read [.ref 16] (mk g s) Q := by
  refine AMet.of (by decide) k_Rs_read [(0, .ref 16)] (Nat.le_of_ble_eq_true rfl) rfl ?_
  refine aw_aload_n (q := 1) (j := 0) rfl rfl rfl (List.mem_of_getElem? (i := 0) rfl) ?_
  refine ag_getR (q := 4) rfl rfl fl_Rs_16 rfl (SX.o hS rfl) (SX.r hS rfl) ?_
  refine aw_aload_n (q := 5) (j := 0) rfl rfl rfl (List.mem_of_getElem? (i := 0) rfl) ?_
  refine ag_getR (q := 8) rfl rfl fl_Rs_9 rfl (SX.o hS rfl) (SX.r hS rfl) ?_
  refine aw_aload_n (q := 9) (j := 0) rfl rfl rfl (List.mem_of_getElem? (i := 0) rfl) ?_
  refine ag_getI (q := 12) rfl rfl fl_Rs_92 rfl (SX.o hS rfl) ?_
  refine ag_cvV (z := m_Tokens_scan) (ci := 9) (av := [.ref _, .int _]) (st := []) (q := 15) (k' := 0) (n' := 0) rfl rfl cv_Rs_99 ⟨by decide, by decide⟩ rfl rfl (by decide) (by decide) (SX.o hS rfl) rfl rfl rfl (Nat.le_of_ble_eq_true rfl) ?_
  refine GV.mono h (fun t1_ h => ?_)
  refine aw_aload_n (q := 16) (j := 0) rfl rfl rfl (List.mem_of_getElem? (i := 0) rfl) ?_
  refine aw_iconst (q := 17) (v := 0) rfl rfl (by decide) ?_
  refine ag_putI (q := 20) rfl rfl fl_Rs_92 rfl rfl (SX.o hS rfl) ?_
  replace h := h _ rfl
  refine aw_aload_n (q := 21) (j := 0) rfl rfl rfl (List.mem_of_getElem? (i := 0) rfl) ?_
  refine ag_getR (q := 24) rfl rfl fl_Rs_25 rfl (SX.o hS rfl) (SX.r hS rfl) ?_
  refine ax_cvI (z := m_Grammar_check) (ci := 1) (av := []) (st := []) (q := 27) (k' := 0) (n' := 0) rfl rfl cv_Rs_103 ⟨by decide, by decide⟩ rfl rfl (by decide) (by decide) (SX.o hS rfl) rfl rfl rfl (Nat.le_of_ble_eq_true rfl) ?_
  refine XI.mono h (fun y3_ g3_ t3_ h => ?_)
  obtain ⟨hS3_, h⟩ := h
  obtain ⟨hw3_, h⟩ := h
  obtain ⟨ht3_, h⟩ := h
  refine aw_istore_n (q := 28) (j := 1) (ls' := [(1, .int _), (0, .ref _)]) rfl rfl rfl (by decide) rfl ?_
  refine aw_aload_n (q := 29) (j := 0) rfl rfl rfl (List.mem_of_getElem? (i := 1) rfl) ?_
  refine ag_getR (q := 32) rfl rfl fl_Rs_25 rfl (SX.o hS3_ rfl) (SX.r hS3_ rfl) ?_
  refine ag_getI (q := 35) rfl rfl fl_Rs_107 rfl (SX.o hS3_ rfl) ?_
  refine aw_istore_n (q := 36) (j := 2) (ls' := [(2, .int _), (1, .int _), (0, .ref _)]) rfl rfl rfl (by decide) rfl ?_
  refine aw_iload_n (q := 37) (j := 1) rfl rfl rfl (List.mem_of_getElem? (i := 1) rfl) ?_
  refine aw_if_ne (q := 40) (tgt := 60) rfl rfl (by decide) ⟨fun cd_1 => ?_, fun cd_1 => ?_⟩
  · replace h := h.1 cd_1
    refine aw_aload_n (q := 41) (j := 0) rfl rfl rfl (List.mem_of_getElem? (i := 2) rfl) ?_
    refine ag_getR (q := 44) rfl rfl fl_Rs_72 rfl (SX.o hS3_ rfl) (SX.r hS3_ rfl) ?_
    refine aw_aload_n (q := 45) (j := 0) rfl rfl rfl (List.mem_of_getElem? (i := 2) rfl) ?_
    refine ag_getR (q := 48) rfl rfl fl_Rs_64 rfl (SX.o hS3_ rfl) hw3_ ?_
    refine ax_cvI (z := m_Teller_fill) (ci := 7) (av := [.ref _]) (st := []) (q := 51) (k' := 0) (n' := 0) rfl rfl cv_Rs_110 ⟨by decide, by decide⟩ rfl rfl (by decide) (by decide) (SX.o hS3_ rfl) rfl rfl rfl (Nat.le_of_ble_eq_true rfl) ?_
    refine XI.mono h (fun y4_ g4_ t4_ h => ?_)
    obtain ⟨hS4_, h⟩ := h
    obtain ⟨ht4_, h⟩ := h
    obtain ⟨hw4_, h⟩ := h
    refine aw_istore_n (q := 52) (j := 1) (ls' := [(1, .int _), (2, .int _), (0, .ref _)]) rfl rfl rfl (by decide) rfl ?_
    refine aw_aload_n (q := 53) (j := 0) rfl rfl rfl (List.mem_of_getElem? (i := 2) rfl) ?_
    refine ag_getR (q := 56) rfl rfl fl_Rs_72 rfl (SX.o hS4_ rfl) (SX.r hS4_ rfl) ?_
    refine ag_getI (q := 59) rfl rfl fl_Rs_114 rfl (SX.o hS4_ rfl) ?_
    refine aw_istore_n (q := 60) (j := 2) (ls' := [(2, .int _), (1, .int _), (0, .ref _)]) rfl rfl rfl (by decide) rfl ?_
    refine aw_iload_n (q := 61) (j := 1) rfl rfl rfl (List.mem_of_getElem? (i := 1) rfl) ?_
    refine aw_if_eq (q := 64) (tgt := 78) rfl rfl (by decide) ⟨fun cd_2 => ?_, fun cd_2 => ?_⟩
    · replace h := h.1 cd_2
      refine aw_aload_n (q := 79) (j := 0) rfl rfl rfl (List.mem_of_getElem? (i := 2) rfl) ?_
      refine ag_getR (q := 82) rfl rfl fl_Rs_60 rfl (SX.o hS4_ rfl) ht4_ ?_
      refine aw_astore_n (q := 83) (j := 3) (ls' := [(3, .ref _), (2, .int _), (1, .int _), (0, .ref _)]) rfl rfl rfl (by decide) rfl ?_
      refine aw_aload_n (q := 84) (j := 0) rfl rfl rfl (List.mem_of_getElem? (i := 3) rfl) ?_
      refine aw_aload_n (q := 85) (j := 0) rfl rfl rfl (List.mem_of_getElem? (i := 3) rfl) ?_
      refine ag_getR (q := 88) rfl rfl fl_Rs_64 rfl (SX.o hS4_ rfl) hw4_ ?_
      refine ag_putR (q := 91) rfl rfl fl_Rs_60 rfl rfl (SX.o hS4_ rfl) ?_
      refine aw_aload_n (q := 92) (j := 0) rfl rfl rfl (List.mem_of_getElem? (i := 3) rfl) ?_
      refine aw_aload_n (q := 93) (j := 3) rfl rfl rfl (List.mem_of_getElem? (i := 0) rfl) ?_
      refine ag_putR (q := 96) rfl rfl fl_Rs_64 rfl rfl (SX.o (SX.gro hS4_ rfl) rfl) ?_
      refine aw_aload_n (q := 97) (j := 0) rfl rfl rfl (List.mem_of_getElem? (i := 3) rfl) ?_
      refine aw_iconst (q := 98) (v := (-1)) rfl rfl (by decide) ?_
      refine ag_putI (q := 101) rfl rfl fl_Rs_85 rfl rfl (SX.o (SX.gro (SX.gro hS4_ rfl) rfl) rfl) ?_
      replace h := h _ rfl
      refine aw_aload_n (q := 102) (j := 0) rfl rfl rfl (List.mem_of_getElem? (i := 3) rfl) ?_
      refine ax_cvV (z := m_Rs_startOver) (ci := 10) (av := []) (st := []) (q := 105) (k' := 0) (n' := 0) rfl rfl cv_Rs_89 ⟨by decide, by decide⟩ rfl rfl (by decide) (by decide) (SX.o (SX.gro (SX.gro hS4_ rfl) rfl) rfl) rfl rfl rfl (Nat.le_of_ble_eq_true rfl) ?_
      refine XV.mono h (fun g6_ t6_ h => ?_)
      obtain ⟨hS6_, h⟩ := h
      refine aw_iconst (q := 106) (v := 0) rfl rfl (by decide) ?_
      exact aw_ireturn (ty := .int) rfl rfl rfl (by decide) (by decide) h
    · replace h := h.2 cd_2
      refine aw_aload_n (q := 65) (j := 0) rfl rfl rfl (List.mem_of_getElem? (i := 2) rfl) ?_
      refine aw_aload_n (q := 66) (j := 0) rfl rfl rfl (List.mem_of_getElem? (i := 2) rfl) ?_
      refine ag_getR (q := 69) rfl rfl fl_Rs_16 rfl (SX.o hS4_ rfl) (SX.r hS4_ rfl) ?_
      refine aw_iload_n (q := 70) (j := 2) rfl rfl rfl (List.mem_of_getElem? (i := 0) rfl) ?_
      refine ag_cvI (z := m_Tokens_placeOf) (ci := 9) (av := [.int _]) (st := [.ref _]) (q := 73) (k' := 0) (n' := 0) rfl rfl cv_Rs_115 ⟨by decide, by decide⟩ rfl rfl (by decide) (by decide) (SX.o hS4_ rfl) rfl rfl rfl (Nat.le_of_ble_eq_true rfl) ?_
      refine GI.mono h (fun y7_ t7_ h => ?_)
      refine ag_putI (q := 76) rfl rfl fl_Rs_85 rfl rfl (SX.o hS4_ rfl) ?_
      replace h := h _ rfl
      refine aw_iload_n (q := 77) (j := 1) rfl rfl rfl (List.mem_of_getElem? (i := 1) rfl) ?_
      exact aw_ireturn (ty := .int) rfl rfl rfl (by decide) (by decide) h
  · replace h := h.2 cd_1
    refine aw_iload_n (q := 61) (j := 1) rfl rfl rfl (List.mem_of_getElem? (i := 1) rfl) ?_
    refine aw_if_eq (q := 64) (tgt := 78) rfl rfl (by decide) ⟨fun cd_3 => ?_, fun cd_3 => ?_⟩
    · replace h := h.1 cd_3
      refine aw_aload_n (q := 79) (j := 0) rfl rfl rfl (List.mem_of_getElem? (i := 2) rfl) ?_
      refine ag_getR (q := 82) rfl rfl fl_Rs_60 rfl (SX.o hS3_ rfl) ht3_ ?_
      refine aw_astore_n (q := 83) (j := 3) (ls' := [(3, .ref _), (2, .int _), (1, .int _), (0, .ref _)]) rfl rfl rfl (by decide) rfl ?_
      refine aw_aload_n (q := 84) (j := 0) rfl rfl rfl (List.mem_of_getElem? (i := 3) rfl) ?_
      refine aw_aload_n (q := 85) (j := 0) rfl rfl rfl (List.mem_of_getElem? (i := 3) rfl) ?_
      refine ag_getR (q := 88) rfl rfl fl_Rs_64 rfl (SX.o hS3_ rfl) hw3_ ?_
      refine ag_putR (q := 91) rfl rfl fl_Rs_60 rfl rfl (SX.o hS3_ rfl) ?_
      refine aw_aload_n (q := 92) (j := 0) rfl rfl rfl (List.mem_of_getElem? (i := 3) rfl) ?_
      refine aw_aload_n (q := 93) (j := 3) rfl rfl rfl (List.mem_of_getElem? (i := 0) rfl) ?_
      refine ag_putR (q := 96) rfl rfl fl_Rs_64 rfl rfl (SX.o (SX.gro hS3_ rfl) rfl) ?_
      refine aw_aload_n (q := 97) (j := 0) rfl rfl rfl (List.mem_of_getElem? (i := 3) rfl) ?_
      refine aw_iconst (q := 98) (v := (-1)) rfl rfl (by decide) ?_
      refine ag_putI (q := 101) rfl rfl fl_Rs_85 rfl rfl (SX.o (SX.gro (SX.gro hS3_ rfl) rfl) rfl) ?_
      replace h := h _ rfl
      refine aw_aload_n (q := 102) (j := 0) rfl rfl rfl (List.mem_of_getElem? (i := 3) rfl) ?_
      refine ax_cvV (z := m_Rs_startOver) (ci := 10) (av := []) (st := []) (q := 105) (k' := 0) (n' := 0) rfl rfl cv_Rs_89 ⟨by decide, by decide⟩ rfl rfl (by decide) (by decide) (SX.o (SX.gro (SX.gro hS3_ rfl) rfl) rfl) rfl rfl rfl (Nat.le_of_ble_eq_true rfl) ?_
      refine XV.mono h (fun g10_ t10_ h => ?_)
      obtain ⟨hS10_, h⟩ := h
      refine aw_iconst (q := 106) (v := 0) rfl rfl (by decide) ?_
      exact aw_ireturn (ty := .int) rfl rfl rfl (by decide) (by decide) h
    · replace h := h.2 cd_3
      refine aw_aload_n (q := 65) (j := 0) rfl rfl rfl (List.mem_of_getElem? (i := 2) rfl) ?_
      refine aw_aload_n (q := 66) (j := 0) rfl rfl rfl (List.mem_of_getElem? (i := 2) rfl) ?_
      refine ag_getR (q := 69) rfl rfl fl_Rs_16 rfl (SX.o hS3_ rfl) (SX.r hS3_ rfl) ?_
      refine aw_iload_n (q := 70) (j := 2) rfl rfl rfl (List.mem_of_getElem? (i := 0) rfl) ?_
      refine ag_cvI (z := m_Tokens_placeOf) (ci := 9) (av := [.int _]) (st := [.ref _]) (q := 73) (k' := 0) (n' := 0) rfl rfl cv_Rs_115 ⟨by decide, by decide⟩ rfl rfl (by decide) (by decide) (SX.o hS3_ rfl) rfl rfl rfl (Nat.le_of_ble_eq_true rfl) ?_
      refine GI.mono h (fun y11_ t11_ h => ?_)
      refine ag_putI (q := 76) rfl rfl fl_Rs_85 rfl rfl (SX.o hS3_ rfl) ?_
      replace h := h _ rfl
      refine aw_iload_n (q := 77) (j := 1) rfl rfl rfl (List.mem_of_getElem? (i := 1) rfl) ?_
      exact aw_ireturn (ty := .int) rfl rfl rfl (by decide) (by decide) h
set_option maxRecDepth 20000 in
theorem v_Rs_place {E : EN} {g : GS} {s : MS} {Q : Option Value → SG → Prop}  (hS : SX g) (h : Q (some (.int (s.1 16 13))) (mk g s)) : AMet E m_Rs_place [.ref 16] (mk g s) Q := by
  refine AMet.of (by decide) k_Rs_place [(0, .ref 16)] (Nat.le_of_ble_eq_true rfl) rfl ?_
  refine aw_aload_n (q := 1) (j := 0) rfl rfl rfl (List.mem_of_getElem? (i := 0) rfl) ?_
  refine ag_getI (q := 4) rfl rfl fl_Rs_85 rfl (SX.o hS rfl) ?_
  exact aw_ireturn (ty := .int) rfl rfl rfl (by decide) (by decide) h
set_option maxRecDepth 20000 in
theorem v_Rs_heap {E : EN} {g : GS} {s : MS} {Q : Option Value → SG → Prop} (x1 : Int32) (t : Nat) (hS : SX g) (et : t = 88 ∨ t = 104) (ht : g.2.2 16 10 = some t) (h : GI E m_Rs_isOf [.int x1, .int (s.1 t 11)] g s (fun y1_ t1_ => ((y1_ = 0 → Q (some (.int (-1))) (mk g t1_)) ∧ (¬ y1_ = 0 → vp_in x1 6 ∧ Q (some (.int (t1_.1 75 ((x1).toNatClampNeg)))) (mk g t1_))))) : AMet E m_Rs_heap [.ref 16, .int x1] (mk g s) Q := by
  refine AMet.of (by decide) k_Rs_heap [(0, .ref 16), (1, .int x1)] (Nat.le_of_ble_eq_true rfl) rfl ?_
  refine aw_iload_n (q := 1) (j := 1) rfl rfl rfl (List.mem_of_getElem? (i := 1) rfl) ?_
  refine aw_aload_n (q := 2) (j := 0) rfl rfl rfl (List.mem_of_getElem? (i := 0) rfl) ?_
  refine ag_getR (q := 5) rfl rfl fl_Rs_60 rfl (SX.o hS rfl) ht ?_
  refine ag_getI (q := 8) rfl rfl fl_Rs_119 rfl (TS.o (TS.of hS et)) ?_
  refine ag_csI (z := m_Rs_isOf) (av := [.int _, .int _]) (st := []) (q := 11) (k' := 0) (n' := 0) rfl rfl cs_Rs_122 ⟨by decide, by decide⟩ rfl rfl (by decide) (by decide) rfl rfl (Nat.le_of_ble_eq_true rfl) ?_
  refine GI.mono h (fun y1_ t1_ h => ?_)
  refine aw_if_eq (q := 14) (tgt := 26) rfl rfl (by decide) ⟨fun cd_1 => ?_, fun cd_1 => ?_⟩
  · replace h := h.1 cd_1
    refine aw_iconst (q := 27) (v := (-1)) rfl rfl (by decide) ?_
    exact aw_ireturn (ty := .int) rfl rfl rfl (by decide) (by decide) h
  · replace h := h.2 cd_1
    refine aw_aload_n (q := 15) (j := 0) rfl rfl rfl (List.mem_of_getElem? (i := 0) rfl) ?_
    refine ag_getR (q := 18) rfl rfl fl_Rs_46 rfl (SX.o hS rfl) (SX.r hS rfl) ?_
    refine ag_getR (q := 21) rfl rfl fl_Rs_126 rfl (HS.o (HS.of hS (b := 74) rfl)) (HS.r0 (HS.of hS (b := 74) rfl)) ?_
    refine aw_iload_n (q := 22) (j := 1) rfl rfl rfl (List.mem_of_getElem? (i := 1) rfl) ?_
    obtain ⟨bd_2, h⟩ := h
    refine ag_iaload (q := 23) (N := 6) rfl rfl (HS.a0 (HS.of hS (b := 74) rfl)) bd_2 ?_
    refine aw_goto (tgt := 27) rfl (by decide) ?_
    exact aw_ireturn (ty := .int) rfl rfl rfl (by decide) (by decide) h
set_option maxRecDepth 20000 in
theorem v_Rs_isOf {E : EN} {g : GS} {s : MS} {Q : Option Value → SG → Prop} (x0 : Int32) (x1 : Int32) (h : ((x0 < 0 → Q (some (.int 0)) (mk g s)) ∧ (¬ x0 < 0 → ((x1 ≤ x0 → Q (some (.int 0)) (mk g s)) ∧ (¬ x1 ≤ x0 → Q (some (.int 1)) (mk g s)))))) : AMet E m_Rs_isOf [.int x0, .int x1] (mk g s) Q := by
  refine AMet.of (by decide) k_Rs_isOf [(0, .int x0), (1, .int x1)] (Nat.le_of_ble_eq_true rfl) rfl ?_
  refine aw_iload_n (q := 1) (j := 0) rfl rfl rfl (List.mem_of_getElem? (i := 0) rfl) ?_
  refine aw_if_lt (q := 4) (tgt := 13) rfl rfl (by decide) ⟨fun cd_1 => ?_, fun cd_1 => ?_⟩
  · replace h := h.1 cd_1
    refine aw_iconst (q := 14) (v := 0) rfl rfl (by decide) ?_
    exact aw_ireturn (ty := .boolean) rfl rfl rfl (by decide) (by decide) h
  · replace h := h.2 cd_1
    refine aw_iload_n (q := 5) (j := 0) rfl rfl rfl (List.mem_of_getElem? (i := 0) rfl) ?_
    refine aw_iload_n (q := 6) (j := 1) rfl rfl rfl (List.mem_of_getElem? (i := 1) rfl) ?_
    refine aw_icmp_ge (q := 9) (tgt := 13) rfl rfl (by decide) ⟨fun cd_2 => ?_, fun cd_2 => ?_⟩
    · replace h := h.1 cd_2
      refine aw_iconst (q := 14) (v := 0) rfl rfl (by decide) ?_
      exact aw_ireturn (ty := .boolean) rfl rfl rfl (by decide) (by decide) h
    · replace h := h.2 cd_2
      refine aw_iconst (q := 10) (v := 1) rfl rfl (by decide) ?_
      refine aw_goto (tgt := 14) rfl (by decide) ?_
      exact aw_ireturn (ty := .boolean) rfl rfl rfl (by decide) (by decide) h
set_option maxRecDepth 20000 in
theorem v_Rs_hole {E : EN} {g : GS} {s : MS} {Q : Option Value → SG → Prop} (x1 : Int32) (x2 : Int32) (t : Nat) (hS : SX g) (et : t = 88 ∨ t = 104) (ht : g.2.2 16 10 = some t) (h : GI E m_Rs_isOf [.int x1, .int (s.1 t 12)] g s (fun y1_ t1_ => ((y1_ = 0 → Q (some (.int (-1))) (mk g t1_)) ∧ (¬ y1_ = 0 → GI E m_Rs_isOf [.int x2, .int (t1_.1 t 11)] g t1_ (fun y2_ t2_ => ((y2_ = 0 → Q (some (.int (-1))) (mk g t2_)) ∧ (¬ y2_ = 0 → GI E m_House_inHole [.ref 74, .int x1, .int x2] g t2_ (fun y3_ t3_ => Q (some (.int y3_)) (mk g t3_))))))))) : AMet E m_Rs_hole [.ref 16, .int x1, .int x2] (mk g s) Q := by
  refine AMet.of (by decide) k_Rs_hole [(0, .ref 16), (1, .int x1), (2, .int x2)] (Nat.le_of_ble_eq_true rfl) rfl ?_
  refine aw_iload_n (q := 1) (j := 1) rfl rfl rfl (List.mem_of_getElem? (i := 1) rfl) ?_
  refine aw_aload_n (q := 2) (j := 0) rfl rfl rfl (List.mem_of_getElem? (i := 0) rfl) ?_
  refine ag_getR (q := 5) rfl rfl fl_Rs_60 rfl (SX.o hS rfl) ht ?_
  refine ag_getI (q := 8) rfl rfl fl_Rs_130 rfl (TS.o (TS.of hS et)) ?_
  refine ag_csI (z := m_Rs_isOf) (av := [.int _, .int _]) (st := []) (q := 11) (k' := 0) (n' := 0) rfl rfl cs_Rs_122 ⟨by decide, by decide⟩ rfl rfl (by decide) (by decide) rfl rfl (Nat.le_of_ble_eq_true rfl) ?_
  refine GI.mono h (fun y1_ t1_ h => ?_)
  refine aw_if_eq (q := 14) (tgt := 40) rfl rfl (by decide) ⟨fun cd_1 => ?_, fun cd_1 => ?_⟩
  · replace h := h.1 cd_1
    refine aw_iconst (q := 41) (v := (-1)) rfl rfl (by decide) ?_
    exact aw_ireturn (ty := .int) rfl rfl rfl (by decide) (by decide) h
  · replace h := h.2 cd_1
    refine aw_iload_n (q := 15) (j := 2) rfl rfl rfl (List.mem_of_getElem? (i := 2) rfl) ?_
    refine aw_aload_n (q := 16) (j := 0) rfl rfl rfl (List.mem_of_getElem? (i := 0) rfl) ?_
    refine ag_getR (q := 19) rfl rfl fl_Rs_60 rfl (SX.o hS rfl) ht ?_
    refine ag_getI (q := 22) rfl rfl fl_Rs_119 rfl (TS.o (TS.of hS et)) ?_
    refine ag_csI (z := m_Rs_isOf) (av := [.int _, .int _]) (st := []) (q := 25) (k' := 0) (n' := 0) rfl rfl cs_Rs_122 ⟨by decide, by decide⟩ rfl rfl (by decide) (by decide) rfl rfl (Nat.le_of_ble_eq_true rfl) ?_
    refine GI.mono h (fun y2_ t2_ h => ?_)
    refine aw_if_eq (q := 28) (tgt := 40) rfl rfl (by decide) ⟨fun cd_2 => ?_, fun cd_2 => ?_⟩
    · replace h := h.1 cd_2
      refine aw_iconst (q := 41) (v := (-1)) rfl rfl (by decide) ?_
      exact aw_ireturn (ty := .int) rfl rfl rfl (by decide) (by decide) h
    · replace h := h.2 cd_2
      refine aw_aload_n (q := 29) (j := 0) rfl rfl rfl (List.mem_of_getElem? (i := 0) rfl) ?_
      refine ag_getR (q := 32) rfl rfl fl_Rs_46 rfl (SX.o hS rfl) (SX.r hS rfl) ?_
      refine aw_iload_n (q := 33) (j := 1) rfl rfl rfl (List.mem_of_getElem? (i := 1) rfl) ?_
      refine aw_iload_n (q := 34) (j := 2) rfl rfl rfl (List.mem_of_getElem? (i := 2) rfl) ?_
      refine ag_cvI (z := m_House_inHole) (ci := 2) (av := [.int _, .int _]) (st := []) (q := 37) (k' := 0) (n' := 0) rfl rfl cv_Rs_133 ⟨by decide, by decide⟩ rfl rfl (by decide) (by decide) (HS.o (HS.of hS (b := 74) rfl)) rfl rfl rfl (Nat.le_of_ble_eq_true rfl) ?_
      refine GI.mono h (fun y3_ t3_ h => ?_)
      refine aw_goto (tgt := 41) rfl (by decide) ?_
      exact aw_ireturn (ty := .int) rfl rfl rfl (by decide) (by decide) h
set_option maxRecDepth 20000 in
theorem v_Rs_rat {E : EN} {g : GS} {s : MS} {Q : Option Value → SG → Prop} (x1 : Int32) (x2 : Int32) (t : Nat) (hS : SX g) (et : t = 88 ∨ t = 104) (ht : g.2.2 16 10 = some t) (h : GI E m_Rs_isOf [.int x1, .int (s.1 t 13)] g s (fun y1_ t1_ => ((y1_ = 0 → Q (some (.int (-1))) (mk g t1_)) ∧ (¬ y1_ = 0 → vp_in x1 8 ∧ ((x2 < 0 ∨ 8 < x2 → Q (some (.int (-1))) (mk g t1_)) ∧ (x2 = 0 → Q (some (.int (t1_.1 (78 + (x1).toNatClampNeg) 0))) (mk g t1_)) ∧ (x2 = 1 → Q (some (.int (t1_.1 (78 + (x1).toNatClampNeg) 1))) (mk g t1_)) ∧ (x2 = 2 → Q (some (.int (t1_.1 (78 + (x1).toNatClampNeg) 2))) (mk g t1_)) ∧ (x2 = 3 → (((t1_.1 (78 + (x1).toNatClampNeg) 2) ≤ 0 → Q (some (.int (-2))) (mk g t1_)) ∧ (¬ (t1_.1 (78 + (x1).toNatClampNeg) 2) ≤ 0 → Q (some (.int (t1_.1 (78 + (x1).toNatClampNeg) 3))) (mk g t1_)))) ∧ (x2 = 4 → Q (some (.int (t1_.1 (78 + (x1).toNatClampNeg) 4))) (mk g t1_)) ∧ (x2 = 5 → Q (some (.int (t1_.1 (78 + (x1).toNatClampNeg) 5))) (mk g t1_)) ∧ (x2 = 6 → Q (some (.int (t1_.1 (78 + (x1).toNatClampNeg) 6))) (mk g t1_)) ∧ (x2 = 7 → Q (some (.int (t1_.1 (78 + (x1).toNatClampNeg) 7))) (mk g t1_)) ∧ (x2 = 8 → (((t1_.1 (78 + (x1).toNatClampNeg) 0) = 1 → Q (some (.int (t1_.1 (78 + (x1).toNatClampNeg) 8))) (mk g t1_)) ∧ (¬ (t1_.1 (78 + (x1).toNatClampNeg) 0) = 1 → Q (some (.int (-2))) (mk g t1_))))))))) : AMet E m_Rs_rat [.ref 16, .int x1, .int x2] (mk g s) Q := by
  refine AMet.of (by decide) k_Rs_rat [(0, .ref 16), (1, .int x1), (2, .int x2)] (Nat.le_of_ble_eq_true rfl) rfl ?_
  refine aw_iload_n (q := 1) (j := 1) rfl rfl rfl (List.mem_of_getElem? (i := 1) rfl) ?_
  refine aw_aload_n (q := 2) (j := 0) rfl rfl rfl (List.mem_of_getElem? (i := 0) rfl) ?_
  refine ag_getR (q := 5) rfl rfl fl_Rs_60 rfl (SX.o hS rfl) ht ?_
  refine ag_getI (q := 8) rfl rfl fl_Rs_137 rfl (TS.o (TS.of hS et)) ?_
  refine ag_csI (z := m_Rs_isOf) (av := [.int _, .int _]) (st := []) (q := 11) (k' := 0) (n' := 0) rfl rfl cs_Rs_122 ⟨by decide, by decide⟩ rfl rfl (by decide) (by decide) rfl rfl (Nat.le_of_ble_eq_true rfl) ?_
  refine GI.mono h (fun y1_ t1_ h => ?_)
  refine aw_if_ne (q := 14) (tgt := 16) rfl rfl (by decide) ⟨fun cd_1 => ?_, fun cd_1 => ?_⟩
  · replace h := h.1 cd_1
    refine aw_iconst (q := 15) (v := (-1)) rfl rfl (by decide) ?_
    exact aw_ireturn (ty := .int) rfl rfl rfl (by decide) (by decide) h
  · replace h := h.2 cd_1
    refine aw_aload_n (q := 17) (j := 0) rfl rfl rfl (List.mem_of_getElem? (i := 0) rfl) ?_
    refine ag_getR (q := 20) rfl rfl fl_Rs_46 rfl (SX.o hS rfl) (SX.r hS rfl) ?_
    refine ag_getR (q := 23) rfl rfl fl_Rs_140 rfl (HS.o (HS.of hS (b := 74) rfl)) (HS.r2 (HS.of hS (b := 74) rfl)) ?_
    refine aw_iload_n (q := 24) (j := 1) rfl rfl rfl (List.mem_of_getElem? (i := 1) rfl) ?_
    obtain ⟨bd_2, h⟩ := h
    refine ag_aaload (q := 25) rfl rfl (Or.inr rfl) (HS.a2 (HS.of hS (b := 74) rfl)) bd_2 (HS.rr (HS.of hS (b := 74) rfl) bd_2) ?_
    refine aw_astore_n (q := 26) (j := 3) (ls' := [(3, .ref _), (0, .ref _), (1, .int _), (2, .int _)]) rfl rfl rfl (by decide) rfl ?_
    refine aw_iload_n (q := 27) (j := 2) rfl rfl rfl (List.mem_of_getElem? (i := 3) rfl) ?_
    by_cases cd_3 : x2 < 0 ∨ 8 < x2
    · replace h := h.1 cd_3
      refine aw_tableLt (tgt := 146) rfl (a := 0) (b := 8) (by decide) (by decide) cd_3 (by decide) ?_
      refine aw_iconst (q := 147) (v := (-1)) rfl rfl (by decide) ?_
      exact aw_ireturn (ty := .int) rfl rfl rfl (by decide) (by decide) h
    · obtain ⟨jd_4, hjd_4, ejd_4⟩ := sw_cases 8 8 (fun q => cd_3 (Or.inl q)) (fun q => cd_3 (Or.inr q)) (by decide)
      replace h := h.2
      match jd_4, hjd_4, ejd_4 with
      | 0, _, e => 
        have e : x2 = 0 := Int32.toInt_inj.mp (e.trans (by decide))
        replace h := h.1 e
        refine aw_tableEq (tgt := 76) rfl e (by decide) (by decide) rfl (by decide) ?_
        refine aw_aload_n (q := 77) (j := 3) rfl rfl rfl (List.mem_of_getElem? (i := 0) rfl) ?_
        refine ag_getI (q := 80) rfl rfl fl_Rs_143 rfl (HS.ro (HS.of hS (b := 74) rfl) bd_2) ?_
        exact aw_ireturn (ty := .int) rfl rfl rfl (by decide) (by decide) h
      | 1, _, e => 
        have e : x2 = 1 := Int32.toInt_inj.mp (e.trans (by decide))
        replace h := h.2.1 e
        refine aw_tableEq (tgt := 81) rfl e (by decide) (by decide) rfl (by decide) ?_
        refine aw_aload_n (q := 82) (j := 3) rfl rfl rfl (List.mem_of_getElem? (i := 0) rfl) ?_
        refine ag_getI (q := 85) rfl rfl fl_Rs_148 rfl (HS.ro (HS.of hS (b := 74) rfl) bd_2) ?_
        exact aw_ireturn (ty := .int) rfl rfl rfl (by decide) (by decide) h
      | 2, _, e => 
        have e : x2 = 2 := Int32.toInt_inj.mp (e.trans (by decide))
        replace h := h.2.2.1 e
        refine aw_tableEq (tgt := 86) rfl e (by decide) (by decide) rfl (by decide) ?_
        refine aw_aload_n (q := 87) (j := 3) rfl rfl rfl (List.mem_of_getElem? (i := 0) rfl) ?_
        refine ag_getI (q := 90) rfl rfl fl_Rs_151 rfl (HS.ro (HS.of hS (b := 74) rfl) bd_2) ?_
        exact aw_ireturn (ty := .int) rfl rfl rfl (by decide) (by decide) h
      | 3, _, e => 
        have e : x2 = 3 := Int32.toInt_inj.mp (e.trans (by decide))
        replace h := h.2.2.2.1 e
        refine aw_tableEq (tgt := 91) rfl e (by decide) (by decide) rfl (by decide) ?_
        refine aw_aload_n (q := 92) (j := 3) rfl rfl rfl (List.mem_of_getElem? (i := 0) rfl) ?_
        refine ag_getI (q := 95) rfl rfl fl_Rs_151 rfl (HS.ro (HS.of hS (b := 74) rfl) bd_2) ?_
        refine aw_if_le (q := 98) (tgt := 105) rfl rfl (by decide) ⟨fun cd_5 => ?_, fun cd_5 => ?_⟩
        · replace h := h.1 cd_5
          refine aw_bipush (q := 107) (v := (-2)) rfl rfl (by decide) ?_
          exact aw_ireturn (ty := .int) rfl rfl rfl (by decide) (by decide) h
        · replace h := h.2 cd_5
          refine aw_aload_n (q := 99) (j := 3) rfl rfl rfl (List.mem_of_getElem? (i := 0) rfl) ?_
          refine ag_getI (q := 102) rfl rfl fl_Rs_154 rfl (HS.ro (HS.of hS (b := 74) rfl) bd_2) ?_
          refine aw_goto (tgt := 107) rfl (by decide) ?_
          exact aw_ireturn (ty := .int) rfl rfl rfl (by decide) (by decide) h
      | 4, _, e => 
        have e : x2 = 4 := Int32.toInt_inj.mp (e.trans (by decide))
        replace h := h.2.2.2.2.1 e
        refine aw_tableEq (tgt := 108) rfl e (by decide) (by decide) rfl (by decide) ?_
        refine aw_aload_n (q := 109) (j := 3) rfl rfl rfl (List.mem_of_getElem? (i := 0) rfl) ?_
        refine ag_getI (q := 112) rfl rfl fl_Rs_157 rfl (HS.ro (HS.of hS (b := 74) rfl) bd_2) ?_
        exact aw_ireturn (ty := .int) rfl rfl rfl (by decide) (by decide) h
      | 5, _, e => 
        have e : x2 = 5 := Int32.toInt_inj.mp (e.trans (by decide))
        replace h := h.2.2.2.2.2.1 e
        refine aw_tableEq (tgt := 113) rfl e (by decide) (by decide) rfl (by decide) ?_
        refine aw_aload_n (q := 114) (j := 3) rfl rfl rfl (List.mem_of_getElem? (i := 0) rfl) ?_
        refine ag_getI (q := 117) rfl rfl fl_Rs_160 rfl (HS.ro (HS.of hS (b := 74) rfl) bd_2) ?_
        exact aw_ireturn (ty := .int) rfl rfl rfl (by decide) (by decide) h
      | 6, _, e => 
        have e : x2 = 6 := Int32.toInt_inj.mp (e.trans (by decide))
        replace h := h.2.2.2.2.2.2.1 e
        refine aw_tableEq (tgt := 118) rfl e (by decide) (by decide) rfl (by decide) ?_
        refine aw_aload_n (q := 119) (j := 3) rfl rfl rfl (List.mem_of_getElem? (i := 0) rfl) ?_
        refine ag_getI (q := 122) rfl rfl fl_Rs_163 rfl (HS.ro (HS.of hS (b := 74) rfl) bd_2) ?_
        exact aw_ireturn (ty := .int) rfl rfl rfl (by decide) (by decide) h
      | 7, _, e => 
        have e : x2 = 7 := Int32.toInt_inj.mp (e.trans (by decide))
        replace h := h.2.2.2.2.2.2.2.1 e
        refine aw_tableEq (tgt := 123) rfl e (by decide) (by decide) rfl (by decide) ?_
        refine aw_aload_n (q := 124) (j := 3) rfl rfl rfl (List.mem_of_getElem? (i := 0) rfl) ?_
        refine ag_getI (q := 127) rfl rfl fl_Rs_166 rfl (HS.ro (HS.of hS (b := 74) rfl) bd_2) ?_
        exact aw_ireturn (ty := .int) rfl rfl rfl (by decide) (by decide) h
      | 8, _, e => 
        have e : x2 = 8 := Int32.toInt_inj.mp (e.trans (by decide))
        replace h := h.2.2.2.2.2.2.2.2 e
        refine aw_tableEq (tgt := 128) rfl e (by decide) (by decide) rfl (by decide) ?_
        refine aw_aload_n (q := 129) (j := 3) rfl rfl rfl (List.mem_of_getElem? (i := 0) rfl) ?_
        refine ag_getI (q := 132) rfl rfl fl_Rs_143 rfl (HS.ro (HS.of hS (b := 74) rfl) bd_2) ?_
        refine aw_iconst (q := 133) (v := 1) rfl rfl (by decide) ?_
        refine aw_icmp_ne (q := 136) (tgt := 143) rfl rfl (by decide) ⟨fun cd_6 => ?_, fun cd_6 => ?_⟩
        · replace h := h.1 cd_6
          refine aw_aload_n (q := 137) (j := 3) rfl rfl rfl (List.mem_of_getElem? (i := 0) rfl) ?_
          refine ag_getI (q := 140) rfl rfl fl_Rs_169 rfl (HS.ro (HS.of hS (b := 74) rfl) bd_2) ?_
          refine aw_goto (tgt := 145) rfl (by decide) ?_
          exact aw_ireturn (ty := .int) rfl rfl rfl (by decide) (by decide) h
        · replace h := h.2 cd_6
          refine aw_bipush (q := 145) (v := (-2)) rfl rfl (by decide) ?_
          exact aw_ireturn (ty := .int) rfl rfl rfl (by decide) (by decide) h
      | j + 9, hj, _ => exact absurd hj (by omega)
set_option maxRecDepth 20000 in
theorem v_Rs_worth {E : EN} {g : GS} {s : MS} {Q : Option Value → SG → Prop} (x1 : Int32) (t : Nat) (hS : SX g) (et : t = 88 ∨ t = 104) (ht : g.2.2 16 10 = some t) (h : GI E m_Rs_isOf [.int x1, .int (s.1 t 12)] g s (fun y1_ t1_ => ((y1_ = 0 → Q (some (.int (-1))) (mk g t1_)) ∧ (¬ y1_ = 0 → GI E m_House_worthOf [.ref 74, .ref t, .int x1] g t1_ (fun y2_ t2_ => Q (some (.int y2_)) (mk g t2_)))))) : AMet E m_Rs_worth [.ref 16, .int x1] (mk g s) Q := by
  refine AMet.of (by decide) k_Rs_worth [(0, .ref 16), (1, .int x1)] (Nat.le_of_ble_eq_true rfl) rfl ?_
  refine aw_iload_n (q := 1) (j := 1) rfl rfl rfl (List.mem_of_getElem? (i := 1) rfl) ?_
  refine aw_aload_n (q := 2) (j := 0) rfl rfl rfl (List.mem_of_getElem? (i := 0) rfl) ?_
  refine ag_getR (q := 5) rfl rfl fl_Rs_60 rfl (SX.o hS rfl) ht ?_
  refine ag_getI (q := 8) rfl rfl fl_Rs_130 rfl (TS.o (TS.of hS et)) ?_
  refine ag_csI (z := m_Rs_isOf) (av := [.int _, .int _]) (st := []) (q := 11) (k' := 0) (n' := 0) rfl rfl cs_Rs_122 ⟨by decide, by decide⟩ rfl rfl (by decide) (by decide) rfl rfl (Nat.le_of_ble_eq_true rfl) ?_
  refine GI.mono h (fun y1_ t1_ h => ?_)
  refine aw_if_eq (q := 14) (tgt := 29) rfl rfl (by decide) ⟨fun cd_1 => ?_, fun cd_1 => ?_⟩
  · replace h := h.1 cd_1
    refine aw_iconst (q := 30) (v := (-1)) rfl rfl (by decide) ?_
    exact aw_ireturn (ty := .int) rfl rfl rfl (by decide) (by decide) h
  · replace h := h.2 cd_1
    refine aw_aload_n (q := 15) (j := 0) rfl rfl rfl (List.mem_of_getElem? (i := 0) rfl) ?_
    refine ag_getR (q := 18) rfl rfl fl_Rs_46 rfl (SX.o hS rfl) (SX.r hS rfl) ?_
    refine aw_aload_n (q := 19) (j := 0) rfl rfl rfl (List.mem_of_getElem? (i := 0) rfl) ?_
    refine ag_getR (q := 22) rfl rfl fl_Rs_60 rfl (SX.o hS rfl) ht ?_
    refine aw_iload_n (q := 23) (j := 1) rfl rfl rfl (List.mem_of_getElem? (i := 1) rfl) ?_
    refine ag_cvI (z := m_House_worthOf) (ci := 2) (av := [.ref _, .int _]) (st := []) (q := 26) (k' := 0) (n' := 0) rfl rfl cv_Rs_172 ⟨by decide, by decide⟩ rfl rfl (by decide) (by decide) (HS.o (HS.of hS (b := 74) rfl)) rfl rfl rfl (Nat.le_of_ble_eq_true rfl) ?_
    refine GI.mono h (fun y2_ t2_ h => ?_)
    refine aw_goto (tgt := 30) rfl (by decide) ?_
    exact aw_ireturn (ty := .int) rfl rfl rfl (by decide) (by decide) h
set_option maxRecDepth 20000 in
theorem v_Rs_pure {E : EN} {g : GS} {s : MS} {Q : Option Value → SG → Prop} (x1 : Int32) (x2 : Int32) (t : Nat) (hS : SX g) (et : t = 88 ∨ t = 104) (ht : g.2.2 16 10 = some t) (h : GI E m_Rs_isOf [.int x1, .int (s.1 t 12)] g s (fun y1_ t1_ => ((y1_ = 0 → Q (some (.int (-1))) (mk g t1_)) ∧ (¬ y1_ = 0 → GI E m_House_allInHole [.ref 74, .int x1] g t1_ (fun y2_ t2_ => ((y2_ = 0 → ((x2 = 0 → Q (some (.int 0)) (mk g t2_)) ∧ (¬ x2 = 0 → Q (some (.int 1)) (mk g t2_)))) ∧ (¬ y2_ = 0 → vp_in x1 6 ∧ GI E m_House_inHole [.ref 74, .int x1, .int (t2_.1 (t + 4) ((x1).toNatClampNeg))] g t2_ (fun y3_ t3_ => GI E m_Rs_commonDivisor [.int y3_, .int y2_] g t3_ (fun y4_ t4_ => ((x2 = 0 → ¬ (if 1 < y4_ then y4_ else 1) = 0 ∧ Q (some (.int (y3_ / (if 1 < y4_ then y4_ else 1)))) (mk g t4_)) ∧ (¬ x2 = 0 → ¬ (if 1 < y4_ then y4_ else 1) = 0 ∧ Q (some (.int (y2_ / (if 1 < y4_ then y4_ else 1)))) (mk g t4_)))))))))))) : AMet E m_Rs_pure [.ref 16, .int x1, .int x2] (mk g s) Q := by
  refine AMet.of (by decide) k_Rs_pure [(0, .ref 16), (1, .int x1), (2, .int x2)] (Nat.le_of_ble_eq_true rfl) rfl ?_
  refine aw_iload_n (q := 1) (j := 1) rfl rfl rfl (List.mem_of_getElem? (i := 1) rfl) ?_
  refine aw_aload_n (q := 2) (j := 0) rfl rfl rfl (List.mem_of_getElem? (i := 0) rfl) ?_
  refine ag_getR (q := 5) rfl rfl fl_Rs_60 rfl (SX.o hS rfl) ht ?_
  refine ag_getI (q := 8) rfl rfl fl_Rs_130 rfl (TS.o (TS.of hS et)) ?_
  refine ag_csI (z := m_Rs_isOf) (av := [.int _, .int _]) (st := []) (q := 11) (k' := 0) (n' := 0) rfl rfl cs_Rs_122 ⟨by decide, by decide⟩ rfl rfl (by decide) (by decide) rfl rfl (Nat.le_of_ble_eq_true rfl) ?_
  refine GI.mono h (fun y1_ t1_ h => ?_)
  refine aw_if_ne (q := 14) (tgt := 16) rfl rfl (by decide) ⟨fun cd_1 => ?_, fun cd_1 => ?_⟩
  · replace h := h.1 cd_1
    refine aw_iconst (q := 15) (v := (-1)) rfl rfl (by decide) ?_
    exact aw_ireturn (ty := .int) rfl rfl rfl (by decide) (by decide) h
  · replace h := h.2 cd_1
    refine aw_aload_n (q := 17) (j := 0) rfl rfl rfl (List.mem_of_getElem? (i := 0) rfl) ?_
    refine ag_getR (q := 20) rfl rfl fl_Rs_46 rfl (SX.o hS rfl) (SX.r hS rfl) ?_
    refine aw_iload_n (q := 21) (j := 1) rfl rfl rfl (List.mem_of_getElem? (i := 1) rfl) ?_
    refine ag_cvI (z := m_House_allInHole) (ci := 2) (av := [.int _]) (st := []) (q := 24) (k' := 0) (n' := 0) rfl rfl cv_Rs_176 ⟨by decide, by decide⟩ rfl rfl (by decide) (by decide) (HS.o (HS.of hS (b := 74) rfl)) rfl rfl rfl (Nat.le_of_ble_eq_true rfl) ?_
    refine GI.mono h (fun y2_ t2_ h => ?_)
    refine aw_istore_n (q := 25) (j := 3) (ls' := [(3, .int _), (0, .ref _), (1, .int _), (2, .int _)]) rfl rfl rfl (by decide) rfl ?_
    refine aw_iload_n (q := 26) (j := 3) rfl rfl rfl (List.mem_of_getElem? (i := 0) rfl) ?_
    refine aw_if_ne (q := 29) (tgt := 39) rfl rfl (by decide) ⟨fun cd_2 => ?_, fun cd_2 => ?_⟩
    · replace h := h.1 cd_2
      refine aw_iload_n (q := 30) (j := 2) rfl rfl rfl (List.mem_of_getElem? (i := 3) rfl) ?_
      refine aw_if_eq (q := 33) (tgt := 37) rfl rfl (by decide) ⟨fun cd_3 => ?_, fun cd_3 => ?_⟩
      · replace h := h.1 cd_3
        refine aw_iconst (q := 38) (v := 0) rfl rfl (by decide) ?_
        exact aw_ireturn (ty := .int) rfl rfl rfl (by decide) (by decide) h
      · replace h := h.2 cd_3
        refine aw_iconst (q := 34) (v := 1) rfl rfl (by decide) ?_
        refine aw_goto (tgt := 38) rfl (by decide) ?_
        exact aw_ireturn (ty := .int) rfl rfl rfl (by decide) (by decide) h
    · replace h := h.2 cd_2
      refine aw_aload_n (q := 40) (j := 0) rfl rfl rfl (List.mem_of_getElem? (i := 1) rfl) ?_
      refine ag_getR (q := 43) rfl rfl fl_Rs_46 rfl (SX.o hS rfl) (SX.r hS rfl) ?_
      refine aw_iload_n (q := 44) (j := 1) rfl rfl rfl (List.mem_of_getElem? (i := 2) rfl) ?_
      refine aw_aload_n (q := 45) (j := 0) rfl rfl rfl (List.mem_of_getElem? (i := 1) rfl) ?_
      refine ag_getR (q := 48) rfl rfl fl_Rs_60 rfl (SX.o hS rfl) ht ?_
      refine ag_getR (q := 51) rfl rfl fl_Rs_179 rfl (TS.o (TS.of hS et)) (TS.r3 (TS.of hS et)) ?_
      refine aw_iload_n (q := 52) (j := 1) rfl rfl rfl (List.mem_of_getElem? (i := 2) rfl) ?_
      obtain ⟨bd_4, h⟩ := h
      refine ag_iaload (q := 53) (N := 6) rfl rfl (TS.a3 (TS.of hS et)) bd_4 ?_
      refine ag_cvI (z := m_House_inHole) (ci := 2) (av := [.int _, .int _]) (st := []) (q := 56) (k' := 0) (n' := 0) rfl rfl cv_Rs_133 ⟨by decide, by decide⟩ rfl rfl (by decide) (by decide) (HS.o (HS.of hS (b := 74) rfl)) rfl rfl rfl (Nat.le_of_ble_eq_true rfl) ?_
      refine GI.mono h (fun y3_ t3_ h => ?_)
      refine aw_istore (q := 58) (j := 4) (ls' := [(4, .int _), (3, .int _), (0, .ref _), (1, .int _), (2, .int _)]) rfl rfl (by decide) rfl ?_
      refine aw_iconst (q := 59) (v := 1) rfl rfl (by decide) ?_
      refine aw_iload (q := 61) (j := 4) rfl rfl (List.mem_of_getElem? (i := 0) rfl) ?_
      refine aw_iload_n (q := 62) (j := 3) rfl rfl rfl (List.mem_of_getElem? (i := 1) rfl) ?_
      refine ag_csI (z := m_Rs_commonDivisor) (av := [.int _, .int _]) (st := [.int _]) (q := 65) (k' := 0) (n' := 0) rfl rfl cs_Rs_182 ⟨by decide, by decide⟩ rfl rfl (by decide) (by decide) rfl rfl (Nat.le_of_ble_eq_true rfl) ?_
      refine GI.mono h (fun y4_ t4_ h => ?_)
      refine aw_mmax (q := 68) rfl rfl (tb_c4 149 rfl rfl) (tb_c3 176 rfl rfl) (tb_c1 18 rfl rfl) (tb_c3 177 rfl rfl) (by decide) (by decide) (by decide) (by decide) (Nat.le_of_ble_eq_true rfl) ?_
      refine aw_istore (q := 70) (j := 5) (ls' := [(5, .int _), (4, .int _), (3, .int _), (0, .ref _), (1, .int _), (2, .int _)]) rfl rfl (by decide) rfl ?_
      refine aw_iload_n (q := 71) (j := 2) rfl rfl rfl (List.mem_of_getElem? (i := 5) rfl) ?_
      refine aw_if_eq (q := 74) (tgt := 78) rfl rfl (by decide) ⟨fun cd_5 => ?_, fun cd_5 => ?_⟩
      · replace h := h.1 cd_5
        refine aw_iload (q := 80) (j := 4) rfl rfl (List.mem_of_getElem? (i := 1) rfl) ?_
        refine aw_iload (q := 82) (j := 5) rfl rfl (List.mem_of_getElem? (i := 0) rfl) ?_
        obtain ⟨zd_6, h⟩ := h
        refine aw_idiv (q := 83) rfl rfl zd_6 ?_
        exact aw_ireturn (ty := .int) rfl rfl rfl (by decide) (by decide) h
      · replace h := h.2 cd_5
        refine aw_iload_n (q := 75) (j := 3) rfl rfl rfl (List.mem_of_getElem? (i := 2) rfl) ?_
        refine aw_goto (tgt := 80) rfl (by decide) ?_
        refine aw_iload (q := 82) (j := 5) rfl rfl (List.mem_of_getElem? (i := 0) rfl) ?_
        obtain ⟨zd_7, h⟩ := h
        refine aw_idiv (q := 83) rfl rfl zd_7 ?_
        exact aw_ireturn (ty := .int) rfl rfl rfl (by decide) (by decide) h
set_option maxRecDepth 20000 in
theorem v_Rs_commonDivisor_7 {E : EN} {g : GS} {s : MS} {Q : Option Value → SG → Prop} (x0 : Int32) (x1 : Int32) (x2 : Int32) (x3 : Int32) (x4 : Int32) (h : ((64 ≤ x4 → Q (some (.int x2)) (mk g s)) ∧ (¬ 64 ≤ x4 → ((x3 ≤ 0 → Q (some (.int x2)) (mk g s)) ∧ (¬ x3 ≤ 0 → ¬ x3 = 0 ∧ AWP E m_Rs_commonDivisor 7 0 0 [(0, .int x0), (1, .int x1), (2, .int x3), (3, .int (x2 - x2 / x3 * x3)), (4, .int (x4 + 1))] [] (mk g s) Q))))) : AWP E m_Rs_commonDivisor 7 0 0 [(0, .int x0), (1, .int x1), (2, .int x2), (3, .int x3), (4, .int x4)] [] (mk g s) Q := by
  refine aw_iload (q := 9) (j := 4) rfl rfl (List.mem_of_getElem? (i := 4) rfl) ?_
  refine aw_bipush (q := 11) (v := 64) rfl rfl (by decide) ?_
  refine aw_icmp_ge (q := 14) (tgt := 34) rfl rfl (by decide) ⟨fun cd_1 => ?_, fun cd_1 => ?_⟩
  · replace h := h.1 cd_1
    refine aw_iload_n (q := 35) (j := 2) rfl rfl rfl (List.mem_of_getElem? (i := 2) rfl) ?_
    exact aw_ireturn (ty := .int) rfl rfl rfl (by decide) (by decide) h
  · replace h := h.2 cd_1
    refine aw_iload_n (q := 15) (j := 3) rfl rfl rfl (List.mem_of_getElem? (i := 3) rfl) ?_
    refine aw_if_le (q := 18) (tgt := 34) rfl rfl (by decide) ⟨fun cd_2 => ?_, fun cd_2 => ?_⟩
    · replace h := h.1 cd_2
      refine aw_iload_n (q := 35) (j := 2) rfl rfl rfl (List.mem_of_getElem? (i := 2) rfl) ?_
      exact aw_ireturn (ty := .int) rfl rfl rfl (by decide) (by decide) h
    · replace h := h.2 cd_2
      refine aw_iload_n (q := 19) (j := 2) rfl rfl rfl (List.mem_of_getElem? (i := 2) rfl) ?_
      refine aw_iload_n (q := 20) (j := 3) rfl rfl rfl (List.mem_of_getElem? (i := 3) rfl) ?_
      obtain ⟨zd_3, h⟩ := h
      refine aw_irem (q := 21) rfl rfl zd_3 ?_
      refine aw_istore (q := 23) (j := 5) (ls' := [(5, .int _), (0, .int _), (1, .int _), (2, .int _), (3, .int _), (4, .int _)]) rfl rfl (by decide) rfl ?_
      refine aw_iload_n (q := 24) (j := 3) rfl rfl rfl (List.mem_of_getElem? (i := 4) rfl) ?_
      refine aw_istore_n (q := 25) (j := 2) (ls' := [(2, .int _), (5, .int _), (0, .int _), (1, .int _), (3, .int _), (4, .int _)]) rfl rfl rfl (by decide) rfl ?_
      refine aw_iload (q := 27) (j := 5) rfl rfl (List.mem_of_getElem? (i := 1) rfl) ?_
      refine aw_istore_n (q := 28) (j := 3) (ls' := [(3, .int _), (2, .int _), (5, .int _), (0, .int _), (1, .int _), (4, .int _)]) rfl rfl rfl (by decide) rfl ?_
      refine aw_iinc (q := 31) (v := _ + 1) (ls' := [(4, .int _), (3, .int _), (2, .int _), (5, .int _), (0, .int _), (1, .int _)]) rfl rfl (List.mem_of_getElem? (i := 5) rfl) rfl (by decide) rfl ?_
      refine aw_goto (tgt := 7) rfl (by decide) ?_
      refine aw_ls [4, 5, 2, 1, 0] rfl ?_
      exact h
set_option maxRecDepth 20000 in
theorem v_Rs_commonDivisor {E : EN} {g : GS} {s : MS} {Q : Option Value → SG → Prop} (x0 : Int32) (x1 : Int32) (h : AWP E m_Rs_commonDivisor 7 0 0 [(0, .int x0), (1, .int x1), (2, .int x1), (3, .int x0), (4, .int 0)] [] (mk g s) Q) : AMet E m_Rs_commonDivisor [.int x0, .int x1] (mk g s) Q := by
  refine AMet.of (by decide) k_Rs_commonDivisor [(0, .int x0), (1, .int x1)] (Nat.le_of_ble_eq_true rfl) rfl ?_
  refine aw_iload_n (q := 1) (j := 1) rfl rfl rfl (List.mem_of_getElem? (i := 1) rfl) ?_
  refine aw_istore_n (q := 2) (j := 2) (ls' := [(2, .int _), (0, .int _), (1, .int _)]) rfl rfl rfl (by decide) rfl ?_
  refine aw_iload_n (q := 3) (j := 0) rfl rfl rfl (List.mem_of_getElem? (i := 1) rfl) ?_
  refine aw_istore_n (q := 4) (j := 3) (ls' := [(3, .int _), (2, .int _), (0, .int _), (1, .int _)]) rfl rfl rfl (by decide) rfl ?_
  refine aw_iconst (q := 5) (v := 0) rfl rfl (by decide) ?_
  refine aw_istore (q := 7) (j := 4) (ls' := [(4, .int _), (3, .int _), (2, .int _), (0, .int _), (1, .int _)]) rfl rfl (by decide) rfl ?_
  refine aw_ls [3, 4, 2, 1, 0] rfl ?_
  exact h
set_option maxRecDepth 20000 in
theorem v_Rs_minutes {E : EN} {g : GS} {s : MS} {Q : Option Value → SG → Prop} (x1 : Int32) (hS : SX g) (h : ((x1 < 0 → Q (some (.int (-1))) (mk g s)) ∧ (¬ x1 < 0 → ((x1 ≤ 600 → ((x1 ≤ 0 → Q (some (.int (s.1 74 3))) (mk g s)) ∧ (¬ x1 ≤ 0 → XV E m_Rs_remember [.ref 16] g s (fun g1_ t1_ => SX g1_ ∧ GV E m_Mill_goOn [.ref 28, .ref 74, .int x1] g1_ t1_ (fun t2_ => Q (some (.int (t2_.1 74 3))) (mk g1_ t2_)))))) ∧ (¬ x1 ≤ 600 → Q (some (.int (-1))) (mk g s)))))) : AMet E m_Rs_minutes [.ref 16, .int x1] (mk g s) Q := by
  refine AMet.of (by decide) k_Rs_minutes [(0, .ref 16), (1, .int x1)] (Nat.le_of_ble_eq_true rfl) rfl ?_
  refine aw_iload_n (q := 1) (j := 1) rfl rfl rfl (List.mem_of_getElem? (i := 1) rfl) ?_
  refine aw_if_lt (q := 4) (tgt := 11) rfl rfl (by decide) ⟨fun cd_1 => ?_, fun cd_1 => ?_⟩
  · replace h := h.1 cd_1
    refine aw_iconst (q := 12) (v := (-1)) rfl rfl (by decide) ?_
    exact aw_ireturn (ty := .int) rfl rfl rfl (by decide) (by decide) h
  · replace h := h.2 cd_1
    refine aw_iload_n (q := 5) (j := 1) rfl rfl rfl (List.mem_of_getElem? (i := 1) rfl) ?_
    refine aw_sipush (q := 8) (v := 600) rfl rfl (by decide) ?_
    refine aw_icmp_le (q := 11) (tgt := 13) rfl rfl (by decide) ⟨fun cd_2 => ?_, fun cd_2 => ?_⟩
    · replace h := h.1 cd_2
      refine aw_iload_n (q := 14) (j := 1) rfl rfl rfl (List.mem_of_getElem? (i := 1) rfl) ?_
      refine aw_if_le (q := 17) (tgt := 33) rfl rfl (by decide) ⟨fun cd_3 => ?_, fun cd_3 => ?_⟩
      · replace h := h.1 cd_3
        refine aw_aload_n (q := 34) (j := 0) rfl rfl rfl (List.mem_of_getElem? (i := 0) rfl) ?_
        refine ag_getR (q := 37) rfl rfl fl_Rs_46 rfl (SX.o hS rfl) (SX.r hS rfl) ?_
        refine ag_getI (q := 40) rfl rfl fl_Rs_197 rfl (HS.o (HS.of hS (b := 74) rfl)) ?_
        exact aw_ireturn (ty := .int) rfl rfl rfl (by decide) (by decide) h
      · replace h := h.2 cd_3
        refine aw_aload_n (q := 18) (j := 0) rfl rfl rfl (List.mem_of_getElem? (i := 0) rfl) ?_
        refine ax_cvV (z := m_Rs_remember) (ci := 10) (av := []) (st := []) (q := 21) (k' := 12) (n' := 131) rfl rfl cv_Rs_190 ⟨by decide, by decide⟩ rfl rfl (by decide) (by decide) (SX.o hS rfl) rfl rfl rfl (Nat.le_of_ble_eq_true rfl) ?_
        refine XV.mono h (fun g1_ t1_ h => ?_)
        obtain ⟨hS1_, h⟩ := h
        refine aw_aload_n (q := 22) (j := 0) rfl rfl rfl (List.mem_of_getElem? (i := 0) rfl) ?_
        refine ag_getR (q := 25) rfl rfl fl_Rs_81 rfl (SX.o hS1_ rfl) (SX.r hS1_ rfl) ?_
        refine aw_aload_n (q := 26) (j := 0) rfl rfl rfl (List.mem_of_getElem? (i := 0) rfl) ?_
        refine ag_getR (q := 29) rfl rfl fl_Rs_46 rfl (SX.o hS1_ rfl) (SX.r hS1_ rfl) ?_
        refine aw_iload_n (q := 30) (j := 1) rfl rfl rfl (List.mem_of_getElem? (i := 1) rfl) ?_
        refine ag_cvV (z := m_Mill_goOn) (ci := 4) (av := [.ref _, .int _]) (st := []) (q := 33) (k' := 12) (n' := 131) rfl rfl cv_Rs_193 ⟨by decide, by decide⟩ rfl rfl (by decide) (by decide) (SX.o hS1_ rfl) rfl rfl rfl (Nat.le_of_ble_eq_true rfl) ?_
        refine GV.mono h (fun t2_ h => ?_)
        refine aw_aload_n (q := 34) (j := 0) rfl rfl rfl (List.mem_of_getElem? (i := 0) rfl) ?_
        refine ag_getR (q := 37) rfl rfl fl_Rs_46 rfl (SX.o hS1_ rfl) (SX.r hS1_ rfl) ?_
        refine ag_getI (q := 40) rfl rfl fl_Rs_197 rfl (HS.o (HS.of hS1_ (b := 74) rfl)) ?_
        exact aw_ireturn (ty := .int) rfl rfl rfl (by decide) (by decide) h
    · replace h := h.2 cd_2
      refine aw_iconst (q := 12) (v := (-1)) rfl rfl (by decide) ?_
      exact aw_ireturn (ty := .int) rfl rfl rfl (by decide) (by decide) h
set_option maxRecDepth 20000 in
theorem v_Rs_pour {E : EN} {g : GS} {s : MS} {Q : Option Value → SG → Prop} (x1 : Int32) (x2 : Int32) (t : Nat) (hS : SX g) (et : t = 88 ∨ t = 104) (ht : g.2.2 16 10 = some t) (h : GI E m_Rs_isOf [.int x1, .int (s.1 t 11)] g s (fun y1_ t1_ => ((y1_ = 0 → Q (some (.int (-1))) (mk g t1_)) ∧ (¬ y1_ = 0 → ((x2 < 1 → Q (some (.int (-1))) (mk g t1_)) ∧ (¬ x2 < 1 → vp_in x1 6 ∧ ((x2 ≤ (9999 - (t1_.1 75 ((x1).toNatClampNeg))) → XV E m_Rs_remember [.ref 16] g t1_ (fun g2_ t2_ => SX g2_ ∧ (∀ s3_, s3_ = wi t2_ 75 ((x1).toNatClampNeg) ((t2_.1 75 ((x1).toNatClampNeg)) + x2) → Q (some (.int (s3_.1 75 ((x1).toNatClampNeg)))) (mk g2_ s3_)))) ∧ (¬ x2 ≤ (9999 - (t1_.1 75 ((x1).toNatClampNeg))) → Q (some (.int (-1))) (mk g t1_))))))))) : AMet E m_Rs_pour [.ref 16, .int x1, .int x2] (mk g s) Q := by
  refine AMet.of (by decide) k_Rs_pour [(0, .ref 16), (1, .int x1), (2, .int x2)] (Nat.le_of_ble_eq_true rfl) rfl ?_
  refine aw_iload_n (q := 1) (j := 1) rfl rfl rfl (List.mem_of_getElem? (i := 1) rfl) ?_
  refine aw_aload_n (q := 2) (j := 0) rfl rfl rfl (List.mem_of_getElem? (i := 0) rfl) ?_
  refine ag_getR (q := 5) rfl rfl fl_Rs_60 rfl (SX.o hS rfl) ht ?_
  refine ag_getI (q := 8) rfl rfl fl_Rs_119 rfl (TS.o (TS.of hS et)) ?_
  refine ag_csI (z := m_Rs_isOf) (av := [.int _, .int _]) (st := []) (q := 11) (k' := 0) (n' := 0) rfl rfl cs_Rs_122 ⟨by decide, by decide⟩ rfl rfl (by decide) (by decide) rfl rfl (Nat.le_of_ble_eq_true rfl) ?_
  refine GI.mono h (fun y1_ t1_ h => ?_)
  refine aw_if_eq (q := 14) (tgt := 36) rfl rfl (by decide) ⟨fun cd_1 => ?_, fun cd_1 => ?_⟩
  · replace h := h.1 cd_1
    refine aw_iconst (q := 37) (v := (-1)) rfl rfl (by decide) ?_
    exact aw_ireturn (ty := .int) rfl rfl rfl (by decide) (by decide) h
  · replace h := h.2 cd_1
    refine aw_iload_n (q := 15) (j := 2) rfl rfl rfl (List.mem_of_getElem? (i := 2) rfl) ?_
    refine aw_iconst (q := 16) (v := 1) rfl rfl (by decide) ?_
    refine aw_icmp_lt (q := 19) (tgt := 36) rfl rfl (by decide) ⟨fun cd_2 => ?_, fun cd_2 => ?_⟩
    · replace h := h.1 cd_2
      refine aw_iconst (q := 37) (v := (-1)) rfl rfl (by decide) ?_
      exact aw_ireturn (ty := .int) rfl rfl rfl (by decide) (by decide) h
    · replace h := h.2 cd_2
      refine aw_iload_n (q := 20) (j := 2) rfl rfl rfl (List.mem_of_getElem? (i := 2) rfl) ?_
      refine aw_sipush (q := 23) (v := 9999) rfl rfl (by decide) ?_
      refine aw_aload_n (q := 24) (j := 0) rfl rfl rfl (List.mem_of_getElem? (i := 0) rfl) ?_
      refine ag_getR (q := 27) rfl rfl fl_Rs_46 rfl (SX.o hS rfl) (SX.r hS rfl) ?_
      refine ag_getR (q := 30) rfl rfl fl_Rs_126 rfl (HS.o (HS.of hS (b := 74) rfl)) (HS.r0 (HS.of hS (b := 74) rfl)) ?_
      refine aw_iload_n (q := 31) (j := 1) rfl rfl rfl (List.mem_of_getElem? (i := 1) rfl) ?_
      obtain ⟨bd_3, h⟩ := h
      refine ag_iaload (q := 32) (N := 6) rfl rfl (HS.a0 (HS.of hS (b := 74) rfl)) bd_3 ?_
      refine aw_isub (q := 33) rfl rfl ?_
      refine aw_icmp_le (q := 36) (tgt := 38) rfl rfl (by decide) ⟨fun cd_4 => ?_, fun cd_4 => ?_⟩
      · replace h := h.1 cd_4
        refine aw_aload_n (q := 39) (j := 0) rfl rfl rfl (List.mem_of_getElem? (i := 0) rfl) ?_
        refine ax_cvV (z := m_Rs_remember) (ci := 10) (av := []) (st := []) (q := 42) (k' := 12) (n' := 131) rfl rfl cv_Rs_190 ⟨by decide, by decide⟩ rfl rfl (by decide) (by decide) (SX.o hS rfl) rfl rfl rfl (Nat.le_of_ble_eq_true rfl) ?_
        refine XV.mono h (fun g2_ t2_ h => ?_)
        obtain ⟨hS2_, h⟩ := h
        refine aw_aload_n (q := 43) (j := 0) rfl rfl rfl (List.mem_of_getElem? (i := 0) rfl) ?_
        refine ag_getR (q := 46) rfl rfl fl_Rs_46 rfl (SX.o hS2_ rfl) (SX.r hS2_ rfl) ?_
        refine ag_getR (q := 49) rfl rfl fl_Rs_126 rfl (HS.o (HS.of hS2_ (b := 74) rfl)) (HS.r0 (HS.of hS2_ (b := 74) rfl)) ?_
        refine aw_iload_n (q := 50) (j := 1) rfl rfl rfl (List.mem_of_getElem? (i := 1) rfl) ?_
        refine aw_dup2 (q := 51) rfl rfl rfl rfl ?_
        refine ag_iaload (q := 52) (N := 6) rfl rfl (HS.a0 (HS.of hS2_ (b := 74) rfl)) bd_3 ?_
        refine aw_iload_n (q := 53) (j := 2) rfl rfl rfl (List.mem_of_getElem? (i := 2) rfl) ?_
        refine aw_iadd (q := 54) rfl rfl ?_
        refine ag_iastore (q := 55) (N := 6) rfl rfl (HS.a0 (HS.of hS2_ (b := 74) rfl)) bd_3 ?_
        replace h := h _ rfl
        refine aw_aload_n (q := 56) (j := 0) rfl rfl rfl (List.mem_of_getElem? (i := 0) rfl) ?_
        refine ag_getR (q := 59) rfl rfl fl_Rs_46 rfl (SX.o hS2_ rfl) (SX.r hS2_ rfl) ?_
        refine ag_getR (q := 62) rfl rfl fl_Rs_126 rfl (HS.o (HS.of hS2_ (b := 74) rfl)) (HS.r0 (HS.of hS2_ (b := 74) rfl)) ?_
        refine aw_iload_n (q := 63) (j := 1) rfl rfl rfl (List.mem_of_getElem? (i := 1) rfl) ?_
        refine ag_iaload (q := 64) (N := 6) rfl rfl (HS.a0 (HS.of hS2_ (b := 74) rfl)) bd_3 ?_
        exact aw_ireturn (ty := .int) rfl rfl rfl (by decide) (by decide) h
      · replace h := h.2 cd_4
        refine aw_iconst (q := 37) (v := (-1)) rfl rfl (by decide) ?_
        exact aw_ireturn (ty := .int) rfl rfl rfl (by decide) (by decide) h
set_option maxRecDepth 20000 in
theorem v_Rs_swap {E : EN} {g : GS} {s : MS} {Q : Option Value → SG → Prop} (x1 : Int32) (x2 : Int32) (t : Nat) (hS : SX g) (et : t = 88 ∨ t = 104) (ht : g.2.2 16 10 = some t) (h : GI E m_Rs_isOf [.int x1, .int (s.1 t 12)] g s (fun y1_ t1_ => ((y1_ = 0 → Q (some (.int 0)) (mk g t1_)) ∧ (¬ y1_ = 0 → GI E m_Rs_isOf [.int x2, .int (t1_.1 t 12)] g t1_ (fun y2_ t2_ => ((y2_ = 0 → Q (some (.int 0)) (mk g t2_)) ∧ (¬ y2_ = 0 → ((x1 = x2 → Q (some (.int 0)) (mk g t2_)) ∧ (¬ x1 = x2 → XV E m_Rs_remember [.ref 16] g t2_ (fun g3_ t3_ => SX g3_ ∧ GV E m_House_exchange [.ref 74, .int x1, .int x2] g3_ t3_ (fun t4_ => Q (some (.int 1)) (mk g3_ t4_)))))))))))) : AMet E m_Rs_swap [.ref 16, .int x1, .int x2] (mk g s) Q := by
  refine AMet.of (by decide) k_Rs_swap [(0, .ref 16), (1, .int x1), (2, .int x2)] (Nat.le_of_ble_eq_true rfl) rfl ?_
  refine aw_iload_n (q := 1) (j := 1) rfl rfl rfl (List.mem_of_getElem? (i := 1) rfl) ?_
  refine aw_aload_n (q := 2) (j := 0) rfl rfl rfl (List.mem_of_getElem? (i := 0) rfl) ?_
  refine ag_getR (q := 5) rfl rfl fl_Rs_60 rfl (SX.o hS rfl) ht ?_
  refine ag_getI (q := 8) rfl rfl fl_Rs_130 rfl (TS.o (TS.of hS et)) ?_
  refine ag_csI (z := m_Rs_isOf) (av := [.int _, .int _]) (st := []) (q := 11) (k' := 0) (n' := 0) rfl rfl cs_Rs_122 ⟨by decide, by decide⟩ rfl rfl (by decide) (by decide) rfl rfl (Nat.le_of_ble_eq_true rfl) ?_
  refine GI.mono h (fun y1_ t1_ h => ?_)
  refine aw_if_eq (q := 14) (tgt := 33) rfl rfl (by decide) ⟨fun cd_1 => ?_, fun cd_1 => ?_⟩
  · replace h := h.1 cd_1
    refine aw_iconst (q := 34) (v := 0) rfl rfl (by decide) ?_
    exact aw_ireturn (ty := .boolean) rfl rfl rfl (by decide) (by decide) h
  · replace h := h.2 cd_1
    refine aw_iload_n (q := 15) (j := 2) rfl rfl rfl (List.mem_of_getElem? (i := 2) rfl) ?_
    refine aw_aload_n (q := 16) (j := 0) rfl rfl rfl (List.mem_of_getElem? (i := 0) rfl) ?_
    refine ag_getR (q := 19) rfl rfl fl_Rs_60 rfl (SX.o hS rfl) ht ?_
    refine ag_getI (q := 22) rfl rfl fl_Rs_130 rfl (TS.o (TS.of hS et)) ?_
    refine ag_csI (z := m_Rs_isOf) (av := [.int _, .int _]) (st := []) (q := 25) (k' := 0) (n' := 0) rfl rfl cs_Rs_122 ⟨by decide, by decide⟩ rfl rfl (by decide) (by decide) rfl rfl (Nat.le_of_ble_eq_true rfl) ?_
    refine GI.mono h (fun y2_ t2_ h => ?_)
    refine aw_if_eq (q := 28) (tgt := 33) rfl rfl (by decide) ⟨fun cd_2 => ?_, fun cd_2 => ?_⟩
    · replace h := h.1 cd_2
      refine aw_iconst (q := 34) (v := 0) rfl rfl (by decide) ?_
      exact aw_ireturn (ty := .boolean) rfl rfl rfl (by decide) (by decide) h
    · replace h := h.2 cd_2
      refine aw_iload_n (q := 29) (j := 1) rfl rfl rfl (List.mem_of_getElem? (i := 1) rfl) ?_
      refine aw_iload_n (q := 30) (j := 2) rfl rfl rfl (List.mem_of_getElem? (i := 2) rfl) ?_
      refine aw_icmp_ne (q := 33) (tgt := 35) rfl rfl (by decide) ⟨fun cd_3 => ?_, fun cd_3 => ?_⟩
      · replace h := h.1 cd_3
        refine aw_iconst (q := 34) (v := 0) rfl rfl (by decide) ?_
        exact aw_ireturn (ty := .boolean) rfl rfl rfl (by decide) (by decide) h
      · replace h := h.2 cd_3
        refine aw_aload_n (q := 36) (j := 0) rfl rfl rfl (List.mem_of_getElem? (i := 0) rfl) ?_
        refine ax_cvV (z := m_Rs_remember) (ci := 10) (av := []) (st := []) (q := 39) (k' := 12) (n' := 131) rfl rfl cv_Rs_190 ⟨by decide, by decide⟩ rfl rfl (by decide) (by decide) (SX.o hS rfl) rfl rfl rfl (Nat.le_of_ble_eq_true rfl) ?_
        refine XV.mono h (fun g3_ t3_ h => ?_)
        obtain ⟨hS3_, h⟩ := h
        refine aw_aload_n (q := 40) (j := 0) rfl rfl rfl (List.mem_of_getElem? (i := 0) rfl) ?_
        refine ag_getR (q := 43) rfl rfl fl_Rs_46 rfl (SX.o hS3_ rfl) (SX.r hS3_ rfl) ?_
        refine aw_iload_n (q := 44) (j := 1) rfl rfl rfl (List.mem_of_getElem? (i := 1) rfl) ?_
        refine aw_iload_n (q := 45) (j := 2) rfl rfl rfl (List.mem_of_getElem? (i := 2) rfl) ?_
        refine ag_cvV (z := m_House_exchange) (ci := 2) (av := [.int _, .int _]) (st := []) (q := 48) (k' := 12) (n' := 131) rfl rfl cv_Rs_200 ⟨by decide, by decide⟩ rfl rfl (by decide) (by decide) (HS.o (HS.of hS3_ (b := 74) rfl)) rfl rfl rfl (Nat.le_of_ble_eq_true rfl) ?_
        refine GV.mono h (fun t4_ h => ?_)
        refine aw_iconst (q := 49) (v := 1) rfl rfl (by decide) ?_
        exact aw_ireturn (ty := .boolean) rfl rfl rfl (by decide) (by decide) h
set_option maxRecDepth 20000 in
theorem v_Rs_teach {E : EN} {g : GS} {s : MS} {Q : Option Value → SG → Prop} (x1 : Int32) (x2 : Int32) (t : Nat) (hS : SX g) (et : t = 88 ∨ t = 104) (ht : g.2.2 16 10 = some t) (h : GI E m_Rs_isOf [.int x1, .int (s.1 t 13)] g s (fun y1_ t1_ => ((y1_ = 0 → Q (some (.int 0)) (mk g t1_)) ∧ (¬ y1_ = 0 → GI E m_Rs_isOf [.int x2, .int (t1_.1 t 11)] g t1_ (fun y2_ t2_ => ((y2_ = 0 → Q (some (.int 0)) (mk g t2_)) ∧ (¬ y2_ = 0 → vp_in x1 8 ∧ (((t2_.1 (78 + (x1).toNatClampNeg) 6) = x2 → Q (some (.int 0)) (mk g t2_)) ∧ (¬ (t2_.1 (78 + (x1).toNatClampNeg) 6) = x2 → XV E m_Rs_remember [.ref 16] g t2_ (fun g3_ t3_ => SX g3_ ∧ (∀ s4_, s4_ = wi t3_ (78 + (x1).toNatClampNeg) 6 x2 → Q (some (.int 1)) (mk g3_ s4_)))))))))))) : AMet E m_Rs_teach [.ref 16, .int x1, .int x2] (mk g s) Q := by
  refine AMet.of (by decide) k_Rs_teach [(0, .ref 16), (1, .int x1), (2, .int x2)] (Nat.le_of_ble_eq_true rfl) rfl ?_
  refine aw_iload_n (q := 1) (j := 1) rfl rfl rfl (List.mem_of_getElem? (i := 1) rfl) ?_
  refine aw_aload_n (q := 2) (j := 0) rfl rfl rfl (List.mem_of_getElem? (i := 0) rfl) ?_
  refine ag_getR (q := 5) rfl rfl fl_Rs_60 rfl (SX.o hS rfl) ht ?_
  refine ag_getI (q := 8) rfl rfl fl_Rs_137 rfl (TS.o (TS.of hS et)) ?_
  refine ag_csI (z := m_Rs_isOf) (av := [.int _, .int _]) (st := []) (q := 11) (k' := 0) (n' := 0) rfl rfl cs_Rs_122 ⟨by decide, by decide⟩ rfl rfl (by decide) (by decide) rfl rfl (Nat.le_of_ble_eq_true rfl) ?_
  refine GI.mono h (fun y1_ t1_ h => ?_)
  refine aw_if_eq (q := 14) (tgt := 44) rfl rfl (by decide) ⟨fun cd_1 => ?_, fun cd_1 => ?_⟩
  · replace h := h.1 cd_1
    refine aw_iconst (q := 45) (v := 0) rfl rfl (by decide) ?_
    exact aw_ireturn (ty := .boolean) rfl rfl rfl (by decide) (by decide) h
  · replace h := h.2 cd_1
    refine aw_iload_n (q := 15) (j := 2) rfl rfl rfl (List.mem_of_getElem? (i := 2) rfl) ?_
    refine aw_aload_n (q := 16) (j := 0) rfl rfl rfl (List.mem_of_getElem? (i := 0) rfl) ?_
    refine ag_getR (q := 19) rfl rfl fl_Rs_60 rfl (SX.o hS rfl) ht ?_
    refine ag_getI (q := 22) rfl rfl fl_Rs_119 rfl (TS.o (TS.of hS et)) ?_
    refine ag_csI (z := m_Rs_isOf) (av := [.int _, .int _]) (st := []) (q := 25) (k' := 0) (n' := 0) rfl rfl cs_Rs_122 ⟨by decide, by decide⟩ rfl rfl (by decide) (by decide) rfl rfl (Nat.le_of_ble_eq_true rfl) ?_
    refine GI.mono h (fun y2_ t2_ h => ?_)
    refine aw_if_eq (q := 28) (tgt := 44) rfl rfl (by decide) ⟨fun cd_2 => ?_, fun cd_2 => ?_⟩
    · replace h := h.1 cd_2
      refine aw_iconst (q := 45) (v := 0) rfl rfl (by decide) ?_
      exact aw_ireturn (ty := .boolean) rfl rfl rfl (by decide) (by decide) h
    · replace h := h.2 cd_2
      refine aw_aload_n (q := 29) (j := 0) rfl rfl rfl (List.mem_of_getElem? (i := 0) rfl) ?_
      refine ag_getR (q := 32) rfl rfl fl_Rs_46 rfl (SX.o hS rfl) (SX.r hS rfl) ?_
      refine ag_getR (q := 35) rfl rfl fl_Rs_140 rfl (HS.o (HS.of hS (b := 74) rfl)) (HS.r2 (HS.of hS (b := 74) rfl)) ?_
      refine aw_iload_n (q := 36) (j := 1) rfl rfl rfl (List.mem_of_getElem? (i := 1) rfl) ?_
      obtain ⟨bd_3, h⟩ := h
      refine ag_aaload (q := 37) rfl rfl (Or.inr rfl) (HS.a2 (HS.of hS (b := 74) rfl)) bd_3 (HS.rr (HS.of hS (b := 74) rfl) bd_3) ?_
      refine ag_getI (q := 40) rfl rfl fl_Rs_163 rfl (HS.ro (HS.of hS (b := 74) rfl) bd_3) ?_
      refine aw_iload_n (q := 41) (j := 2) rfl rfl rfl (List.mem_of_getElem? (i := 2) rfl) ?_
      refine aw_icmp_ne (q := 44) (tgt := 46) rfl rfl (by decide) ⟨fun cd_4 => ?_, fun cd_4 => ?_⟩
      · replace h := h.1 cd_4
        refine aw_iconst (q := 45) (v := 0) rfl rfl (by decide) ?_
        exact aw_ireturn (ty := .boolean) rfl rfl rfl (by decide) (by decide) h
      · replace h := h.2 cd_4
        refine aw_aload_n (q := 47) (j := 0) rfl rfl rfl (List.mem_of_getElem? (i := 0) rfl) ?_
        refine ax_cvV (z := m_Rs_remember) (ci := 10) (av := []) (st := []) (q := 50) (k' := 12) (n' := 131) rfl rfl cv_Rs_190 ⟨by decide, by decide⟩ rfl rfl (by decide) (by decide) (SX.o hS rfl) rfl rfl rfl (Nat.le_of_ble_eq_true rfl) ?_
        refine XV.mono h (fun g3_ t3_ h => ?_)
        obtain ⟨hS3_, h⟩ := h
        refine aw_aload_n (q := 51) (j := 0) rfl rfl rfl (List.mem_of_getElem? (i := 0) rfl) ?_
        refine ag_getR (q := 54) rfl rfl fl_Rs_46 rfl (SX.o hS3_ rfl) (SX.r hS3_ rfl) ?_
        refine ag_getR (q := 57) rfl rfl fl_Rs_140 rfl (HS.o (HS.of hS3_ (b := 74) rfl)) (HS.r2 (HS.of hS3_ (b := 74) rfl)) ?_
        refine aw_iload_n (q := 58) (j := 1) rfl rfl rfl (List.mem_of_getElem? (i := 1) rfl) ?_
        refine ag_aaload (q := 59) rfl rfl (Or.inr rfl) (HS.a2 (HS.of hS3_ (b := 74) rfl)) bd_3 (HS.rr (HS.of hS3_ (b := 74) rfl) bd_3) ?_
        refine aw_iload_n (q := 60) (j := 2) rfl rfl rfl (List.mem_of_getElem? (i := 2) rfl) ?_
        refine ag_putI (q := 63) rfl rfl fl_Rs_163 rfl rfl (HS.ro (HS.of hS3_ (b := 74) rfl) bd_3) ?_
        replace h := h _ rfl
        refine aw_iconst (q := 64) (v := 1) rfl rfl (by decide) ?_
        exact aw_ireturn (ty := .boolean) rfl rfl rfl (by decide) (by decide) h
set_option maxRecDepth 20000 in
theorem v_Rs_give {E : EN} {g : GS} {s : MS} {Q : Option Value → SG → Prop} (x1 : Int32) (x2 : Int32) (x3 : Int32) (t : Nat) (hS : SX g) (et : t = 88 ∨ t = 104) (ht : g.2.2 16 10 = some t) (h : GI E m_Rs_isOf [.int x1, .int (s.1 t 13)] g s (fun y1_ t1_ => ((y1_ = 0 → Q (some (.int 0)) (mk g t1_)) ∧ (¬ y1_ = 0 → GI E m_Rs_isOf [.int x2, .int (t1_.1 t 11)] g t1_ (fun y2_ t2_ => ((y2_ = 0 → Q (some (.int 0)) (mk g t2_)) ∧ (¬ y2_ = 0 → ((x3 < 1 → Q (some (.int 0)) (mk g t2_)) ∧ (¬ x3 < 1 → vp_in x2 6 ∧ (((t2_.1 75 ((x2).toNatClampNeg)) < x3 → Q (some (.int 0)) (mk g t2_)) ∧ (¬ (t2_.1 75 ((x2).toNatClampNeg)) < x3 → vp_in x1 8 ∧ (((t2_.1 (78 + (x1).toNatClampNeg) 0) = 0 → XV E m_Rs_remember [.ref 16] g t2_ (fun g3_ t3_ => SX g3_ ∧ (∀ s4_, s4_ = wi t3_ 75 ((x2).toNatClampNeg) ((t3_.1 75 ((x2).toNatClampNeg)) - x3) → (∀ s5_, s5_ = wi s4_ 74 5 ((t3_.1 74 5) + x3) → (∀ s6_, s6_ = wi s5_ (78 + (x1).toNatClampNeg) 4 0 → (∀ s7_, s7_ = wi s6_ (78 + (x1).toNatClampNeg) 5 (if ((s6_.1 (78 + (x1).toNatClampNeg) 5) + 1) < 9 then ((s6_.1 (78 + (x1).toNatClampNeg) 5) + 1) else 9) → Q (some (.int 1)) (mk g3_ s7_))))))) ∧ (¬ (t2_.1 (78 + (x1).toNatClampNeg) 0) = 0 → Q (some (.int 0)) (mk g t2_)))))))))))))) : AMet E m_Rs_give [.ref 16, .int x1, .int x2, .int x3] (mk g s) Q := by
  refine AMet.of (by decide) k_Rs_give [(0, .ref 16), (1, .int x1), (2, .int x2), (3, .int x3)] (Nat.le_of_ble_eq_true rfl) rfl ?_
  refine aw_iload_n (q := 1) (j := 1) rfl rfl rfl (List.mem_of_getElem? (i := 1) rfl) ?_
  refine aw_aload_n (q := 2) (j := 0) rfl rfl rfl (List.mem_of_getElem? (i := 0) rfl) ?_
  refine ag_getR (q := 5) rfl rfl fl_Rs_60 rfl (SX.o hS rfl) ht ?_
  refine ag_getI (q := 8) rfl rfl fl_Rs_137 rfl (TS.o (TS.of hS et)) ?_
  refine ag_csI (z := m_Rs_isOf) (av := [.int _, .int _]) (st := []) (q := 11) (k' := 0) (n' := 0) rfl rfl cs_Rs_122 ⟨by decide, by decide⟩ rfl rfl (by decide) (by decide) rfl rfl (Nat.le_of_ble_eq_true rfl) ?_
  refine GI.mono h (fun y1_ t1_ h => ?_)
  refine aw_if_eq (q := 14) (tgt := 61) rfl rfl (by decide) ⟨fun cd_1 => ?_, fun cd_1 => ?_⟩
  · replace h := h.1 cd_1
    refine aw_iconst (q := 62) (v := 0) rfl rfl (by decide) ?_
    exact aw_ireturn (ty := .boolean) rfl rfl rfl (by decide) (by decide) h
  · replace h := h.2 cd_1
    refine aw_iload_n (q := 15) (j := 2) rfl rfl rfl (List.mem_of_getElem? (i := 2) rfl) ?_
    refine aw_aload_n (q := 16) (j := 0) rfl rfl rfl (List.mem_of_getElem? (i := 0) rfl) ?_
    refine ag_getR (q := 19) rfl rfl fl_Rs_60 rfl (SX.o hS rfl) ht ?_
    refine ag_getI (q := 22) rfl rfl fl_Rs_119 rfl (TS.o (TS.of hS et)) ?_
    refine ag_csI (z := m_Rs_isOf) (av := [.int _, .int _]) (st := []) (q := 25) (k' := 0) (n' := 0) rfl rfl cs_Rs_122 ⟨by decide, by decide⟩ rfl rfl (by decide) (by decide) rfl rfl (Nat.le_of_ble_eq_true rfl) ?_
    refine GI.mono h (fun y2_ t2_ h => ?_)
    refine aw_if_eq (q := 28) (tgt := 61) rfl rfl (by decide) ⟨fun cd_2 => ?_, fun cd_2 => ?_⟩
    · replace h := h.1 cd_2
      refine aw_iconst (q := 62) (v := 0) rfl rfl (by decide) ?_
      exact aw_ireturn (ty := .boolean) rfl rfl rfl (by decide) (by decide) h
    · replace h := h.2 cd_2
      refine aw_iload_n (q := 29) (j := 3) rfl rfl rfl (List.mem_of_getElem? (i := 3) rfl) ?_
      refine aw_iconst (q := 30) (v := 1) rfl rfl (by decide) ?_
      refine aw_icmp_lt (q := 33) (tgt := 61) rfl rfl (by decide) ⟨fun cd_3 => ?_, fun cd_3 => ?_⟩
      · replace h := h.1 cd_3
        refine aw_iconst (q := 62) (v := 0) rfl rfl (by decide) ?_
        exact aw_ireturn (ty := .boolean) rfl rfl rfl (by decide) (by decide) h
      · replace h := h.2 cd_3
        refine aw_iload_n (q := 34) (j := 3) rfl rfl rfl (List.mem_of_getElem? (i := 3) rfl) ?_
        refine aw_aload_n (q := 35) (j := 0) rfl rfl rfl (List.mem_of_getElem? (i := 0) rfl) ?_
        refine ag_getR (q := 38) rfl rfl fl_Rs_46 rfl (SX.o hS rfl) (SX.r hS rfl) ?_
        refine ag_getR (q := 41) rfl rfl fl_Rs_126 rfl (HS.o (HS.of hS (b := 74) rfl)) (HS.r0 (HS.of hS (b := 74) rfl)) ?_
        refine aw_iload_n (q := 42) (j := 2) rfl rfl rfl (List.mem_of_getElem? (i := 2) rfl) ?_
        obtain ⟨bd_4, h⟩ := h
        refine ag_iaload (q := 43) (N := 6) rfl rfl (HS.a0 (HS.of hS (b := 74) rfl)) bd_4 ?_
        refine aw_icmp_gt (q := 46) (tgt := 61) rfl rfl (by decide) ⟨fun cd_5 => ?_, fun cd_5 => ?_⟩
        · replace h := h.1 cd_5
          refine aw_iconst (q := 62) (v := 0) rfl rfl (by decide) ?_
          exact aw_ireturn (ty := .boolean) rfl rfl rfl (by decide) (by decide) h
        · replace h := h.2 cd_5
          refine aw_aload_n (q := 47) (j := 0) rfl rfl rfl (List.mem_of_getElem? (i := 0) rfl) ?_
          refine ag_getR (q := 50) rfl rfl fl_Rs_46 rfl (SX.o hS rfl) (SX.r hS rfl) ?_
          refine ag_getR (q := 53) rfl rfl fl_Rs_140 rfl (HS.o (HS.of hS (b := 74) rfl)) (HS.r2 (HS.of hS (b := 74) rfl)) ?_
          refine aw_iload_n (q := 54) (j := 1) rfl rfl rfl (List.mem_of_getElem? (i := 1) rfl) ?_
          obtain ⟨bd_6, h⟩ := h
          refine ag_aaload (q := 55) rfl rfl (Or.inr rfl) (HS.a2 (HS.of hS (b := 74) rfl)) bd_6 (HS.rr (HS.of hS (b := 74) rfl) bd_6) ?_
          refine ag_getI (q := 58) rfl rfl fl_Rs_143 rfl (HS.ro (HS.of hS (b := 74) rfl) bd_6) ?_
          refine aw_if_eq (q := 61) (tgt := 63) rfl rfl (by decide) ⟨fun cd_7 => ?_, fun cd_7 => ?_⟩
          · replace h := h.1 cd_7
            refine aw_aload_n (q := 64) (j := 0) rfl rfl rfl (List.mem_of_getElem? (i := 0) rfl) ?_
            refine ax_cvV (z := m_Rs_remember) (ci := 10) (av := []) (st := []) (q := 67) (k' := 12) (n' := 131) rfl rfl cv_Rs_190 ⟨by decide, by decide⟩ rfl rfl (by decide) (by decide) (SX.o hS rfl) rfl rfl rfl (Nat.le_of_ble_eq_true rfl) ?_
            refine XV.mono h (fun g3_ t3_ h => ?_)
            obtain ⟨hS3_, h⟩ := h
            refine aw_aload_n (q := 68) (j := 0) rfl rfl rfl (List.mem_of_getElem? (i := 0) rfl) ?_
            refine ag_getR (q := 71) rfl rfl fl_Rs_46 rfl (SX.o hS3_ rfl) (SX.r hS3_ rfl) ?_
            refine ag_getR (q := 74) rfl rfl fl_Rs_126 rfl (HS.o (HS.of hS3_ (b := 74) rfl)) (HS.r0 (HS.of hS3_ (b := 74) rfl)) ?_
            refine aw_iload_n (q := 75) (j := 2) rfl rfl rfl (List.mem_of_getElem? (i := 2) rfl) ?_
            refine aw_dup2 (q := 76) rfl rfl rfl rfl ?_
            refine ag_iaload (q := 77) (N := 6) rfl rfl (HS.a0 (HS.of hS3_ (b := 74) rfl)) bd_4 ?_
            refine aw_iload_n (q := 78) (j := 3) rfl rfl rfl (List.mem_of_getElem? (i := 3) rfl) ?_
            refine aw_isub (q := 79) rfl rfl ?_
            refine ag_iastore (q := 80) (N := 6) rfl rfl (HS.a0 (HS.of hS3_ (b := 74) rfl)) bd_4 ?_
            replace h := h _ rfl
            refine aw_aload_n (q := 81) (j := 0) rfl rfl rfl (List.mem_of_getElem? (i := 0) rfl) ?_
            refine ag_getR (q := 84) rfl rfl fl_Rs_46 rfl (SX.o hS3_ rfl) (SX.r hS3_ rfl) ?_
            refine aw_dup (q := 85) rfl rfl rfl ?_
            refine ag_getI (q := 88) rfl rfl fl_Rs_204 rfl (HS.o (HS.of hS3_ (b := 74) rfl)) ?_
            refine aw_iload_n (q := 89) (j := 3) rfl rfl rfl (List.mem_of_getElem? (i := 3) rfl) ?_
            refine aw_iadd (q := 90) rfl rfl ?_
            refine ag_putI (q := 93) rfl rfl fl_Rs_204 rfl rfl (HS.o (HS.of hS3_ (b := 74) rfl)) ?_
            replace h := h _ rfl
            refine aw_aload_n (q := 94) (j := 0) rfl rfl rfl (List.mem_of_getElem? (i := 0) rfl) ?_
            refine ag_getR (q := 97) rfl rfl fl_Rs_46 rfl (SX.o hS3_ rfl) (SX.r hS3_ rfl) ?_
            refine ag_getR (q := 100) rfl rfl fl_Rs_140 rfl (HS.o (HS.of hS3_ (b := 74) rfl)) (HS.r2 (HS.of hS3_ (b := 74) rfl)) ?_
            refine aw_iload_n (q := 101) (j := 1) rfl rfl rfl (List.mem_of_getElem? (i := 1) rfl) ?_
            refine ag_aaload (q := 102) rfl rfl (Or.inr rfl) (HS.a2 (HS.of hS3_ (b := 74) rfl)) bd_6 (HS.rr (HS.of hS3_ (b := 74) rfl) bd_6) ?_
            refine aw_astore (q := 104) (j := 4) (ls' := [(4, .ref _), (0, .ref _), (1, .int _), (2, .int _), (3, .int _)]) rfl rfl (by decide) rfl ?_
            refine aw_aload (q := 106) (j := 4) rfl rfl (List.mem_of_getElem? (i := 0) rfl) ?_
            refine aw_iconst (q := 107) (v := 0) rfl rfl (by decide) ?_
            refine ag_putI (q := 110) rfl rfl fl_Rs_157 rfl rfl (HS.ro (HS.of hS3_ (b := 74) rfl) bd_6) ?_
            replace h := h _ rfl
            refine aw_aload (q := 112) (j := 4) rfl rfl (List.mem_of_getElem? (i := 0) rfl) ?_
            refine aw_bipush (q := 114) (v := 9) rfl rfl (by decide) ?_
            refine aw_aload (q := 116) (j := 4) rfl rfl (List.mem_of_getElem? (i := 0) rfl) ?_
            refine ag_getI (q := 119) rfl rfl fl_Rs_160 rfl (HS.ro (HS.of hS3_ (b := 74) rfl) bd_6) ?_
            refine aw_iconst (q := 120) (v := 1) rfl rfl (by decide) ?_
            refine aw_iadd (q := 121) rfl rfl ?_
            refine aw_mmin (q := 124) rfl rfl (tb_c4 167 rfl rfl) (tb_c3 142 rfl rfl) (tb_c1 18 rfl rfl) (tb_c3 143 rfl rfl) (by decide) (by decide) (by decide) (by decide) (Nat.le_of_ble_eq_true rfl) ?_
            refine ag_putI (q := 127) rfl rfl fl_Rs_160 rfl rfl (HS.ro (HS.of hS3_ (b := 74) rfl) bd_6) ?_
            replace h := h _ rfl
            refine aw_iconst (q := 128) (v := 1) rfl rfl (by decide) ?_
            exact aw_ireturn (ty := .boolean) rfl rfl rfl (by decide) (by decide) h
          · replace h := h.2 cd_7
            refine aw_iconst (q := 62) (v := 0) rfl rfl (by decide) ?_
            exact aw_ireturn (ty := .boolean) rfl rfl rfl (by decide) (by decide) h
set_option maxRecDepth 20000 in
theorem v_Rs_send {E : EN} {g : GS} {s : MS} {Q : Option Value → SG → Prop} (x1 : Int32) (x2 : Int32) (t : Nat) (hS : SX g) (et : t = 88 ∨ t = 104) (ht : g.2.2 16 10 = some t) (h : GI E m_Rs_isOf [.int x1, .int (s.1 t 13)] g s (fun y1_ t1_ => ((y1_ = 0 → Q (some (.int 0)) (mk g t1_)) ∧ (¬ y1_ = 0 → vp_in x1 8 ∧ (((t1_.1 (78 + (x1).toNatClampNeg) 0) = 3 → ((1 = x2 → Q (some (.int 0)) (mk g t1_)) ∧ (¬ 1 = x2 → XV E m_Rs_remember [.ref 16] g t1_ (fun g2_ t2_ => SX g2_ ∧ ((x2 = 0 → GV E m_House_callBack [.ref 74, .int x1] g2_ t2_ (fun t3_ => Q (some (.int 1)) (mk g2_ t3_))) ∧ (¬ x2 = 0 → GV E m_House_sendHome [.ref 74, .int x1] g2_ t2_ (fun t4_ => Q (some (.int 1)) (mk g2_ t4_)))))))) ∧ (¬ (t1_.1 (78 + (x1).toNatClampNeg) 0) = 3 → ((0 = x2 → Q (some (.int 0)) (mk g t1_)) ∧ (¬ 0 = x2 → XV E m_Rs_remember [.ref 16] g t1_ (fun g5_ t5_ => SX g5_ ∧ ((x2 = 0 → GV E m_House_callBack [.ref 74, .int x1] g5_ t5_ (fun t6_ => Q (some (.int 1)) (mk g5_ t6_))) ∧ (¬ x2 = 0 → GV E m_House_sendHome [.ref 74, .int x1] g5_ t5_ (fun t7_ => Q (some (.int 1)) (mk g5_ t7_))))))))))))) : AMet E m_Rs_send [.ref 16, .int x1, .int x2] (mk g s) Q := by
  refine AMet.of (by decide) k_Rs_send [(0, .ref 16), (1, .int x1), (2, .int x2)] (Nat.le_of_ble_eq_true rfl) rfl ?_
  refine aw_iload_n (q := 1) (j := 1) rfl rfl rfl (List.mem_of_getElem? (i := 1) rfl) ?_
  refine aw_aload_n (q := 2) (j := 0) rfl rfl rfl (List.mem_of_getElem? (i := 0) rfl) ?_
  refine ag_getR (q := 5) rfl rfl fl_Rs_60 rfl (SX.o hS rfl) ht ?_
  refine ag_getI (q := 8) rfl rfl fl_Rs_137 rfl (TS.o (TS.of hS et)) ?_
  refine ag_csI (z := m_Rs_isOf) (av := [.int _, .int _]) (st := []) (q := 11) (k' := 0) (n' := 0) rfl rfl cs_Rs_122 ⟨by decide, by decide⟩ rfl rfl (by decide) (by decide) rfl rfl (Nat.le_of_ble_eq_true rfl) ?_
  refine GI.mono h (fun y1_ t1_ h => ?_)
  refine aw_if_eq (q := 14) (tgt := 39) rfl rfl (by decide) ⟨fun cd_1 => ?_, fun cd_1 => ?_⟩
  · replace h := h.1 cd_1
    refine aw_iconst (q := 40) (v := 0) rfl rfl (by decide) ?_
    exact aw_ireturn (ty := .boolean) rfl rfl rfl (by decide) (by decide) h
  · replace h := h.2 cd_1
    refine aw_aload_n (q := 15) (j := 0) rfl rfl rfl (List.mem_of_getElem? (i := 0) rfl) ?_
    refine ag_getR (q := 18) rfl rfl fl_Rs_46 rfl (SX.o hS rfl) (SX.r hS rfl) ?_
    refine ag_getR (q := 21) rfl rfl fl_Rs_140 rfl (HS.o (HS.of hS (b := 74) rfl)) (HS.r2 (HS.of hS (b := 74) rfl)) ?_
    refine aw_iload_n (q := 22) (j := 1) rfl rfl rfl (List.mem_of_getElem? (i := 1) rfl) ?_
    obtain ⟨bd_2, h⟩ := h
    refine ag_aaload (q := 23) rfl rfl (Or.inr rfl) (HS.a2 (HS.of hS (b := 74) rfl)) bd_2 (HS.rr (HS.of hS (b := 74) rfl) bd_2) ?_
    refine ag_getI (q := 26) rfl rfl fl_Rs_143 rfl (HS.ro (HS.of hS (b := 74) rfl) bd_2) ?_
    refine aw_iconst (q := 27) (v := 3) rfl rfl (by decide) ?_
    refine aw_icmp_ne (q := 30) (tgt := 34) rfl rfl (by decide) ⟨fun cd_3 => ?_, fun cd_3 => ?_⟩
    · replace h := h.1 cd_3
      refine aw_iconst (q := 31) (v := 1) rfl rfl (by decide) ?_
      refine aw_goto (tgt := 35) rfl (by decide) ?_
      refine aw_iload_n (q := 36) (j := 2) rfl rfl rfl (List.mem_of_getElem? (i := 2) rfl) ?_
      refine aw_icmp_ne (q := 39) (tgt := 41) rfl rfl (by decide) ⟨fun cd_4 => ?_, fun cd_4 => ?_⟩
      · replace h := h.1 cd_4
        refine aw_iconst (q := 40) (v := 0) rfl rfl (by decide) ?_
        exact aw_ireturn (ty := .boolean) rfl rfl rfl (by decide) (by decide) h
      · replace h := h.2 cd_4
        refine aw_aload_n (q := 42) (j := 0) rfl rfl rfl (List.mem_of_getElem? (i := 0) rfl) ?_
        refine ax_cvV (z := m_Rs_remember) (ci := 10) (av := []) (st := []) (q := 45) (k' := 12) (n' := 131) rfl rfl cv_Rs_190 ⟨by decide, by decide⟩ rfl rfl (by decide) (by decide) (SX.o hS rfl) rfl rfl rfl (Nat.le_of_ble_eq_true rfl) ?_
        refine XV.mono h (fun g2_ t2_ h => ?_)
        obtain ⟨hS2_, h⟩ := h
        refine aw_iload_n (q := 46) (j := 2) rfl rfl rfl (List.mem_of_getElem? (i := 2) rfl) ?_
        refine aw_if_eq (q := 49) (tgt := 60) rfl rfl (by decide) ⟨fun cd_5 => ?_, fun cd_5 => ?_⟩
        · replace h := h.1 cd_5
          refine aw_aload_n (q := 61) (j := 0) rfl rfl rfl (List.mem_of_getElem? (i := 0) rfl) ?_
          refine ag_getR (q := 64) rfl rfl fl_Rs_46 rfl (SX.o hS2_ rfl) (SX.r hS2_ rfl) ?_
          refine aw_iload_n (q := 65) (j := 1) rfl rfl rfl (List.mem_of_getElem? (i := 1) rfl) ?_
          refine ag_cvV (z := m_House_callBack) (ci := 2) (av := [.int _]) (st := []) (q := 68) (k' := 12) (n' := 131) rfl rfl cv_Rs_213 ⟨by decide, by decide⟩ rfl rfl (by decide) (by decide) (HS.o (HS.of hS2_ (b := 74) rfl)) rfl rfl rfl (Nat.le_of_ble_eq_true rfl) ?_
          refine GV.mono h (fun t3_ h => ?_)
          refine aw_iconst (q := 69) (v := 1) rfl rfl (by decide) ?_
          exact aw_ireturn (ty := .boolean) rfl rfl rfl (by decide) (by decide) h
        · replace h := h.2 cd_5
          refine aw_aload_n (q := 50) (j := 0) rfl rfl rfl (List.mem_of_getElem? (i := 0) rfl) ?_
          refine ag_getR (q := 53) rfl rfl fl_Rs_46 rfl (SX.o hS2_ rfl) (SX.r hS2_ rfl) ?_
          refine aw_iload_n (q := 54) (j := 1) rfl rfl rfl (List.mem_of_getElem? (i := 1) rfl) ?_
          refine ag_cvV (z := m_House_sendHome) (ci := 2) (av := [.int _]) (st := []) (q := 57) (k' := 12) (n' := 131) rfl rfl cv_Rs_210 ⟨by decide, by decide⟩ rfl rfl (by decide) (by decide) (HS.o (HS.of hS2_ (b := 74) rfl)) rfl rfl rfl (Nat.le_of_ble_eq_true rfl) ?_
          refine GV.mono h (fun t4_ h => ?_)
          refine aw_goto (tgt := 68) rfl (by decide) ?_
          refine aw_iconst (q := 69) (v := 1) rfl rfl (by decide) ?_
          exact aw_ireturn (ty := .boolean) rfl rfl rfl (by decide) (by decide) h
    · replace h := h.2 cd_3
      refine aw_iconst (q := 35) (v := 0) rfl rfl (by decide) ?_
      refine aw_iload_n (q := 36) (j := 2) rfl rfl rfl (List.mem_of_getElem? (i := 2) rfl) ?_
      refine aw_icmp_ne (q := 39) (tgt := 41) rfl rfl (by decide) ⟨fun cd_6 => ?_, fun cd_6 => ?_⟩
      · replace h := h.1 cd_6
        refine aw_iconst (q := 40) (v := 0) rfl rfl (by decide) ?_
        exact aw_ireturn (ty := .boolean) rfl rfl rfl (by decide) (by decide) h
      · replace h := h.2 cd_6
        refine aw_aload_n (q := 42) (j := 0) rfl rfl rfl (List.mem_of_getElem? (i := 0) rfl) ?_
        refine ax_cvV (z := m_Rs_remember) (ci := 10) (av := []) (st := []) (q := 45) (k' := 12) (n' := 131) rfl rfl cv_Rs_190 ⟨by decide, by decide⟩ rfl rfl (by decide) (by decide) (SX.o hS rfl) rfl rfl rfl (Nat.le_of_ble_eq_true rfl) ?_
        refine XV.mono h (fun g5_ t5_ h => ?_)
        obtain ⟨hS5_, h⟩ := h
        refine aw_iload_n (q := 46) (j := 2) rfl rfl rfl (List.mem_of_getElem? (i := 2) rfl) ?_
        refine aw_if_eq (q := 49) (tgt := 60) rfl rfl (by decide) ⟨fun cd_7 => ?_, fun cd_7 => ?_⟩
        · replace h := h.1 cd_7
          refine aw_aload_n (q := 61) (j := 0) rfl rfl rfl (List.mem_of_getElem? (i := 0) rfl) ?_
          refine ag_getR (q := 64) rfl rfl fl_Rs_46 rfl (SX.o hS5_ rfl) (SX.r hS5_ rfl) ?_
          refine aw_iload_n (q := 65) (j := 1) rfl rfl rfl (List.mem_of_getElem? (i := 1) rfl) ?_
          refine ag_cvV (z := m_House_callBack) (ci := 2) (av := [.int _]) (st := []) (q := 68) (k' := 12) (n' := 131) rfl rfl cv_Rs_213 ⟨by decide, by decide⟩ rfl rfl (by decide) (by decide) (HS.o (HS.of hS5_ (b := 74) rfl)) rfl rfl rfl (Nat.le_of_ble_eq_true rfl) ?_
          refine GV.mono h (fun t6_ h => ?_)
          refine aw_iconst (q := 69) (v := 1) rfl rfl (by decide) ?_
          exact aw_ireturn (ty := .boolean) rfl rfl rfl (by decide) (by decide) h
        · replace h := h.2 cd_7
          refine aw_aload_n (q := 50) (j := 0) rfl rfl rfl (List.mem_of_getElem? (i := 0) rfl) ?_
          refine ag_getR (q := 53) rfl rfl fl_Rs_46 rfl (SX.o hS5_ rfl) (SX.r hS5_ rfl) ?_
          refine aw_iload_n (q := 54) (j := 1) rfl rfl rfl (List.mem_of_getElem? (i := 1) rfl) ?_
          refine ag_cvV (z := m_House_sendHome) (ci := 2) (av := [.int _]) (st := []) (q := 57) (k' := 12) (n' := 131) rfl rfl cv_Rs_210 ⟨by decide, by decide⟩ rfl rfl (by decide) (by decide) (HS.o (HS.of hS5_ (b := 74) rfl)) rfl rfl rfl (Nat.le_of_ble_eq_true rfl) ?_
          refine GV.mono h (fun t7_ h => ?_)
          refine aw_goto (tgt := 68) rfl (by decide) ?_
          refine aw_iconst (q := 69) (v := 1) rfl rfl (by decide) ?_
          exact aw_ireturn (ty := .boolean) rfl rfl rfl (by decide) (by decide) h
set_option maxRecDepth 20000 in
theorem v_Rs_cat {E : EN} {g : GS} {s : MS} {Q : Option Value → SG → Prop} (x1 : Int32) (hS : SX g) (h : ((x1 < 1 → Q (some (.int (-1))) (mk g s)) ∧ (¬ x1 < 1 → ((99 < x1 → Q (some (.int (-1))) (mk g s)) ∧ (¬ 99 < x1 → ((((s.1 74 4) + x1) ≤ 999 → XV E m_Rs_remember [.ref 16] g s (fun g1_ t1_ => SX g1_ ∧ (∀ s2_, s2_ = wi t1_ 74 4 ((t1_.1 74 4) + x1) → Q (some (.int ((t1_.1 74 4) + x1))) (mk g1_ s2_)))) ∧ (¬ ((s.1 74 4) + x1) ≤ 999 → Q (some (.int (-1))) (mk g s)))))))) : AMet E m_Rs_cat [.ref 16, .int x1] (mk g s) Q := by
  refine AMet.of (by decide) k_Rs_cat [(0, .ref 16), (1, .int x1)] (Nat.le_of_ble_eq_true rfl) rfl ?_
  refine aw_iload_n (q := 1) (j := 1) rfl rfl rfl (List.mem_of_getElem? (i := 1) rfl) ?_
  refine aw_iconst (q := 2) (v := 1) rfl rfl (by decide) ?_
  refine aw_icmp_lt (q := 5) (tgt := 26) rfl rfl (by decide) ⟨fun cd_1 => ?_, fun cd_1 => ?_⟩
  · replace h := h.1 cd_1
    refine aw_iconst (q := 27) (v := (-1)) rfl rfl (by decide) ?_
    exact aw_ireturn (ty := .int) rfl rfl rfl (by decide) (by decide) h
  · replace h := h.2 cd_1
    refine aw_iload_n (q := 6) (j := 1) rfl rfl rfl (List.mem_of_getElem? (i := 1) rfl) ?_
    refine aw_bipush (q := 8) (v := 99) rfl rfl (by decide) ?_
    refine aw_icmp_gt (q := 11) (tgt := 26) rfl rfl (by decide) ⟨fun cd_2 => ?_, fun cd_2 => ?_⟩
    · replace h := h.1 cd_2
      refine aw_iconst (q := 27) (v := (-1)) rfl rfl (by decide) ?_
      exact aw_ireturn (ty := .int) rfl rfl rfl (by decide) (by decide) h
    · replace h := h.2 cd_2
      refine aw_aload_n (q := 12) (j := 0) rfl rfl rfl (List.mem_of_getElem? (i := 0) rfl) ?_
      refine ag_getR (q := 15) rfl rfl fl_Rs_46 rfl (SX.o hS rfl) (SX.r hS rfl) ?_
      refine ag_getI (q := 18) rfl rfl fl_Rs_216 rfl (HS.o (HS.of hS (b := 74) rfl)) ?_
      refine aw_iload_n (q := 19) (j := 1) rfl rfl rfl (List.mem_of_getElem? (i := 1) rfl) ?_
      refine aw_iadd (q := 20) rfl rfl ?_
      refine aw_sipush (q := 23) (v := 999) rfl rfl (by decide) ?_
      refine aw_icmp_le (q := 26) (tgt := 28) rfl rfl (by decide) ⟨fun cd_3 => ?_, fun cd_3 => ?_⟩
      · replace h := h.1 cd_3
        refine aw_aload_n (q := 29) (j := 0) rfl rfl rfl (List.mem_of_getElem? (i := 0) rfl) ?_
        refine ax_cvV (z := m_Rs_remember) (ci := 10) (av := []) (st := []) (q := 32) (k' := 12) (n' := 131) rfl rfl cv_Rs_190 ⟨by decide, by decide⟩ rfl rfl (by decide) (by decide) (SX.o hS rfl) rfl rfl rfl (Nat.le_of_ble_eq_true rfl) ?_
        refine XV.mono h (fun g1_ t1_ h => ?_)
        obtain ⟨hS1_, h⟩ := h
        refine aw_aload_n (q := 33) (j := 0) rfl rfl rfl (List.mem_of_getElem? (i := 0) rfl) ?_
        refine ag_getR (q := 36) rfl rfl fl_Rs_46 rfl (SX.o hS1_ rfl) (SX.r hS1_ rfl) ?_
        refine aw_dup (q := 37) rfl rfl rfl ?_
        refine ag_getI (q := 40) rfl rfl fl_Rs_216 rfl (HS.o (HS.of hS1_ (b := 74) rfl)) ?_
        refine aw_iload_n (q := 41) (j := 1) rfl rfl rfl (List.mem_of_getElem? (i := 1) rfl) ?_
        refine aw_iadd (q := 42) rfl rfl ?_
        refine ag_putI (q := 45) rfl rfl fl_Rs_216 rfl rfl (HS.o (HS.of hS1_ (b := 74) rfl)) ?_
        replace h := h _ rfl
        refine aw_aload_n (q := 46) (j := 0) rfl rfl rfl (List.mem_of_getElem? (i := 0) rfl) ?_
        refine ag_getR (q := 49) rfl rfl fl_Rs_46 rfl (SX.o hS1_ rfl) (SX.r hS1_ rfl) ?_
        refine ag_getI (q := 52) rfl rfl fl_Rs_216 rfl (HS.o (HS.of hS1_ (b := 74) rfl)) ?_
        exact aw_ireturn (ty := .int) rfl rfl rfl (by decide) (by decide) h
      · replace h := h.2 cd_3
        refine aw_iconst (q := 27) (v := (-1)) rfl rfl (by decide) ?_
        exact aw_ireturn (ty := .int) rfl rfl rfl (by decide) (by decide) h
set_option maxRecDepth 20000 in
theorem v_Rs_sell {E : EN} {g : GS} {s : MS} {Q : Option Value → SG → Prop} (x1 : Int32) (t : Nat) (hS : SX g) (et : t = 88 ∨ t = 104) (ht : g.2.2 16 10 = some t) (h : GI E m_Rs_isOf [.int x1, .int (s.1 t 14)] g s (fun y1_ t1_ => ((y1_ = 0 → Q (some (.int 0)) (mk g t1_)) ∧ (¬ y1_ = 0 → ((((t1_.1 74 7) &&& (1 <<< (x1 &&& 31))) = 0 → GI E m_House_hasFor [.ref 74, .ref t, .int (1 <<< (x1 &&& 31))] g t1_ (fun y2_ t2_ => ((y2_ = 0 → Q (some (.int 0)) (mk g t2_)) ∧ (¬ y2_ = 0 → XV E m_Rs_remember [.ref 16] g t2_ (fun g3_ t3_ => SX g3_ ∧ g3_.2.2 16 10 = some t ∧ GV E m_House_handOver [.ref 74, .ref t, .int x1] g3_ t3_ (fun t4_ => Q (some (.int 1)) (mk g3_ t4_))))))) ∧ (¬ ((t1_.1 74 7) &&& (1 <<< (x1 &&& 31))) = 0 → Q (some (.int 0)) (mk g t1_))))))) : AMet E m_Rs_sell [.ref 16, .int x1] (mk g s) Q := by
  refine AMet.of (by decide) k_Rs_sell [(0, .ref 16), (1, .int x1)] (Nat.le_of_ble_eq_true rfl) rfl ?_
  refine aw_iload_n (q := 1) (j := 1) rfl rfl rfl (List.mem_of_getElem? (i := 1) rfl) ?_
  refine aw_aload_n (q := 2) (j := 0) rfl rfl rfl (List.mem_of_getElem? (i := 0) rfl) ?_
  refine ag_getR (q := 5) rfl rfl fl_Rs_60 rfl (SX.o hS rfl) ht ?_
  refine ag_getI (q := 8) rfl rfl fl_Rs_219 rfl (TS.o (TS.of hS et)) ?_
  refine ag_csI (z := m_Rs_isOf) (av := [.int _, .int _]) (st := []) (q := 11) (k' := 0) (n' := 0) rfl rfl cs_Rs_122 ⟨by decide, by decide⟩ rfl rfl (by decide) (by decide) rfl rfl (Nat.le_of_ble_eq_true rfl) ?_
  refine GI.mono h (fun y1_ t1_ h => ?_)
  refine aw_if_eq (q := 14) (tgt := 45) rfl rfl (by decide) ⟨fun cd_1 => ?_, fun cd_1 => ?_⟩
  · replace h := h.1 cd_1
    refine aw_iconst (q := 46) (v := 0) rfl rfl (by decide) ?_
    exact aw_ireturn (ty := .boolean) rfl rfl rfl (by decide) (by decide) h
  · replace h := h.2 cd_1
    refine aw_aload_n (q := 15) (j := 0) rfl rfl rfl (List.mem_of_getElem? (i := 0) rfl) ?_
    refine ag_getR (q := 18) rfl rfl fl_Rs_46 rfl (SX.o hS rfl) (SX.r hS rfl) ?_
    refine ag_getI (q := 21) rfl rfl fl_Rs_222 rfl (HS.o (HS.of hS (b := 74) rfl)) ?_
    refine aw_iconst (q := 22) (v := 1) rfl rfl (by decide) ?_
    refine aw_iload_n (q := 23) (j := 1) rfl rfl rfl (List.mem_of_getElem? (i := 1) rfl) ?_
    refine aw_ishl (q := 24) rfl rfl ?_
    refine aw_iand (q := 25) rfl rfl ?_
    refine aw_if_ne (q := 28) (tgt := 45) rfl rfl (by decide) ⟨fun cd_2 => ?_, fun cd_2 => ?_⟩
    · replace h := h.1 cd_2
      refine aw_aload_n (q := 29) (j := 0) rfl rfl rfl (List.mem_of_getElem? (i := 0) rfl) ?_
      refine ag_getR (q := 32) rfl rfl fl_Rs_46 rfl (SX.o hS rfl) (SX.r hS rfl) ?_
      refine aw_aload_n (q := 33) (j := 0) rfl rfl rfl (List.mem_of_getElem? (i := 0) rfl) ?_
      refine ag_getR (q := 36) rfl rfl fl_Rs_60 rfl (SX.o hS rfl) ht ?_
      refine aw_iconst (q := 37) (v := 1) rfl rfl (by decide) ?_
      refine aw_iload_n (q := 38) (j := 1) rfl rfl rfl (List.mem_of_getElem? (i := 1) rfl) ?_
      refine aw_ishl (q := 39) rfl rfl ?_
      refine ag_cvI (z := m_House_hasFor) (ci := 2) (av := [.ref _, .int _]) (st := []) (q := 42) (k' := 0) (n' := 0) rfl rfl cv_Rs_225 ⟨by decide, by decide⟩ rfl rfl (by decide) (by decide) (HS.o (HS.of hS (b := 74) rfl)) rfl rfl rfl (Nat.le_of_ble_eq_true rfl) ?_
      refine GI.mono h (fun y2_ t2_ h => ?_)
      refine aw_if_ne (q := 45) (tgt := 47) rfl rfl (by decide) ⟨fun cd_3 => ?_, fun cd_3 => ?_⟩
      · replace h := h.1 cd_3
        refine aw_iconst (q := 46) (v := 0) rfl rfl (by decide) ?_
        exact aw_ireturn (ty := .boolean) rfl rfl rfl (by decide) (by decide) h
      · replace h := h.2 cd_3
        refine aw_aload_n (q := 48) (j := 0) rfl rfl rfl (List.mem_of_getElem? (i := 0) rfl) ?_
        refine ax_cvV (z := m_Rs_remember) (ci := 10) (av := []) (st := []) (q := 51) (k' := 12) (n' := 131) rfl rfl cv_Rs_190 ⟨by decide, by decide⟩ rfl rfl (by decide) (by decide) (SX.o hS rfl) rfl rfl rfl (Nat.le_of_ble_eq_true rfl) ?_
        refine XV.mono h (fun g3_ t3_ h => ?_)
        obtain ⟨hS3_, h⟩ := h
        obtain ⟨ht3_, h⟩ := h
        refine aw_aload_n (q := 52) (j := 0) rfl rfl rfl (List.mem_of_getElem? (i := 0) rfl) ?_
        refine ag_getR (q := 55) rfl rfl fl_Rs_46 rfl (SX.o hS3_ rfl) (SX.r hS3_ rfl) ?_
        refine aw_aload_n (q := 56) (j := 0) rfl rfl rfl (List.mem_of_getElem? (i := 0) rfl) ?_
        refine ag_getR (q := 59) rfl rfl fl_Rs_60 rfl (SX.o hS3_ rfl) ht3_ ?_
        refine aw_iload_n (q := 60) (j := 1) rfl rfl rfl (List.mem_of_getElem? (i := 1) rfl) ?_
        refine ag_cvV (z := m_House_handOver) (ci := 2) (av := [.ref _, .int _]) (st := []) (q := 63) (k' := 12) (n' := 131) rfl rfl cv_Rs_229 ⟨by decide, by decide⟩ rfl rfl (by decide) (by decide) (HS.o (HS.of hS3_ (b := 74) rfl)) rfl rfl rfl (Nat.le_of_ble_eq_true rfl) ?_
        refine GV.mono h (fun t4_ h => ?_)
        refine aw_iconst (q := 64) (v := 1) rfl rfl (by decide) ?_
        exact aw_ireturn (ty := .boolean) rfl rfl rfl (by decide) (by decide) h
    · replace h := h.2 cd_2
      refine aw_iconst (q := 46) (v := 0) rfl rfl (by decide) ?_
      exact aw_ireturn (ty := .boolean) rfl rfl rfl (by decide) (by decide) h
set_option maxRecDepth 20000 in
theorem v_Rs_isClean {E : EN} {g : GS} {s : MS} {Q : Option Value → SG → Prop} (t : Nat) (hS : SX g) (ht : g.2.2 16 10 = some t) (h : GI E m_House_isSorted [.ref 74, .ref t] g s (fun y1_ t1_ => (y1_ = 0 ∨ y1_ = 1) ∧ Q (some (.int y1_)) (mk g t1_))) : AMet E m_Rs_isClean [.ref 16] (mk g s) Q := by
  refine AMet.of (by decide) k_Rs_isClean [(0, .ref 16)] (Nat.le_of_ble_eq_true rfl) rfl ?_
  refine aw_aload_n (q := 1) (j := 0) rfl rfl rfl (List.mem_of_getElem? (i := 0) rfl) ?_
  refine ag_getR (q := 4) rfl rfl fl_Rs_46 rfl (SX.o hS rfl) (SX.r hS rfl) ?_
  refine aw_aload_n (q := 5) (j := 0) rfl rfl rfl (List.mem_of_getElem? (i := 0) rfl) ?_
  refine ag_getR (q := 8) rfl rfl fl_Rs_60 rfl (SX.o hS rfl) ht ?_
  refine ag_cvI (z := m_House_isSorted) (ci := 2) (av := [.ref _]) (st := []) (q := 11) (k' := 0) (n' := 0) rfl rfl cv_Rs_246 ⟨by decide, by decide⟩ rfl rfl (by decide) (by decide) (HS.o (HS.of hS (b := 74) rfl)) rfl rfl rfl (Nat.le_of_ble_eq_true rfl) ?_
  refine GI.mono h (fun y1_ t1_ h => ?_)
  obtain ⟨bd_1, h⟩ := h
  exact aw_ireturn (ty := .boolean) rfl rfl (nar_z bd_1) (by decide) (by decide) h
set_option maxRecDepth 20000 in
theorem v_Rs_clean {E : EN} {g : GS} {s : MS} {Q : Option Value → SG → Prop}  (hS : SX g) (h : GI E m_Planner_cleanBy [.ref 31, .ref 28, .ref 74, .int 600] g s (fun y1_ t1_ => Q (some (.int y1_)) (mk g t1_))) : AMet E m_Rs_clean [.ref 16] (mk g s) Q := by
  refine AMet.of (by decide) k_Rs_clean [(0, .ref 16)] (Nat.le_of_ble_eq_true rfl) rfl ?_
  refine aw_aload_n (q := 1) (j := 0) rfl rfl rfl (List.mem_of_getElem? (i := 0) rfl) ?_
  refine ag_getR (q := 4) rfl rfl fl_Rs_32 rfl (SX.o hS rfl) (SX.r hS rfl) ?_
  refine aw_aload_n (q := 5) (j := 0) rfl rfl rfl (List.mem_of_getElem? (i := 0) rfl) ?_
  refine ag_getR (q := 8) rfl rfl fl_Rs_81 rfl (SX.o hS rfl) (SX.r hS rfl) ?_
  refine aw_aload_n (q := 9) (j := 0) rfl rfl rfl (List.mem_of_getElem? (i := 0) rfl) ?_
  refine ag_getR (q := 12) rfl rfl fl_Rs_46 rfl (SX.o hS rfl) (SX.r hS rfl) ?_
  refine aw_sipush (q := 15) (v := 600) rfl rfl (by decide) ?_
  refine ag_cvI (z := m_Planner_cleanBy) (ci := 5) (av := [.ref _, .ref _, .int _]) (st := []) (q := 18) (k' := 0) (n' := 0) rfl rfl cv_Rs_250 ⟨by decide, by decide⟩ rfl rfl (by decide) (by decide) (SX.o hS rfl) rfl rfl rfl (Nat.le_of_ble_eq_true rfl) ?_
  refine GI.mono h (fun y1_ t1_ h => ?_)
  exact aw_ireturn (ty := .int) rfl rfl rfl (by decide) (by decide) h
set_option maxRecDepth 20000 in
theorem v_Rs_then {E : EN} {g : GS} {s : MS} {Q : Option Value → SG → Prop} (x1 : Int32) (x2 : Int32) (t : Nat) (hS : SX g) (ht : g.2.2 16 10 = some t) (h : GI E m_Rs_isMinutes [.int x1] g s (fun y1_ t1_ => ((y1_ = 0 → Q (some (.int (-1))) (mk g t1_)) ∧ (¬ y1_ = 0 → GI E m_Rs_isOf [.int x2, .int 6] g t1_ (fun y2_ t2_ => ((y2_ = 0 → Q (some (.int (-1))) (mk g t2_)) ∧ (¬ y2_ = 0 → GA E m_Planner_ahead [.ref 31, .ref 28, .ref 74, .int x1] g t2_ (fun y3_ t3_ => y3_ = 32 ∧ ((x2 < 0 ∨ 4 < x2 → Q (some (.int (t3_.1 32 8))) (mk g t3_)) ∧ (x2 = 0 → GI E m_House_allWorth [.ref 32, .ref t] g t3_ (fun y4_ t4_ => Q (some (.int y4_)) (mk g t4_))) ∧ (x2 = 1 → Q (some (.int (t3_.1 32 5))) (mk g t3_)) ∧ (x2 = 2 → GI E m_House_allInHeap [.ref 32] g t3_ (fun y5_ t5_ => Q (some (.int y5_)) (mk g t5_))) ∧ (x2 = 3 → GI E m_House_allInHoles [.ref 32] g t3_ (fun y6_ t6_ => GI E m_House_misplaced [.ref 32, .ref t] g t6_ (fun y7_ t7_ => Q (some (.int (y6_ - y7_))) (mk g t7_)))) ∧ (x2 = 4 → GI E m_House_misplaced [.ref 32, .ref t] g t3_ (fun y8_ t8_ => Q (some (.int y8_)) (mk g t8_)))))))))))) : AMet E m_Rs_then [.ref 16, .int x1, .int x2] (mk g s) Q := by
  refine AMet.of (by decide) k_Rs_then [(0, .ref 16), (1, .int x1), (2, .int x2)] (Nat.le_of_ble_eq_true rfl) rfl ?_
  refine aw_iload_n (q := 1) (j := 1) rfl rfl rfl (List.mem_of_getElem? (i := 1) rfl) ?_
  refine ag_csI (z := m_Rs_isMinutes) (av := [.int _]) (st := []) (q := 4) (k' := 0) (n' := 0) rfl rfl cs_Rs_254 ⟨by decide, by decide⟩ rfl rfl (by decide) (by decide) rfl rfl (Nat.le_of_ble_eq_true rfl) ?_
  refine GI.mono h (fun y1_ t1_ h => ?_)
  refine aw_if_eq (q := 7) (tgt := 16) rfl rfl (by decide) ⟨fun cd_1 => ?_, fun cd_1 => ?_⟩
  · replace h := h.1 cd_1
    refine aw_iconst (q := 17) (v := (-1)) rfl rfl (by decide) ?_
    exact aw_ireturn (ty := .int) rfl rfl rfl (by decide) (by decide) h
  · replace h := h.2 cd_1
    refine aw_iload_n (q := 8) (j := 2) rfl rfl rfl (List.mem_of_getElem? (i := 2) rfl) ?_
    refine aw_bipush (q := 10) (v := 6) rfl rfl (by decide) ?_
    refine ag_csI (z := m_Rs_isOf) (av := [.int _, .int _]) (st := []) (q := 13) (k' := 0) (n' := 0) rfl rfl cs_Rs_122 ⟨by decide, by decide⟩ rfl rfl (by decide) (by decide) rfl rfl (Nat.le_of_ble_eq_true rfl) ?_
    refine GI.mono h (fun y2_ t2_ h => ?_)
    refine aw_if_ne (q := 16) (tgt := 18) rfl rfl (by decide) ⟨fun cd_2 => ?_, fun cd_2 => ?_⟩
    · replace h := h.1 cd_2
      refine aw_iconst (q := 17) (v := (-1)) rfl rfl (by decide) ?_
      exact aw_ireturn (ty := .int) rfl rfl rfl (by decide) (by decide) h
    · replace h := h.2 cd_2
      refine aw_aload_n (q := 19) (j := 0) rfl rfl rfl (List.mem_of_getElem? (i := 0) rfl) ?_
      refine ag_getR (q := 22) rfl rfl fl_Rs_32 rfl (SX.o hS rfl) (SX.r hS rfl) ?_
      refine aw_aload_n (q := 23) (j := 0) rfl rfl rfl (List.mem_of_getElem? (i := 0) rfl) ?_
      refine ag_getR (q := 26) rfl rfl fl_Rs_81 rfl (SX.o hS rfl) (SX.r hS rfl) ?_
      refine aw_aload_n (q := 27) (j := 0) rfl rfl rfl (List.mem_of_getElem? (i := 0) rfl) ?_
      refine ag_getR (q := 30) rfl rfl fl_Rs_46 rfl (SX.o hS rfl) (SX.r hS rfl) ?_
      refine aw_iload_n (q := 31) (j := 1) rfl rfl rfl (List.mem_of_getElem? (i := 1) rfl) ?_
      refine ag_cvA (z := m_Planner_ahead) (ci := 5) (av := [.ref _, .ref _, .int _]) (st := []) (q := 34) (k' := 0) (n' := 0) rfl rfl cv_Rs_258 ⟨by decide, by decide⟩ rfl rfl (by decide) (by decide) (SX.o hS rfl) rfl rfl rfl (Nat.le_of_ble_eq_true rfl) ?_
      refine GA.mono h (fun y3_ t3_ h => ?_)
      obtain ⟨rr, h⟩ := h
      subst rr
      refine aw_astore_n (q := 35) (j := 3) (ls' := [(3, .ref _), (0, .ref _), (1, .int _), (2, .int _)]) rfl rfl rfl (by decide) rfl ?_
      refine aw_iload_n (q := 36) (j := 2) rfl rfl rfl (List.mem_of_getElem? (i := 3) rfl) ?_
      by_cases cd_3 : x2 < 0 ∨ 4 < x2
      · replace h := h.1 cd_3
        refine aw_tableLt (tgt := 114) rfl (a := 0) (b := 4) (by decide) (by decide) cd_3 (by decide) ?_
        refine aw_aload_n (q := 115) (j := 3) rfl rfl rfl (List.mem_of_getElem? (i := 0) rfl) ?_
        refine ag_getI (q := 118) rfl rfl fl_Rs_274 rfl (HS.o (HS.of hS (b := 32) rfl)) ?_
        exact aw_ireturn (ty := .int) rfl rfl rfl (by decide) (by decide) h
      · obtain ⟨jd_4, hjd_4, ejd_4⟩ := sw_cases 4 4 (fun q => cd_3 (Or.inl q)) (fun q => cd_3 (Or.inr q)) (by decide)
        replace h := h.2
        match jd_4, hjd_4, ejd_4 with
        | 0, _, e => 
          have e : x2 = 0 := Int32.toInt_inj.mp (e.trans (by decide))
          replace h := h.1 e
          refine aw_tableEq (tgt := 72) rfl e (by decide) (by decide) rfl (by decide) ?_
          refine aw_aload_n (q := 73) (j := 3) rfl rfl rfl (List.mem_of_getElem? (i := 0) rfl) ?_
          refine aw_aload_n (q := 74) (j := 0) rfl rfl rfl (List.mem_of_getElem? (i := 1) rfl) ?_
          refine ag_getR (q := 77) rfl rfl fl_Rs_60 rfl (SX.o hS rfl) ht ?_
          refine ag_cvI (z := m_House_allWorth) (ci := 2) (av := [.ref _]) (st := []) (q := 80) (k' := 0) (n' := 0) rfl rfl cv_Rs_262 ⟨by decide, by decide⟩ rfl rfl (by decide) (by decide) (HS.o (HS.of hS (b := 32) rfl)) rfl rfl rfl (Nat.le_of_ble_eq_true rfl) ?_
          refine GI.mono h (fun y4_ t4_ h => ?_)
          exact aw_ireturn (ty := .int) rfl rfl rfl (by decide) (by decide) h
        | 1, _, e => 
          have e : x2 = 1 := Int32.toInt_inj.mp (e.trans (by decide))
          replace h := h.2.1 e
          refine aw_tableEq (tgt := 81) rfl e (by decide) (by decide) rfl (by decide) ?_
          refine aw_aload_n (q := 82) (j := 3) rfl rfl rfl (List.mem_of_getElem? (i := 0) rfl) ?_
          refine ag_getI (q := 85) rfl rfl fl_Rs_204 rfl (HS.o (HS.of hS (b := 32) rfl)) ?_
          exact aw_ireturn (ty := .int) rfl rfl rfl (by decide) (by decide) h
        | 2, _, e => 
          have e : x2 = 2 := Int32.toInt_inj.mp (e.trans (by decide))
          replace h := h.2.2.1 e
          refine aw_tableEq (tgt := 86) rfl e (by decide) (by decide) rfl (by decide) ?_
          refine aw_aload_n (q := 87) (j := 3) rfl rfl rfl (List.mem_of_getElem? (i := 0) rfl) ?_
          refine ag_cvI (z := m_House_allInHeap) (ci := 2) (av := []) (st := []) (q := 90) (k' := 0) (n' := 0) rfl rfl cv_Rs_265 ⟨by decide, by decide⟩ rfl rfl (by decide) (by decide) (HS.o (HS.of hS (b := 32) rfl)) rfl rfl rfl (Nat.le_of_ble_eq_true rfl) ?_
          refine GI.mono h (fun y5_ t5_ h => ?_)
          exact aw_ireturn (ty := .int) rfl rfl rfl (by decide) (by decide) h
        | 3, _, e => 
          have e : x2 = 3 := Int32.toInt_inj.mp (e.trans (by decide))
          replace h := h.2.2.2.1 e
          refine aw_tableEq (tgt := 91) rfl e (by decide) (by decide) rfl (by decide) ?_
          refine aw_aload_n (q := 92) (j := 3) rfl rfl rfl (List.mem_of_getElem? (i := 0) rfl) ?_
          refine ag_cvI (z := m_House_allInHoles) (ci := 2) (av := []) (st := []) (q := 95) (k' := 0) (n' := 0) rfl rfl cv_Rs_268 ⟨by decide, by decide⟩ rfl rfl (by decide) (by decide) (HS.o (HS.of hS (b := 32) rfl)) rfl rfl rfl (Nat.le_of_ble_eq_true rfl) ?_
          refine GI.mono h (fun y6_ t6_ h => ?_)
          refine aw_aload_n (q := 96) (j := 3) rfl rfl rfl (List.mem_of_getElem? (i := 0) rfl) ?_
          refine aw_aload_n (q := 97) (j := 0) rfl rfl rfl (List.mem_of_getElem? (i := 1) rfl) ?_
          refine ag_getR (q := 100) rfl rfl fl_Rs_60 rfl (SX.o hS rfl) ht ?_
          refine ag_cvI (z := m_House_misplaced) (ci := 2) (av := [.ref _]) (st := [.int _]) (q := 103) (k' := 0) (n' := 0) rfl rfl cv_Rs_271 ⟨by decide, by decide⟩ rfl rfl (by decide) (by decide) (HS.o (HS.of hS (b := 32) rfl)) rfl rfl rfl (Nat.le_of_ble_eq_true rfl) ?_
          refine GI.mono h (fun y7_ t7_ h => ?_)
          refine aw_isub (q := 104) rfl rfl ?_
          exact aw_ireturn (ty := .int) rfl rfl rfl (by decide) (by decide) h
        | 4, _, e => 
          have e : x2 = 4 := Int32.toInt_inj.mp (e.trans (by decide))
          replace h := h.2.2.2.2 e
          refine aw_tableEq (tgt := 105) rfl e (by decide) (by decide) rfl (by decide) ?_
          refine aw_aload_n (q := 106) (j := 3) rfl rfl rfl (List.mem_of_getElem? (i := 0) rfl) ?_
          refine aw_aload_n (q := 107) (j := 0) rfl rfl rfl (List.mem_of_getElem? (i := 1) rfl) ?_
          refine ag_getR (q := 110) rfl rfl fl_Rs_60 rfl (SX.o hS rfl) ht ?_
          refine ag_cvI (z := m_House_misplaced) (ci := 2) (av := [.ref _]) (st := []) (q := 113) (k' := 0) (n' := 0) rfl rfl cv_Rs_271 ⟨by decide, by decide⟩ rfl rfl (by decide) (by decide) (HS.o (HS.of hS (b := 32) rfl)) rfl rfl rfl (Nat.le_of_ble_eq_true rfl) ?_
          refine GI.mono h (fun y8_ t8_ h => ?_)
          exact aw_ireturn (ty := .int) rfl rfl rfl (by decide) (by decide) h
        | j + 5, hj, _ => exact absurd hj (by omega)
set_option maxRecDepth 20000 in
theorem v_Rs_isMinutes {E : EN} {g : GS} {s : MS} {Q : Option Value → SG → Prop} (x0 : Int32) (h : ((x0 < 0 → Q (some (.int 0)) (mk g s)) ∧ (¬ x0 < 0 → ((600 < x0 → Q (some (.int 0)) (mk g s)) ∧ (¬ 600 < x0 → Q (some (.int 1)) (mk g s)))))) : AMet E m_Rs_isMinutes [.int x0] (mk g s) Q := by
  refine AMet.of (by decide) k_Rs_isMinutes [(0, .int x0)] (Nat.le_of_ble_eq_true rfl) rfl ?_
  refine aw_iload_n (q := 1) (j := 0) rfl rfl rfl (List.mem_of_getElem? (i := 0) rfl) ?_
  refine aw_if_lt (q := 4) (tgt := 15) rfl rfl (by decide) ⟨fun cd_1 => ?_, fun cd_1 => ?_⟩
  · replace h := h.1 cd_1
    refine aw_iconst (q := 16) (v := 0) rfl rfl (by decide) ?_
    exact aw_ireturn (ty := .boolean) rfl rfl rfl (by decide) (by decide) h
  · replace h := h.2 cd_1
    refine aw_iload_n (q := 5) (j := 0) rfl rfl rfl (List.mem_of_getElem? (i := 0) rfl) ?_
    refine aw_sipush (q := 8) (v := 600) rfl rfl (by decide) ?_
    refine aw_icmp_gt (q := 11) (tgt := 15) rfl rfl (by decide) ⟨fun cd_2 => ?_, fun cd_2 => ?_⟩
    · replace h := h.1 cd_2
      refine aw_iconst (q := 16) (v := 0) rfl rfl (by decide) ?_
      exact aw_ireturn (ty := .boolean) rfl rfl rfl (by decide) (by decide) h
    · replace h := h.2 cd_2
      refine aw_iconst (q := 12) (v := 1) rfl rfl (by decide) ?_
      refine aw_goto (tgt := 16) rfl (by decide) ?_
      exact aw_ireturn (ty := .boolean) rfl rfl rfl (by decide) (by decide) h
set_option maxRecDepth 20000 in
theorem v_Rs_lies {E : EN} {g : GS} {s : MS} {Q : Option Value → SG → Prop} (x1 : Int32) (x2 : Int32) (x3 : Int32) (t : Nat) (hS : SX g) (et : t = 88 ∨ t = 104) (ht : g.2.2 16 10 = some t) (h : GI E m_Rs_isMinutes [.int x1] g s (fun y1_ t1_ => ((y1_ = 0 → Q (some (.int (-1))) (mk g t1_)) ∧ (¬ y1_ = 0 → GI E m_Rs_isOf [.int x3, .int (t1_.1 t 11)] g t1_ (fun y2_ t2_ => ((y2_ = 0 → Q (some (.int (-1))) (mk g t2_)) ∧ (¬ y2_ = 0 → ((x2 = (-1) → GA E m_Planner_ahead [.ref 31, .ref 28, .ref 74, .int x1] g t2_ (fun y3_ t3_ => y3_ = 32 ∧ ((x2 = (-1) → vp_in x3 6 ∧ Q (some (.int (t3_.1 33 ((x3).toNatClampNeg)))) (mk g t3_)) ∧ (¬ x2 = (-1) → GI E m_House_inHole [.ref 32, .int x2, .int x3] g t3_ (fun y4_ t4_ => Q (some (.int y4_)) (mk g t4_)))))) ∧ (¬ x2 = (-1) → GI E m_Rs_isOf [.int x2, .int (t2_.1 t 12)] g t2_ (fun y5_ t5_ => ((y5_ = 0 → Q (some (.int (-1))) (mk g t5_)) ∧ (¬ y5_ = 0 → GA E m_Planner_ahead [.ref 31, .ref 28, .ref 74, .int x1] g t5_ (fun y6_ t6_ => y6_ = 32 ∧ ((x2 = (-1) → vp_in x3 6 ∧ Q (some (.int (t6_.1 33 ((x3).toNatClampNeg)))) (mk g t6_)) ∧ (¬ x2 = (-1) → GI E m_House_inHole [.ref 32, .int x2, .int x3] g t6_ (fun y7_ t7_ => Q (some (.int y7_)) (mk g t7_))))))))))))))))) : AMet E m_Rs_lies [.ref 16, .int x1, .int x2, .int x3] (mk g s) Q := by
  refine AMet.of (by decide) k_Rs_lies [(0, .ref 16), (1, .int x1), (2, .int x2), (3, .int x3)] (Nat.le_of_ble_eq_true rfl) rfl ?_
  refine aw_iload_n (q := 1) (j := 1) rfl rfl rfl (List.mem_of_getElem? (i := 1) rfl) ?_
  refine ag_csI (z := m_Rs_isMinutes) (av := [.int _]) (st := []) (q := 4) (k' := 0) (n' := 0) rfl rfl cs_Rs_254 ⟨by decide, by decide⟩ rfl rfl (by decide) (by decide) rfl rfl (Nat.le_of_ble_eq_true rfl) ?_
  refine GI.mono h (fun y1_ t1_ h => ?_)
  refine aw_if_eq (q := 7) (tgt := 40) rfl rfl (by decide) ⟨fun cd_1 => ?_, fun cd_1 => ?_⟩
  · replace h := h.1 cd_1
    refine aw_iconst (q := 41) (v := (-1)) rfl rfl (by decide) ?_
    exact aw_ireturn (ty := .int) rfl rfl rfl (by decide) (by decide) h
  · replace h := h.2 cd_1
    refine aw_iload_n (q := 8) (j := 3) rfl rfl rfl (List.mem_of_getElem? (i := 3) rfl) ?_
    refine aw_aload_n (q := 9) (j := 0) rfl rfl rfl (List.mem_of_getElem? (i := 0) rfl) ?_
    refine ag_getR (q := 12) rfl rfl fl_Rs_60 rfl (SX.o hS rfl) ht ?_
    refine ag_getI (q := 15) rfl rfl fl_Rs_119 rfl (TS.o (TS.of hS et)) ?_
    refine ag_csI (z := m_Rs_isOf) (av := [.int _, .int _]) (st := []) (q := 18) (k' := 0) (n' := 0) rfl rfl cs_Rs_122 ⟨by decide, by decide⟩ rfl rfl (by decide) (by decide) rfl rfl (Nat.le_of_ble_eq_true rfl) ?_
    refine GI.mono h (fun y2_ t2_ h => ?_)
    refine aw_if_eq (q := 21) (tgt := 40) rfl rfl (by decide) ⟨fun cd_2 => ?_, fun cd_2 => ?_⟩
    · replace h := h.1 cd_2
      refine aw_iconst (q := 41) (v := (-1)) rfl rfl (by decide) ?_
      exact aw_ireturn (ty := .int) rfl rfl rfl (by decide) (by decide) h
    · replace h := h.2 cd_2
      refine aw_iload_n (q := 22) (j := 2) rfl rfl rfl (List.mem_of_getElem? (i := 2) rfl) ?_
      refine aw_iconst (q := 23) (v := (-1)) rfl rfl (by decide) ?_
      refine aw_icmp_eq (q := 26) (tgt := 42) rfl rfl (by decide) ⟨fun cd_3 => ?_, fun cd_3 => ?_⟩
      · replace h := h.1 cd_3
        refine aw_aload_n (q := 43) (j := 0) rfl rfl rfl (List.mem_of_getElem? (i := 0) rfl) ?_
        refine ag_getR (q := 46) rfl rfl fl_Rs_32 rfl (SX.o hS rfl) (SX.r hS rfl) ?_
        refine aw_aload_n (q := 47) (j := 0) rfl rfl rfl (List.mem_of_getElem? (i := 0) rfl) ?_
        refine ag_getR (q := 50) rfl rfl fl_Rs_81 rfl (SX.o hS rfl) (SX.r hS rfl) ?_
        refine aw_aload_n (q := 51) (j := 0) rfl rfl rfl (List.mem_of_getElem? (i := 0) rfl) ?_
        refine ag_getR (q := 54) rfl rfl fl_Rs_46 rfl (SX.o hS rfl) (SX.r hS rfl) ?_
        refine aw_iload_n (q := 55) (j := 1) rfl rfl rfl (List.mem_of_getElem? (i := 1) rfl) ?_
        refine ag_cvA (z := m_Planner_ahead) (ci := 5) (av := [.ref _, .ref _, .int _]) (st := []) (q := 58) (k' := 0) (n' := 0) rfl rfl cv_Rs_258 ⟨by decide, by decide⟩ rfl rfl (by decide) (by decide) (SX.o hS rfl) rfl rfl rfl (Nat.le_of_ble_eq_true rfl) ?_
        refine GA.mono h (fun y3_ t3_ h => ?_)
        obtain ⟨rr, h⟩ := h
        subst rr
        refine aw_astore (q := 60) (j := 4) (ls' := [(4, .ref _), (0, .ref _), (1, .int _), (2, .int _), (3, .int _)]) rfl rfl (by decide) rfl ?_
        refine aw_iload_n (q := 61) (j := 2) rfl rfl rfl (List.mem_of_getElem? (i := 3) rfl) ?_
        refine aw_iconst (q := 62) (v := (-1)) rfl rfl (by decide) ?_
        refine aw_icmp_ne (q := 65) (tgt := 75) rfl rfl (by decide) ⟨fun cd_4 => ?_, fun cd_4 => ?_⟩
        · replace h := h.1 cd_4
          refine aw_aload (q := 67) (j := 4) rfl rfl (List.mem_of_getElem? (i := 0) rfl) ?_
          refine ag_getR (q := 70) rfl rfl fl_Rs_126 rfl (HS.o (HS.of hS (b := 32) rfl)) (HS.r0 (HS.of hS (b := 32) rfl)) ?_
          refine aw_iload_n (q := 71) (j := 3) rfl rfl rfl (List.mem_of_getElem? (i := 4) rfl) ?_
          obtain ⟨bd_5, h⟩ := h
          refine ag_iaload (q := 72) (N := 6) rfl rfl (HS.a0 (HS.of hS (b := 32) rfl)) bd_5 ?_
          refine aw_goto (tgt := 82) rfl (by decide) ?_
          exact aw_ireturn (ty := .int) rfl rfl rfl (by decide) (by decide) h
        · replace h := h.2 cd_4
          refine aw_aload (q := 77) (j := 4) rfl rfl (List.mem_of_getElem? (i := 0) rfl) ?_
          refine aw_iload_n (q := 78) (j := 2) rfl rfl rfl (List.mem_of_getElem? (i := 3) rfl) ?_
          refine aw_iload_n (q := 79) (j := 3) rfl rfl rfl (List.mem_of_getElem? (i := 4) rfl) ?_
          refine ag_cvI (z := m_House_inHole) (ci := 2) (av := [.int _, .int _]) (st := []) (q := 82) (k' := 0) (n' := 0) rfl rfl cv_Rs_133 ⟨by decide, by decide⟩ rfl rfl (by decide) (by decide) (HS.o (HS.of hS (b := 32) rfl)) rfl rfl rfl (Nat.le_of_ble_eq_true rfl) ?_
          refine GI.mono h (fun y4_ t4_ h => ?_)
          exact aw_ireturn (ty := .int) rfl rfl rfl (by decide) (by decide) h
      · replace h := h.2 cd_3
        refine aw_iload_n (q := 27) (j := 2) rfl rfl rfl (List.mem_of_getElem? (i := 2) rfl) ?_
        refine aw_aload_n (q := 28) (j := 0) rfl rfl rfl (List.mem_of_getElem? (i := 0) rfl) ?_
        refine ag_getR (q := 31) rfl rfl fl_Rs_60 rfl (SX.o hS rfl) ht ?_
        refine ag_getI (q := 34) rfl rfl fl_Rs_130 rfl (TS.o (TS.of hS et)) ?_
        refine ag_csI (z := m_Rs_isOf) (av := [.int _, .int _]) (st := []) (q := 37) (k' := 0) (n' := 0) rfl rfl cs_Rs_122 ⟨by decide, by decide⟩ rfl rfl (by decide) (by decide) rfl rfl (Nat.le_of_ble_eq_true rfl) ?_
        refine GI.mono h (fun y5_ t5_ h => ?_)
        refine aw_if_ne (q := 40) (tgt := 42) rfl rfl (by decide) ⟨fun cd_6 => ?_, fun cd_6 => ?_⟩
        · replace h := h.1 cd_6
          refine aw_iconst (q := 41) (v := (-1)) rfl rfl (by decide) ?_
          exact aw_ireturn (ty := .int) rfl rfl rfl (by decide) (by decide) h
        · replace h := h.2 cd_6
          refine aw_aload_n (q := 43) (j := 0) rfl rfl rfl (List.mem_of_getElem? (i := 0) rfl) ?_
          refine ag_getR (q := 46) rfl rfl fl_Rs_32 rfl (SX.o hS rfl) (SX.r hS rfl) ?_
          refine aw_aload_n (q := 47) (j := 0) rfl rfl rfl (List.mem_of_getElem? (i := 0) rfl) ?_
          refine ag_getR (q := 50) rfl rfl fl_Rs_81 rfl (SX.o hS rfl) (SX.r hS rfl) ?_
          refine aw_aload_n (q := 51) (j := 0) rfl rfl rfl (List.mem_of_getElem? (i := 0) rfl) ?_
          refine ag_getR (q := 54) rfl rfl fl_Rs_46 rfl (SX.o hS rfl) (SX.r hS rfl) ?_
          refine aw_iload_n (q := 55) (j := 1) rfl rfl rfl (List.mem_of_getElem? (i := 1) rfl) ?_
          refine ag_cvA (z := m_Planner_ahead) (ci := 5) (av := [.ref _, .ref _, .int _]) (st := []) (q := 58) (k' := 0) (n' := 0) rfl rfl cv_Rs_258 ⟨by decide, by decide⟩ rfl rfl (by decide) (by decide) (SX.o hS rfl) rfl rfl rfl (Nat.le_of_ble_eq_true rfl) ?_
          refine GA.mono h (fun y6_ t6_ h => ?_)
          obtain ⟨rr, h⟩ := h
          subst rr
          refine aw_astore (q := 60) (j := 4) (ls' := [(4, .ref _), (0, .ref _), (1, .int _), (2, .int _), (3, .int _)]) rfl rfl (by decide) rfl ?_
          refine aw_iload_n (q := 61) (j := 2) rfl rfl rfl (List.mem_of_getElem? (i := 3) rfl) ?_
          refine aw_iconst (q := 62) (v := (-1)) rfl rfl (by decide) ?_
          refine aw_icmp_ne (q := 65) (tgt := 75) rfl rfl (by decide) ⟨fun cd_7 => ?_, fun cd_7 => ?_⟩
          · replace h := h.1 cd_7
            refine aw_aload (q := 67) (j := 4) rfl rfl (List.mem_of_getElem? (i := 0) rfl) ?_
            refine ag_getR (q := 70) rfl rfl fl_Rs_126 rfl (HS.o (HS.of hS (b := 32) rfl)) (HS.r0 (HS.of hS (b := 32) rfl)) ?_
            refine aw_iload_n (q := 71) (j := 3) rfl rfl rfl (List.mem_of_getElem? (i := 4) rfl) ?_
            obtain ⟨bd_8, h⟩ := h
            refine ag_iaload (q := 72) (N := 6) rfl rfl (HS.a0 (HS.of hS (b := 32) rfl)) bd_8 ?_
            refine aw_goto (tgt := 82) rfl (by decide) ?_
            exact aw_ireturn (ty := .int) rfl rfl rfl (by decide) (by decide) h
          · replace h := h.2 cd_7
            refine aw_aload (q := 77) (j := 4) rfl rfl (List.mem_of_getElem? (i := 0) rfl) ?_
            refine aw_iload_n (q := 78) (j := 2) rfl rfl rfl (List.mem_of_getElem? (i := 3) rfl) ?_
            refine aw_iload_n (q := 79) (j := 3) rfl rfl rfl (List.mem_of_getElem? (i := 4) rfl) ?_
            refine ag_cvI (z := m_House_inHole) (ci := 2) (av := [.int _, .int _]) (st := []) (q := 82) (k' := 0) (n' := 0) rfl rfl cv_Rs_133 ⟨by decide, by decide⟩ rfl rfl (by decide) (by decide) (HS.o (HS.of hS (b := 32) rfl)) rfl rfl rfl (Nat.le_of_ble_eq_true rfl) ?_
            refine GI.mono h (fun y7_ t7_ h => ?_)
            exact aw_ireturn (ty := .int) rfl rfl rfl (by decide) (by decide) h
set_option maxRecDepth 20000 in
theorem v_Rs_hire {E : EN} {g : GS} {s : MS} {Q : Option Value → SG → Prop} (x1 : Int32) (x2 : Int32) (hS : SX g) (h : ((x1 < 1 → Q (some (.int (-1))) (mk g s)) ∧ (¬ x1 < 1 → ((300 < x1 → Q (some (.int (-1))) (mk g s)) ∧ (¬ 300 < x1 → GI E m_Rs_isOf [.int x2, .int 2] g s (fun y1_ t1_ => ((y1_ = 0 → Q (some (.int (-1))) (mk g t1_)) ∧ (¬ y1_ = 0 → GV E m_Planner_seekHired [.ref 31, .ref 28, .ref 74, .int x1] g t1_ (fun t2_ => ((x2 = 0 → Q (some (.int (t2_.1 31 3))) (mk g t2_)) ∧ (¬ x2 = 0 → Q (some (.int (t2_.1 31 2))) (mk g t2_)))))))))))) : AMet E m_Rs_hire [.ref 16, .int x1, .int x2] (mk g s) Q := by
  refine AMet.of (by decide) k_Rs_hire [(0, .ref 16), (1, .int x1), (2, .int x2)] (Nat.le_of_ble_eq_true rfl) rfl ?_
  refine aw_iload_n (q := 1) (j := 1) rfl rfl rfl (List.mem_of_getElem? (i := 1) rfl) ?_
  refine aw_iconst (q := 2) (v := 1) rfl rfl (by decide) ?_
  refine aw_icmp_lt (q := 5) (tgt := 20) rfl rfl (by decide) ⟨fun cd_1 => ?_, fun cd_1 => ?_⟩
  · replace h := h.1 cd_1
    refine aw_iconst (q := 21) (v := (-1)) rfl rfl (by decide) ?_
    exact aw_ireturn (ty := .int) rfl rfl rfl (by decide) (by decide) h
  · replace h := h.2 cd_1
    refine aw_iload_n (q := 6) (j := 1) rfl rfl rfl (List.mem_of_getElem? (i := 1) rfl) ?_
    refine aw_sipush (q := 9) (v := 300) rfl rfl (by decide) ?_
    refine aw_icmp_gt (q := 12) (tgt := 20) rfl rfl (by decide) ⟨fun cd_2 => ?_, fun cd_2 => ?_⟩
    · replace h := h.1 cd_2
      refine aw_iconst (q := 21) (v := (-1)) rfl rfl (by decide) ?_
      exact aw_ireturn (ty := .int) rfl rfl rfl (by decide) (by decide) h
    · replace h := h.2 cd_2
      refine aw_iload_n (q := 13) (j := 2) rfl rfl rfl (List.mem_of_getElem? (i := 2) rfl) ?_
      refine aw_iconst (q := 14) (v := 2) rfl rfl (by decide) ?_
      refine ag_csI (z := m_Rs_isOf) (av := [.int _, .int _]) (st := []) (q := 17) (k' := 0) (n' := 0) rfl rfl cs_Rs_122 ⟨by decide, by decide⟩ rfl rfl (by decide) (by decide) rfl rfl (Nat.le_of_ble_eq_true rfl) ?_
      refine GI.mono h (fun y1_ t1_ h => ?_)
      refine aw_if_ne (q := 20) (tgt := 22) rfl rfl (by decide) ⟨fun cd_3 => ?_, fun cd_3 => ?_⟩
      · replace h := h.1 cd_3
        refine aw_iconst (q := 21) (v := (-1)) rfl rfl (by decide) ?_
        exact aw_ireturn (ty := .int) rfl rfl rfl (by decide) (by decide) h
      · replace h := h.2 cd_3
        refine aw_aload_n (q := 23) (j := 0) rfl rfl rfl (List.mem_of_getElem? (i := 0) rfl) ?_
        refine ag_getR (q := 26) rfl rfl fl_Rs_32 rfl (SX.o hS rfl) (SX.r hS rfl) ?_
        refine aw_aload_n (q := 27) (j := 0) rfl rfl rfl (List.mem_of_getElem? (i := 0) rfl) ?_
        refine ag_getR (q := 30) rfl rfl fl_Rs_81 rfl (SX.o hS rfl) (SX.r hS rfl) ?_
        refine aw_aload_n (q := 31) (j := 0) rfl rfl rfl (List.mem_of_getElem? (i := 0) rfl) ?_
        refine ag_getR (q := 34) rfl rfl fl_Rs_46 rfl (SX.o hS rfl) (SX.r hS rfl) ?_
        refine aw_iload_n (q := 35) (j := 1) rfl rfl rfl (List.mem_of_getElem? (i := 1) rfl) ?_
        refine ag_cvV (z := m_Planner_seekHired) (ci := 5) (av := [.ref _, .ref _, .int _]) (st := []) (q := 38) (k' := 0) (n' := 0) rfl rfl cv_Rs_277 ⟨by decide, by decide⟩ rfl rfl (by decide) (by decide) (SX.o hS rfl) rfl rfl rfl (Nat.le_of_ble_eq_true rfl) ?_
        refine GV.mono h (fun t2_ h => ?_)
        refine aw_iload_n (q := 39) (j := 2) rfl rfl rfl (List.mem_of_getElem? (i := 2) rfl) ?_
        refine aw_if_ne (q := 42) (tgt := 52) rfl rfl (by decide) ⟨fun cd_4 => ?_, fun cd_4 => ?_⟩
        · replace h := h.1 cd_4
          refine aw_aload_n (q := 43) (j := 0) rfl rfl rfl (List.mem_of_getElem? (i := 0) rfl) ?_
          refine ag_getR (q := 46) rfl rfl fl_Rs_32 rfl (SX.o hS rfl) (SX.r hS rfl) ?_
          refine ag_getI (q := 49) rfl rfl fl_Rs_281 rfl (SX.o hS rfl) ?_
          refine aw_goto (tgt := 59) rfl (by decide) ?_
          exact aw_ireturn (ty := .int) rfl rfl rfl (by decide) (by decide) h
        · replace h := h.2 cd_4
          refine aw_aload_n (q := 53) (j := 0) rfl rfl rfl (List.mem_of_getElem? (i := 0) rfl) ?_
          refine ag_getR (q := 56) rfl rfl fl_Rs_32 rfl (SX.o hS rfl) (SX.r hS rfl) ?_
          refine ag_getI (q := 59) rfl rfl fl_Rs_284 rfl (SX.o hS rfl) ?_
          exact aw_ireturn (ty := .int) rfl rfl rfl (by decide) (by decide) h
set_option maxRecDepth 20000 in
theorem v_Rs_taught {E : EN} {g : GS} {s : MS} {Q : Option Value → SG → Prop} (x1 : Int32) (x2 : Int32) (hS : SX g) (h : GI E m_Rs_canBeTaught [.ref 16, .int x1, .int x2] g s (fun y1_ t1_ => ((y1_ = 0 → Q (some (.int (-1))) (mk g t1_)) ∧ (¬ y1_ = 0 → GV E m_Planner_seekWay [.ref 31, .ref 28, .ref 74, .int x1, .int x2] g t1_ (fun t2_ => Q (some (.int (t2_.1 31 7))) (mk g t2_)))))) : AMet E m_Rs_taught [.ref 16, .int x1, .int x2] (mk g s) Q := by
  refine AMet.of (by decide) k_Rs_taught [(0, .ref 16), (1, .int x1), (2, .int x2)] (Nat.le_of_ble_eq_true rfl) rfl ?_
  refine aw_aload_n (q := 1) (j := 0) rfl rfl rfl (List.mem_of_getElem? (i := 0) rfl) ?_
  refine aw_iload_n (q := 2) (j := 1) rfl rfl rfl (List.mem_of_getElem? (i := 1) rfl) ?_
  refine aw_iload_n (q := 3) (j := 2) rfl rfl rfl (List.mem_of_getElem? (i := 2) rfl) ?_
  refine ag_cvI (z := m_Rs_canBeTaught) (ci := 10) (av := [.int _, .int _]) (st := []) (q := 6) (k' := 0) (n' := 0) rfl rfl cv_Rs_287 ⟨by decide, by decide⟩ rfl rfl (by decide) (by decide) (SX.o hS rfl) rfl rfl rfl (Nat.le_of_ble_eq_true rfl) ?_
  refine GI.mono h (fun y1_ t1_ h => ?_)
  refine aw_if_ne (q := 9) (tgt := 11) rfl rfl (by decide) ⟨fun cd_1 => ?_, fun cd_1 => ?_⟩
  · replace h := h.1 cd_1
    refine aw_iconst (q := 10) (v := (-1)) rfl rfl (by decide) ?_
    exact aw_ireturn (ty := .int) rfl rfl rfl (by decide) (by decide) h
  · replace h := h.2 cd_1
    refine aw_aload_n (q := 12) (j := 0) rfl rfl rfl (List.mem_of_getElem? (i := 0) rfl) ?_
    refine ag_getR (q := 15) rfl rfl fl_Rs_32 rfl (SX.o hS rfl) (SX.r hS rfl) ?_
    refine aw_aload_n (q := 16) (j := 0) rfl rfl rfl (List.mem_of_getElem? (i := 0) rfl) ?_
    refine ag_getR (q := 19) rfl rfl fl_Rs_81 rfl (SX.o hS rfl) (SX.r hS rfl) ?_
    refine aw_aload_n (q := 20) (j := 0) rfl rfl rfl (List.mem_of_getElem? (i := 0) rfl) ?_
    refine ag_getR (q := 23) rfl rfl fl_Rs_46 rfl (SX.o hS rfl) (SX.r hS rfl) ?_
    refine aw_iload_n (q := 24) (j := 1) rfl rfl rfl (List.mem_of_getElem? (i := 1) rfl) ?_
    refine aw_iload_n (q := 25) (j := 2) rfl rfl rfl (List.mem_of_getElem? (i := 2) rfl) ?_
    refine ag_cvV (z := m_Planner_seekWay) (ci := 5) (av := [.ref _, .ref _, .int _, .int _]) (st := []) (q := 28) (k' := 0) (n' := 0) rfl rfl cv_Rs_290 ⟨by decide, by decide⟩ rfl rfl (by decide) (by decide) (SX.o hS rfl) rfl rfl rfl (Nat.le_of_ble_eq_true rfl) ?_
    refine GV.mono h (fun t2_ h => ?_)
    refine aw_aload_n (q := 29) (j := 0) rfl rfl rfl (List.mem_of_getElem? (i := 0) rfl) ?_
    refine ag_getR (q := 32) rfl rfl fl_Rs_32 rfl (SX.o hS rfl) (SX.r hS rfl) ?_
    refine ag_getI (q := 35) rfl rfl fl_Rs_294 rfl (SX.o hS rfl) ?_
    exact aw_ireturn (ty := .int) rfl rfl rfl (by decide) (by decide) h
set_option maxRecDepth 20000 in
theorem v_Rs_canBeTaught {E : EN} {g : GS} {s : MS} {Q : Option Value → SG → Prop} (x1 : Int32) (x2 : Int32) (t : Nat) (hS : SX g) (et : t = 88 ∨ t = 104) (ht : g.2.2 16 10 = some t) (h : ((x1 ≤ 0 → Q (some (.int 0)) (mk g s)) ∧ (¬ x1 ≤ 0 → (((1 <<< ((s.1 t 13) &&& 31)) ≤ x1 → Q (some (.int 0)) (mk g s)) ∧ (¬ (1 <<< ((s.1 t 13) &&& 31)) ≤ x1 → GI E m_Int_bitCount [.int x1] g s (fun y1_ t1_ => ((4 < y1_ → Q (some (.int 0)) (mk g t1_)) ∧ (¬ 4 < y1_ → ((x2 < 1 → Q (some (.int 0)) (mk g t1_)) ∧ (¬ x2 < 1 → ((300 < x2 → Q (some (.int 0)) (mk g t1_)) ∧ (¬ 300 < x2 → (((t1_.1 t 11) ≤ 0 → Q (some (.int 0)) (mk g t1_)) ∧ (¬ (t1_.1 t 11) ≤ 0 → Q (some (.int 1)) (mk g t1_))))))))))))))) : AMet E m_Rs_canBeTaught [.ref 16, .int x1, .int x2] (mk g s) Q := by
  refine AMet.of (by decide) k_Rs_canBeTaught [(0, .ref 16), (1, .int x1), (2, .int x2)] (Nat.le_of_ble_eq_true rfl) rfl ?_
  refine aw_iload_n (q := 1) (j := 1) rfl rfl rfl (List.mem_of_getElem? (i := 1) rfl) ?_
  refine aw_if_le (q := 4) (tgt := 29) rfl rfl (by decide) ⟨fun cd_1 => ?_, fun cd_1 => ?_⟩
  · replace h := h.1 cd_1
    refine aw_iconst (q := 30) (v := 0) rfl rfl (by decide) ?_
    refine aw_istore_n (q := 31) (j := 3) (ls' := [(3, .int _), (0, .ref _), (1, .int _), (2, .int _)]) rfl rfl rfl (by decide) rfl ?_
    refine aw_iload_n (q := 32) (j := 3) rfl rfl rfl (List.mem_of_getElem? (i := 0) rfl) ?_
    refine aw_if_eq (q := 35) (tgt := 61) rfl rfl (by decide) ⟨fun _ => ?_, fun c => absurd (by decide) c⟩
    refine aw_iconst (q := 62) (v := 0) rfl rfl (by decide) ?_
    exact aw_ireturn (ty := .boolean) rfl rfl rfl (by decide) (by decide) h
  · replace h := h.2 cd_1
    refine aw_iload_n (q := 5) (j := 1) rfl rfl rfl (List.mem_of_getElem? (i := 1) rfl) ?_
    refine aw_iconst (q := 6) (v := 1) rfl rfl (by decide) ?_
    refine aw_aload_n (q := 7) (j := 0) rfl rfl rfl (List.mem_of_getElem? (i := 0) rfl) ?_
    refine ag_getR (q := 10) rfl rfl fl_Rs_60 rfl (SX.o hS rfl) ht ?_
    refine ag_getI (q := 13) rfl rfl fl_Rs_137 rfl (TS.o (TS.of hS et)) ?_
    refine aw_ishl (q := 14) rfl rfl ?_
    refine aw_icmp_ge (q := 17) (tgt := 29) rfl rfl (by decide) ⟨fun cd_2 => ?_, fun cd_2 => ?_⟩
    · replace h := h.1 cd_2
      refine aw_iconst (q := 30) (v := 0) rfl rfl (by decide) ?_
      refine aw_istore_n (q := 31) (j := 3) (ls' := [(3, .int _), (0, .ref _), (1, .int _), (2, .int _)]) rfl rfl rfl (by decide) rfl ?_
      refine aw_iload_n (q := 32) (j := 3) rfl rfl rfl (List.mem_of_getElem? (i := 0) rfl) ?_
      refine aw_if_eq (q := 35) (tgt := 61) rfl rfl (by decide) ⟨fun _ => ?_, fun c => absurd (by decide) c⟩
      refine aw_iconst (q := 62) (v := 0) rfl rfl (by decide) ?_
      exact aw_ireturn (ty := .boolean) rfl rfl rfl (by decide) (by decide) h
    · replace h := h.2 cd_2
      refine aw_iload_n (q := 18) (j := 1) rfl rfl rfl (List.mem_of_getElem? (i := 1) rfl) ?_
      refine ag_csI (z := m_Int_bitCount) (av := [.int _]) (st := []) (q := 21) (k' := 0) (n' := 0) rfl rfl cs_Rs_297 ⟨by decide, by decide⟩ rfl rfl (by decide) (by decide) rfl rfl (Nat.le_of_ble_eq_true rfl) ?_
      refine GI.mono h (fun y1_ t1_ h => ?_)
      refine aw_iconst (q := 22) (v := 4) rfl rfl (by decide) ?_
      refine aw_icmp_gt (q := 25) (tgt := 29) rfl rfl (by decide) ⟨fun cd_3 => ?_, fun cd_3 => ?_⟩
      · replace h := h.1 cd_3
        refine aw_iconst (q := 30) (v := 0) rfl rfl (by decide) ?_
        refine aw_istore_n (q := 31) (j := 3) (ls' := [(3, .int _), (0, .ref _), (1, .int _), (2, .int _)]) rfl rfl rfl (by decide) rfl ?_
        refine aw_iload_n (q := 32) (j := 3) rfl rfl rfl (List.mem_of_getElem? (i := 0) rfl) ?_
        refine aw_if_eq (q := 35) (tgt := 61) rfl rfl (by decide) ⟨fun _ => ?_, fun c => absurd (by decide) c⟩
        refine aw_iconst (q := 62) (v := 0) rfl rfl (by decide) ?_
        exact aw_ireturn (ty := .boolean) rfl rfl rfl (by decide) (by decide) h
      · replace h := h.2 cd_3
        refine aw_iconst (q := 26) (v := 1) rfl rfl (by decide) ?_
        refine aw_goto (tgt := 30) rfl (by decide) ?_
        refine aw_istore_n (q := 31) (j := 3) (ls' := [(3, .int _), (0, .ref _), (1, .int _), (2, .int _)]) rfl rfl rfl (by decide) rfl ?_
        refine aw_iload_n (q := 32) (j := 3) rfl rfl rfl (List.mem_of_getElem? (i := 0) rfl) ?_
        refine aw_if_eq (q := 35) (tgt := 61) rfl rfl (by decide) ⟨fun c => absurd c (by decide), fun _ => ?_⟩
        refine aw_iload_n (q := 36) (j := 2) rfl rfl rfl (List.mem_of_getElem? (i := 3) rfl) ?_
        refine aw_iconst (q := 37) (v := 1) rfl rfl (by decide) ?_
        refine aw_icmp_lt (q := 40) (tgt := 61) rfl rfl (by decide) ⟨fun cd_4 => ?_, fun cd_4 => ?_⟩
        · replace h := h.1 cd_4
          refine aw_iconst (q := 62) (v := 0) rfl rfl (by decide) ?_
          exact aw_ireturn (ty := .boolean) rfl rfl rfl (by decide) (by decide) h
        · replace h := h.2 cd_4
          refine aw_iload_n (q := 41) (j := 2) rfl rfl rfl (List.mem_of_getElem? (i := 3) rfl) ?_
          refine aw_sipush (q := 44) (v := 300) rfl rfl (by decide) ?_
          refine aw_icmp_gt (q := 47) (tgt := 61) rfl rfl (by decide) ⟨fun cd_5 => ?_, fun cd_5 => ?_⟩
          · replace h := h.1 cd_5
            refine aw_iconst (q := 62) (v := 0) rfl rfl (by decide) ?_
            exact aw_ireturn (ty := .boolean) rfl rfl rfl (by decide) (by decide) h
          · replace h := h.2 cd_5
            refine aw_aload_n (q := 48) (j := 0) rfl rfl rfl (List.mem_of_getElem? (i := 1) rfl) ?_
            refine ag_getR (q := 51) rfl rfl fl_Rs_60 rfl (SX.o hS rfl) ht ?_
            refine ag_getI (q := 54) rfl rfl fl_Rs_119 rfl (TS.o (TS.of hS et)) ?_
            refine aw_if_le (q := 57) (tgt := 61) rfl rfl (by decide) ⟨fun cd_6 => ?_, fun cd_6 => ?_⟩
            · replace h := h.1 cd_6
              refine aw_iconst (q := 62) (v := 0) rfl rfl (by decide) ?_
              exact aw_ireturn (ty := .boolean) rfl rfl rfl (by decide) (by decide) h
            · replace h := h.2 cd_6
              refine aw_iconst (q := 58) (v := 1) rfl rfl (by decide) ?_
              refine aw_goto (tgt := 62) rfl (by decide) ?_
              exact aw_ireturn (ty := .boolean) rfl rfl rfl (by decide) (by decide) h
set_option maxRecDepth 20000 in
theorem v_Rs_taughtAt {E : EN} {g : GS} {s : MS} {Q : Option Value → SG → Prop} (x1 : Int32) (x2 : Int32) (x3 : Int32) (t : Nat) (hS : SX g) (et : t = 88 ∨ t = 104) (ht : g.2.2 16 10 = some t) (h : GI E m_Rs_canBeTaught [.ref 16, .int x1, .int x2] g s (fun y1_ t1_ => ((y1_ = 0 → Q (some (.int (-1))) (mk g t1_)) ∧ (¬ y1_ = 0 → GI E m_Int_bitCount [.int x1] g t1_ (fun y2_ t2_ => GI E m_Rs_isOf [.int x3, .int y2_] g t2_ (fun y3_ t3_ => ((y3_ = 0 → Q (some (.int (-1))) (mk g t3_)) ∧ (¬ y3_ = 0 → GV E m_Planner_seekWay [.ref 31, .ref 28, .ref 74, .int x1, .int x2] g t3_ (fun t4_ => GI E m_Planner_grainOf [.ref 31, .int x3, .int (t4_.1 t 11)] g t4_ (fun y5_ t5_ => Q (some (.int y5_)) (mk g t5_))))))))))) : AMet E m_Rs_taughtAt [.ref 16, .int x1, .int x2, .int x3] (mk g s) Q := by
  refine AMet.of (by decide) k_Rs_taughtAt [(0, .ref 16), (1, .int x1), (2, .int x2), (3, .int x3)] (Nat.le_of_ble_eq_true rfl) rfl ?_
  refine aw_aload_n (q := 1) (j := 0) rfl rfl rfl (List.mem_of_getElem? (i := 0) rfl) ?_
  refine aw_iload_n (q := 2) (j := 1) rfl rfl rfl (List.mem_of_getElem? (i := 1) rfl) ?_
  refine aw_iload_n (q := 3) (j := 2) rfl rfl rfl (List.mem_of_getElem? (i := 2) rfl) ?_
  refine ag_cvI (z := m_Rs_canBeTaught) (ci := 10) (av := [.int _, .int _]) (st := []) (q := 6) (k' := 0) (n' := 0) rfl rfl cv_Rs_287 ⟨by decide, by decide⟩ rfl rfl (by decide) (by decide) (SX.o hS rfl) rfl rfl rfl (Nat.le_of_ble_eq_true rfl) ?_
  refine GI.mono h (fun y1_ t1_ h => ?_)
  refine aw_if_eq (q := 9) (tgt := 20) rfl rfl (by decide) ⟨fun cd_1 => ?_, fun cd_1 => ?_⟩
  · replace h := h.1 cd_1
    refine aw_iconst (q := 21) (v := (-1)) rfl rfl (by decide) ?_
    exact aw_ireturn (ty := .int) rfl rfl rfl (by decide) (by decide) h
  · replace h := h.2 cd_1
    refine aw_iload_n (q := 10) (j := 3) rfl rfl rfl (List.mem_of_getElem? (i := 3) rfl) ?_
    refine aw_iload_n (q := 11) (j := 1) rfl rfl rfl (List.mem_of_getElem? (i := 1) rfl) ?_
    refine ag_csI (z := m_Int_bitCount) (av := [.int _]) (st := [.int _]) (q := 14) (k' := 0) (n' := 0) rfl rfl cs_Rs_297 ⟨by decide, by decide⟩ rfl rfl (by decide) (by decide) rfl rfl (Nat.le_of_ble_eq_true rfl) ?_
    refine GI.mono h (fun y2_ t2_ h => ?_)
    refine ag_csI (z := m_Rs_isOf) (av := [.int _, .int _]) (st := []) (q := 17) (k' := 0) (n' := 0) rfl rfl cs_Rs_122 ⟨by decide, by decide⟩ rfl rfl (by decide) (by decide) rfl rfl (Nat.le_of_ble_eq_true rfl) ?_
    refine GI.mono h (fun y3_ t3_ h => ?_)
    refine aw_if_ne (q := 20) (tgt := 22) rfl rfl (by decide) ⟨fun cd_2 => ?_, fun cd_2 => ?_⟩
    · replace h := h.1 cd_2
      refine aw_iconst (q := 21) (v := (-1)) rfl rfl (by decide) ?_
      exact aw_ireturn (ty := .int) rfl rfl rfl (by decide) (by decide) h
    · replace h := h.2 cd_2
      refine aw_aload_n (q := 23) (j := 0) rfl rfl rfl (List.mem_of_getElem? (i := 0) rfl) ?_
      refine ag_getR (q := 26) rfl rfl fl_Rs_32 rfl (SX.o hS rfl) (SX.r hS rfl) ?_
      refine aw_aload_n (q := 27) (j := 0) rfl rfl rfl (List.mem_of_getElem? (i := 0) rfl) ?_
      refine ag_getR (q := 30) rfl rfl fl_Rs_81 rfl (SX.o hS rfl) (SX.r hS rfl) ?_
      refine aw_aload_n (q := 31) (j := 0) rfl rfl rfl (List.mem_of_getElem? (i := 0) rfl) ?_
      refine ag_getR (q := 34) rfl rfl fl_Rs_46 rfl (SX.o hS rfl) (SX.r hS rfl) ?_
      refine aw_iload_n (q := 35) (j := 1) rfl rfl rfl (List.mem_of_getElem? (i := 1) rfl) ?_
      refine aw_iload_n (q := 36) (j := 2) rfl rfl rfl (List.mem_of_getElem? (i := 2) rfl) ?_
      refine ag_cvV (z := m_Planner_seekWay) (ci := 5) (av := [.ref _, .ref _, .int _, .int _]) (st := []) (q := 39) (k' := 0) (n' := 0) rfl rfl cv_Rs_290 ⟨by decide, by decide⟩ rfl rfl (by decide) (by decide) (SX.o hS rfl) rfl rfl rfl (Nat.le_of_ble_eq_true rfl) ?_
      refine GV.mono h (fun t4_ h => ?_)
      refine aw_aload_n (q := 40) (j := 0) rfl rfl rfl (List.mem_of_getElem? (i := 0) rfl) ?_
      refine ag_getR (q := 43) rfl rfl fl_Rs_32 rfl (SX.o hS rfl) (SX.r hS rfl) ?_
      refine aw_iload_n (q := 44) (j := 3) rfl rfl rfl (List.mem_of_getElem? (i := 3) rfl) ?_
      refine aw_aload_n (q := 45) (j := 0) rfl rfl rfl (List.mem_of_getElem? (i := 0) rfl) ?_
      refine ag_getR (q := 48) rfl rfl fl_Rs_60 rfl (SX.o hS rfl) ht ?_
      refine ag_getI (q := 51) rfl rfl fl_Rs_119 rfl (TS.o (TS.of hS et)) ?_
      refine ag_cvI (z := m_Planner_grainOf) (ci := 5) (av := [.int _, .int _]) (st := []) (q := 54) (k' := 0) (n' := 0) rfl rfl cv_Rs_302 ⟨by decide, by decide⟩ rfl rfl (by decide) (by decide) (SX.o hS rfl) rfl rfl rfl (Nat.le_of_ble_eq_true rfl) ?_
      refine GI.mono h (fun y5_ t5_ h => ?_)
      exact aw_ireturn (ty := .int) rfl rfl rfl (by decide) (by decide) h
set_option maxRecDepth 20000 in
theorem v_Rs_bestSwap {E : EN} {g : GS} {s : MS} {Q : Option Value → SG → Prop} (x1 : Int32) (hS : SX g) (h : GI E m_Rs_isOf [.int x1, .int 2] g s (fun y1_ t1_ => ((y1_ = 0 → Q (some (.int (-1))) (mk g t1_)) ∧ (¬ y1_ = 0 → GV E m_Planner_seekSwap [.ref 31, .ref 28, .ref 74] g t1_ (fun t2_ => ((x1 = 0 → Q (some (.int (t2_.1 31 2))) (mk g t2_)) ∧ (¬ x1 = 0 → Q (some (.int (t2_.1 31 3))) (mk g t2_)))))))) : AMet E m_Rs_bestSwap [.ref 16, .int x1] (mk g s) Q := by
  refine AMet.of (by decide) k_Rs_bestSwap [(0, .ref 16), (1, .int x1)] (Nat.le_of_ble_eq_true rfl) rfl ?_
  refine aw_iload_n (q := 1) (j := 1) rfl rfl rfl (List.mem_of_getElem? (i := 1) rfl) ?_
  refine aw_iconst (q := 2) (v := 2) rfl rfl (by decide) ?_
  refine ag_csI (z := m_Rs_isOf) (av := [.int _, .int _]) (st := []) (q := 5) (k' := 0) (n' := 0) rfl rfl cs_Rs_122 ⟨by decide, by decide⟩ rfl rfl (by decide) (by decide) rfl rfl (Nat.le_of_ble_eq_true rfl) ?_
  refine GI.mono h (fun y1_ t1_ h => ?_)
  refine aw_if_ne (q := 8) (tgt := 10) rfl rfl (by decide) ⟨fun cd_1 => ?_, fun cd_1 => ?_⟩
  · replace h := h.1 cd_1
    refine aw_iconst (q := 9) (v := (-1)) rfl rfl (by decide) ?_
    exact aw_ireturn (ty := .int) rfl rfl rfl (by decide) (by decide) h
  · replace h := h.2 cd_1
    refine aw_aload_n (q := 11) (j := 0) rfl rfl rfl (List.mem_of_getElem? (i := 0) rfl) ?_
    refine ag_getR (q := 14) rfl rfl fl_Rs_32 rfl (SX.o hS rfl) (SX.r hS rfl) ?_
    refine aw_aload_n (q := 15) (j := 0) rfl rfl rfl (List.mem_of_getElem? (i := 0) rfl) ?_
    refine ag_getR (q := 18) rfl rfl fl_Rs_81 rfl (SX.o hS rfl) (SX.r hS rfl) ?_
    refine aw_aload_n (q := 19) (j := 0) rfl rfl rfl (List.mem_of_getElem? (i := 0) rfl) ?_
    refine ag_getR (q := 22) rfl rfl fl_Rs_46 rfl (SX.o hS rfl) (SX.r hS rfl) ?_
    refine ag_cvV (z := m_Planner_seekSwap) (ci := 5) (av := [.ref _, .ref _]) (st := []) (q := 25) (k' := 0) (n' := 0) rfl rfl cv_Rs_305 ⟨by decide, by decide⟩ rfl rfl (by decide) (by decide) (SX.o hS rfl) rfl rfl rfl (Nat.le_of_ble_eq_true rfl) ?_
    refine GV.mono h (fun t2_ h => ?_)
    refine aw_iload_n (q := 26) (j := 1) rfl rfl rfl (List.mem_of_getElem? (i := 1) rfl) ?_
    refine aw_if_ne (q := 29) (tgt := 39) rfl rfl (by decide) ⟨fun cd_2 => ?_, fun cd_2 => ?_⟩
    · replace h := h.1 cd_2
      refine aw_aload_n (q := 30) (j := 0) rfl rfl rfl (List.mem_of_getElem? (i := 0) rfl) ?_
      refine ag_getR (q := 33) rfl rfl fl_Rs_32 rfl (SX.o hS rfl) (SX.r hS rfl) ?_
      refine ag_getI (q := 36) rfl rfl fl_Rs_284 rfl (SX.o hS rfl) ?_
      refine aw_goto (tgt := 46) rfl (by decide) ?_
      exact aw_ireturn (ty := .int) rfl rfl rfl (by decide) (by decide) h
    · replace h := h.2 cd_2
      refine aw_aload_n (q := 40) (j := 0) rfl rfl rfl (List.mem_of_getElem? (i := 0) rfl) ?_
      refine ag_getR (q := 43) rfl rfl fl_Rs_32 rfl (SX.o hS rfl) (SX.r hS rfl) ?_
      refine ag_getI (q := 46) rfl rfl fl_Rs_281 rfl (SX.o hS rfl) ?_
      exact aw_ireturn (ty := .int) rfl rfl rfl (by decide) (by decide) h
set_option maxRecDepth 20000 in
theorem v_Rs_missed {E : EN} {g : GS} {s : MS} {Q : Option Value → SG → Prop} (x1 : Int32) (x2 : Int32) (hS : SX g) (h : GI E m_Rs_isMinutes [.int x1] g s (fun y1_ t1_ => ((y1_ = 0 → Q (some (.int (-1))) (mk g t1_)) ∧ (¬ y1_ = 0 → GI E m_Rs_isOf [.int x2, .int 2] g t1_ (fun y2_ t2_ => ((y2_ = 0 → Q (some (.int (-1))) (mk g t2_)) ∧ (¬ y2_ = 0 → GV E m_Planner_seekMissed [.ref 31, .ref 28, .ref 74, .int x1] g t2_ (fun t3_ => ((x2 = 0 → Q (some (.int (t3_.1 31 2))) (mk g t3_)) ∧ (¬ x2 = 0 → Q (some (.int (t3_.1 31 3))) (mk g t3_))))))))))) : AMet E m_Rs_missed [.ref 16, .int x1, .int x2] (mk g s) Q := by
  refine AMet.of (by decide) k_Rs_missed [(0, .ref 16), (1, .int x1), (2, .int x2)] (Nat.le_of_ble_eq_true rfl) rfl ?_
  refine aw_iload_n (q := 1) (j := 1) rfl rfl rfl (List.mem_of_getElem? (i := 1) rfl) ?_
  refine ag_csI (z := m_Rs_isMinutes) (av := [.int _]) (st := []) (q := 4) (k' := 0) (n' := 0) rfl rfl cs_Rs_254 ⟨by decide, by decide⟩ rfl rfl (by decide) (by decide) rfl rfl (Nat.le_of_ble_eq_true rfl) ?_
  refine GI.mono h (fun y1_ t1_ h => ?_)
  refine aw_if_eq (q := 7) (tgt := 15) rfl rfl (by decide) ⟨fun cd_1 => ?_, fun cd_1 => ?_⟩
  · replace h := h.1 cd_1
    refine aw_iconst (q := 16) (v := (-1)) rfl rfl (by decide) ?_
    exact aw_ireturn (ty := .int) rfl rfl rfl (by decide) (by decide) h
  · replace h := h.2 cd_1
    refine aw_iload_n (q := 8) (j := 2) rfl rfl rfl (List.mem_of_getElem? (i := 2) rfl) ?_
    refine aw_iconst (q := 9) (v := 2) rfl rfl (by decide) ?_
    refine ag_csI (z := m_Rs_isOf) (av := [.int _, .int _]) (st := []) (q := 12) (k' := 0) (n' := 0) rfl rfl cs_Rs_122 ⟨by decide, by decide⟩ rfl rfl (by decide) (by decide) rfl rfl (Nat.le_of_ble_eq_true rfl) ?_
    refine GI.mono h (fun y2_ t2_ h => ?_)
    refine aw_if_ne (q := 15) (tgt := 17) rfl rfl (by decide) ⟨fun cd_2 => ?_, fun cd_2 => ?_⟩
    · replace h := h.1 cd_2
      refine aw_iconst (q := 16) (v := (-1)) rfl rfl (by decide) ?_
      exact aw_ireturn (ty := .int) rfl rfl rfl (by decide) (by decide) h
    · replace h := h.2 cd_2
      refine aw_aload_n (q := 18) (j := 0) rfl rfl rfl (List.mem_of_getElem? (i := 0) rfl) ?_
      refine ag_getR (q := 21) rfl rfl fl_Rs_32 rfl (SX.o hS rfl) (SX.r hS rfl) ?_
      refine aw_aload_n (q := 22) (j := 0) rfl rfl rfl (List.mem_of_getElem? (i := 0) rfl) ?_
      refine ag_getR (q := 25) rfl rfl fl_Rs_81 rfl (SX.o hS rfl) (SX.r hS rfl) ?_
      refine aw_aload_n (q := 26) (j := 0) rfl rfl rfl (List.mem_of_getElem? (i := 0) rfl) ?_
      refine ag_getR (q := 29) rfl rfl fl_Rs_46 rfl (SX.o hS rfl) (SX.r hS rfl) ?_
      refine aw_iload_n (q := 30) (j := 1) rfl rfl rfl (List.mem_of_getElem? (i := 1) rfl) ?_
      refine ag_cvV (z := m_Planner_seekMissed) (ci := 5) (av := [.ref _, .ref _, .int _]) (st := []) (q := 33) (k' := 0) (n' := 0) rfl rfl cv_Rs_309 ⟨by decide, by decide⟩ rfl rfl (by decide) (by decide) (SX.o hS rfl) rfl rfl rfl (Nat.le_of_ble_eq_true rfl) ?_
      refine GV.mono h (fun t3_ h => ?_)
      refine aw_iload_n (q := 34) (j := 2) rfl rfl rfl (List.mem_of_getElem? (i := 2) rfl) ?_
      refine aw_if_ne (q := 37) (tgt := 47) rfl rfl (by decide) ⟨fun cd_3 => ?_, fun cd_3 => ?_⟩
      · replace h := h.1 cd_3
        refine aw_aload_n (q := 38) (j := 0) rfl rfl rfl (List.mem_of_getElem? (i := 0) rfl) ?_
        refine ag_getR (q := 41) rfl rfl fl_Rs_32 rfl (SX.o hS rfl) (SX.r hS rfl) ?_
        refine ag_getI (q := 44) rfl rfl fl_Rs_284 rfl (SX.o hS rfl) ?_
        refine aw_goto (tgt := 54) rfl (by decide) ?_
        exact aw_ireturn (ty := .int) rfl rfl rfl (by decide) (by decide) h
      · replace h := h.2 cd_3
        refine aw_aload_n (q := 48) (j := 0) rfl rfl rfl (List.mem_of_getElem? (i := 0) rfl) ?_
        refine ag_getR (q := 51) rfl rfl fl_Rs_32 rfl (SX.o hS rfl) (SX.r hS rfl) ?_
        refine ag_getI (q := 54) rfl rfl fl_Rs_281 rfl (SX.o hS rfl) ?_
        exact aw_ireturn (ty := .int) rfl rfl rfl (by decide) (by decide) h
