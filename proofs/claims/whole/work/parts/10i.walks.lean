/-! walks of the methods, by program (vcgen.py) -/
set_option maxRecDepth 20000 in
theorem v_Mo_isSo_10 {E : EN} {g : GS} {s : MS} {Q : Option Value → SG → Prop} (x1 : Int32) (x2 : Int32) (x3 : Int32) (x4 : Int32) (x5 : Int32) (x6 : Int32) (hS : SX g) (h : ((x4 ≤ x6 → AWP E m_Mo_isSo 47 0 0 [(0, .ref 120), (1, .int x1), (2, .int x2), (3, .int x3), (4, .int x4), (5, .int x5), (6, .int 0)] [] (mk g s) Q) ∧ (¬ x4 ≤ x6 → vp_in x6 20 ∧ (((s.1 169 ((x6).toNatClampNeg)) ≤ x5 → AWP E m_Mo_isSo 10 0 0 [(0, .ref 120), (1, .int x1), (2, .int x2), (3, .int x3), (4, .int x4), (5, .int x5), (6, .int (x6 + 1))] [] (mk g s) Q) ∧ (¬ (s.1 169 ((x6).toNatClampNeg)) ≤ x5 → vp_in x6 20 ∧ AWP E m_Mo_isSo 10 0 0 [(0, .ref 120), (1, .int x1), (2, .int x2), (3, .int x3), (4, .int x4), (5, .int (s.1 169 ((x6).toNatClampNeg))), (6, .int (x6 + 1))] [] (mk g s) Q))))) : AWP E m_Mo_isSo 10 0 0 [(0, .ref 120), (1, .int x1), (2, .int x2), (3, .int x3), (4, .int x4), (5, .int x5), (6, .int x6)] [] (mk g s) Q := by
  refine aw_iload (q := 12) (j := 6) rfl rfl (List.mem_of_getElem? (i := 6) rfl) ?_
  refine aw_iload (q := 14) (j := 4) rfl rfl (List.mem_of_getElem? (i := 4) rfl) ?_
  refine aw_icmp_ge (q := 17) (tgt := 44) rfl rfl (by decide) ⟨fun cd_1 => ?_, fun cd_1 => ?_⟩
  · replace h := h.1 cd_1
    refine aw_iconst (q := 45) (v := 0) rfl rfl (by decide) ?_
    refine aw_istore (q := 47) (j := 6) (ls' := [(6, .int 0), (0, .ref 120), (1, .int x1), (2, .int x2), (3, .int x3), (4, .int x4), (5, .int x5)]) rfl rfl (by decide) rfl ?_
    refine aw_ls [1, 2, 3, 4, 5, 6, 0] rfl ?_
    exact h
  · replace h := h.2 cd_1
    refine aw_aload_n (q := 18) (j := 0) rfl rfl rfl (List.mem_of_getElem? (i := 0) rfl) ?_
    refine ag_getR (q := 21) (b := 169) rfl rfl fl_Mo_164 rfl (SX.o hS rfl) (SX.r hS rfl) ?_
    refine aw_iload (q := 23) (j := 6) rfl rfl (List.mem_of_getElem? (i := 6) rfl) ?_
    obtain ⟨bd_2, h⟩ := h
    refine ag_iaload (q := 24) (N := 20) rfl rfl (SX.a hS rfl) bd_2 ?_
    refine aw_iload (q := 26) (j := 5) rfl rfl (List.mem_of_getElem? (i := 5) rfl) ?_
    refine aw_icmp_le (q := 29) (tgt := 38) rfl rfl (by decide) ⟨fun cd_3 => ?_, fun cd_3 => ?_⟩
    · replace h := h.1 cd_3
      refine aw_iinc (q := 41) (v := x6 + 1) (ls' := [(6, .int (x6 + 1)), (0, .ref 120), (1, .int x1), (2, .int x2), (3, .int x3), (4, .int x4), (5, .int x5)]) rfl rfl (List.mem_of_getElem? (i := 6) rfl) rfl (by decide) rfl ?_
      refine aw_goto (tgt := 10) rfl (by decide) ?_
      refine aw_ls [1, 2, 3, 4, 5, 6, 0] rfl ?_
      exact h
    · replace h := h.2 cd_3
      refine aw_aload_n (q := 30) (j := 0) rfl rfl rfl (List.mem_of_getElem? (i := 0) rfl) ?_
      refine ag_getR (q := 33) (b := 169) rfl rfl fl_Mo_164 rfl (SX.o hS rfl) (SX.r hS rfl) ?_
      refine aw_iload (q := 35) (j := 6) rfl rfl (List.mem_of_getElem? (i := 6) rfl) ?_
      obtain ⟨bd_4, h⟩ := h
      refine ag_iaload (q := 36) (N := 20) rfl rfl (SX.a hS rfl) bd_4 ?_
      refine aw_istore (q := 38) (j := 5) (ls' := [(5, .int (s.1 169 ((x6).toNatClampNeg))), (0, .ref 120), (1, .int x1), (2, .int x2), (3, .int x3), (4, .int x4), (6, .int x6)]) rfl rfl (by decide) rfl ?_
      refine aw_iinc (q := 41) (v := x6 + 1) (ls' := [(6, .int (x6 + 1)), (5, .int (s.1 169 ((x6).toNatClampNeg))), (0, .ref 120), (1, .int x1), (2, .int x2), (3, .int x3), (4, .int x4)]) rfl rfl (List.mem_of_getElem? (i := 6) rfl) rfl (by decide) rfl ?_
      refine aw_goto (tgt := 10) rfl (by decide) ?_
      refine aw_ls [2, 3, 4, 5, 6, 1, 0] rfl ?_
      exact h
set_option maxRecDepth 20000 in
theorem v_Mo_isSo_47 {E : EN} {g : GS} {s : MS} {Q : Option Value → SG → Prop} (x1 : Int32) (x2 : Int32) (x3 : Int32) (x4 : Int32) (x5 : Int32) (x6 : Int32) (hS : SX g) (h : ((x5 < x6 → Q (some (.int 1)) (mk g s)) ∧ (¬ x5 < x6 → ((x6 = x3 → ((x1 = x2 → AWP E m_Mo_isSo 74 0 0 [(0, .ref 120), (1, .int x1), (2, .int x2), (3, .int x3), (4, .int x4), (5, .int x5), (6, .int x6), (7, .int 0)] [] (mk g s) Q) ∧ (¬ x1 = x2 → GV E m_Mo_swaps [.ref 120, .int x1, .int x2] g s (fun t1_ => AWP E m_Mo_isSo 74 0 0 [(0, .ref 120), (1, .int x1), (2, .int x2), (3, .int x3), (4, .int x4), (5, .int x5), (6, .int x6), (7, .int 0)] [] (mk g t1_) Q)))) ∧ (¬ x6 = x3 → AWP E m_Mo_isSo 74 0 0 [(0, .ref 120), (1, .int x1), (2, .int x2), (3, .int x3), (4, .int x4), (5, .int x5), (6, .int x6), (7, .int 0)] [] (mk g s) Q))))) : AWP E m_Mo_isSo 47 0 0 [(0, .ref 120), (1, .int x1), (2, .int x2), (3, .int x3), (4, .int x4), (5, .int x5), (6, .int x6)] [] (mk g s) Q := by
  refine aw_iload (q := 49) (j := 6) rfl rfl (List.mem_of_getElem? (i := 6) rfl) ?_
  refine aw_iload (q := 51) (j := 5) rfl rfl (List.mem_of_getElem? (i := 5) rfl) ?_
  refine aw_icmp_gt (q := 54) (tgt := 147) rfl rfl (by decide) ⟨fun cd_1 => ?_, fun cd_1 => ?_⟩
  · replace h := h.1 cd_1
    refine aw_iconst (q := 148) (v := 1) rfl rfl (by decide) ?_
    exact aw_ireturn (ty := .boolean) rfl rfl rfl (by decide) (by decide) h
  · replace h := h.2 cd_1
    refine aw_iload (q := 56) (j := 6) rfl rfl (List.mem_of_getElem? (i := 6) rfl) ?_
    refine aw_iload_n (q := 57) (j := 3) rfl rfl rfl (List.mem_of_getElem? (i := 3) rfl) ?_
    refine aw_icmp_ne (q := 60) (tgt := 71) rfl rfl (by decide) ⟨fun cd_2 => ?_, fun cd_2 => ?_⟩
    · replace h := h.1 cd_2
      refine aw_iload_n (q := 61) (j := 1) rfl rfl rfl (List.mem_of_getElem? (i := 1) rfl) ?_
      refine aw_iload_n (q := 62) (j := 2) rfl rfl rfl (List.mem_of_getElem? (i := 2) rfl) ?_
      refine aw_icmp_eq (q := 65) (tgt := 71) rfl rfl (by decide) ⟨fun cd_3 => ?_, fun cd_3 => ?_⟩
      · replace h := h.1 cd_3
        refine aw_iconst (q := 72) (v := 0) rfl rfl (by decide) ?_
        refine aw_istore (q := 74) (j := 7) (ls' := [(7, .int 0), (0, .ref 120), (1, .int x1), (2, .int x2), (3, .int x3), (4, .int x4), (5, .int x5), (6, .int x6)]) rfl rfl (by decide) rfl ?_
        refine aw_ls [1, 2, 3, 4, 5, 6, 7, 0] rfl ?_
        exact h
      · replace h := h.2 cd_3
        refine aw_aload_n (q := 66) (j := 0) rfl rfl rfl (List.mem_of_getElem? (i := 0) rfl) ?_
        refine aw_iload_n (q := 67) (j := 1) rfl rfl rfl (List.mem_of_getElem? (i := 1) rfl) ?_
        refine aw_iload_n (q := 68) (j := 2) rfl rfl rfl (List.mem_of_getElem? (i := 2) rfl) ?_
        refine ag_cvV (z := m_Mo_swaps) (ci := 11) (av := [.int x1, .int x2]) (st := []) (q := 71) (k' := 0) (n' := 0) rfl rfl cv_Mo_407 ⟨by decide, by decide⟩ rfl rfl (by decide) (by decide) (SX.o hS rfl) rfl rfl rfl (Nat.le_of_ble_eq_true rfl) ?_
        refine GV.mono h (fun t1_ h => ?_)
        refine aw_iconst (q := 72) (v := 0) rfl rfl (by decide) ?_
        refine aw_istore (q := 74) (j := 7) (ls' := [(7, .int 0), (0, .ref 120), (1, .int x1), (2, .int x2), (3, .int x3), (4, .int x4), (5, .int x5), (6, .int x6)]) rfl rfl (by decide) rfl ?_
        refine aw_ls [1, 2, 3, 4, 5, 6, 7, 0] rfl ?_
        exact h
    · replace h := h.2 cd_2
      refine aw_iconst (q := 72) (v := 0) rfl rfl (by decide) ?_
      refine aw_istore (q := 74) (j := 7) (ls' := [(7, .int 0), (0, .ref 120), (1, .int x1), (2, .int x2), (3, .int x3), (4, .int x4), (5, .int x5), (6, .int x6)]) rfl rfl (by decide) rfl ?_
      refine aw_ls [1, 2, 3, 4, 5, 6, 7, 0] rfl ?_
      exact h
set_option maxRecDepth 20000 in
theorem v_Mo_isSo_74 {E : EN} {g : GS} {s : MS} {Q : Option Value → SG → Prop} (x1 : Int32) (x2 : Int32) (x3 : Int32) (x4 : Int32) (x5 : Int32) (x6 : Int32) (x7 : Int32) (hS : SX g) (h : ((x4 ≤ x7 → GV E m_Mo_minuteGoes [.ref 120] g s (fun t1_ => AWP E m_Mo_isSo 47 0 0 [(0, .ref 120), (1, .int x1), (2, .int x2), (3, .int x3), (4, .int x4), (5, .int x5), (6, .int (x6 + 1))] [] (mk g t1_) Q)) ∧ (¬ x4 ≤ x7 → vp_in x7 20 ∧ (((s.1 169 ((x7).toNatClampNeg)) = x6 → vp_in x7 20 ∧ vp_in x7 20 ∧ vp_in ((6 + (6 * (s.1 167 ((x7).toNatClampNeg)))) + (s.1 168 ((x7).toNatClampNeg))) 120 ∧ vp_in x7 20 ∧ (((s.1 163 ((((6 + (6 * (s.1 167 ((x7).toNatClampNeg)))) + (s.1 168 ((x7).toNatClampNeg)))).toNatClampNeg)) = (s.1 170 ((x7).toNatClampNeg)) → AWP E m_Mo_isSo 74 0 0 [(0, .ref 120), (1, .int x1), (2, .int x2), (3, .int x3), (4, .int x4), (5, .int x5), (6, .int x6), (7, .int (x7 + 1))] [] (mk g s) Q) ∧ (¬ (s.1 163 ((((6 + (6 * (s.1 167 ((x7).toNatClampNeg)))) + (s.1 168 ((x7).toNatClampNeg)))).toNatClampNeg)) = (s.1 170 ((x7).toNatClampNeg)) → Q (some (.int 0)) (mk g s)))) ∧ (¬ (s.1 169 ((x7).toNatClampNeg)) = x6 → AWP E m_Mo_isSo 74 0 0 [(0, .ref 120), (1, .int x1), (2, .int x2), (3, .int x3), (4, .int x4), (5, .int x5), (6, .int x6), (7, .int (x7 + 1))] [] (mk g s) Q))))) : AWP E m_Mo_isSo 74 0 0 [(0, .ref 120), (1, .int x1), (2, .int x2), (3, .int x3), (4, .int x4), (5, .int x5), (6, .int x6), (7, .int x7)] [] (mk g s) Q := by
  refine aw_iload (q := 76) (j := 7) rfl rfl (List.mem_of_getElem? (i := 7) rfl) ?_
  refine aw_iload (q := 78) (j := 4) rfl rfl (List.mem_of_getElem? (i := 4) rfl) ?_
  refine aw_icmp_ge (q := 81) (tgt := 137) rfl rfl (by decide) ⟨fun cd_1 => ?_, fun cd_1 => ?_⟩
  · replace h := h.1 cd_1
    refine aw_aload_n (q := 138) (j := 0) rfl rfl rfl (List.mem_of_getElem? (i := 0) rfl) ?_
    refine ag_cvV (z := m_Mo_minuteGoes) (ci := 11) (av := []) (st := []) (q := 141) (k' := 0) (n' := 0) rfl rfl cv_Mo_380 ⟨by decide, by decide⟩ rfl rfl (by decide) (by decide) (SX.o hS rfl) rfl rfl rfl (Nat.le_of_ble_eq_true rfl) ?_
    refine GV.mono h (fun t1_ h => ?_)
    refine aw_iinc (q := 144) (v := x6 + 1) (ls' := [(6, .int (x6 + 1)), (0, .ref 120), (1, .int x1), (2, .int x2), (3, .int x3), (4, .int x4), (5, .int x5), (7, .int x7)]) rfl rfl (List.mem_of_getElem? (i := 6) rfl) rfl (by decide) rfl ?_
    refine aw_goto (tgt := 47) rfl (by decide) ?_
    refine aw_ls [1, 2, 3, 4, 5, 6, 0] rfl ?_
    exact h
  · replace h := h.2 cd_1
    refine aw_aload_n (q := 82) (j := 0) rfl rfl rfl (List.mem_of_getElem? (i := 0) rfl) ?_
    refine ag_getR (q := 85) (b := 169) rfl rfl fl_Mo_164 rfl (SX.o hS rfl) (SX.r hS rfl) ?_
    refine aw_iload (q := 87) (j := 7) rfl rfl (List.mem_of_getElem? (i := 7) rfl) ?_
    obtain ⟨bd_2, h⟩ := h
    refine ag_iaload (q := 88) (N := 20) rfl rfl (SX.a hS rfl) bd_2 ?_
    refine aw_iload (q := 90) (j := 6) rfl rfl (List.mem_of_getElem? (i := 6) rfl) ?_
    refine aw_icmp_ne (q := 93) (tgt := 131) rfl rfl (by decide) ⟨fun cd_3 => ?_, fun cd_3 => ?_⟩
    · replace h := h.1 cd_3
      refine aw_aload_n (q := 94) (j := 0) rfl rfl rfl (List.mem_of_getElem? (i := 0) rfl) ?_
      refine ag_getR (q := 97) (b := 163) rfl rfl fl_Mo_146 rfl (SX.o hS rfl) (SX.r hS rfl) ?_
      refine aw_bipush (q := 99) (v := 6) rfl rfl (by decide) ?_
      refine aw_bipush (q := 101) (v := 6) rfl rfl (by decide) ?_
      refine aw_aload_n (q := 102) (j := 0) rfl rfl rfl (List.mem_of_getElem? (i := 0) rfl) ?_
      refine ag_getR (q := 105) (b := 167) rfl rfl fl_Mo_158 rfl (SX.o hS rfl) (SX.r hS rfl) ?_
      refine aw_iload (q := 107) (j := 7) rfl rfl (List.mem_of_getElem? (i := 7) rfl) ?_
      obtain ⟨bd_4, h⟩ := h
      refine ag_iaload (q := 108) (N := 20) rfl rfl (SX.a hS rfl) bd_4 ?_
      refine aw_imul (q := 109) rfl rfl ?_
      refine aw_iadd (q := 110) rfl rfl ?_
      refine aw_aload_n (q := 111) (j := 0) rfl rfl rfl (List.mem_of_getElem? (i := 0) rfl) ?_
      refine ag_getR (q := 114) (b := 168) rfl rfl fl_Mo_161 rfl (SX.o hS rfl) (SX.r hS rfl) ?_
      refine aw_iload (q := 116) (j := 7) rfl rfl (List.mem_of_getElem? (i := 7) rfl) ?_
      obtain ⟨bd_5, h⟩ := h
      refine ag_iaload (q := 117) (N := 20) rfl rfl (SX.a hS rfl) bd_5 ?_
      refine aw_iadd (q := 118) rfl rfl ?_
      obtain ⟨bd_6, h⟩ := h
      refine ag_iaload (q := 119) (N := 120) rfl rfl (SX.a hS rfl) bd_6 ?_
      refine aw_aload_n (q := 120) (j := 0) rfl rfl rfl (List.mem_of_getElem? (i := 0) rfl) ?_
      refine ag_getR (q := 123) (b := 170) rfl rfl fl_Mo_167 rfl (SX.o hS rfl) (SX.r hS rfl) ?_
      refine aw_iload (q := 125) (j := 7) rfl rfl (List.mem_of_getElem? (i := 7) rfl) ?_
      obtain ⟨bd_7, h⟩ := h
      refine ag_iaload (q := 126) (N := 20) rfl rfl (SX.a hS rfl) bd_7 ?_
      refine aw_icmp_eq (q := 129) (tgt := 131) rfl rfl (by decide) ⟨fun cd_8 => ?_, fun cd_8 => ?_⟩
      · replace h := h.1 cd_8
        refine aw_iinc (q := 134) (v := x7 + 1) (ls' := [(7, .int (x7 + 1)), (0, .ref 120), (1, .int x1), (2, .int x2), (3, .int x3), (4, .int x4), (5, .int x5), (6, .int x6)]) rfl rfl (List.mem_of_getElem? (i := 7) rfl) rfl (by decide) rfl ?_
        refine aw_goto (tgt := 74) rfl (by decide) ?_
        refine aw_ls [1, 2, 3, 4, 5, 6, 7, 0] rfl ?_
        exact h
      · replace h := h.2 cd_8
        refine aw_iconst (q := 130) (v := 0) rfl rfl (by decide) ?_
        exact aw_ireturn (ty := .boolean) rfl rfl rfl (by decide) (by decide) h
    · replace h := h.2 cd_3
      refine aw_iinc (q := 134) (v := x7 + 1) (ls' := [(7, .int (x7 + 1)), (0, .ref 120), (1, .int x1), (2, .int x2), (3, .int x3), (4, .int x4), (5, .int x5), (6, .int x6)]) rfl rfl (List.mem_of_getElem? (i := 7) rfl) rfl (by decide) rfl ?_
      refine aw_goto (tgt := 74) rfl (by decide) ?_
      refine aw_ls [1, 2, 3, 4, 5, 6, 7, 0] rfl ?_
      exact h
set_option maxRecDepth 20000 in
theorem v_Mo_isSo {E : EN} {g : GS} {s : MS} {Q : Option Value → SG → Prop} (x1 : Int32) (x2 : Int32) (x3 : Int32) (x4 : Int32) (hS : SX g) (h : GV E m_Mo_begins [.ref 120] g s (fun t1_ => AWP E m_Mo_isSo 10 0 0 [(0, .ref 120), (1, .int x1), (2, .int x2), (3, .int x3), (4, .int x4), (5, .int (-1)), (6, .int 0)] [] (mk g t1_) Q)) : AMet E m_Mo_isSo [.ref 120, .int x1, .int x2, .int x3, .int x4] (mk g s) Q := by
  refine AMet.of (by decide) k_Mo_isSo [(0, .ref 120), (1, .int x1), (2, .int x2), (3, .int x3), (4, .int x4)] (Nat.le_of_ble_eq_true rfl) rfl ?_
  refine aw_aload_n (q := 1) (j := 0) rfl rfl rfl (List.mem_of_getElem? (i := 0) rfl) ?_
  refine ag_cvV (z := m_Mo_begins) (ci := 11) (av := []) (st := []) (q := 4) (k' := 0) (n' := 0) rfl rfl cv_Mo_184 ⟨by decide, by decide⟩ rfl rfl (by decide) (by decide) (SX.o hS rfl) rfl rfl rfl (Nat.le_of_ble_eq_true rfl) ?_
  refine GV.mono h (fun t1_ h => ?_)
  refine aw_iconst (q := 5) (v := (-1)) rfl rfl (by decide) ?_
  refine aw_istore (q := 7) (j := 5) (ls' := [(5, .int (-1)), (0, .ref 120), (1, .int x1), (2, .int x2), (3, .int x3), (4, .int x4)]) rfl rfl (by decide) rfl ?_
  refine aw_iconst (q := 8) (v := 0) rfl rfl (by decide) ?_
  refine aw_istore (q := 10) (j := 6) (ls' := [(6, .int 0), (5, .int (-1)), (0, .ref 120), (1, .int x1), (2, .int x2), (3, .int x3), (4, .int x4)]) rfl rfl (by decide) rfl ?_
  refine aw_ls [2, 3, 4, 5, 6, 1, 0] rfl ?_
  exact h
set_option maxRecDepth 20000 in
theorem v_Mo_hold_20 {E : EN} {g : GS} {s : MS} {Q : Option Value → SG → Prop} (x1 : Int32) (x2 : Int32) (hS : SX g) (h : ((120 ≤ x2 → Q (some (.int 1)) (mk g s)) ∧ (¬ 120 ≤ x2 → vp_in x2 120 ∧ vp_in ((120 * x1) + x2) 360 ∧ AWP E m_Mo_hold 20 0 0 [(0, .ref 120), (1, .int x1), (2, .int (x2 + 1))] [] (mk g (wi s 172 ((((120 * x1) + x2)).toNatClampNeg) (s.1 162 ((x2).toNatClampNeg)))) Q))) : AWP E m_Mo_hold 20 0 0 [(0, .ref 120), (1, .int x1), (2, .int x2)] [] (mk g s) Q := by
  refine aw_iload_n (q := 21) (j := 2) rfl rfl rfl (List.mem_of_getElem? (i := 2) rfl) ?_
  refine aw_bipush (q := 23) (v := 120) rfl rfl (by decide) ?_
  refine aw_icmp_ge (q := 26) (tgt := 49) rfl rfl (by decide) ⟨fun cd_1 => ?_, fun cd_1 => ?_⟩
  · replace h := h.1 cd_1
    refine aw_iconst (q := 50) (v := 1) rfl rfl (by decide) ?_
    exact aw_ireturn (ty := .boolean) rfl rfl rfl (by decide) (by decide) h
  · replace h := h.2 cd_1
    refine aw_aload_n (q := 27) (j := 0) rfl rfl rfl (List.mem_of_getElem? (i := 0) rfl) ?_
    refine ag_getR (q := 30) (b := 172) rfl rfl fl_Mo_173 rfl (SX.o hS rfl) (SX.r hS rfl) ?_
    refine aw_bipush (q := 32) (v := 120) rfl rfl (by decide) ?_
    refine aw_iload_n (q := 33) (j := 1) rfl rfl rfl (List.mem_of_getElem? (i := 1) rfl) ?_
    refine aw_imul (q := 34) rfl rfl ?_
    refine aw_iload_n (q := 35) (j := 2) rfl rfl rfl (List.mem_of_getElem? (i := 2) rfl) ?_
    refine aw_iadd (q := 36) rfl rfl ?_
    refine aw_aload_n (q := 37) (j := 0) rfl rfl rfl (List.mem_of_getElem? (i := 0) rfl) ?_
    refine ag_getR (q := 40) (b := 162) rfl rfl fl_Mo_143 rfl (SX.o hS rfl) (SX.r hS rfl) ?_
    refine aw_iload_n (q := 41) (j := 2) rfl rfl rfl (List.mem_of_getElem? (i := 2) rfl) ?_
    obtain ⟨bd_2, h⟩ := h
    refine ag_iaload (q := 42) (N := 120) rfl rfl (SX.a hS rfl) bd_2 ?_
    obtain ⟨bd_3, h⟩ := h
    refine ag_iastore (q := 43) (N := 360) rfl rfl (SX.a hS rfl) bd_3 ?_
    refine aw_iinc (q := 46) (v := x2 + 1) (ls' := [(2, .int (x2 + 1)), (0, .ref 120), (1, .int x1)]) rfl rfl (List.mem_of_getElem? (i := 2) rfl) rfl (by decide) rfl ?_
    refine aw_goto (tgt := 20) rfl (by decide) ?_
    refine aw_ls [1, 2, 0] rfl ?_
    exact h
set_option maxRecDepth 20000 in
theorem v_Mo_hold {E : EN} {g : GS} {s : MS} {Q : Option Value → SG → Prop} (x1 : Int32) (hS : SX g) (h : GI E m_Mo_in [.int x1, .int 0, .int 2] g s (fun y1_ t1_ => ((y1_ = 0 → Q (some (.int 0)) (mk g t1_)) ∧ (¬ y1_ = 0 → vp_in x1 3 ∧ AWP E m_Mo_hold 20 0 0 [(0, .ref 120), (1, .int x1), (2, .int 0)] [] (mk g (wi t1_ 171 ((x1).toNatClampNeg) (vp_nar .boolean 1))) Q)))) : AMet E m_Mo_hold [.ref 120, .int x1] (mk g s) Q := by
  refine AMet.of (by decide) k_Mo_hold [(0, .ref 120), (1, .int x1)] (Nat.le_of_ble_eq_true rfl) rfl ?_
  refine aw_iload_n (q := 1) (j := 1) rfl rfl rfl (List.mem_of_getElem? (i := 1) rfl) ?_
  refine aw_iconst (q := 2) (v := 0) rfl rfl (by decide) ?_
  refine aw_iconst (q := 3) (v := 2) rfl rfl (by decide) ?_
  refine ag_csI (z := m_Mo_in) (av := [.int x1, .int 0, .int 2]) (st := []) (q := 6) (k' := 0) (n' := 0) rfl rfl cs_Mo_350 ⟨by decide, by decide⟩ rfl rfl (by decide) (by decide) rfl rfl (Nat.le_of_ble_eq_true rfl) ?_
  refine GI.mono h (fun y1_ t1_ h => ?_)
  refine aw_if_ne (q := 9) (tgt := 11) rfl rfl (by decide) ⟨fun cd_1 => ?_, fun cd_1 => ?_⟩
  · replace h := h.1 cd_1
    refine aw_iconst (q := 10) (v := 0) rfl rfl (by decide) ?_
    exact aw_ireturn (ty := .boolean) rfl rfl rfl (by decide) (by decide) h
  · replace h := h.2 cd_1
    refine aw_aload_n (q := 12) (j := 0) rfl rfl rfl (List.mem_of_getElem? (i := 0) rfl) ?_
    refine ag_getR (q := 15) (b := 171) rfl rfl fl_Mo_170 rfl (SX.o hS rfl) (SX.r hS rfl) ?_
    refine aw_iload_n (q := 16) (j := 1) rfl rfl rfl (List.mem_of_getElem? (i := 1) rfl) ?_
    refine aw_iconst (q := 17) (v := 1) rfl rfl (by decide) ?_
    obtain ⟨bd_2, h⟩ := h
    refine ag_zastore (q := 18) (N := 3) rfl rfl (SX.a hS rfl) bd_2 ?_
    refine aw_iconst (q := 19) (v := 0) rfl rfl (by decide) ?_
    refine aw_istore_n (q := 20) (j := 2) (ls' := [(2, .int 0), (0, .ref 120), (1, .int x1)]) rfl rfl rfl (by decide) rfl ?_
    refine aw_ls [1, 2, 0] rfl ?_
    exact h
set_option maxRecDepth 20000 in
theorem v_Mo_restore_22 {E : EN} {g : GS} {s : MS} {Q : Option Value → SG → Prop} (x1 : Int32) (x2 : Int32) (hS : SX g) (h : ((120 ≤ x2 → Q (some (.int 1)) (mk g (wi s 120 64 0))) ∧ (¬ 120 ≤ x2 → vp_in ((120 * x1) + x2) 360 ∧ vp_in x2 120 ∧ AWP E m_Mo_restore 22 0 0 [(0, .ref 120), (1, .int x1), (2, .int (x2 + 1))] [] (mk g (wi s 162 ((x2).toNatClampNeg) (s.1 172 ((((120 * x1) + x2)).toNatClampNeg)))) Q))) : AWP E m_Mo_restore 22 0 0 [(0, .ref 120), (1, .int x1), (2, .int x2)] [] (mk g s) Q := by
  refine aw_iload_n (q := 23) (j := 2) rfl rfl rfl (List.mem_of_getElem? (i := 2) rfl) ?_
  refine aw_bipush (q := 25) (v := 120) rfl rfl (by decide) ?_
  refine aw_icmp_ge (q := 28) (tgt := 51) rfl rfl (by decide) ⟨fun cd_1 => ?_, fun cd_1 => ?_⟩
  · replace h := h.1 cd_1
    refine aw_aload_n (q := 52) (j := 0) rfl rfl rfl (List.mem_of_getElem? (i := 0) rfl) ?_
    refine aw_iconst (q := 53) (v := 0) rfl rfl (by decide) ?_
    refine ag_putI (q := 56) rfl rfl fl_Mo_275 rfl rfl (SX.o hS rfl) ?_
    refine aw_iconst (q := 57) (v := 1) rfl rfl (by decide) ?_
    exact aw_ireturn (ty := .boolean) rfl rfl rfl (by decide) (by decide) h
  · replace h := h.2 cd_1
    refine aw_aload_n (q := 29) (j := 0) rfl rfl rfl (List.mem_of_getElem? (i := 0) rfl) ?_
    refine ag_getR (q := 32) (b := 162) rfl rfl fl_Mo_143 rfl (SX.o hS rfl) (SX.r hS rfl) ?_
    refine aw_iload_n (q := 33) (j := 2) rfl rfl rfl (List.mem_of_getElem? (i := 2) rfl) ?_
    refine aw_aload_n (q := 34) (j := 0) rfl rfl rfl (List.mem_of_getElem? (i := 0) rfl) ?_
    refine ag_getR (q := 37) (b := 172) rfl rfl fl_Mo_173 rfl (SX.o hS rfl) (SX.r hS rfl) ?_
    refine aw_bipush (q := 39) (v := 120) rfl rfl (by decide) ?_
    refine aw_iload_n (q := 40) (j := 1) rfl rfl rfl (List.mem_of_getElem? (i := 1) rfl) ?_
    refine aw_imul (q := 41) rfl rfl ?_
    refine aw_iload_n (q := 42) (j := 2) rfl rfl rfl (List.mem_of_getElem? (i := 2) rfl) ?_
    refine aw_iadd (q := 43) rfl rfl ?_
    obtain ⟨bd_2, h⟩ := h
    refine ag_iaload (q := 44) (N := 360) rfl rfl (SX.a hS rfl) bd_2 ?_
    obtain ⟨bd_3, h⟩ := h
    refine ag_iastore (q := 45) (N := 120) rfl rfl (SX.a hS rfl) bd_3 ?_
    refine aw_iinc (q := 48) (v := x2 + 1) (ls' := [(2, .int (x2 + 1)), (0, .ref 120), (1, .int x1)]) rfl rfl (List.mem_of_getElem? (i := 2) rfl) rfl (by decide) rfl ?_
    refine aw_goto (tgt := 22) rfl (by decide) ?_
    refine aw_ls [1, 2, 0] rfl ?_
    exact h
set_option maxRecDepth 20000 in
theorem v_Mo_restore {E : EN} {g : GS} {s : MS} {Q : Option Value → SG → Prop} (x1 : Int32) (hS : SX g) (h : GI E m_Mo_in [.int x1, .int 0, .int 2] g s (fun y1_ t1_ => ((y1_ = 0 → Q (some (.int 0)) (mk g t1_)) ∧ (¬ y1_ = 0 → vp_in x1 3 ∧ (((t1_.1 171 ((x1).toNatClampNeg)) = 0 → Q (some (.int 0)) (mk g t1_)) ∧ (¬ (t1_.1 171 ((x1).toNatClampNeg)) = 0 → AWP E m_Mo_restore 22 0 0 [(0, .ref 120), (1, .int x1), (2, .int 0)] [] (mk g t1_) Q)))))) : AMet E m_Mo_restore [.ref 120, .int x1] (mk g s) Q := by
  refine AMet.of (by decide) k_Mo_restore [(0, .ref 120), (1, .int x1)] (Nat.le_of_ble_eq_true rfl) rfl ?_
  refine aw_iload_n (q := 1) (j := 1) rfl rfl rfl (List.mem_of_getElem? (i := 1) rfl) ?_
  refine aw_iconst (q := 2) (v := 0) rfl rfl (by decide) ?_
  refine aw_iconst (q := 3) (v := 2) rfl rfl (by decide) ?_
  refine ag_csI (z := m_Mo_in) (av := [.int x1, .int 0, .int 2]) (st := []) (q := 6) (k' := 0) (n' := 0) rfl rfl cs_Mo_350 ⟨by decide, by decide⟩ rfl rfl (by decide) (by decide) rfl rfl (Nat.le_of_ble_eq_true rfl) ?_
  refine GI.mono h (fun y1_ t1_ h => ?_)
  refine aw_if_eq (q := 9) (tgt := 18) rfl rfl (by decide) ⟨fun cd_1 => ?_, fun cd_1 => ?_⟩
  · replace h := h.1 cd_1
    refine aw_iconst (q := 19) (v := 0) rfl rfl (by decide) ?_
    exact aw_ireturn (ty := .boolean) rfl rfl rfl (by decide) (by decide) h
  · replace h := h.2 cd_1
    refine aw_aload_n (q := 10) (j := 0) rfl rfl rfl (List.mem_of_getElem? (i := 0) rfl) ?_
    refine ag_getR (q := 13) (b := 171) rfl rfl fl_Mo_170 rfl (SX.o hS rfl) (SX.r hS rfl) ?_
    refine aw_iload_n (q := 14) (j := 1) rfl rfl rfl (List.mem_of_getElem? (i := 1) rfl) ?_
    obtain ⟨bd_2, h⟩ := h
    refine ag_zaload (q := 15) (N := 3) rfl rfl (SX.a hS rfl) bd_2 ?_
    refine aw_if_ne (q := 18) (tgt := 20) rfl rfl (by decide) ⟨fun cd_3 => ?_, fun cd_3 => ?_⟩
    · replace h := h.1 cd_3
      refine aw_iconst (q := 19) (v := 0) rfl rfl (by decide) ?_
      exact aw_ireturn (ty := .boolean) rfl rfl rfl (by decide) (by decide) h
    · replace h := h.2 cd_3
      refine aw_iconst (q := 21) (v := 0) rfl rfl (by decide) ?_
      refine aw_istore_n (q := 22) (j := 2) (ls' := [(2, .int 0), (0, .ref 120), (1, .int x1)]) rfl rfl rfl (by decide) rfl ?_
      refine aw_ls [1, 2, 0] rfl ?_
      exact h
set_option maxRecDepth 20000 in
theorem v_Mo_count_134 {E : EN} {g : GS} {s : MS} {Q : Option Value → SG → Prop} (x1 : Int32) (x2 : Int32) (x3 : Int32) (hS : SX g) (h : vp_in (s.1 120 18) 2 ∧ (((s.1 137 (((s.1 120 18)).toNatClampNeg)) ≤ x3 → Q (some (.int x2)) (mk g s)) ∧ (¬ (s.1 137 (((s.1 120 18)).toNatClampNeg)) ≤ x3 → vp_in (42 + x3) 120 ∧ (((s.1 162 (((42 + x3)).toNatClampNeg)) = 3 → AWP E m_Mo_count 134 0 0 [(0, .ref 120), (1, .int x1), (2, .int (x2 ||| (1 <<< (x3 &&& 31)))), (3, .int (x3 + 1))] [] (mk g s) Q) ∧ (¬ (s.1 162 (((42 + x3)).toNatClampNeg)) = 3 → AWP E m_Mo_count 134 0 0 [(0, .ref 120), (1, .int x1), (2, .int x2), (3, .int (x3 + 1))] [] (mk g s) Q))))) : AWP E m_Mo_count 134 0 0 [(0, .ref 120), (1, .int x1), (2, .int x2), (3, .int x3)] [] (mk g s) Q := by
  refine aw_iload_n (q := 135) (j := 3) rfl rfl rfl (List.mem_of_getElem? (i := 3) rfl) ?_
  refine aw_aload_n (q := 136) (j := 0) rfl rfl rfl (List.mem_of_getElem? (i := 0) rfl) ?_
  refine ag_getR (q := 139) (b := 137) rfl rfl fl_Mo_67 rfl (SX.o hS rfl) (SX.r hS rfl) ?_
  refine aw_aload_n (q := 140) (j := 0) rfl rfl rfl (List.mem_of_getElem? (i := 0) rfl) ?_
  refine ag_getI (q := 143) rfl rfl fl_Mo_257 rfl (SX.o hS rfl) ?_
  obtain ⟨bd_1, h⟩ := h
  refine ag_iaload (q := 144) (N := 2) rfl rfl (SX.a hS rfl) bd_1 ?_
  refine aw_icmp_ge (q := 147) (tgt := 172) rfl rfl (by decide) ⟨fun cd_2 => ?_, fun cd_2 => ?_⟩
  · replace h := h.1 cd_2
    refine aw_iload_n (q := 173) (j := 2) rfl rfl rfl (List.mem_of_getElem? (i := 2) rfl) ?_
    exact aw_ireturn (ty := .int) rfl rfl rfl (by decide) (by decide) h
  · replace h := h.2 cd_2
    refine aw_aload_n (q := 148) (j := 0) rfl rfl rfl (List.mem_of_getElem? (i := 0) rfl) ?_
    refine ag_getR (q := 151) (b := 162) rfl rfl fl_Mo_143 rfl (SX.o hS rfl) (SX.r hS rfl) ?_
    refine aw_bipush (q := 153) (v := 42) rfl rfl (by decide) ?_
    refine aw_iload_n (q := 154) (j := 3) rfl rfl rfl (List.mem_of_getElem? (i := 3) rfl) ?_
    refine aw_iadd (q := 155) rfl rfl ?_
    obtain ⟨bd_3, h⟩ := h
    refine ag_iaload (q := 156) (N := 120) rfl rfl (SX.a hS rfl) bd_3 ?_
    refine aw_iconst (q := 157) (v := 3) rfl rfl (by decide) ?_
    refine aw_icmp_ne (q := 160) (tgt := 166) rfl rfl (by decide) ⟨fun cd_4 => ?_, fun cd_4 => ?_⟩
    · replace h := h.1 cd_4
      refine aw_iload_n (q := 161) (j := 2) rfl rfl rfl (List.mem_of_getElem? (i := 2) rfl) ?_
      refine aw_iconst (q := 162) (v := 1) rfl rfl (by decide) ?_
      refine aw_iload_n (q := 163) (j := 3) rfl rfl rfl (List.mem_of_getElem? (i := 3) rfl) ?_
      refine aw_ishl (q := 164) rfl rfl ?_
      refine aw_ior (q := 165) rfl rfl ?_
      refine aw_istore_n (q := 166) (j := 2) (ls' := [(2, .int (x2 ||| (1 <<< (x3 &&& 31)))), (0, .ref 120), (1, .int x1), (3, .int x3)]) rfl rfl rfl (by decide) rfl ?_
      refine aw_iinc (q := 169) (v := x3 + 1) (ls' := [(3, .int (x3 + 1)), (2, .int (x2 ||| (1 <<< (x3 &&& 31)))), (0, .ref 120), (1, .int x1)]) rfl rfl (List.mem_of_getElem? (i := 3) rfl) rfl (by decide) rfl ?_
      refine aw_goto (tgt := 134) rfl (by decide) ?_
      refine aw_ls [2, 3, 1, 0] rfl ?_
      exact h
    · replace h := h.2 cd_4
      refine aw_iinc (q := 169) (v := x3 + 1) (ls' := [(3, .int (x3 + 1)), (0, .ref 120), (1, .int x1), (2, .int x2)]) rfl rfl (List.mem_of_getElem? (i := 3) rfl) rfl (by decide) rfl ?_
      refine aw_goto (tgt := 134) rfl (by decide) ?_
      refine aw_ls [1, 2, 3, 0] rfl ?_
      exact h
set_option maxRecDepth 20000 in
theorem v_Mo_count_273 {E : EN} {g : GS} {s : MS} {Q : Option Value → SG → Prop} (x1 : Int32) (x2 : Int32) (x3 : Int32) (hS : SX g) (h : vp_in (s.1 120 18) 2 ∧ (((s.1 137 (((s.1 120 18)).toNatClampNeg)) ≤ x3 → Q (some (.int x2)) (mk g s)) ∧ (¬ (s.1 137 (((s.1 120 18)).toNatClampNeg)) ≤ x3 → vp_in (58 + x3) 120 ∧ AWP E m_Mo_count 273 0 0 [(0, .ref 120), (1, .int x1), (2, .int (x2 + (s.1 163 (((58 + x3)).toNatClampNeg)))), (3, .int (x3 + 1))] [] (mk g s) Q))) : AWP E m_Mo_count 273 0 0 [(0, .ref 120), (1, .int x1), (2, .int x2), (3, .int x3)] [] (mk g s) Q := by
  refine aw_iload_n (q := 274) (j := 3) rfl rfl rfl (List.mem_of_getElem? (i := 3) rfl) ?_
  refine aw_aload_n (q := 275) (j := 0) rfl rfl rfl (List.mem_of_getElem? (i := 0) rfl) ?_
  refine ag_getR (q := 278) (b := 137) rfl rfl fl_Mo_67 rfl (SX.o hS rfl) (SX.r hS rfl) ?_
  refine aw_aload_n (q := 279) (j := 0) rfl rfl rfl (List.mem_of_getElem? (i := 0) rfl) ?_
  refine ag_getI (q := 282) rfl rfl fl_Mo_257 rfl (SX.o hS rfl) ?_
  obtain ⟨bd_1, h⟩ := h
  refine ag_iaload (q := 283) (N := 2) rfl rfl (SX.a hS rfl) bd_1 ?_
  refine aw_icmp_ge (q := 286) (tgt := 304) rfl rfl (by decide) ⟨fun cd_2 => ?_, fun cd_2 => ?_⟩
  · replace h := h.1 cd_2
    refine aw_iload_n (q := 305) (j := 2) rfl rfl rfl (List.mem_of_getElem? (i := 2) rfl) ?_
    exact aw_ireturn (ty := .int) rfl rfl rfl (by decide) (by decide) h
  · replace h := h.2 cd_2
    refine aw_iload_n (q := 287) (j := 2) rfl rfl rfl (List.mem_of_getElem? (i := 2) rfl) ?_
    refine aw_aload_n (q := 288) (j := 0) rfl rfl rfl (List.mem_of_getElem? (i := 0) rfl) ?_
    refine ag_getR (q := 291) (b := 163) rfl rfl fl_Mo_146 rfl (SX.o hS rfl) (SX.r hS rfl) ?_
    refine aw_bipush (q := 293) (v := 58) rfl rfl (by decide) ?_
    refine aw_iload_n (q := 294) (j := 3) rfl rfl rfl (List.mem_of_getElem? (i := 3) rfl) ?_
    refine aw_iadd (q := 295) rfl rfl ?_
    obtain ⟨bd_3, h⟩ := h
    refine ag_iaload (q := 296) (N := 120) rfl rfl (SX.a hS rfl) bd_3 ?_
    refine aw_iadd (q := 297) rfl rfl ?_
    refine aw_istore_n (q := 298) (j := 2) (ls' := [(2, .int (x2 + (s.1 163 (((58 + x3)).toNatClampNeg)))), (0, .ref 120), (1, .int x1), (3, .int x3)]) rfl rfl rfl (by decide) rfl ?_
    refine aw_iinc (q := 301) (v := x3 + 1) (ls' := [(3, .int (x3 + 1)), (2, .int (x2 + (s.1 163 (((58 + x3)).toNatClampNeg)))), (0, .ref 120), (1, .int x1)]) rfl rfl (List.mem_of_getElem? (i := 3) rfl) rfl (by decide) rfl ?_
    refine aw_goto (tgt := 273) rfl (by decide) ?_
    refine aw_ls [2, 3, 1, 0] rfl ?_
    exact h
set_option maxRecDepth 20000 in
theorem v_Mo_count {E : EN} {g : GS} {s : MS} {Q : Option Value → SG → Prop} (x1 : Int32) (hS : SX g) (h : ((x1 < 0 ∨ 15 < x1 → Q (some (.int (-1))) (mk g s)) ∧ (x1 = 0 → vp_in (s.1 120 18) 2 ∧ Q (some (.int (s.1 131 (((s.1 120 18)).toNatClampNeg)))) (mk g s)) ∧ (x1 = 1 → vp_in (s.1 120 18) 2 ∧ Q (some (.int (s.1 134 (((s.1 120 18)).toNatClampNeg)))) (mk g s)) ∧ (x1 = 2 → vp_in (s.1 120 18) 2 ∧ Q (some (.int (s.1 137 (((s.1 120 18)).toNatClampNeg)))) (mk g s)) ∧ (x1 = 3 → vp_in (s.1 120 18) 2 ∧ Q (some (.int (s.1 142 (((s.1 120 18)).toNatClampNeg)))) (mk g s)) ∧ (x1 = 4 → vp_in (110 + x1) 120 ∧ Q (some (.int (s.1 162 (((110 + x1)).toNatClampNeg)))) (mk g s)) ∧ (x1 = 5 → vp_in (110 + x1) 120 ∧ Q (some (.int (s.1 162 (((110 + x1)).toNatClampNeg)))) (mk g s)) ∧ (x1 = 6 → vp_in (110 + x1) 120 ∧ Q (some (.int (s.1 162 (((110 + x1)).toNatClampNeg)))) (mk g s)) ∧ (x1 = 7 → vp_in (110 + x1) 120 ∧ Q (some (.int (s.1 162 (((110 + x1)).toNatClampNeg)))) (mk g s)) ∧ (x1 = 8 → AWP E m_Mo_count 134 0 0 [(0, .ref 120), (1, .int x1), (2, .int 0), (3, .int 0)] [] (mk g s) Q) ∧ (x1 = 9 → Q (some (.int (s.1 162 118))) (mk g s)) ∧ (x1 = 10 → Q (some (.int (s.1 162 119))) (mk g s)) ∧ (x1 = 11 → Q (some (.int (s.1 120 2))) (mk g s)) ∧ (x1 = 12 → Q (some (.int (s.1 120 64))) (mk g s)) ∧ (x1 = 13 → Q (some (.int (s.1 120 68))) (mk g s)) ∧ (x1 = 14 → (((s.1 171 0) = 0 → (((s.1 171 1) = 0 → (((s.1 171 2) = 0 → Q (some (.int ((0 + 0) + 0))) (mk g s)) ∧ (¬ (s.1 171 2) = 0 → Q (some (.int ((0 + 0) + 1))) (mk g s)))) ∧ (¬ (s.1 171 1) = 0 → (((s.1 171 2) = 0 → Q (some (.int ((0 + 1) + 0))) (mk g s)) ∧ (¬ (s.1 171 2) = 0 → Q (some (.int ((0 + 1) + 1))) (mk g s)))))) ∧ (¬ (s.1 171 0) = 0 → (((s.1 171 1) = 0 → (((s.1 171 2) = 0 → Q (some (.int ((1 + 0) + 0))) (mk g s)) ∧ (¬ (s.1 171 2) = 0 → Q (some (.int ((1 + 0) + 1))) (mk g s)))) ∧ (¬ (s.1 171 1) = 0 → (((s.1 171 2) = 0 → Q (some (.int ((1 + 1) + 0))) (mk g s)) ∧ (¬ (s.1 171 2) = 0 → Q (some (.int ((1 + 1) + 1))) (mk g s)))))))) ∧ (x1 = 15 → GV E m_Mo_copies [.ref 120] g s (fun t1_ => GI E m_Mo_inHeap [.ref 120] g t1_ (fun y2_ t2_ => GI E m_Mo_inHoles [.ref 120, .int 1] g t2_ (fun y3_ t3_ => GI E m_Mo_inHoles [.ref 120, .int 0] g t3_ (fun y4_ t4_ => AWP E m_Mo_count 273 0 0 [(0, .ref 120), (1, .int x1), (2, .int ((y2_ + y3_) + y4_)), (3, .int 0)] [] (mk g t4_) Q))))))) : AMet E m_Mo_count [.ref 120, .int x1] (mk g s) Q := by
  refine AMet.of (by decide) k_Mo_count [(0, .ref 120), (1, .int x1)] (Nat.le_of_ble_eq_true rfl) rfl ?_
  refine aw_iload_n (q := 1) (j := 1) rfl rfl rfl (List.mem_of_getElem? (i := 1) rfl) ?_
  by_cases cd_1 : x1 < 0 ∨ 15 < x1
  · replace h := h.1 cd_1
    refine aw_tableLt (tgt := 306) rfl (a := 0) (b := 15) (by decide) (by decide) cd_1 (by decide) ?_
    refine aw_iconst (q := 307) (v := (-1)) rfl rfl (by decide) ?_
    exact aw_ireturn (ty := .int) rfl rfl rfl (by decide) (by decide) h
  · obtain ⟨jd_2, hjd_2, ejd_2⟩ := sw_cases 15 15 (fun q => cd_1 (Or.inl q)) (fun q => cd_1 (Or.inr q)) (by decide)
    replace h := h.2
    match jd_2, hjd_2, ejd_2 with
    | 0, _, e => 
      have e : x1 = 0 := Int32.toInt_inj.mp (e.trans (by decide))
      replace h := h.1 e
      refine aw_tableEq (tgt := 80) rfl e (by decide) (by decide) rfl (by decide) ?_
      refine aw_aload_n (q := 81) (j := 0) rfl rfl rfl (List.mem_of_getElem? (i := 0) rfl) ?_
      refine ag_getR (q := 84) (b := 131) rfl rfl fl_Mo_49 rfl (SX.o hS rfl) (SX.r hS rfl) ?_
      refine aw_aload_n (q := 85) (j := 0) rfl rfl rfl (List.mem_of_getElem? (i := 0) rfl) ?_
      refine ag_getI (q := 88) rfl rfl fl_Mo_257 rfl (SX.o hS rfl) ?_
      obtain ⟨bd_3, h⟩ := h
      refine ag_iaload (q := 89) (N := 2) rfl rfl (SX.a hS rfl) bd_3 ?_
      exact aw_ireturn (ty := .int) rfl rfl rfl (by decide) (by decide) h
    | 1, _, e => 
      have e : x1 = 1 := Int32.toInt_inj.mp (e.trans (by decide))
      replace h := h.2.1 e
      refine aw_tableEq (tgt := 90) rfl e (by decide) (by decide) rfl (by decide) ?_
      refine aw_aload_n (q := 91) (j := 0) rfl rfl rfl (List.mem_of_getElem? (i := 0) rfl) ?_
      refine ag_getR (q := 94) (b := 134) rfl rfl fl_Mo_58 rfl (SX.o hS rfl) (SX.r hS rfl) ?_
      refine aw_aload_n (q := 95) (j := 0) rfl rfl rfl (List.mem_of_getElem? (i := 0) rfl) ?_
      refine ag_getI (q := 98) rfl rfl fl_Mo_257 rfl (SX.o hS rfl) ?_
      obtain ⟨bd_4, h⟩ := h
      refine ag_iaload (q := 99) (N := 2) rfl rfl (SX.a hS rfl) bd_4 ?_
      exact aw_ireturn (ty := .int) rfl rfl rfl (by decide) (by decide) h
    | 2, _, e => 
      have e : x1 = 2 := Int32.toInt_inj.mp (e.trans (by decide))
      replace h := h.2.2.1 e
      refine aw_tableEq (tgt := 100) rfl e (by decide) (by decide) rfl (by decide) ?_
      refine aw_aload_n (q := 101) (j := 0) rfl rfl rfl (List.mem_of_getElem? (i := 0) rfl) ?_
      refine ag_getR (q := 104) (b := 137) rfl rfl fl_Mo_67 rfl (SX.o hS rfl) (SX.r hS rfl) ?_
      refine aw_aload_n (q := 105) (j := 0) rfl rfl rfl (List.mem_of_getElem? (i := 0) rfl) ?_
      refine ag_getI (q := 108) rfl rfl fl_Mo_257 rfl (SX.o hS rfl) ?_
      obtain ⟨bd_5, h⟩ := h
      refine ag_iaload (q := 109) (N := 2) rfl rfl (SX.a hS rfl) bd_5 ?_
      exact aw_ireturn (ty := .int) rfl rfl rfl (by decide) (by decide) h
    | 3, _, e => 
      have e : x1 = 3 := Int32.toInt_inj.mp (e.trans (by decide))
      replace h := h.2.2.2.1 e
      refine aw_tableEq (tgt := 110) rfl e (by decide) (by decide) rfl (by decide) ?_
      refine aw_aload_n (q := 111) (j := 0) rfl rfl rfl (List.mem_of_getElem? (i := 0) rfl) ?_
      refine ag_getR (q := 114) (b := 142) rfl rfl fl_Mo_82 rfl (SX.o hS rfl) (SX.r hS rfl) ?_
      refine aw_aload_n (q := 115) (j := 0) rfl rfl rfl (List.mem_of_getElem? (i := 0) rfl) ?_
      refine ag_getI (q := 118) rfl rfl fl_Mo_257 rfl (SX.o hS rfl) ?_
      obtain ⟨bd_6, h⟩ := h
      refine ag_iaload (q := 119) (N := 2) rfl rfl (SX.a hS rfl) bd_6 ?_
      exact aw_ireturn (ty := .int) rfl rfl rfl (by decide) (by decide) h
    | 4, _, e => 
      have e : x1 = 4 := Int32.toInt_inj.mp (e.trans (by decide))
      replace h := h.2.2.2.2.1 e
      refine aw_tableEq (tgt := 120) rfl e (by decide) (by decide) rfl (by decide) ?_
      refine aw_aload_n (q := 121) (j := 0) rfl rfl rfl (List.mem_of_getElem? (i := 0) rfl) ?_
      refine ag_getR (q := 124) (b := 162) rfl rfl fl_Mo_143 rfl (SX.o hS rfl) (SX.r hS rfl) ?_
      refine aw_bipush (q := 126) (v := 110) rfl rfl (by decide) ?_
      refine aw_iload_n (q := 127) (j := 1) rfl rfl rfl (List.mem_of_getElem? (i := 1) rfl) ?_
      refine aw_iadd (q := 128) rfl rfl ?_
      obtain ⟨bd_7, h⟩ := h
      refine ag_iaload (q := 129) (N := 120) rfl rfl (SX.a hS rfl) bd_7 ?_
      exact aw_ireturn (ty := .int) rfl rfl rfl (by decide) (by decide) h
    | 5, _, e => 
      have e : x1 = 5 := Int32.toInt_inj.mp (e.trans (by decide))
      replace h := h.2.2.2.2.2.1 e
      refine aw_tableEq (tgt := 120) rfl e (by decide) (by decide) rfl (by decide) ?_
      refine aw_aload_n (q := 121) (j := 0) rfl rfl rfl (List.mem_of_getElem? (i := 0) rfl) ?_
      refine ag_getR (q := 124) (b := 162) rfl rfl fl_Mo_143 rfl (SX.o hS rfl) (SX.r hS rfl) ?_
      refine aw_bipush (q := 126) (v := 110) rfl rfl (by decide) ?_
      refine aw_iload_n (q := 127) (j := 1) rfl rfl rfl (List.mem_of_getElem? (i := 1) rfl) ?_
      refine aw_iadd (q := 128) rfl rfl ?_
      obtain ⟨bd_8, h⟩ := h
      refine ag_iaload (q := 129) (N := 120) rfl rfl (SX.a hS rfl) bd_8 ?_
      exact aw_ireturn (ty := .int) rfl rfl rfl (by decide) (by decide) h
    | 6, _, e => 
      have e : x1 = 6 := Int32.toInt_inj.mp (e.trans (by decide))
      replace h := h.2.2.2.2.2.2.1 e
      refine aw_tableEq (tgt := 120) rfl e (by decide) (by decide) rfl (by decide) ?_
      refine aw_aload_n (q := 121) (j := 0) rfl rfl rfl (List.mem_of_getElem? (i := 0) rfl) ?_
      refine ag_getR (q := 124) (b := 162) rfl rfl fl_Mo_143 rfl (SX.o hS rfl) (SX.r hS rfl) ?_
      refine aw_bipush (q := 126) (v := 110) rfl rfl (by decide) ?_
      refine aw_iload_n (q := 127) (j := 1) rfl rfl rfl (List.mem_of_getElem? (i := 1) rfl) ?_
      refine aw_iadd (q := 128) rfl rfl ?_
      obtain ⟨bd_9, h⟩ := h
      refine ag_iaload (q := 129) (N := 120) rfl rfl (SX.a hS rfl) bd_9 ?_
      exact aw_ireturn (ty := .int) rfl rfl rfl (by decide) (by decide) h
    | 7, _, e => 
      have e : x1 = 7 := Int32.toInt_inj.mp (e.trans (by decide))
      replace h := h.2.2.2.2.2.2.2.1 e
      refine aw_tableEq (tgt := 120) rfl e (by decide) (by decide) rfl (by decide) ?_
      refine aw_aload_n (q := 121) (j := 0) rfl rfl rfl (List.mem_of_getElem? (i := 0) rfl) ?_
      refine ag_getR (q := 124) (b := 162) rfl rfl fl_Mo_143 rfl (SX.o hS rfl) (SX.r hS rfl) ?_
      refine aw_bipush (q := 126) (v := 110) rfl rfl (by decide) ?_
      refine aw_iload_n (q := 127) (j := 1) rfl rfl rfl (List.mem_of_getElem? (i := 1) rfl) ?_
      refine aw_iadd (q := 128) rfl rfl ?_
      obtain ⟨bd_10, h⟩ := h
      refine ag_iaload (q := 129) (N := 120) rfl rfl (SX.a hS rfl) bd_10 ?_
      exact aw_ireturn (ty := .int) rfl rfl rfl (by decide) (by decide) h
    | 8, _, e => 
      have e : x1 = 8 := Int32.toInt_inj.mp (e.trans (by decide))
      replace h := h.2.2.2.2.2.2.2.2.1 e
      refine aw_tableEq (tgt := 130) rfl e (by decide) (by decide) rfl (by decide) ?_
      refine aw_iconst (q := 131) (v := 0) rfl rfl (by decide) ?_
      refine aw_istore_n (q := 132) (j := 2) (ls' := [(2, .int 0), (0, .ref 120), (1, .int x1)]) rfl rfl rfl (by decide) rfl ?_
      refine aw_iconst (q := 133) (v := 0) rfl rfl (by decide) ?_
      refine aw_istore_n (q := 134) (j := 3) (ls' := [(3, .int 0), (2, .int 0), (0, .ref 120), (1, .int x1)]) rfl rfl rfl (by decide) rfl ?_
      refine aw_ls [2, 3, 1, 0] rfl ?_
      exact h
    | 9, _, e => 
      have e : x1 = 9 := Int32.toInt_inj.mp (e.trans (by decide))
      replace h := h.2.2.2.2.2.2.2.2.2.1 e
      refine aw_tableEq (tgt := 174) rfl e (by decide) (by decide) rfl (by decide) ?_
      refine aw_aload_n (q := 175) (j := 0) rfl rfl rfl (List.mem_of_getElem? (i := 0) rfl) ?_
      refine ag_getR (q := 178) (b := 162) rfl rfl fl_Mo_143 rfl (SX.o hS rfl) (SX.r hS rfl) ?_
      refine aw_bipush (q := 180) (v := 118) rfl rfl (by decide) ?_
      refine ag_iaload (q := 181) (N := 120) rfl rfl (SX.a hS rfl) (by unfold vp_in; decide) ?_
      exact aw_ireturn (ty := .int) rfl rfl rfl (by decide) (by decide) h
    | 10, _, e => 
      have e : x1 = 10 := Int32.toInt_inj.mp (e.trans (by decide))
      replace h := h.2.2.2.2.2.2.2.2.2.2.1 e
      refine aw_tableEq (tgt := 182) rfl e (by decide) (by decide) rfl (by decide) ?_
      refine aw_aload_n (q := 183) (j := 0) rfl rfl rfl (List.mem_of_getElem? (i := 0) rfl) ?_
      refine ag_getR (q := 186) (b := 162) rfl rfl fl_Mo_143 rfl (SX.o hS rfl) (SX.r hS rfl) ?_
      refine aw_bipush (q := 188) (v := 119) rfl rfl (by decide) ?_
      refine ag_iaload (q := 189) (N := 120) rfl rfl (SX.a hS rfl) (by unfold vp_in; decide) ?_
      exact aw_ireturn (ty := .int) rfl rfl rfl (by decide) (by decide) h
    | 11, _, e => 
      have e : x1 = 11 := Int32.toInt_inj.mp (e.trans (by decide))
      replace h := h.2.2.2.2.2.2.2.2.2.2.2.1 e
      refine aw_tableEq (tgt := 190) rfl e (by decide) (by decide) rfl (by decide) ?_
      refine aw_aload_n (q := 191) (j := 0) rfl rfl rfl (List.mem_of_getElem? (i := 0) rfl) ?_
      refine ag_getI (q := 194) rfl rfl fl_Mo_190 rfl (SX.o hS rfl) ?_
      exact aw_ireturn (ty := .int) rfl rfl rfl (by decide) (by decide) h
    | 12, _, e => 
      have e : x1 = 12 := Int32.toInt_inj.mp (e.trans (by decide))
      replace h := h.2.2.2.2.2.2.2.2.2.2.2.2.1 e
      refine aw_tableEq (tgt := 195) rfl e (by decide) (by decide) rfl (by decide) ?_
      refine aw_aload_n (q := 196) (j := 0) rfl rfl rfl (List.mem_of_getElem? (i := 0) rfl) ?_
      refine ag_getI (q := 199) rfl rfl fl_Mo_275 rfl (SX.o hS rfl) ?_
      exact aw_ireturn (ty := .int) rfl rfl rfl (by decide) (by decide) h
    | 13, _, e => 
      have e : x1 = 13 := Int32.toInt_inj.mp (e.trans (by decide))
      replace h := h.2.2.2.2.2.2.2.2.2.2.2.2.2.1 e
      refine aw_tableEq (tgt := 200) rfl e (by decide) (by decide) rfl (by decide) ?_
      refine aw_aload_n (q := 201) (j := 0) rfl rfl rfl (List.mem_of_getElem? (i := 0) rfl) ?_
      refine ag_getI (q := 204) rfl rfl fl_Mo_278 rfl (SX.o hS rfl) ?_
      exact aw_ireturn (ty := .int) rfl rfl rfl (by decide) (by decide) h
    | 14, _, e => 
      have e : x1 = 14 := Int32.toInt_inj.mp (e.trans (by decide))
      replace h := h.2.2.2.2.2.2.2.2.2.2.2.2.2.2.1 e
      refine aw_tableEq (tgt := 205) rfl e (by decide) (by decide) rfl (by decide) ?_
      refine aw_aload_n (q := 206) (j := 0) rfl rfl rfl (List.mem_of_getElem? (i := 0) rfl) ?_
      refine ag_getR (q := 209) (b := 171) rfl rfl fl_Mo_170 rfl (SX.o hS rfl) (SX.r hS rfl) ?_
      refine aw_iconst (q := 210) (v := 0) rfl rfl (by decide) ?_
      refine ag_zaload (q := 211) (N := 3) rfl rfl (SX.a hS rfl) (by unfold vp_in; decide) ?_
      refine aw_if_eq (q := 214) (tgt := 218) rfl rfl (by decide) ⟨fun cd_11 => ?_, fun cd_11 => ?_⟩
      · replace h := h.1 cd_11
        refine aw_iconst (q := 219) (v := 0) rfl rfl (by decide) ?_
        refine aw_aload_n (q := 220) (j := 0) rfl rfl rfl (List.mem_of_getElem? (i := 0) rfl) ?_
        refine ag_getR (q := 223) (b := 171) rfl rfl fl_Mo_170 rfl (SX.o hS rfl) (SX.r hS rfl) ?_
        refine aw_iconst (q := 224) (v := 1) rfl rfl (by decide) ?_
        refine ag_zaload (q := 225) (N := 3) rfl rfl (SX.a hS rfl) (by unfold vp_in; decide) ?_
        refine aw_if_eq (q := 228) (tgt := 232) rfl rfl (by decide) ⟨fun cd_12 => ?_, fun cd_12 => ?_⟩
        · replace h := h.1 cd_12
          refine aw_iconst (q := 233) (v := 0) rfl rfl (by decide) ?_
          refine aw_iadd (q := 234) rfl rfl ?_
          refine aw_aload_n (q := 235) (j := 0) rfl rfl rfl (List.mem_of_getElem? (i := 0) rfl) ?_
          refine ag_getR (q := 238) (b := 171) rfl rfl fl_Mo_170 rfl (SX.o hS rfl) (SX.r hS rfl) ?_
          refine aw_iconst (q := 239) (v := 2) rfl rfl (by decide) ?_
          refine ag_zaload (q := 240) (N := 3) rfl rfl (SX.a hS rfl) (by unfold vp_in; decide) ?_
          refine aw_if_eq (q := 243) (tgt := 247) rfl rfl (by decide) ⟨fun cd_13 => ?_, fun cd_13 => ?_⟩
          · replace h := h.1 cd_13
            refine aw_iconst (q := 248) (v := 0) rfl rfl (by decide) ?_
            refine aw_iadd (q := 249) rfl rfl ?_
            exact aw_ireturn (ty := .int) rfl rfl rfl (by decide) (by decide) h
          · replace h := h.2 cd_13
            refine aw_iconst (q := 244) (v := 1) rfl rfl (by decide) ?_
            refine aw_goto (tgt := 248) rfl (by decide) ?_
            refine aw_iadd (q := 249) rfl rfl ?_
            exact aw_ireturn (ty := .int) rfl rfl rfl (by decide) (by decide) h
        · replace h := h.2 cd_12
          refine aw_iconst (q := 229) (v := 1) rfl rfl (by decide) ?_
          refine aw_goto (tgt := 233) rfl (by decide) ?_
          refine aw_iadd (q := 234) rfl rfl ?_
          refine aw_aload_n (q := 235) (j := 0) rfl rfl rfl (List.mem_of_getElem? (i := 0) rfl) ?_
          refine ag_getR (q := 238) (b := 171) rfl rfl fl_Mo_170 rfl (SX.o hS rfl) (SX.r hS rfl) ?_
          refine aw_iconst (q := 239) (v := 2) rfl rfl (by decide) ?_
          refine ag_zaload (q := 240) (N := 3) rfl rfl (SX.a hS rfl) (by unfold vp_in; decide) ?_
          refine aw_if_eq (q := 243) (tgt := 247) rfl rfl (by decide) ⟨fun cd_14 => ?_, fun cd_14 => ?_⟩
          · replace h := h.1 cd_14
            refine aw_iconst (q := 248) (v := 0) rfl rfl (by decide) ?_
            refine aw_iadd (q := 249) rfl rfl ?_
            exact aw_ireturn (ty := .int) rfl rfl rfl (by decide) (by decide) h
          · replace h := h.2 cd_14
            refine aw_iconst (q := 244) (v := 1) rfl rfl (by decide) ?_
            refine aw_goto (tgt := 248) rfl (by decide) ?_
            refine aw_iadd (q := 249) rfl rfl ?_
            exact aw_ireturn (ty := .int) rfl rfl rfl (by decide) (by decide) h
      · replace h := h.2 cd_11
        refine aw_iconst (q := 215) (v := 1) rfl rfl (by decide) ?_
        refine aw_goto (tgt := 219) rfl (by decide) ?_
        refine aw_aload_n (q := 220) (j := 0) rfl rfl rfl (List.mem_of_getElem? (i := 0) rfl) ?_
        refine ag_getR (q := 223) (b := 171) rfl rfl fl_Mo_170 rfl (SX.o hS rfl) (SX.r hS rfl) ?_
        refine aw_iconst (q := 224) (v := 1) rfl rfl (by decide) ?_
        refine ag_zaload (q := 225) (N := 3) rfl rfl (SX.a hS rfl) (by unfold vp_in; decide) ?_
        refine aw_if_eq (q := 228) (tgt := 232) rfl rfl (by decide) ⟨fun cd_15 => ?_, fun cd_15 => ?_⟩
        · replace h := h.1 cd_15
          refine aw_iconst (q := 233) (v := 0) rfl rfl (by decide) ?_
          refine aw_iadd (q := 234) rfl rfl ?_
          refine aw_aload_n (q := 235) (j := 0) rfl rfl rfl (List.mem_of_getElem? (i := 0) rfl) ?_
          refine ag_getR (q := 238) (b := 171) rfl rfl fl_Mo_170 rfl (SX.o hS rfl) (SX.r hS rfl) ?_
          refine aw_iconst (q := 239) (v := 2) rfl rfl (by decide) ?_
          refine ag_zaload (q := 240) (N := 3) rfl rfl (SX.a hS rfl) (by unfold vp_in; decide) ?_
          refine aw_if_eq (q := 243) (tgt := 247) rfl rfl (by decide) ⟨fun cd_16 => ?_, fun cd_16 => ?_⟩
          · replace h := h.1 cd_16
            refine aw_iconst (q := 248) (v := 0) rfl rfl (by decide) ?_
            refine aw_iadd (q := 249) rfl rfl ?_
            exact aw_ireturn (ty := .int) rfl rfl rfl (by decide) (by decide) h
          · replace h := h.2 cd_16
            refine aw_iconst (q := 244) (v := 1) rfl rfl (by decide) ?_
            refine aw_goto (tgt := 248) rfl (by decide) ?_
            refine aw_iadd (q := 249) rfl rfl ?_
            exact aw_ireturn (ty := .int) rfl rfl rfl (by decide) (by decide) h
        · replace h := h.2 cd_15
          refine aw_iconst (q := 229) (v := 1) rfl rfl (by decide) ?_
          refine aw_goto (tgt := 233) rfl (by decide) ?_
          refine aw_iadd (q := 234) rfl rfl ?_
          refine aw_aload_n (q := 235) (j := 0) rfl rfl rfl (List.mem_of_getElem? (i := 0) rfl) ?_
          refine ag_getR (q := 238) (b := 171) rfl rfl fl_Mo_170 rfl (SX.o hS rfl) (SX.r hS rfl) ?_
          refine aw_iconst (q := 239) (v := 2) rfl rfl (by decide) ?_
          refine ag_zaload (q := 240) (N := 3) rfl rfl (SX.a hS rfl) (by unfold vp_in; decide) ?_
          refine aw_if_eq (q := 243) (tgt := 247) rfl rfl (by decide) ⟨fun cd_17 => ?_, fun cd_17 => ?_⟩
          · replace h := h.1 cd_17
            refine aw_iconst (q := 248) (v := 0) rfl rfl (by decide) ?_
            refine aw_iadd (q := 249) rfl rfl ?_
            exact aw_ireturn (ty := .int) rfl rfl rfl (by decide) (by decide) h
          · replace h := h.2 cd_17
            refine aw_iconst (q := 244) (v := 1) rfl rfl (by decide) ?_
            refine aw_goto (tgt := 248) rfl (by decide) ?_
            refine aw_iadd (q := 249) rfl rfl ?_
            exact aw_ireturn (ty := .int) rfl rfl rfl (by decide) (by decide) h
    | 15, _, e => 
      have e : x1 = 15 := Int32.toInt_inj.mp (e.trans (by decide))
      replace h := h.2.2.2.2.2.2.2.2.2.2.2.2.2.2.2 e
      refine aw_tableEq (tgt := 250) rfl e (by decide) (by decide) rfl (by decide) ?_
      refine aw_aload_n (q := 251) (j := 0) rfl rfl rfl (List.mem_of_getElem? (i := 0) rfl) ?_
      refine ag_cvV (z := m_Mo_copies) (ci := 11) (av := []) (st := []) (q := 254) (k' := 0) (n' := 0) rfl rfl cv_Mo_395 ⟨by decide, by decide⟩ rfl rfl (by decide) (by decide) (SX.o hS rfl) rfl rfl rfl (Nat.le_of_ble_eq_true rfl) ?_
      refine GV.mono h (fun t1_ h => ?_)
      refine aw_aload_n (q := 255) (j := 0) rfl rfl rfl (List.mem_of_getElem? (i := 0) rfl) ?_
      refine ag_cvI (z := m_Mo_inHeap) (ci := 11) (av := []) (st := []) (q := 258) (k' := 0) (n' := 0) rfl rfl cv_Mo_435 ⟨by decide, by decide⟩ rfl rfl (by decide) (by decide) (SX.o hS rfl) rfl rfl rfl (Nat.le_of_ble_eq_true rfl) ?_
      refine GI.mono h (fun y2_ t2_ h => ?_)
      refine aw_aload_n (q := 259) (j := 0) rfl rfl rfl (List.mem_of_getElem? (i := 0) rfl) ?_
      refine aw_iconst (q := 260) (v := 1) rfl rfl (by decide) ?_
      refine ag_cvI (z := m_Mo_inHoles) (ci := 11) (av := [.int 1]) (st := [.int y2_]) (q := 263) (k' := 0) (n' := 0) rfl rfl cv_Mo_438 ⟨by decide, by decide⟩ rfl rfl (by decide) (by decide) (SX.o hS rfl) rfl rfl rfl (Nat.le_of_ble_eq_true rfl) ?_
      refine GI.mono h (fun y3_ t3_ h => ?_)
      refine aw_iadd (q := 264) rfl rfl ?_
      refine aw_aload_n (q := 265) (j := 0) rfl rfl rfl (List.mem_of_getElem? (i := 0) rfl) ?_
      refine aw_iconst (q := 266) (v := 0) rfl rfl (by decide) ?_
      refine ag_cvI (z := m_Mo_inHoles) (ci := 11) (av := [.int 0]) (st := [.int (y2_ + y3_)]) (q := 269) (k' := 0) (n' := 0) rfl rfl cv_Mo_438 ⟨by decide, by decide⟩ rfl rfl (by decide) (by decide) (SX.o hS rfl) rfl rfl rfl (Nat.le_of_ble_eq_true rfl) ?_
      refine GI.mono h (fun y4_ t4_ h => ?_)
      refine aw_iadd (q := 270) rfl rfl ?_
      refine aw_istore_n (q := 271) (j := 2) (ls' := [(2, .int ((y2_ + y3_) + y4_)), (0, .ref 120), (1, .int x1)]) rfl rfl rfl (by decide) rfl ?_
      refine aw_iconst (q := 272) (v := 0) rfl rfl (by decide) ?_
      refine aw_istore_n (q := 273) (j := 3) (ls' := [(3, .int 0), (2, .int ((y2_ + y3_) + y4_)), (0, .ref 120), (1, .int x1)]) rfl rfl rfl (by decide) rfl ?_
      refine aw_ls [2, 3, 1, 0] rfl ?_
      exact h
    | j + 16, hj, _ => exact absurd hj (by omega)
