/-! walks of the methods, by program (vcgen.py) -/
set_option maxRecDepth 20000 in
theorem v_Mo_count_134 {E : EN} {g : GS} {s : MS} {Q : Option Value → SG → Prop} (x1 : Int32) (x2 : Int32) (x3 : Int32) (hS : SX g) (h : vp_in (s.1 120 18) 2 ∧ (((s.1 137 (((s.1 120 18)).toNatClampNeg)) ≤ x3 → Q (some (.int x2)) (mk g s)) ∧ (¬ (s.1 137 (((s.1 120 18)).toNatClampNeg)) ≤ x3 → vp_in (42 + x3) 120 ∧ (((s.1 162 (((42 + x3)).toNatClampNeg)) = 3 → AWP E m_Mo_count 134 0 0 [(0, .ref 120), (1, .int x1), (2, .int (x2 ||| (1 <<< (x3 &&& 31)))), (3, .int (x3 + 1))] [] (mk g s) Q) ∧ (¬ (s.1 162 (((42 + x3)).toNatClampNeg)) = 3 → AWP E m_Mo_count 134 0 0 [(0, .ref 120), (1, .int x1), (2, .int x2), (3, .int (x3 + 1))] [] (mk g s) Q))))) : AWP E m_Mo_count 134 0 0 [(0, .ref 120), (1, .int x1), (2, .int x2), (3, .int x3)] [] (mk g s) Q := by
  refine aw_iload_n (q := 135) (j := 3) rfl rfl rfl (List.mem_of_getElem? (i := 3) rfl) ?_
  refine aw_aload_n (q := 136) (j := 0) rfl rfl rfl (List.mem_of_getElem? (i := 0) rfl) ?_
  refine ag_getR (q := 139) rfl rfl fl_Mo_67 rfl (SX.o hS rfl) (SX.r hS rfl) ?_
  refine aw_aload_n (q := 140) (j := 0) rfl rfl rfl (List.mem_of_getElem? (i := 0) rfl) ?_
  refine ag_getI (q := 143) rfl rfl fl_Mo_257 rfl (SX.o hS rfl) ?_
  obtain ⟨bd_1, h⟩ := h
  refine ag_iaload (q := 144) (N := 2) rfl rfl (SX.a hS rfl) bd_1 ?_
  refine aw_icmp_ge (q := 147) (tgt := 172) rfl rfl (by decide) ⟨fun cd_2 => ?_, fun cd_2 => ?_⟩
  · replace h := h.1 cd_2
    refine aw_iload_n (q := 173) (j := 2) rfl rfl rfl (List.mem_of_getElem? (i := 2) rfl) ?_
    exact aw_ireturn (ty := .int) rfl rfl rfl (by decide) (by decide) h
  · replace h := h.2 cd_2
    refine aw_aload_n (q := 148) (j := 0) rfl rfl rfl (List.mem_of_getElem? (i := 0) rfl) ?_
    refine ag_getR (q := 151) rfl rfl fl_Mo_143 rfl (SX.o hS rfl) (SX.r hS rfl) ?_
    refine aw_bipush (q := 153) (v := 42) rfl rfl (by decide) ?_
    refine aw_iload_n (q := 154) (j := 3) rfl rfl rfl (List.mem_of_getElem? (i := 3) rfl) ?_
    refine aw_iadd (q := 155) rfl rfl ?_
    obtain ⟨bd_3, h⟩ := h
    refine ag_iaload (q := 156) (N := 120) rfl rfl (SX.a hS rfl) bd_3 ?_
    refine aw_iconst (q := 157) (v := 3) rfl rfl (by decide) ?_
    refine aw_icmp_ne (q := 160) (tgt := 166) rfl rfl (by decide) ⟨fun cd_4 => ?_, fun cd_4 => ?_⟩
    · replace h := h.1 cd_4
      refine aw_iload_n (q := 161) (j := 2) rfl rfl rfl (List.mem_of_getElem? (i := 2) rfl) ?_
      refine aw_iconst (q := 162) (v := 1) rfl rfl (by decide) ?_
      refine aw_iload_n (q := 163) (j := 3) rfl rfl rfl (List.mem_of_getElem? (i := 3) rfl) ?_
      refine aw_ishl (q := 164) rfl rfl ?_
      refine aw_ior (q := 165) rfl rfl ?_
      refine aw_istore_n (q := 166) (j := 2) (ls' := [(2, .int _), (0, .ref _), (1, .int _), (3, .int _)]) rfl rfl rfl (by decide) rfl ?_
      refine aw_iinc (q := 169) (v := _ + 1) (ls' := [(3, .int _), (2, .int _), (0, .ref _), (1, .int _)]) rfl rfl (List.mem_of_getElem? (i := 3) rfl) rfl (by decide) rfl ?_
      refine aw_goto (tgt := 134) rfl (by decide) ?_
      refine aw_ls [2, 3, 1, 0] rfl ?_
      exact h
    · replace h := h.2 cd_4
      refine aw_iinc (q := 169) (v := _ + 1) (ls' := [(3, .int _), (0, .ref _), (1, .int _), (2, .int _)]) rfl rfl (List.mem_of_getElem? (i := 3) rfl) rfl (by decide) rfl ?_
      refine aw_goto (tgt := 134) rfl (by decide) ?_
      refine aw_ls [1, 2, 3, 0] rfl ?_
      exact h
set_option maxRecDepth 20000 in
theorem v_Mo_count_273 {E : EN} {g : GS} {s : MS} {Q : Option Value → SG → Prop} (x1 : Int32) (x2 : Int32) (x3 : Int32) (hS : SX g) (h : vp_in (s.1 120 18) 2 ∧ (((s.1 137 (((s.1 120 18)).toNatClampNeg)) ≤ x3 → Q (some (.int x2)) (mk g s)) ∧ (¬ (s.1 137 (((s.1 120 18)).toNatClampNeg)) ≤ x3 → vp_in (58 + x3) 120 ∧ AWP E m_Mo_count 273 0 0 [(0, .ref 120), (1, .int x1), (2, .int (x2 + (s.1 163 (((58 + x3)).toNatClampNeg)))), (3, .int (x3 + 1))] [] (mk g s) Q))) : AWP E m_Mo_count 273 0 0 [(0, .ref 120), (1, .int x1), (2, .int x2), (3, .int x3)] [] (mk g s) Q := by
  refine aw_iload_n (q := 274) (j := 3) rfl rfl rfl (List.mem_of_getElem? (i := 3) rfl) ?_
  refine aw_aload_n (q := 275) (j := 0) rfl rfl rfl (List.mem_of_getElem? (i := 0) rfl) ?_
  refine ag_getR (q := 278) rfl rfl fl_Mo_67 rfl (SX.o hS rfl) (SX.r hS rfl) ?_
  refine aw_aload_n (q := 279) (j := 0) rfl rfl rfl (List.mem_of_getElem? (i := 0) rfl) ?_
  refine ag_getI (q := 282) rfl rfl fl_Mo_257 rfl (SX.o hS rfl) ?_
  obtain ⟨bd_1, h⟩ := h
  refine ag_iaload (q := 283) (N := 2) rfl rfl (SX.a hS rfl) bd_1 ?_
  refine aw_icmp_ge (q := 286) (tgt := 304) rfl rfl (by decide) ⟨fun cd_2 => ?_, fun cd_2 => ?_⟩
  · replace h := h.1 cd_2
    refine aw_iload_n (q := 305) (j := 2) rfl rfl rfl (List.mem_of_getElem? (i := 2) rfl) ?_
    exact aw_ireturn (ty := .int) rfl rfl rfl (by decide) (by decide) h
  · replace h := h.2 cd_2
    refine aw_iload_n (q := 287) (j := 2) rfl rfl rfl (List.mem_of_getElem? (i := 2) rfl) ?_
    refine aw_aload_n (q := 288) (j := 0) rfl rfl rfl (List.mem_of_getElem? (i := 0) rfl) ?_
    refine ag_getR (q := 291) rfl rfl fl_Mo_146 rfl (SX.o hS rfl) (SX.r hS rfl) ?_
    refine aw_bipush (q := 293) (v := 58) rfl rfl (by decide) ?_
    refine aw_iload_n (q := 294) (j := 3) rfl rfl rfl (List.mem_of_getElem? (i := 3) rfl) ?_
    refine aw_iadd (q := 295) rfl rfl ?_
    obtain ⟨bd_3, h⟩ := h
    refine ag_iaload (q := 296) (N := 120) rfl rfl (SX.a hS rfl) bd_3 ?_
    refine aw_iadd (q := 297) rfl rfl ?_
    refine aw_istore_n (q := 298) (j := 2) (ls' := [(2, .int _), (0, .ref _), (1, .int _), (3, .int _)]) rfl rfl rfl (by decide) rfl ?_
    refine aw_iinc (q := 301) (v := _ + 1) (ls' := [(3, .int _), (2, .int _), (0, .ref _), (1, .int _)]) rfl rfl (List.mem_of_getElem? (i := 3) rfl) rfl (by decide) rfl ?_
    refine aw_goto (tgt := 273) rfl (by decide) ?_
    refine aw_ls [2, 3, 1, 0] rfl ?_
    exact h
set_option maxRecDepth 20000 in
theorem v_Mo_count {E : EN} {g : GS} {s : MS} {Q : Option Value → SG → Prop} (x1 : Int32) (hS : SX g) (h : ((x1 < 0 ∨ 15 < x1 → Q (some (.int (-1))) (mk g s)) ∧ (x1 = 0 → vp_in (s.1 120 18) 2 ∧ Q (some (.int (s.1 131 (((s.1 120 18)).toNatClampNeg)))) (mk g s)) ∧ (x1 = 1 → vp_in (s.1 120 18) 2 ∧ Q (some (.int (s.1 134 (((s.1 120 18)).toNatClampNeg)))) (mk g s)) ∧ (x1 = 2 → vp_in (s.1 120 18) 2 ∧ Q (some (.int (s.1 137 (((s.1 120 18)).toNatClampNeg)))) (mk g s)) ∧ (x1 = 3 → vp_in (s.1 120 18) 2 ∧ Q (some (.int (s.1 142 (((s.1 120 18)).toNatClampNeg)))) (mk g s)) ∧ (x1 = 4 → vp_in (110 + x1) 120 ∧ Q (some (.int (s.1 162 (((110 + x1)).toNatClampNeg)))) (mk g s)) ∧ (x1 = 5 → vp_in (110 + x1) 120 ∧ Q (some (.int (s.1 162 (((110 + x1)).toNatClampNeg)))) (mk g s)) ∧ (x1 = 6 → vp_in (110 + x1) 120 ∧ Q (some (.int (s.1 162 (((110 + x1)).toNatClampNeg)))) (mk g s)) ∧ (x1 = 7 → vp_in (110 + x1) 120 ∧ Q (some (.int (s.1 162 (((110 + x1)).toNatClampNeg)))) (mk g s)) ∧ (x1 = 8 → AWP E m_Mo_count 134 0 0 [(0, .ref 120), (1, .int x1), (2, .int 0), (3, .int 0)] [] (mk g s) Q) ∧ (x1 = 9 → Q (some (.int (s.1 162 118))) (mk g s)) ∧ (x1 = 10 → Q (some (.int (s.1 162 119))) (mk g s)) ∧ (x1 = 11 → Q (some (.int (s.1 120 2))) (mk g s)) ∧ (x1 = 12 → Q (some (.int (s.1 120 64))) (mk g s)) ∧ (x1 = 13 → Q (some (.int (s.1 120 68))) (mk g s)) ∧ (x1 = 14 → (((s.1 171 0) = 0 → (((s.1 171 1) = 0 → (((s.1 171 2) = 0 → Q (some (.int ((0 + 0) + 0))) (mk g s)) ∧ (¬ (s.1 171 2) = 0 → Q (some (.int ((0 + 0) + 1))) (mk g s)))) ∧ (¬ (s.1 171 1) = 0 → (((s.1 171 2) = 0 → Q (some (.int ((0 + 1) + 0))) (mk g s)) ∧ (¬ (s.1 171 2) = 0 → Q (some (.int ((0 + 1) + 1))) (mk g s)))))) ∧ (¬ (s.1 171 0) = 0 → (((s.1 171 1) = 0 → (((s.1 171 2) = 0 → Q (some (.int ((1 + 0) + 0))) (mk g s)) ∧ (¬ (s.1 171 2) = 0 → Q (some (.int ((1 + 0) + 1))) (mk g s)))) ∧ (¬ (s.1 171 1) = 0 → (((s.1 171 2) = 0 → Q (some (.int ((1 + 1) + 0))) (mk g s)) ∧ (¬ (s.1 171 2) = 0 → Q (some (.int ((1 + 1) + 1))) (mk g s)))))))) ∧ (x1 = 15 → GV E m_Mo_copies [.ref 120] g s (fun t1_ => GI E m_Mo_inHeap [.ref 120] g t1_ (fun y2_ t2_ => GI E m_Mo_inHoles [.ref 120, .int 1] g t2_ (fun y3_ t3_ => GI E m_Mo_inHoles [.ref 120, .int 0] g t3_ (fun y4_ t4_ => AWP E m_Mo_count 273 0 0 [(0, .ref 120), (1, .int x1), (2, .int ((y2_ + y3_) + y4_)), (3, .int 0)] [] (mk g t4_) Q))))))) : AMet E m_Mo_count [.ref 120, .int x1] (mk g s) Q := by
  refine AMet.of (by decide) k_Mo_count [(0, .ref 120), (1, .int x1)] (Nat.le_of_ble_eq_true rfl) rfl ?_
  refine aw_iload_n (q := 1) (j := 1) rfl rfl rfl (List.mem_of_getElem? (i := 1) rfl) ?_
  by_cases cd_1 : x1 < 0 ∨ 15 < x1
  · replace h := h.1 cd_1
    refine aw_tableLt (tgt := 306) rfl (a := 0) (b := 15) (by decide) (by decide) cd_1 (by decide) ?_
    refine aw_iconst (q := 307) (v := (-1)) rfl rfl (by decide) ?_
    exact aw_ireturn (ty := .int) rfl rfl rfl (by decide) (by decide) h
  · obtain ⟨jd_2, hjd_2, ejd_2⟩ := sw_cases 15 15 (fun q => cd_1 (Or.inl q)) (fun q => cd_1 (Or.inr q)) (by decide)
    replace h := h.2
    match jd_2, hjd_2, ejd_2 with
    | 0, _, e => 
      have e : x1 = 0 := Int32.toInt_inj.mp (e.trans (by decide))
      replace h := h.1 e
      refine aw_tableEq (tgt := 80) rfl e (by decide) (by decide) rfl (by decide) ?_
      refine aw_aload_n (q := 81) (j := 0) rfl rfl rfl (List.mem_of_getElem? (i := 0) rfl) ?_
      refine ag_getR (q := 84) rfl rfl fl_Mo_49 rfl (SX.o hS rfl) (SX.r hS rfl) ?_
      refine aw_aload_n (q := 85) (j := 0) rfl rfl rfl (List.mem_of_getElem? (i := 0) rfl) ?_
      refine ag_getI (q := 88) rfl rfl fl_Mo_257 rfl (SX.o hS rfl) ?_
      obtain ⟨bd_3, h⟩ := h
      refine ag_iaload (q := 89) (N := 2) rfl rfl (SX.a hS rfl) bd_3 ?_
      exact aw_ireturn (ty := .int) rfl rfl rfl (by decide) (by decide) h
    | 1, _, e => 
      have e : x1 = 1 := Int32.toInt_inj.mp (e.trans (by decide))
      replace h := h.2.1 e
      refine aw_tableEq (tgt := 90) rfl e (by decide) (by decide) rfl (by decide) ?_
      refine aw_aload_n (q := 91) (j := 0) rfl rfl rfl (List.mem_of_getElem? (i := 0) rfl) ?_
      refine ag_getR (q := 94) rfl rfl fl_Mo_58 rfl (SX.o hS rfl) (SX.r hS rfl) ?_
      refine aw_aload_n (q := 95) (j := 0) rfl rfl rfl (List.mem_of_getElem? (i := 0) rfl) ?_
      refine ag_getI (q := 98) rfl rfl fl_Mo_257 rfl (SX.o hS rfl) ?_
      obtain ⟨bd_4, h⟩ := h
      refine ag_iaload (q := 99) (N := 2) rfl rfl (SX.a hS rfl) bd_4 ?_
      exact aw_ireturn (ty := .int) rfl rfl rfl (by decide) (by decide) h
    | 2, _, e => 
      have e : x1 = 2 := Int32.toInt_inj.mp (e.trans (by decide))
      replace h := h.2.2.1 e
      refine aw_tableEq (tgt := 100) rfl e (by decide) (by decide) rfl (by decide) ?_
      refine aw_aload_n (q := 101) (j := 0) rfl rfl rfl (List.mem_of_getElem? (i := 0) rfl) ?_
      refine ag_getR (q := 104) rfl rfl fl_Mo_67 rfl (SX.o hS rfl) (SX.r hS rfl) ?_
      refine aw_aload_n (q := 105) (j := 0) rfl rfl rfl (List.mem_of_getElem? (i := 0) rfl) ?_
      refine ag_getI (q := 108) rfl rfl fl_Mo_257 rfl (SX.o hS rfl) ?_
      obtain ⟨bd_5, h⟩ := h
      refine ag_iaload (q := 109) (N := 2) rfl rfl (SX.a hS rfl) bd_5 ?_
      exact aw_ireturn (ty := .int) rfl rfl rfl (by decide) (by decide) h
    | 3, _, e => 
      have e : x1 = 3 := Int32.toInt_inj.mp (e.trans (by decide))
      replace h := h.2.2.2.1 e
      refine aw_tableEq (tgt := 110) rfl e (by decide) (by decide) rfl (by decide) ?_
      refine aw_aload_n (q := 111) (j := 0) rfl rfl rfl (List.mem_of_getElem? (i := 0) rfl) ?_
      refine ag_getR (q := 114) rfl rfl fl_Mo_82 rfl (SX.o hS rfl) (SX.r hS rfl) ?_
      refine aw_aload_n (q := 115) (j := 0) rfl rfl rfl (List.mem_of_getElem? (i := 0) rfl) ?_
      refine ag_getI (q := 118) rfl rfl fl_Mo_257 rfl (SX.o hS rfl) ?_
      obtain ⟨bd_6, h⟩ := h
      refine ag_iaload (q := 119) (N := 2) rfl rfl (SX.a hS rfl) bd_6 ?_
      exact aw_ireturn (ty := .int) rfl rfl rfl (by decide) (by decide) h
    | 4, _, e => 
      have e : x1 = 4 := Int32.toInt_inj.mp (e.trans (by decide))
      replace h := h.2.2.2.2.1 e
      refine aw_tableEq (tgt := 120) rfl e (by decide) (by decide) rfl (by decide) ?_
      refine aw_aload_n (q := 121) (j := 0) rfl rfl rfl (List.mem_of_getElem? (i := 0) rfl) ?_
      refine ag_getR (q := 124) rfl rfl fl_Mo_143 rfl (SX.o hS rfl) (SX.r hS rfl) ?_
      refine aw_bipush (q := 126) (v := 110) rfl rfl (by decide) ?_
      refine aw_iload_n (q := 127) (j := 1) rfl rfl rfl (List.mem_of_getElem? (i := 1) rfl) ?_
      refine aw_iadd (q := 128) rfl rfl ?_
      obtain ⟨bd_7, h⟩ := h
      refine ag_iaload (q := 129) (N := 120) rfl rfl (SX.a hS rfl) bd_7 ?_
      exact aw_ireturn (ty := .int) rfl rfl rfl (by decide) (by decide) h
    | 5, _, e => 
      have e : x1 = 5 := Int32.toInt_inj.mp (e.trans (by decide))
      replace h := h.2.2.2.2.2.1 e
      refine aw_tableEq (tgt := 120) rfl e (by decide) (by decide) rfl (by decide) ?_
      refine aw_aload_n (q := 121) (j := 0) rfl rfl rfl (List.mem_of_getElem? (i := 0) rfl) ?_
      refine ag_getR (q := 124) rfl rfl fl_Mo_143 rfl (SX.o hS rfl) (SX.r hS rfl) ?_
      refine aw_bipush (q := 126) (v := 110) rfl rfl (by decide) ?_
      refine aw_iload_n (q := 127) (j := 1) rfl rfl rfl (List.mem_of_getElem? (i := 1) rfl) ?_
      refine aw_iadd (q := 128) rfl rfl ?_
      obtain ⟨bd_8, h⟩ := h
      refine ag_iaload (q := 129) (N := 120) rfl rfl (SX.a hS rfl) bd_8 ?_
      exact aw_ireturn (ty := .int) rfl rfl rfl (by decide) (by decide) h
    | 6, _, e => 
      have e : x1 = 6 := Int32.toInt_inj.mp (e.trans (by decide))
      replace h := h.2.2.2.2.2.2.1 e
      refine aw_tableEq (tgt := 120) rfl e (by decide) (by decide) rfl (by decide) ?_
      refine aw_aload_n (q := 121) (j := 0) rfl rfl rfl (List.mem_of_getElem? (i := 0) rfl) ?_
      refine ag_getR (q := 124) rfl rfl fl_Mo_143 rfl (SX.o hS rfl) (SX.r hS rfl) ?_
      refine aw_bipush (q := 126) (v := 110) rfl rfl (by decide) ?_
      refine aw_iload_n (q := 127) (j := 1) rfl rfl rfl (List.mem_of_getElem? (i := 1) rfl) ?_
      refine aw_iadd (q := 128) rfl rfl ?_
      obtain ⟨bd_9, h⟩ := h
      refine ag_iaload (q := 129) (N := 120) rfl rfl (SX.a hS rfl) bd_9 ?_
      exact aw_ireturn (ty := .int) rfl rfl rfl (by decide) (by decide) h
    | 7, _, e => 
      have e : x1 = 7 := Int32.toInt_inj.mp (e.trans (by decide))
      replace h := h.2.2.2.2.2.2.2.1 e
      refine aw_tableEq (tgt := 120) rfl e (by decide) (by decide) rfl (by decide) ?_
      refine aw_aload_n (q := 121) (j := 0) rfl rfl rfl (List.mem_of_getElem? (i := 0) rfl) ?_
      refine ag_getR (q := 124) rfl rfl fl_Mo_143 rfl (SX.o hS rfl) (SX.r hS rfl) ?_
      refine aw_bipush (q := 126) (v := 110) rfl rfl (by decide) ?_
      refine aw_iload_n (q := 127) (j := 1) rfl rfl rfl (List.mem_of_getElem? (i := 1) rfl) ?_
      refine aw_iadd (q := 128) rfl rfl ?_
      obtain ⟨bd_10, h⟩ := h
      refine ag_iaload (q := 129) (N := 120) rfl rfl (SX.a hS rfl) bd_10 ?_
      exact aw_ireturn (ty := .int) rfl rfl rfl (by decide) (by decide) h
    | 8, _, e => 
      have e : x1 = 8 := Int32.toInt_inj.mp (e.trans (by decide))
      replace h := h.2.2.2.2.2.2.2.2.1 e
      refine aw_tableEq (tgt := 130) rfl e (by decide) (by decide) rfl (by decide) ?_
      refine aw_iconst (q := 131) (v := 0) rfl rfl (by decide) ?_
      refine aw_istore_n (q := 132) (j := 2) (ls' := [(2, .int _), (0, .ref _), (1, .int _)]) rfl rfl rfl (by decide) rfl ?_
      refine aw_iconst (q := 133) (v := 0) rfl rfl (by decide) ?_
      refine aw_istore_n (q := 134) (j := 3) (ls' := [(3, .int _), (2, .int _), (0, .ref _), (1, .int _)]) rfl rfl rfl (by decide) rfl ?_
      refine aw_ls [2, 3, 1, 0] rfl ?_
      exact h
    | 9, _, e => 
      have e : x1 = 9 := Int32.toInt_inj.mp (e.trans (by decide))
      replace h := h.2.2.2.2.2.2.2.2.2.1 e
      refine aw_tableEq (tgt := 174) rfl e (by decide) (by decide) rfl (by decide) ?_
      refine aw_aload_n (q := 175) (j := 0) rfl rfl rfl (List.mem_of_getElem? (i := 0) rfl) ?_
      refine ag_getR (q := 178) rfl rfl fl_Mo_143 rfl (SX.o hS rfl) (SX.r hS rfl) ?_
      refine aw_bipush (q := 180) (v := 118) rfl rfl (by decide) ?_
      refine ag_iaload (q := 181) (N := 120) rfl rfl (SX.a hS rfl) (by unfold vp_in; decide) ?_
      exact aw_ireturn (ty := .int) rfl rfl rfl (by decide) (by decide) h
    | 10, _, e => 
      have e : x1 = 10 := Int32.toInt_inj.mp (e.trans (by decide))
      replace h := h.2.2.2.2.2.2.2.2.2.2.1 e
      refine aw_tableEq (tgt := 182) rfl e (by decide) (by decide) rfl (by decide) ?_
      refine aw_aload_n (q := 183) (j := 0) rfl rfl rfl (List.mem_of_getElem? (i := 0) rfl) ?_
      refine ag_getR (q := 186) rfl rfl fl_Mo_143 rfl (SX.o hS rfl) (SX.r hS rfl) ?_
      refine aw_bipush (q := 188) (v := 119) rfl rfl (by decide) ?_
      refine ag_iaload (q := 189) (N := 120) rfl rfl (SX.a hS rfl) (by unfold vp_in; decide) ?_
      exact aw_ireturn (ty := .int) rfl rfl rfl (by decide) (by decide) h
    | 11, _, e => 
      have e : x1 = 11 := Int32.toInt_inj.mp (e.trans (by decide))
      replace h := h.2.2.2.2.2.2.2.2.2.2.2.1 e
      refine aw_tableEq (tgt := 190) rfl e (by decide) (by decide) rfl (by decide) ?_
      refine aw_aload_n (q := 191) (j := 0) rfl rfl rfl (List.mem_of_getElem? (i := 0) rfl) ?_
      refine ag_getI (q := 194) rfl rfl fl_Mo_190 rfl (SX.o hS rfl) ?_
      exact aw_ireturn (ty := .int) rfl rfl rfl (by decide) (by decide) h
    | 12, _, e => 
      have e : x1 = 12 := Int32.toInt_inj.mp (e.trans (by decide))
      replace h := h.2.2.2.2.2.2.2.2.2.2.2.2.1 e
      refine aw_tableEq (tgt := 195) rfl e (by decide) (by decide) rfl (by decide) ?_
      refine aw_aload_n (q := 196) (j := 0) rfl rfl rfl (List.mem_of_getElem? (i := 0) rfl) ?_
      refine ag_getI (q := 199) rfl rfl fl_Mo_275 rfl (SX.o hS rfl) ?_
      exact aw_ireturn (ty := .int) rfl rfl rfl (by decide) (by decide) h
    | 13, _, e => 
      have e : x1 = 13 := Int32.toInt_inj.mp (e.trans (by decide))
      replace h := h.2.2.2.2.2.2.2.2.2.2.2.2.2.1 e
      refine aw_tableEq (tgt := 200) rfl e (by decide) (by decide) rfl (by decide) ?_
      refine aw_aload_n (q := 201) (j := 0) rfl rfl rfl (List.mem_of_getElem? (i := 0) rfl) ?_
      refine ag_getI (q := 204) rfl rfl fl_Mo_278 rfl (SX.o hS rfl) ?_
      exact aw_ireturn (ty := .int) rfl rfl rfl (by decide) (by decide) h
    | 14, _, e => 
      have e : x1 = 14 := Int32.toInt_inj.mp (e.trans (by decide))
      replace h := h.2.2.2.2.2.2.2.2.2.2.2.2.2.2.1 e
      refine aw_tableEq (tgt := 205) rfl e (by decide) (by decide) rfl (by decide) ?_
      refine aw_aload_n (q := 206) (j := 0) rfl rfl rfl (List.mem_of_getElem? (i := 0) rfl) ?_
      refine ag_getR (q := 209) rfl rfl fl_Mo_170 rfl (SX.o hS rfl) (SX.r hS rfl) ?_
      refine aw_iconst (q := 210) (v := 0) rfl rfl (by decide) ?_
      refine ag_zaload (q := 211) (N := 3) rfl rfl (SX.a hS rfl) (by unfold vp_in; decide) ?_
      refine aw_if_eq (q := 214) (tgt := 218) rfl rfl (by decide) ⟨fun cd_11 => ?_, fun cd_11 => ?_⟩
      · replace h := h.1 cd_11
        refine aw_iconst (q := 219) (v := 0) rfl rfl (by decide) ?_
        refine aw_aload_n (q := 220) (j := 0) rfl rfl rfl (List.mem_of_getElem? (i := 0) rfl) ?_
        refine ag_getR (q := 223) rfl rfl fl_Mo_170 rfl (SX.o hS rfl) (SX.r hS rfl) ?_
        refine aw_iconst (q := 224) (v := 1) rfl rfl (by decide) ?_
        refine ag_zaload (q := 225) (N := 3) rfl rfl (SX.a hS rfl) (by unfold vp_in; decide) ?_
        refine aw_if_eq (q := 228) (tgt := 232) rfl rfl (by decide) ⟨fun cd_12 => ?_, fun cd_12 => ?_⟩
        · replace h := h.1 cd_12
          refine aw_iconst (q := 233) (v := 0) rfl rfl (by decide) ?_
          refine aw_iadd (q := 234) rfl rfl ?_
          refine aw_aload_n (q := 235) (j := 0) rfl rfl rfl (List.mem_of_getElem? (i := 0) rfl) ?_
          refine ag_getR (q := 238) rfl rfl fl_Mo_170 rfl (SX.o hS rfl) (SX.r hS rfl) ?_
          refine aw_iconst (q := 239) (v := 2) rfl rfl (by decide) ?_
          refine ag_zaload (q := 240) (N := 3) rfl rfl (SX.a hS rfl) (by unfold vp_in; decide) ?_
          refine aw_if_eq (q := 243) (tgt := 247) rfl rfl (by decide) ⟨fun cd_13 => ?_, fun cd_13 => ?_⟩
          · replace h := h.1 cd_13
            refine aw_iconst (q := 248) (v := 0) rfl rfl (by decide) ?_
            refine aw_iadd (q := 249) rfl rfl ?_
            exact aw_ireturn (ty := .int) rfl rfl rfl (by decide) (by decide) h
          · replace h := h.2 cd_13
            refine aw_iconst (q := 244) (v := 1) rfl rfl (by decide) ?_
            refine aw_goto (tgt := 248) rfl (by decide) ?_
            refine aw_iadd (q := 249) rfl rfl ?_
            exact aw_ireturn (ty := .int) rfl rfl rfl (by decide) (by decide) h
        · replace h := h.2 cd_12
          refine aw_iconst (q := 229) (v := 1) rfl rfl (by decide) ?_
          refine aw_goto (tgt := 233) rfl (by decide) ?_
          refine aw_iadd (q := 234) rfl rfl ?_
          refine aw_aload_n (q := 235) (j := 0) rfl rfl rfl (List.mem_of_getElem? (i := 0) rfl) ?_
          refine ag_getR (q := 238) rfl rfl fl_Mo_170 rfl (SX.o hS rfl) (SX.r hS rfl) ?_
          refine aw_iconst (q := 239) (v := 2) rfl rfl (by decide) ?_
          refine ag_zaload (q := 240) (N := 3) rfl rfl (SX.a hS rfl) (by unfold vp_in; decide) ?_
          refine aw_if_eq (q := 243) (tgt := 247) rfl rfl (by decide) ⟨fun cd_14 => ?_, fun cd_14 => ?_⟩
          · replace h := h.1 cd_14
            refine aw_iconst (q := 248) (v := 0) rfl rfl (by decide) ?_
            refine aw_iadd (q := 249) rfl rfl ?_
            exact aw_ireturn (ty := .int) rfl rfl rfl (by decide) (by decide) h
          · replace h := h.2 cd_14
            refine aw_iconst (q := 244) (v := 1) rfl rfl (by decide) ?_
            refine aw_goto (tgt := 248) rfl (by decide) ?_
            refine aw_iadd (q := 249) rfl rfl ?_
            exact aw_ireturn (ty := .int) rfl rfl rfl (by decide) (by decide) h
      · replace h := h.2 cd_11
        refine aw_iconst (q := 215) (v := 1) rfl rfl (by decide) ?_
        refine aw_goto (tgt := 219) rfl (by decide) ?_
        refine aw_aload_n (q := 220) (j := 0) rfl rfl rfl (List.mem_of_getElem? (i := 0) rfl) ?_
        refine ag_getR (q := 223) rfl rfl fl_Mo_170 rfl (SX.o hS rfl) (SX.r hS rfl) ?_
        refine aw_iconst (q := 224) (v := 1) rfl rfl (by decide) ?_
        refine ag_zaload (q := 225) (N := 3) rfl rfl (SX.a hS rfl) (by unfold vp_in; decide) ?_
        refine aw_if_eq (q := 228) (tgt := 232) rfl rfl (by decide) ⟨fun cd_15 => ?_, fun cd_15 => ?_⟩
        · replace h := h.1 cd_15
          refine aw_iconst (q := 233) (v := 0) rfl rfl (by decide) ?_
          refine aw_iadd (q := 234) rfl rfl ?_
          refine aw_aload_n (q := 235) (j := 0) rfl rfl rfl (List.mem_of_getElem? (i := 0) rfl) ?_
          refine ag_getR (q := 238) rfl rfl fl_Mo_170 rfl (SX.o hS rfl) (SX.r hS rfl) ?_
          refine aw_iconst (q := 239) (v := 2) rfl rfl (by decide) ?_
          refine ag_zaload (q := 240) (N := 3) rfl rfl (SX.a hS rfl) (by unfold vp_in; decide) ?_
          refine aw_if_eq (q := 243) (tgt := 247) rfl rfl (by decide) ⟨fun cd_16 => ?_, fun cd_16 => ?_⟩
          · replace h := h.1 cd_16
            refine aw_iconst (q := 248) (v := 0) rfl rfl (by decide) ?_
            refine aw_iadd (q := 249) rfl rfl ?_
            exact aw_ireturn (ty := .int) rfl rfl rfl (by decide) (by decide) h
          · replace h := h.2 cd_16
            refine aw_iconst (q := 244) (v := 1) rfl rfl (by decide) ?_
            refine aw_goto (tgt := 248) rfl (by decide) ?_
            refine aw_iadd (q := 249) rfl rfl ?_
            exact aw_ireturn (ty := .int) rfl rfl rfl (by decide) (by decide) h
        · replace h := h.2 cd_15
          refine aw_iconst (q := 229) (v := 1) rfl rfl (by decide) ?_
          refine aw_goto (tgt := 233) rfl (by decide) ?_
          refine aw_iadd (q := 234) rfl rfl ?_
          refine aw_aload_n (q := 235) (j := 0) rfl rfl rfl (List.mem_of_getElem? (i := 0) rfl) ?_
          refine ag_getR (q := 238) rfl rfl fl_Mo_170 rfl (SX.o hS rfl) (SX.r hS rfl) ?_
          refine aw_iconst (q := 239) (v := 2) rfl rfl (by decide) ?_
          refine ag_zaload (q := 240) (N := 3) rfl rfl (SX.a hS rfl) (by unfold vp_in; decide) ?_
          refine aw_if_eq (q := 243) (tgt := 247) rfl rfl (by decide) ⟨fun cd_17 => ?_, fun cd_17 => ?_⟩
          · replace h := h.1 cd_17
            refine aw_iconst (q := 248) (v := 0) rfl rfl (by decide) ?_
            refine aw_iadd (q := 249) rfl rfl ?_
            exact aw_ireturn (ty := .int) rfl rfl rfl (by decide) (by decide) h
          · replace h := h.2 cd_17
            refine aw_iconst (q := 244) (v := 1) rfl rfl (by decide) ?_
            refine aw_goto (tgt := 248) rfl (by decide) ?_
            refine aw_iadd (q := 249) rfl rfl ?_
            exact aw_ireturn (ty := .int) rfl rfl rfl (by decide) (by decide) h
    | 15, _, e => 
      have e : x1 = 15 := Int32.toInt_inj.mp (e.trans (by decide))
      replace h := h.2.2.2.2.2.2.2.2.2.2.2.2.2.2.2 e
      refine aw_tableEq (tgt := 250) rfl e (by decide) (by decide) rfl (by decide) ?_
      refine aw_aload_n (q := 251) (j := 0) rfl rfl rfl (List.mem_of_getElem? (i := 0) rfl) ?_
      refine ag_cvV (z := m_Mo_copies) (ci := 11) (av := []) (st := []) (q := 254) (k' := 0) (n' := 0) rfl rfl cv_Mo_395 ⟨by decide, by decide⟩ rfl rfl (by decide) (by decide) (SX.o hS rfl) rfl rfl rfl (Nat.le_of_ble_eq_true rfl) ?_
      refine GV.mono h (fun t1_ h => ?_)
      refine aw_aload_n (q := 255) (j := 0) rfl rfl rfl (List.mem_of_getElem? (i := 0) rfl) ?_
      refine ag_cvI (z := m_Mo_inHeap) (ci := 11) (av := []) (st := []) (q := 258) (k' := 0) (n' := 0) rfl rfl cv_Mo_435 ⟨by decide, by decide⟩ rfl rfl (by decide) (by decide) (SX.o hS rfl) rfl rfl rfl (Nat.le_of_ble_eq_true rfl) ?_
      refine GI.mono h (fun y2_ t2_ h => ?_)
      refine aw_aload_n (q := 259) (j := 0) rfl rfl rfl (List.mem_of_getElem? (i := 0) rfl) ?_
      refine aw_iconst (q := 260) (v := 1) rfl rfl (by decide) ?_
      refine ag_cvI (z := m_Mo_inHoles) (ci := 11) (av := [.int _]) (st := [.int _]) (q := 263) (k' := 0) (n' := 0) rfl rfl cv_Mo_438 ⟨by decide, by decide⟩ rfl rfl (by decide) (by decide) (SX.o hS rfl) rfl rfl rfl (Nat.le_of_ble_eq_true rfl) ?_
      refine GI.mono h (fun y3_ t3_ h => ?_)
      refine aw_iadd (q := 264) rfl rfl ?_
      refine aw_aload_n (q := 265) (j := 0) rfl rfl rfl (List.mem_of_getElem? (i := 0) rfl) ?_
      refine aw_iconst (q := 266) (v := 0) rfl rfl (by decide) ?_
      refine ag_cvI (z := m_Mo_inHoles) (ci := 11) (av := [.int _]) (st := [.int _]) (q := 269) (k' := 0) (n' := 0) rfl rfl cv_Mo_438 ⟨by decide, by decide⟩ rfl rfl (by decide) (by decide) (SX.o hS rfl) rfl rfl rfl (Nat.le_of_ble_eq_true rfl) ?_
      refine GI.mono h (fun y4_ t4_ h => ?_)
      refine aw_iadd (q := 270) rfl rfl ?_
      refine aw_istore_n (q := 271) (j := 2) (ls' := [(2, .int _), (0, .ref _), (1, .int _)]) rfl rfl rfl (by decide) rfl ?_
      refine aw_iconst (q := 272) (v := 0) rfl rfl (by decide) ?_
      refine aw_istore_n (q := 273) (j := 3) (ls' := [(3, .int _), (2, .int _), (0, .ref _), (1, .int _)]) rfl rfl rfl (by decide) rfl ?_
      refine aw_ls [2, 3, 1, 0] rfl ?_
      exact h
    | j + 16, hj, _ => exact absurd hj (by omega)
