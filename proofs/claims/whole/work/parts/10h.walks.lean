/-! walks of the methods, by program (vcgen.py) -/
set_option maxRecDepth 20000 in
theorem v_Mo_cleanBy_2 {E : EN} {g : GS} {s : MS} {Q : Option Value → SG → Prop} (x1 : Int32) (hS : SX g) (h : ((600 < x1 → Q (some (.int (-2))) (mk g s)) ∧ (¬ 600 < x1 → GI E m_Mo_isCleanNow [.ref 120, .int 0] g s (fun y1_ t1_ => ((y1_ = 0 → GV E m_Mo_minuteGoes [.ref 120] g t1_ (fun t2_ => AWP E m_Mo_cleanBy 2 0 0 [(0, .ref 120), (1, .int (x1 + 1))] [] (mk g t2_) Q)) ∧ (¬ y1_ = 0 → Q (some (.int x1)) (mk g t1_))))))) : AWP E m_Mo_cleanBy 2 0 0 [(0, .ref 120), (1, .int x1)] [] (mk g s) Q := by
  refine aw_iload_n (q := 3) (j := 1) rfl rfl rfl (List.mem_of_getElem? (i := 1) rfl) ?_
  refine aw_sipush (q := 6) (v := 600) rfl rfl (by decide) ?_
  refine aw_icmp_gt (q := 9) (tgt := 29) rfl rfl (by decide) ⟨fun cd_1 => ?_, fun cd_1 => ?_⟩
  · replace h := h.1 cd_1
    refine aw_bipush (q := 31) (v := (-2)) rfl rfl (by decide) ?_
    exact aw_ireturn (ty := .int) rfl rfl rfl (by decide) (by decide) h
  · replace h := h.2 cd_1
    refine aw_aload_n (q := 10) (j := 0) rfl rfl rfl (List.mem_of_getElem? (i := 0) rfl) ?_
    refine aw_iconst (q := 11) (v := 0) rfl rfl (by decide) ?_
    refine ag_cvI (z := m_Mo_isCleanNow) (ci := 11) (av := [.int _]) (st := []) (q := 14) (k' := 0) (n' := 0) rfl rfl cv_Mo_422 ⟨by decide, by decide⟩ rfl rfl (by decide) (by decide) (SX.o hS rfl) rfl rfl rfl (Nat.le_of_ble_eq_true rfl) ?_
    refine GI.mono h (fun y1_ t1_ h => ?_)
    refine aw_if_eq (q := 17) (tgt := 19) rfl rfl (by decide) ⟨fun cd_2 => ?_, fun cd_2 => ?_⟩
    · replace h := h.1 cd_2
      refine aw_aload_n (q := 20) (j := 0) rfl rfl rfl (List.mem_of_getElem? (i := 0) rfl) ?_
      refine ag_cvV (z := m_Mo_minuteGoes) (ci := 11) (av := []) (st := []) (q := 23) (k' := 0) (n' := 0) rfl rfl cv_Mo_380 ⟨by decide, by decide⟩ rfl rfl (by decide) (by decide) (SX.o hS rfl) rfl rfl rfl (Nat.le_of_ble_eq_true rfl) ?_
      refine GV.mono h (fun t2_ h => ?_)
      refine aw_iinc (q := 26) (v := _ + 1) (ls' := [(1, .int _), (0, .ref _)]) rfl rfl (List.mem_of_getElem? (i := 1) rfl) rfl (by decide) rfl ?_
      refine aw_goto (tgt := 2) rfl (by decide) ?_
      refine aw_ls [1, 0] rfl ?_
      exact h
    · replace h := h.2 cd_2
      refine aw_iload_n (q := 18) (j := 1) rfl rfl rfl (List.mem_of_getElem? (i := 1) rfl) ?_
      exact aw_ireturn (ty := .int) rfl rfl rfl (by decide) (by decide) h
set_option maxRecDepth 20000 in
theorem v_Mo_cleanBy {E : EN} {g : GS} {s : MS} {Q : Option Value → SG → Prop}  (h : AWP E m_Mo_cleanBy 2 0 0 [(0, .ref 120), (1, .int 0)] [] (mk g s) Q) : AMet E m_Mo_cleanBy [.ref 120] (mk g s) Q := by
  refine AMet.of (by decide) k_Mo_cleanBy [(0, .ref 120)] (Nat.le_of_ble_eq_true rfl) rfl ?_
  refine aw_iconst (q := 1) (v := 0) rfl rfl (by decide) ?_
  refine aw_istore_n (q := 2) (j := 1) (ls' := [(1, .int _), (0, .ref _)]) rfl rfl rfl (by decide) rfl ?_
  refine aw_ls [1, 0] rfl ?_
  exact h
set_option maxRecDepth 20000 in
theorem v_Mo_then {E : EN} {g : GS} {s : MS} {Q : Option Value → SG → Prop} (x1 : Int32) (x2 : Int32) (hS : SX g) (h : GI E m_Mo_isLong [.int x1] g s (fun y1_ t1_ => ((y1_ = 0 → Q (some (.int (-1))) (mk g t1_)) ∧ (¬ y1_ = 0 → GI E m_Mo_in [.int x2, .int 0, .int 5] g t1_ (fun y2_ t2_ => ((y2_ = 0 → Q (some (.int (-1))) (mk g t2_)) ∧ (¬ y2_ = 0 → GV E m_Mo_copies [.ref 120] g t2_ (fun t3_ => GV E m_Mo_goes [.ref 120, .int x1] g t3_ (fun t4_ => ((x2 < 0 ∨ 4 < x2 → Q (some (.int (t4_.1 163 119))) (mk g t4_)) ∧ (x2 = 0 → GI E m_Mo_worthAll [.ref 120] g t4_ (fun y5_ t5_ => Q (some (.int y5_)) (mk g t5_))) ∧ (x2 = 1 → Q (some (.int (t4_.1 163 115))) (mk g t4_)) ∧ (x2 = 2 → GI E m_Mo_inHeap [.ref 120] g t4_ (fun y6_ t6_ => Q (some (.int y6_)) (mk g t6_))) ∧ (x2 = 3 → GI E m_Mo_inHoles [.ref 120, .int 1] g t4_ (fun y7_ t7_ => Q (some (.int y7_)) (mk g t7_))) ∧ (x2 = 4 → GI E m_Mo_inHoles [.ref 120, .int 0] g t4_ (fun y8_ t8_ => Q (some (.int y8_)) (mk g t8_))))))))))))) : AMet E m_Mo_then [.ref 120, .int x1, .int x2] (mk g s) Q := by
  refine AMet.of (by decide) k_Mo_then [(0, .ref 120), (1, .int x1), (2, .int x2)] (Nat.le_of_ble_eq_true rfl) rfl ?_
  refine aw_iload_n (q := 1) (j := 1) rfl rfl rfl (List.mem_of_getElem? (i := 1) rfl) ?_
  refine ag_csI (z := m_Mo_isLong) (av := [.int _]) (st := []) (q := 4) (k' := 0) (n' := 0) rfl rfl cs_Mo_429 ⟨by decide, by decide⟩ rfl rfl (by decide) (by decide) rfl rfl (Nat.le_of_ble_eq_true rfl) ?_
  refine GI.mono h (fun y1_ t1_ h => ?_)
  refine aw_if_eq (q := 7) (tgt := 16) rfl rfl (by decide) ⟨fun cd_1 => ?_, fun cd_1 => ?_⟩
  · replace h := h.1 cd_1
    refine aw_iconst (q := 17) (v := (-1)) rfl rfl (by decide) ?_
    exact aw_ireturn (ty := .int) rfl rfl rfl (by decide) (by decide) h
  · replace h := h.2 cd_1
    refine aw_iload_n (q := 8) (j := 2) rfl rfl rfl (List.mem_of_getElem? (i := 2) rfl) ?_
    refine aw_iconst (q := 9) (v := 0) rfl rfl (by decide) ?_
    refine aw_iconst (q := 10) (v := 5) rfl rfl (by decide) ?_
    refine ag_csI (z := m_Mo_in) (av := [.int _, .int _, .int _]) (st := []) (q := 13) (k' := 0) (n' := 0) rfl rfl cs_Mo_350 ⟨by decide, by decide⟩ rfl rfl (by decide) (by decide) rfl rfl (Nat.le_of_ble_eq_true rfl) ?_
    refine GI.mono h (fun y2_ t2_ h => ?_)
    refine aw_if_ne (q := 16) (tgt := 18) rfl rfl (by decide) ⟨fun cd_2 => ?_, fun cd_2 => ?_⟩
    · replace h := h.1 cd_2
      refine aw_iconst (q := 17) (v := (-1)) rfl rfl (by decide) ?_
      exact aw_ireturn (ty := .int) rfl rfl rfl (by decide) (by decide) h
    · replace h := h.2 cd_2
      refine aw_aload_n (q := 19) (j := 0) rfl rfl rfl (List.mem_of_getElem? (i := 0) rfl) ?_
      refine ag_cvV (z := m_Mo_copies) (ci := 11) (av := []) (st := []) (q := 22) (k' := 0) (n' := 0) rfl rfl cv_Mo_395 ⟨by decide, by decide⟩ rfl rfl (by decide) (by decide) (SX.o hS rfl) rfl rfl rfl (Nat.le_of_ble_eq_true rfl) ?_
      refine GV.mono h (fun t3_ h => ?_)
      refine aw_aload_n (q := 23) (j := 0) rfl rfl rfl (List.mem_of_getElem? (i := 0) rfl) ?_
      refine aw_iload_n (q := 24) (j := 1) rfl rfl rfl (List.mem_of_getElem? (i := 1) rfl) ?_
      refine ag_cvV (z := m_Mo_goes) (ci := 11) (av := [.int _]) (st := []) (q := 27) (k' := 0) (n' := 0) rfl rfl cv_Mo_401 ⟨by decide, by decide⟩ rfl rfl (by decide) (by decide) (SX.o hS rfl) rfl rfl rfl (Nat.le_of_ble_eq_true rfl) ?_
      refine GV.mono h (fun t4_ h => ?_)
      refine aw_iload_n (q := 28) (j := 2) rfl rfl rfl (List.mem_of_getElem? (i := 2) rfl) ?_
      by_cases cd_3 : x2 < 0 ∨ 4 < x2
      · replace h := h.1 cd_3
        refine aw_tableLt (tgt := 94) rfl (a := 0) (b := 4) (by decide) (by decide) cd_3 (by decide) ?_
        refine aw_aload_n (q := 95) (j := 0) rfl rfl rfl (List.mem_of_getElem? (i := 0) rfl) ?_
        refine ag_getR (q := 98) rfl rfl fl_Mo_146 rfl (SX.o hS rfl) (SX.r hS rfl) ?_
        refine aw_bipush (q := 100) (v := 119) rfl rfl (by decide) ?_
        refine ag_iaload (q := 101) (N := 120) rfl rfl (SX.a hS rfl) (by unfold vp_in; decide) ?_
        exact aw_ireturn (ty := .int) rfl rfl rfl (by decide) (by decide) h
      · obtain ⟨jd_4, hjd_4, ejd_4⟩ := sw_cases 4 4 (fun q => cd_3 (Or.inl q)) (fun q => cd_3 (Or.inr q)) (by decide)
        replace h := h.2
        match jd_4, hjd_4, ejd_4 with
        | 0, _, e => 
          have e : x2 = 0 := Int32.toInt_inj.mp (e.trans (by decide))
          replace h := h.1 e
          refine aw_tableEq (tgt := 64) rfl e (by decide) (by decide) rfl (by decide) ?_
          refine aw_aload_n (q := 65) (j := 0) rfl rfl rfl (List.mem_of_getElem? (i := 0) rfl) ?_
          refine ag_cvI (z := m_Mo_worthAll) (ci := 11) (av := []) (st := []) (q := 68) (k' := 0) (n' := 0) rfl rfl cv_Mo_432 ⟨by decide, by decide⟩ rfl rfl (by decide) (by decide) (SX.o hS rfl) rfl rfl rfl (Nat.le_of_ble_eq_true rfl) ?_
          refine GI.mono h (fun y5_ t5_ h => ?_)
          exact aw_ireturn (ty := .int) rfl rfl rfl (by decide) (by decide) h
        | 1, _, e => 
          have e : x2 = 1 := Int32.toInt_inj.mp (e.trans (by decide))
          replace h := h.2.1 e
          refine aw_tableEq (tgt := 69) rfl e (by decide) (by decide) rfl (by decide) ?_
          refine aw_aload_n (q := 70) (j := 0) rfl rfl rfl (List.mem_of_getElem? (i := 0) rfl) ?_
          refine ag_getR (q := 73) rfl rfl fl_Mo_146 rfl (SX.o hS rfl) (SX.r hS rfl) ?_
          refine aw_bipush (q := 75) (v := 115) rfl rfl (by decide) ?_
          refine ag_iaload (q := 76) (N := 120) rfl rfl (SX.a hS rfl) (by unfold vp_in; decide) ?_
          exact aw_ireturn (ty := .int) rfl rfl rfl (by decide) (by decide) h
        | 2, _, e => 
          have e : x2 = 2 := Int32.toInt_inj.mp (e.trans (by decide))
          replace h := h.2.2.1 e
          refine aw_tableEq (tgt := 77) rfl e (by decide) (by decide) rfl (by decide) ?_
          refine aw_aload_n (q := 78) (j := 0) rfl rfl rfl (List.mem_of_getElem? (i := 0) rfl) ?_
          refine ag_cvI (z := m_Mo_inHeap) (ci := 11) (av := []) (st := []) (q := 81) (k' := 0) (n' := 0) rfl rfl cv_Mo_435 ⟨by decide, by decide⟩ rfl rfl (by decide) (by decide) (SX.o hS rfl) rfl rfl rfl (Nat.le_of_ble_eq_true rfl) ?_
          refine GI.mono h (fun y6_ t6_ h => ?_)
          exact aw_ireturn (ty := .int) rfl rfl rfl (by decide) (by decide) h
        | 3, _, e => 
          have e : x2 = 3 := Int32.toInt_inj.mp (e.trans (by decide))
          replace h := h.2.2.2.1 e
          refine aw_tableEq (tgt := 82) rfl e (by decide) (by decide) rfl (by decide) ?_
          refine aw_aload_n (q := 83) (j := 0) rfl rfl rfl (List.mem_of_getElem? (i := 0) rfl) ?_
          refine aw_iconst (q := 84) (v := 1) rfl rfl (by decide) ?_
          refine ag_cvI (z := m_Mo_inHoles) (ci := 11) (av := [.int _]) (st := []) (q := 87) (k' := 0) (n' := 0) rfl rfl cv_Mo_438 ⟨by decide, by decide⟩ rfl rfl (by decide) (by decide) (SX.o hS rfl) rfl rfl rfl (Nat.le_of_ble_eq_true rfl) ?_
          refine GI.mono h (fun y7_ t7_ h => ?_)
          exact aw_ireturn (ty := .int) rfl rfl rfl (by decide) (by decide) h
        | 4, _, e => 
          have e : x2 = 4 := Int32.toInt_inj.mp (e.trans (by decide))
          replace h := h.2.2.2.2 e
          refine aw_tableEq (tgt := 88) rfl e (by decide) (by decide) rfl (by decide) ?_
          refine aw_aload_n (q := 89) (j := 0) rfl rfl rfl (List.mem_of_getElem? (i := 0) rfl) ?_
          refine aw_iconst (q := 90) (v := 0) rfl rfl (by decide) ?_
          refine ag_cvI (z := m_Mo_inHoles) (ci := 11) (av := [.int _]) (st := []) (q := 93) (k' := 0) (n' := 0) rfl rfl cv_Mo_438 ⟨by decide, by decide⟩ rfl rfl (by decide) (by decide) (SX.o hS rfl) rfl rfl rfl (Nat.le_of_ble_eq_true rfl) ?_
          refine GI.mono h (fun y8_ t8_ h => ?_)
          exact aw_ireturn (ty := .int) rfl rfl rfl (by decide) (by decide) h
        | j + 5, hj, _ => exact absurd hj (by omega)
set_option maxRecDepth 20000 in
theorem v_Mo_isLong {E : EN} {g : GS} {s : MS} {Q : Option Value → SG → Prop} (x0 : Int32) (h : GI E m_Mo_in [.int x0, .int 0, .int 600] g s (fun y1_ t1_ => (y1_ = 0 ∨ y1_ = 1) ∧ Q (some (.int y1_)) (mk g t1_))) : AMet E m_Mo_isLong [.int x0] (mk g s) Q := by
  refine AMet.of (by decide) k_Mo_isLong [(0, .int x0)] (Nat.le_of_ble_eq_true rfl) rfl ?_
  refine aw_iload_n (q := 1) (j := 0) rfl rfl rfl (List.mem_of_getElem? (i := 0) rfl) ?_
  refine aw_iconst (q := 2) (v := 0) rfl rfl (by decide) ?_
  refine aw_sipush (q := 5) (v := 600) rfl rfl (by decide) ?_
  refine ag_csI (z := m_Mo_in) (av := [.int _, .int _, .int _]) (st := []) (q := 8) (k' := 0) (n' := 0) rfl rfl cs_Mo_350 ⟨by decide, by decide⟩ rfl rfl (by decide) (by decide) rfl rfl (Nat.le_of_ble_eq_true rfl) ?_
  refine GI.mono h (fun y1_ t1_ h => ?_)
  obtain ⟨bd_1, h⟩ := h
  exact aw_ireturn (ty := .boolean) rfl rfl (nar_z bd_1) (by decide) (by decide) h
set_option maxRecDepth 20000 in
theorem v_Mo_worthAll_4 {E : EN} {g : GS} {s : MS} {Q : Option Value → SG → Prop} (x1 : Int32) (x2 : Int32) (hS : SX g) (h : vp_in (s.1 120 18) 2 ∧ (((s.1 134 (((s.1 120 18)).toNatClampNeg)) ≤ x2 → Q (some (.int x1)) (mk g s)) ∧ (¬ (s.1 134 (((s.1 120 18)).toNatClampNeg)) ≤ x2 → GI E m_Mo_worthOf [.ref 120, .int x2] g s (fun y1_ t1_ => AWP E m_Mo_worthAll 4 0 0 [(0, .ref 120), (1, .int (x1 + y1_)), (2, .int (x2 + 1))] [] (mk g t1_) Q)))) : AWP E m_Mo_worthAll 4 0 0 [(0, .ref 120), (1, .int x1), (2, .int x2)] [] (mk g s) Q := by
  refine aw_iload_n (q := 5) (j := 2) rfl rfl rfl (List.mem_of_getElem? (i := 2) rfl) ?_
  refine aw_aload_n (q := 6) (j := 0) rfl rfl rfl (List.mem_of_getElem? (i := 0) rfl) ?_
  refine ag_getR (q := 9) rfl rfl fl_Mo_58 rfl (SX.o hS rfl) (SX.r hS rfl) ?_
  refine aw_aload_n (q := 10) (j := 0) rfl rfl rfl (List.mem_of_getElem? (i := 0) rfl) ?_
  refine ag_getI (q := 13) rfl rfl fl_Mo_257 rfl (SX.o hS rfl) ?_
  obtain ⟨bd_1, h⟩ := h
  refine ag_iaload (q := 14) (N := 2) rfl rfl (SX.a hS rfl) bd_1 ?_
  refine aw_icmp_ge (q := 17) (tgt := 31) rfl rfl (by decide) ⟨fun cd_2 => ?_, fun cd_2 => ?_⟩
  · replace h := h.1 cd_2
    refine aw_iload_n (q := 32) (j := 1) rfl rfl rfl (List.mem_of_getElem? (i := 1) rfl) ?_
    exact aw_ireturn (ty := .int) rfl rfl rfl (by decide) (by decide) h
  · replace h := h.2 cd_2
    refine aw_iload_n (q := 18) (j := 1) rfl rfl rfl (List.mem_of_getElem? (i := 1) rfl) ?_
    refine aw_aload_n (q := 19) (j := 0) rfl rfl rfl (List.mem_of_getElem? (i := 0) rfl) ?_
    refine aw_iload_n (q := 20) (j := 2) rfl rfl rfl (List.mem_of_getElem? (i := 2) rfl) ?_
    refine ag_cvI (z := m_Mo_worthOf) (ci := 11) (av := [.int _]) (st := [.int _]) (q := 23) (k' := 0) (n' := 0) rfl rfl cv_Mo_383 ⟨by decide, by decide⟩ rfl rfl (by decide) (by decide) (SX.o hS rfl) rfl rfl rfl (Nat.le_of_ble_eq_true rfl) ?_
    refine GI.mono h (fun y1_ t1_ h => ?_)
    refine aw_iadd (q := 24) rfl rfl ?_
    refine aw_istore_n (q := 25) (j := 1) (ls' := [(1, .int _), (0, .ref _), (2, .int _)]) rfl rfl rfl (by decide) rfl ?_
    refine aw_iinc (q := 28) (v := _ + 1) (ls' := [(2, .int _), (1, .int _), (0, .ref _)]) rfl rfl (List.mem_of_getElem? (i := 2) rfl) rfl (by decide) rfl ?_
    refine aw_goto (tgt := 4) rfl (by decide) ?_
    refine aw_ls [2, 1, 0] rfl ?_
    exact h
set_option maxRecDepth 20000 in
theorem v_Mo_worthAll {E : EN} {g : GS} {s : MS} {Q : Option Value → SG → Prop}  (h : AWP E m_Mo_worthAll 4 0 0 [(0, .ref 120), (1, .int 0), (2, .int 0)] [] (mk g s) Q) : AMet E m_Mo_worthAll [.ref 120] (mk g s) Q := by
  refine AMet.of (by decide) k_Mo_worthAll [(0, .ref 120)] (Nat.le_of_ble_eq_true rfl) rfl ?_
  refine aw_iconst (q := 1) (v := 0) rfl rfl (by decide) ?_
  refine aw_istore_n (q := 2) (j := 1) (ls' := [(1, .int _), (0, .ref _)]) rfl rfl rfl (by decide) rfl ?_
  refine aw_iconst (q := 3) (v := 0) rfl rfl (by decide) ?_
  refine aw_istore_n (q := 4) (j := 2) (ls' := [(2, .int _), (1, .int _), (0, .ref _)]) rfl rfl rfl (by decide) rfl ?_
  refine aw_ls [2, 1, 0] rfl ?_
  exact h
set_option maxRecDepth 20000 in
theorem v_Mo_inHeap_4 {E : EN} {g : GS} {s : MS} {Q : Option Value → SG → Prop} (x1 : Int32) (x2 : Int32) (hS : SX g) (h : ((6 ≤ x2 → Q (some (.int x1)) (mk g s)) ∧ (¬ 6 ≤ x2 → vp_in x2 120 ∧ AWP E m_Mo_inHeap 4 0 0 [(0, .ref 120), (1, .int (x1 + (s.1 163 ((x2).toNatClampNeg)))), (2, .int (x2 + 1))] [] (mk g s) Q))) : AWP E m_Mo_inHeap 4 0 0 [(0, .ref 120), (1, .int x1), (2, .int x2)] [] (mk g s) Q := by
  refine aw_iload_n (q := 5) (j := 2) rfl rfl rfl (List.mem_of_getElem? (i := 2) rfl) ?_
  refine aw_bipush (q := 7) (v := 6) rfl rfl (by decide) ?_
  refine aw_icmp_ge (q := 10) (tgt := 25) rfl rfl (by decide) ⟨fun cd_1 => ?_, fun cd_1 => ?_⟩
  · replace h := h.1 cd_1
    refine aw_iload_n (q := 26) (j := 1) rfl rfl rfl (List.mem_of_getElem? (i := 1) rfl) ?_
    exact aw_ireturn (ty := .int) rfl rfl rfl (by decide) (by decide) h
  · replace h := h.2 cd_1
    refine aw_iload_n (q := 11) (j := 1) rfl rfl rfl (List.mem_of_getElem? (i := 1) rfl) ?_
    refine aw_aload_n (q := 12) (j := 0) rfl rfl rfl (List.mem_of_getElem? (i := 0) rfl) ?_
    refine ag_getR (q := 15) rfl rfl fl_Mo_146 rfl (SX.o hS rfl) (SX.r hS rfl) ?_
    refine aw_iload_n (q := 16) (j := 2) rfl rfl rfl (List.mem_of_getElem? (i := 2) rfl) ?_
    obtain ⟨bd_2, h⟩ := h
    refine ag_iaload (q := 17) (N := 120) rfl rfl (SX.a hS rfl) bd_2 ?_
    refine aw_iadd (q := 18) rfl rfl ?_
    refine aw_istore_n (q := 19) (j := 1) (ls' := [(1, .int _), (0, .ref _), (2, .int _)]) rfl rfl rfl (by decide) rfl ?_
    refine aw_iinc (q := 22) (v := _ + 1) (ls' := [(2, .int _), (1, .int _), (0, .ref _)]) rfl rfl (List.mem_of_getElem? (i := 2) rfl) rfl (by decide) rfl ?_
    refine aw_goto (tgt := 4) rfl (by decide) ?_
    refine aw_ls [2, 1, 0] rfl ?_
    exact h
set_option maxRecDepth 20000 in
theorem v_Mo_inHeap {E : EN} {g : GS} {s : MS} {Q : Option Value → SG → Prop}  (h : AWP E m_Mo_inHeap 4 0 0 [(0, .ref 120), (1, .int 0), (2, .int 0)] [] (mk g s) Q) : AMet E m_Mo_inHeap [.ref 120] (mk g s) Q := by
  refine AMet.of (by decide) k_Mo_inHeap [(0, .ref 120)] (Nat.le_of_ble_eq_true rfl) rfl ?_
  refine aw_iconst (q := 1) (v := 0) rfl rfl (by decide) ?_
  refine aw_istore_n (q := 2) (j := 1) (ls' := [(1, .int _), (0, .ref _)]) rfl rfl rfl (by decide) rfl ?_
  refine aw_iconst (q := 3) (v := 0) rfl rfl (by decide) ?_
  refine aw_istore_n (q := 4) (j := 2) (ls' := [(2, .int _), (1, .int _), (0, .ref _)]) rfl rfl rfl (by decide) rfl ?_
  refine aw_ls [2, 1, 0] rfl ?_
  exact h
set_option maxRecDepth 20000 in
theorem v_Mo_inHoles_4 {E : EN} {g : GS} {s : MS} {Q : Option Value → SG → Prop} (x1 : Int32) (x2 : Int32) (x3 : Int32) (hS : SX g) (h : vp_in (s.1 120 18) 2 ∧ (((s.1 134 (((s.1 120 18)).toNatClampNeg)) ≤ x3 → Q (some (.int x2)) (mk g s)) ∧ (¬ (s.1 134 (((s.1 120 18)).toNatClampNeg)) ≤ x3 → AWP E m_Mo_inHoles 20 0 0 [(0, .ref 120), (1, .int x1), (2, .int x2), (3, .int x3), (4, .int 0)] [] (mk g s) Q))) : AWP E m_Mo_inHoles 4 0 0 [(0, .ref 120), (1, .int x1), (2, .int x2), (3, .int x3)] [] (mk g s) Q := by
  refine aw_iload_n (q := 5) (j := 3) rfl rfl rfl (List.mem_of_getElem? (i := 3) rfl) ?_
  refine aw_aload_n (q := 6) (j := 0) rfl rfl rfl (List.mem_of_getElem? (i := 0) rfl) ?_
  refine ag_getR (q := 9) rfl rfl fl_Mo_58 rfl (SX.o hS rfl) (SX.r hS rfl) ?_
  refine aw_aload_n (q := 10) (j := 0) rfl rfl rfl (List.mem_of_getElem? (i := 0) rfl) ?_
  refine ag_getI (q := 13) rfl rfl fl_Mo_257 rfl (SX.o hS rfl) ?_
  obtain ⟨bd_1, h⟩ := h
  refine ag_iaload (q := 14) (N := 2) rfl rfl (SX.a hS rfl) bd_1 ?_
  refine aw_icmp_ge (q := 17) (tgt := 85) rfl rfl (by decide) ⟨fun cd_2 => ?_, fun cd_2 => ?_⟩
  · replace h := h.1 cd_2
    refine aw_iload_n (q := 86) (j := 2) rfl rfl rfl (List.mem_of_getElem? (i := 2) rfl) ?_
    exact aw_ireturn (ty := .int) rfl rfl rfl (by decide) (by decide) h
  · replace h := h.2 cd_2
    refine aw_iconst (q := 18) (v := 0) rfl rfl (by decide) ?_
    refine aw_istore (q := 20) (j := 4) (ls' := [(4, .int _), (0, .ref _), (1, .int _), (2, .int _), (3, .int _)]) rfl rfl (by decide) rfl ?_
    refine aw_ls [1, 2, 3, 4, 0] rfl ?_
    exact h
set_option maxRecDepth 20000 in
theorem v_Mo_inHoles_20 {E : EN} {g : GS} {s : MS} {Q : Option Value → SG → Prop} (x1 : Int32) (x2 : Int32) (x3 : Int32) (x4 : Int32) (hS : SX g) (h : ((6 ≤ x4 → AWP E m_Mo_inHoles 4 0 0 [(0, .ref 120), (1, .int x1), (2, .int x2), (3, .int (x3 + 1))] [] (mk g s) Q) ∧ (¬ 6 ≤ x4 → vp_in ((6 * (s.1 120 18)) + x3) 12 ∧ (((s.1 136 ((((6 * (s.1 120 18)) + x3)).toNatClampNeg)) = x4 → ((1 = x1 → vp_in ((6 + (6 * x3)) + x4) 120 ∧ AWP E m_Mo_inHoles 20 0 0 [(0, .ref 120), (1, .int x1), (2, .int (x2 + (s.1 163 ((((6 + (6 * x3)) + x4)).toNatClampNeg)))), (3, .int x3), (4, .int (x4 + 1))] [] (mk g s) Q) ∧ (¬ 1 = x1 → AWP E m_Mo_inHoles 20 0 0 [(0, .ref 120), (1, .int x1), (2, .int x2), (3, .int x3), (4, .int (x4 + 1))] [] (mk g s) Q))) ∧ (¬ (s.1 136 ((((6 * (s.1 120 18)) + x3)).toNatClampNeg)) = x4 → ((0 = x1 → vp_in ((6 + (6 * x3)) + x4) 120 ∧ AWP E m_Mo_inHoles 20 0 0 [(0, .ref 120), (1, .int x1), (2, .int (x2 + (s.1 163 ((((6 + (6 * x3)) + x4)).toNatClampNeg)))), (3, .int x3), (4, .int (x4 + 1))] [] (mk g s) Q) ∧ (¬ 0 = x1 → AWP E m_Mo_inHoles 20 0 0 [(0, .ref 120), (1, .int x1), (2, .int x2), (3, .int x3), (4, .int (x4 + 1))] [] (mk g s) Q))))))) : AWP E m_Mo_inHoles 20 0 0 [(0, .ref 120), (1, .int x1), (2, .int x2), (3, .int x3), (4, .int x4)] [] (mk g s) Q := by
  refine aw_iload (q := 22) (j := 4) rfl rfl (List.mem_of_getElem? (i := 4) rfl) ?_
  refine aw_bipush (q := 24) (v := 6) rfl rfl (by decide) ?_
  refine aw_icmp_ge (q := 27) (tgt := 79) rfl rfl (by decide) ⟨fun cd_1 => ?_, fun cd_1 => ?_⟩
  · replace h := h.1 cd_1
    refine aw_iinc (q := 82) (v := _ + 1) (ls' := [(3, .int _), (0, .ref _), (1, .int _), (2, .int _), (4, .int _)]) rfl rfl (List.mem_of_getElem? (i := 3) rfl) rfl (by decide) rfl ?_
    refine aw_goto (tgt := 4) rfl (by decide) ?_
    refine aw_ls [1, 2, 3, 0] rfl ?_
    exact h
  · replace h := h.2 cd_1
    refine aw_aload_n (q := 28) (j := 0) rfl rfl rfl (List.mem_of_getElem? (i := 0) rfl) ?_
    refine ag_getR (q := 31) rfl rfl fl_Mo_64 rfl (SX.o hS rfl) (SX.r hS rfl) ?_
    refine aw_bipush (q := 33) (v := 6) rfl rfl (by decide) ?_
    refine aw_aload_n (q := 34) (j := 0) rfl rfl rfl (List.mem_of_getElem? (i := 0) rfl) ?_
    refine ag_getI (q := 37) rfl rfl fl_Mo_257 rfl (SX.o hS rfl) ?_
    refine aw_imul (q := 38) rfl rfl ?_
    refine aw_iload_n (q := 39) (j := 3) rfl rfl rfl (List.mem_of_getElem? (i := 3) rfl) ?_
    refine aw_iadd (q := 40) rfl rfl ?_
    obtain ⟨bd_2, h⟩ := h
    refine ag_iaload (q := 41) (N := 12) rfl rfl (SX.a hS rfl) bd_2 ?_
    refine aw_iload (q := 43) (j := 4) rfl rfl (List.mem_of_getElem? (i := 4) rfl) ?_
    refine aw_icmp_ne (q := 46) (tgt := 50) rfl rfl (by decide) ⟨fun cd_3 => ?_, fun cd_3 => ?_⟩
    · replace h := h.1 cd_3
      refine aw_iconst (q := 47) (v := 1) rfl rfl (by decide) ?_
      refine aw_goto (tgt := 51) rfl (by decide) ?_
      refine aw_iload_n (q := 52) (j := 1) rfl rfl rfl (List.mem_of_getElem? (i := 1) rfl) ?_
      refine aw_icmp_ne (q := 55) (tgt := 73) rfl rfl (by decide) ⟨fun cd_4 => ?_, fun cd_4 => ?_⟩
      · replace h := h.1 cd_4
        refine aw_iload_n (q := 56) (j := 2) rfl rfl rfl (List.mem_of_getElem? (i := 2) rfl) ?_
        refine aw_aload_n (q := 57) (j := 0) rfl rfl rfl (List.mem_of_getElem? (i := 0) rfl) ?_
        refine ag_getR (q := 60) rfl rfl fl_Mo_146 rfl (SX.o hS rfl) (SX.r hS rfl) ?_
        refine aw_bipush (q := 62) (v := 6) rfl rfl (by decide) ?_
        refine aw_bipush (q := 64) (v := 6) rfl rfl (by decide) ?_
        refine aw_iload_n (q := 65) (j := 3) rfl rfl rfl (List.mem_of_getElem? (i := 3) rfl) ?_
        refine aw_imul (q := 66) rfl rfl ?_
        refine aw_iadd (q := 67) rfl rfl ?_
        refine aw_iload (q := 69) (j := 4) rfl rfl (List.mem_of_getElem? (i := 4) rfl) ?_
        refine aw_iadd (q := 70) rfl rfl ?_
        obtain ⟨bd_5, h⟩ := h
        refine ag_iaload (q := 71) (N := 120) rfl rfl (SX.a hS rfl) bd_5 ?_
        refine aw_iadd (q := 72) rfl rfl ?_
        refine aw_istore_n (q := 73) (j := 2) (ls' := [(2, .int _), (0, .ref _), (1, .int _), (3, .int _), (4, .int _)]) rfl rfl rfl (by decide) rfl ?_
        refine aw_iinc (q := 76) (v := _ + 1) (ls' := [(4, .int _), (2, .int _), (0, .ref _), (1, .int _), (3, .int _)]) rfl rfl (List.mem_of_getElem? (i := 4) rfl) rfl (by decide) rfl ?_
        refine aw_goto (tgt := 20) rfl (by decide) ?_
        refine aw_ls [2, 3, 1, 4, 0] rfl ?_
        exact h
      · replace h := h.2 cd_4
        refine aw_iinc (q := 76) (v := _ + 1) (ls' := [(4, .int _), (0, .ref _), (1, .int _), (2, .int _), (3, .int _)]) rfl rfl (List.mem_of_getElem? (i := 4) rfl) rfl (by decide) rfl ?_
        refine aw_goto (tgt := 20) rfl (by decide) ?_
        refine aw_ls [1, 2, 3, 4, 0] rfl ?_
        exact h
    · replace h := h.2 cd_3
      refine aw_iconst (q := 51) (v := 0) rfl rfl (by decide) ?_
      refine aw_iload_n (q := 52) (j := 1) rfl rfl rfl (List.mem_of_getElem? (i := 1) rfl) ?_
      refine aw_icmp_ne (q := 55) (tgt := 73) rfl rfl (by decide) ⟨fun cd_6 => ?_, fun cd_6 => ?_⟩
      · replace h := h.1 cd_6
        refine aw_iload_n (q := 56) (j := 2) rfl rfl rfl (List.mem_of_getElem? (i := 2) rfl) ?_
        refine aw_aload_n (q := 57) (j := 0) rfl rfl rfl (List.mem_of_getElem? (i := 0) rfl) ?_
        refine ag_getR (q := 60) rfl rfl fl_Mo_146 rfl (SX.o hS rfl) (SX.r hS rfl) ?_
        refine aw_bipush (q := 62) (v := 6) rfl rfl (by decide) ?_
        refine aw_bipush (q := 64) (v := 6) rfl rfl (by decide) ?_
        refine aw_iload_n (q := 65) (j := 3) rfl rfl rfl (List.mem_of_getElem? (i := 3) rfl) ?_
        refine aw_imul (q := 66) rfl rfl ?_
        refine aw_iadd (q := 67) rfl rfl ?_
        refine aw_iload (q := 69) (j := 4) rfl rfl (List.mem_of_getElem? (i := 4) rfl) ?_
        refine aw_iadd (q := 70) rfl rfl ?_
        obtain ⟨bd_7, h⟩ := h
        refine ag_iaload (q := 71) (N := 120) rfl rfl (SX.a hS rfl) bd_7 ?_
        refine aw_iadd (q := 72) rfl rfl ?_
        refine aw_istore_n (q := 73) (j := 2) (ls' := [(2, .int _), (0, .ref _), (1, .int _), (3, .int _), (4, .int _)]) rfl rfl rfl (by decide) rfl ?_
        refine aw_iinc (q := 76) (v := _ + 1) (ls' := [(4, .int _), (2, .int _), (0, .ref _), (1, .int _), (3, .int _)]) rfl rfl (List.mem_of_getElem? (i := 4) rfl) rfl (by decide) rfl ?_
        refine aw_goto (tgt := 20) rfl (by decide) ?_
        refine aw_ls [2, 3, 1, 4, 0] rfl ?_
        exact h
      · replace h := h.2 cd_6
        refine aw_iinc (q := 76) (v := _ + 1) (ls' := [(4, .int _), (0, .ref _), (1, .int _), (2, .int _), (3, .int _)]) rfl rfl (List.mem_of_getElem? (i := 4) rfl) rfl (by decide) rfl ?_
        refine aw_goto (tgt := 20) rfl (by decide) ?_
        refine aw_ls [1, 2, 3, 4, 0] rfl ?_
        exact h
set_option maxRecDepth 20000 in
theorem v_Mo_inHoles {E : EN} {g : GS} {s : MS} {Q : Option Value → SG → Prop} (x1 : Int32) (h : AWP E m_Mo_inHoles 4 0 0 [(0, .ref 120), (1, .int x1), (2, .int 0), (3, .int 0)] [] (mk g s) Q) : AMet E m_Mo_inHoles [.ref 120, .int x1] (mk g s) Q := by
  refine AMet.of (by decide) k_Mo_inHoles [(0, .ref 120), (1, .int x1)] (Nat.le_of_ble_eq_true rfl) rfl ?_
  refine aw_iconst (q := 1) (v := 0) rfl rfl (by decide) ?_
  refine aw_istore_n (q := 2) (j := 2) (ls' := [(2, .int _), (0, .ref _), (1, .int _)]) rfl rfl rfl (by decide) rfl ?_
  refine aw_iconst (q := 3) (v := 0) rfl rfl (by decide) ?_
  refine aw_istore_n (q := 4) (j := 3) (ls' := [(3, .int _), (2, .int _), (0, .ref _), (1, .int _)]) rfl rfl rfl (by decide) rfl ?_
  refine aw_ls [2, 3, 1, 0] rfl ?_
  exact h
set_option maxRecDepth 20000 in
theorem v_Mo_lies {E : EN} {g : GS} {s : MS} {Q : Option Value → SG → Prop} (x1 : Int32) (x2 : Int32) (x3 : Int32) (hS : SX g) (h : GI E m_Mo_isLong [.int x1] g s (fun y1_ t1_ => ((y1_ = 0 → Q (some (.int (-1))) (mk g t1_)) ∧ (¬ y1_ = 0 → ((x2 = (-1) → GI E m_Mo_isGrain [.ref 120, .int x3] g t1_ (fun y2_ t2_ => ((y2_ = 0 → Q (some (.int (-1))) (mk g t2_)) ∧ (¬ y2_ = 0 → GV E m_Mo_copies [.ref 120] g t2_ (fun t3_ => GV E m_Mo_goes [.ref 120, .int x1] g t3_ (fun t4_ => ((x2 = (-1) → vp_in x3 120 ∧ Q (some (.int (t4_.1 163 ((x3).toNatClampNeg)))) (mk g t4_)) ∧ (¬ x2 = (-1) → vp_in ((6 + (6 * x2)) + x3) 120 ∧ Q (some (.int (t4_.1 163 ((((6 + (6 * x2)) + x3)).toNatClampNeg)))) (mk g t4_))))))))) ∧ (¬ x2 = (-1) → GI E m_Mo_isHole [.ref 120, .int x2] g t1_ (fun y5_ t5_ => ((y5_ = 0 → Q (some (.int (-1))) (mk g t5_)) ∧ (¬ y5_ = 0 → GI E m_Mo_isGrain [.ref 120, .int x3] g t5_ (fun y6_ t6_ => ((y6_ = 0 → Q (some (.int (-1))) (mk g t6_)) ∧ (¬ y6_ = 0 → GV E m_Mo_copies [.ref 120] g t6_ (fun t7_ => GV E m_Mo_goes [.ref 120, .int x1] g t7_ (fun t8_ => ((x2 = (-1) → vp_in x3 120 ∧ Q (some (.int (t8_.1 163 ((x3).toNatClampNeg)))) (mk g t8_)) ∧ (¬ x2 = (-1) → vp_in ((6 + (6 * x2)) + x3) 120 ∧ Q (some (.int (t8_.1 163 ((((6 + (6 * x2)) + x3)).toNatClampNeg)))) (mk g t8_))))))))))))))))) : AMet E m_Mo_lies [.ref 120, .int x1, .int x2, .int x3] (mk g s) Q := by
  refine AMet.of (by decide) k_Mo_lies [(0, .ref 120), (1, .int x1), (2, .int x2), (3, .int x3)] (Nat.le_of_ble_eq_true rfl) rfl ?_
  refine aw_iload_n (q := 1) (j := 1) rfl rfl rfl (List.mem_of_getElem? (i := 1) rfl) ?_
  refine ag_csI (z := m_Mo_isLong) (av := [.int _]) (st := []) (q := 4) (k' := 0) (n' := 0) rfl rfl cs_Mo_429 ⟨by decide, by decide⟩ rfl rfl (by decide) (by decide) rfl rfl (Nat.le_of_ble_eq_true rfl) ?_
  refine GI.mono h (fun y1_ t1_ h => ?_)
  refine aw_if_eq (q := 7) (tgt := 28) rfl rfl (by decide) ⟨fun cd_1 => ?_, fun cd_1 => ?_⟩
  · replace h := h.1 cd_1
    refine aw_iconst (q := 29) (v := (-1)) rfl rfl (by decide) ?_
    exact aw_ireturn (ty := .int) rfl rfl rfl (by decide) (by decide) h
  · replace h := h.2 cd_1
    refine aw_iload_n (q := 8) (j := 2) rfl rfl rfl (List.mem_of_getElem? (i := 2) rfl) ?_
    refine aw_iconst (q := 9) (v := (-1)) rfl rfl (by decide) ?_
    refine aw_icmp_eq (q := 12) (tgt := 20) rfl rfl (by decide) ⟨fun cd_2 => ?_, fun cd_2 => ?_⟩
    · replace h := h.1 cd_2
      refine aw_aload_n (q := 21) (j := 0) rfl rfl rfl (List.mem_of_getElem? (i := 0) rfl) ?_
      refine aw_iload_n (q := 22) (j := 3) rfl rfl rfl (List.mem_of_getElem? (i := 3) rfl) ?_
      refine ag_cvI (z := m_Mo_isGrain) (ci := 11) (av := [.int _]) (st := []) (q := 25) (k' := 0) (n' := 0) rfl rfl cv_Mo_386 ⟨by decide, by decide⟩ rfl rfl (by decide) (by decide) (SX.o hS rfl) rfl rfl rfl (Nat.le_of_ble_eq_true rfl) ?_
      refine GI.mono h (fun y2_ t2_ h => ?_)
      refine aw_if_ne (q := 28) (tgt := 30) rfl rfl (by decide) ⟨fun cd_3 => ?_, fun cd_3 => ?_⟩
      · replace h := h.1 cd_3
        refine aw_iconst (q := 29) (v := (-1)) rfl rfl (by decide) ?_
        exact aw_ireturn (ty := .int) rfl rfl rfl (by decide) (by decide) h
      · replace h := h.2 cd_3
        refine aw_aload_n (q := 31) (j := 0) rfl rfl rfl (List.mem_of_getElem? (i := 0) rfl) ?_
        refine ag_cvV (z := m_Mo_copies) (ci := 11) (av := []) (st := []) (q := 34) (k' := 0) (n' := 0) rfl rfl cv_Mo_395 ⟨by decide, by decide⟩ rfl rfl (by decide) (by decide) (SX.o hS rfl) rfl rfl rfl (Nat.le_of_ble_eq_true rfl) ?_
        refine GV.mono h (fun t3_ h => ?_)
        refine aw_aload_n (q := 35) (j := 0) rfl rfl rfl (List.mem_of_getElem? (i := 0) rfl) ?_
        refine aw_iload_n (q := 36) (j := 1) rfl rfl rfl (List.mem_of_getElem? (i := 1) rfl) ?_
        refine ag_cvV (z := m_Mo_goes) (ci := 11) (av := [.int _]) (st := []) (q := 39) (k' := 0) (n' := 0) rfl rfl cv_Mo_401 ⟨by decide, by decide⟩ rfl rfl (by decide) (by decide) (SX.o hS rfl) rfl rfl rfl (Nat.le_of_ble_eq_true rfl) ?_
        refine GV.mono h (fun t4_ h => ?_)
        refine aw_iload_n (q := 40) (j := 2) rfl rfl rfl (List.mem_of_getElem? (i := 2) rfl) ?_
        refine aw_iconst (q := 41) (v := (-1)) rfl rfl (by decide) ?_
        refine aw_icmp_ne (q := 44) (tgt := 53) rfl rfl (by decide) ⟨fun cd_4 => ?_, fun cd_4 => ?_⟩
        · replace h := h.1 cd_4
          refine aw_aload_n (q := 45) (j := 0) rfl rfl rfl (List.mem_of_getElem? (i := 0) rfl) ?_
          refine ag_getR (q := 48) rfl rfl fl_Mo_146 rfl (SX.o hS rfl) (SX.r hS rfl) ?_
          refine aw_iload_n (q := 49) (j := 3) rfl rfl rfl (List.mem_of_getElem? (i := 3) rfl) ?_
          obtain ⟨bd_5, h⟩ := h
          refine ag_iaload (q := 50) (N := 120) rfl rfl (SX.a hS rfl) bd_5 ?_
          refine aw_goto (tgt := 67) rfl (by decide) ?_
          exact aw_ireturn (ty := .int) rfl rfl rfl (by decide) (by decide) h
        · replace h := h.2 cd_4
          refine aw_aload_n (q := 54) (j := 0) rfl rfl rfl (List.mem_of_getElem? (i := 0) rfl) ?_
          refine ag_getR (q := 57) rfl rfl fl_Mo_146 rfl (SX.o hS rfl) (SX.r hS rfl) ?_
          refine aw_bipush (q := 59) (v := 6) rfl rfl (by decide) ?_
          refine aw_bipush (q := 61) (v := 6) rfl rfl (by decide) ?_
          refine aw_iload_n (q := 62) (j := 2) rfl rfl rfl (List.mem_of_getElem? (i := 2) rfl) ?_
          refine aw_imul (q := 63) rfl rfl ?_
          refine aw_iadd (q := 64) rfl rfl ?_
          refine aw_iload_n (q := 65) (j := 3) rfl rfl rfl (List.mem_of_getElem? (i := 3) rfl) ?_
          refine aw_iadd (q := 66) rfl rfl ?_
          obtain ⟨bd_6, h⟩ := h
          refine ag_iaload (q := 67) (N := 120) rfl rfl (SX.a hS rfl) bd_6 ?_
          exact aw_ireturn (ty := .int) rfl rfl rfl (by decide) (by decide) h
    · replace h := h.2 cd_2
      refine aw_aload_n (q := 13) (j := 0) rfl rfl rfl (List.mem_of_getElem? (i := 0) rfl) ?_
      refine aw_iload_n (q := 14) (j := 2) rfl rfl rfl (List.mem_of_getElem? (i := 2) rfl) ?_
      refine ag_cvI (z := m_Mo_isHole) (ci := 11) (av := [.int _]) (st := []) (q := 17) (k' := 0) (n' := 0) rfl rfl cv_Mo_389 ⟨by decide, by decide⟩ rfl rfl (by decide) (by decide) (SX.o hS rfl) rfl rfl rfl (Nat.le_of_ble_eq_true rfl) ?_
      refine GI.mono h (fun y5_ t5_ h => ?_)
      refine aw_if_eq (q := 20) (tgt := 28) rfl rfl (by decide) ⟨fun cd_7 => ?_, fun cd_7 => ?_⟩
      · replace h := h.1 cd_7
        refine aw_iconst (q := 29) (v := (-1)) rfl rfl (by decide) ?_
        exact aw_ireturn (ty := .int) rfl rfl rfl (by decide) (by decide) h
      · replace h := h.2 cd_7
        refine aw_aload_n (q := 21) (j := 0) rfl rfl rfl (List.mem_of_getElem? (i := 0) rfl) ?_
        refine aw_iload_n (q := 22) (j := 3) rfl rfl rfl (List.mem_of_getElem? (i := 3) rfl) ?_
        refine ag_cvI (z := m_Mo_isGrain) (ci := 11) (av := [.int _]) (st := []) (q := 25) (k' := 0) (n' := 0) rfl rfl cv_Mo_386 ⟨by decide, by decide⟩ rfl rfl (by decide) (by decide) (SX.o hS rfl) rfl rfl rfl (Nat.le_of_ble_eq_true rfl) ?_
        refine GI.mono h (fun y6_ t6_ h => ?_)
        refine aw_if_ne (q := 28) (tgt := 30) rfl rfl (by decide) ⟨fun cd_8 => ?_, fun cd_8 => ?_⟩
        · replace h := h.1 cd_8
          refine aw_iconst (q := 29) (v := (-1)) rfl rfl (by decide) ?_
          exact aw_ireturn (ty := .int) rfl rfl rfl (by decide) (by decide) h
        · replace h := h.2 cd_8
          refine aw_aload_n (q := 31) (j := 0) rfl rfl rfl (List.mem_of_getElem? (i := 0) rfl) ?_
          refine ag_cvV (z := m_Mo_copies) (ci := 11) (av := []) (st := []) (q := 34) (k' := 0) (n' := 0) rfl rfl cv_Mo_395 ⟨by decide, by decide⟩ rfl rfl (by decide) (by decide) (SX.o hS rfl) rfl rfl rfl (Nat.le_of_ble_eq_true rfl) ?_
          refine GV.mono h (fun t7_ h => ?_)
          refine aw_aload_n (q := 35) (j := 0) rfl rfl rfl (List.mem_of_getElem? (i := 0) rfl) ?_
          refine aw_iload_n (q := 36) (j := 1) rfl rfl rfl (List.mem_of_getElem? (i := 1) rfl) ?_
          refine ag_cvV (z := m_Mo_goes) (ci := 11) (av := [.int _]) (st := []) (q := 39) (k' := 0) (n' := 0) rfl rfl cv_Mo_401 ⟨by decide, by decide⟩ rfl rfl (by decide) (by decide) (SX.o hS rfl) rfl rfl rfl (Nat.le_of_ble_eq_true rfl) ?_
          refine GV.mono h (fun t8_ h => ?_)
          refine aw_iload_n (q := 40) (j := 2) rfl rfl rfl (List.mem_of_getElem? (i := 2) rfl) ?_
          refine aw_iconst (q := 41) (v := (-1)) rfl rfl (by decide) ?_
          refine aw_icmp_ne (q := 44) (tgt := 53) rfl rfl (by decide) ⟨fun cd_9 => ?_, fun cd_9 => ?_⟩
          · replace h := h.1 cd_9
            refine aw_aload_n (q := 45) (j := 0) rfl rfl rfl (List.mem_of_getElem? (i := 0) rfl) ?_
            refine ag_getR (q := 48) rfl rfl fl_Mo_146 rfl (SX.o hS rfl) (SX.r hS rfl) ?_
            refine aw_iload_n (q := 49) (j := 3) rfl rfl rfl (List.mem_of_getElem? (i := 3) rfl) ?_
            obtain ⟨bd_10, h⟩ := h
            refine ag_iaload (q := 50) (N := 120) rfl rfl (SX.a hS rfl) bd_10 ?_
            refine aw_goto (tgt := 67) rfl (by decide) ?_
            exact aw_ireturn (ty := .int) rfl rfl rfl (by decide) (by decide) h
          · replace h := h.2 cd_9
            refine aw_aload_n (q := 54) (j := 0) rfl rfl rfl (List.mem_of_getElem? (i := 0) rfl) ?_
            refine ag_getR (q := 57) rfl rfl fl_Mo_146 rfl (SX.o hS rfl) (SX.r hS rfl) ?_
            refine aw_bipush (q := 59) (v := 6) rfl rfl (by decide) ?_
            refine aw_bipush (q := 61) (v := 6) rfl rfl (by decide) ?_
            refine aw_iload_n (q := 62) (j := 2) rfl rfl rfl (List.mem_of_getElem? (i := 2) rfl) ?_
            refine aw_imul (q := 63) rfl rfl ?_
            refine aw_iadd (q := 64) rfl rfl ?_
            refine aw_iload_n (q := 65) (j := 3) rfl rfl rfl (List.mem_of_getElem? (i := 3) rfl) ?_
            refine aw_iadd (q := 66) rfl rfl ?_
            obtain ⟨bd_11, h⟩ := h
            refine ag_iaload (q := 67) (N := 120) rfl rfl (SX.a hS rfl) bd_11 ?_
            exact aw_ireturn (ty := .int) rfl rfl rfl (by decide) (by decide) h
set_option maxRecDepth 20000 in
theorem v_Mo_hire_20 {E : EN} {g : GS} {s : MS} {Q : Option Value → SG → Prop} (x1 : Int32) (x2 : Int32) (h : Q (some (.int (-1))) (mk g s)) : AWP E m_Mo_hire 20 0 0 [(0, .ref 120), (1, .int x1), (2, .int x2)] [] (mk g s) Q := by
  refine aw_iconst (q := 21) (v := (-1)) rfl rfl (by decide) ?_
  exact aw_ireturn (ty := .int) rfl rfl rfl (by decide) (by decide) h
set_option maxRecDepth 20000 in
theorem v_Mo_hire_28 {E : EN} {g : GS} {s : MS} {Q : Option Value → SG → Prop} (x1 : Int32) (x2 : Int32) (x3 : Int32) (x4 : Int32) (hS : SX g) (h : vp_in (s.1 120 18) 2 ∧ (((1 <<< ((s.1 137 (((s.1 120 18)).toNatClampNeg)) &&& 31)) ≤ x4 → ((x3 < 0 → AWP E m_Mo_hire 136 0 0 [(0, .ref 120), (1, .int x1), (2, .int x2), (3, .int x3), (4, .int x4)] [] (mk g s) Q) ∧ (¬ x3 < 0 → ((x2 = 1 → AWP E m_Mo_hire 136 0 0 [(0, .ref 120), (1, .int x1), (2, .int x2), (3, .int x3), (4, .int x4)] [] (mk g s) Q) ∧ (¬ x2 = 1 → GI E m_Mo_feesOf [.ref 120, .int x3] g s (fun y1_ t1_ => Q (some (.int y1_)) (mk g t1_))))))) ∧ (¬ (1 <<< ((s.1 137 (((s.1 120 18)).toNatClampNeg)) &&& 31)) ≤ x4 → (((0 : Int32) ≤ x3 → GI E m_Mo_feesOf [.ref 120, .int x4] g s (fun y2_ t2_ => GI E m_Mo_feesOf [.ref 120, .int x3] g t2_ (fun y3_ t3_ => AWP E m_Mo_hire 66 0 0 [(0, .ref 120), (1, .int x1), (2, .int x2), (3, .int x3), (4, .int x4), (5, .int (y2_ - y3_))] [] (mk g t3_) Q))) ∧ (¬ (0 : Int32) ≤ x3 → AWP E m_Mo_hire 66 0 0 [(0, .ref 120), (1, .int x1), (2, .int x2), (3, .int x3), (4, .int x4), (5, .int 0)] [] (mk g s) Q))))) : AWP E m_Mo_hire 28 0 0 [(0, .ref 120), (1, .int x1), (2, .int x2), (3, .int x3), (4, .int x4)] [] (mk g s) Q := by
  refine aw_iload (q := 30) (j := 4) rfl rfl (List.mem_of_getElem? (i := 4) rfl) ?_
  refine aw_iconst (q := 31) (v := 1) rfl rfl (by decide) ?_
  refine aw_aload_n (q := 32) (j := 0) rfl rfl rfl (List.mem_of_getElem? (i := 0) rfl) ?_
  refine ag_getR (q := 35) rfl rfl fl_Mo_67 rfl (SX.o hS rfl) (SX.r hS rfl) ?_
  refine aw_aload_n (q := 36) (j := 0) rfl rfl rfl (List.mem_of_getElem? (i := 0) rfl) ?_
  refine ag_getI (q := 39) rfl rfl fl_Mo_257 rfl (SX.o hS rfl) ?_
  obtain ⟨bd_1, h⟩ := h
  refine ag_iaload (q := 40) (N := 2) rfl rfl (SX.a hS rfl) bd_1 ?_
  refine aw_ishl (q := 41) rfl rfl ?_
  refine aw_icmp_ge (q := 44) (tgt := 127) rfl rfl (by decide) ⟨fun cd_2 => ?_, fun cd_2 => ?_⟩
  · replace h := h.1 cd_2
    refine aw_iload_n (q := 128) (j := 3) rfl rfl rfl (List.mem_of_getElem? (i := 3) rfl) ?_
    refine aw_if_lt (q := 131) (tgt := 136) rfl rfl (by decide) ⟨fun cd_3 => ?_, fun cd_3 => ?_⟩
    · replace h := h.1 cd_3
      refine aw_ls [0, 1, 2, 3, 4] rfl ?_
      exact h
    · replace h := h.2 cd_3
      refine aw_iload_n (q := 132) (j := 2) rfl rfl rfl (List.mem_of_getElem? (i := 2) rfl) ?_
      refine aw_iconst (q := 133) (v := 1) rfl rfl (by decide) ?_
      refine aw_icmp_ne (q := 136) (tgt := 140) rfl rfl (by decide) ⟨fun cd_4 => ?_, fun cd_4 => ?_⟩
      · replace h := h.1 cd_4
        refine aw_ls [0, 1, 2, 3, 4] rfl ?_
        exact h
      · replace h := h.2 cd_4
        refine aw_aload_n (q := 141) (j := 0) rfl rfl rfl (List.mem_of_getElem? (i := 0) rfl) ?_
        refine aw_iload_n (q := 142) (j := 3) rfl rfl rfl (List.mem_of_getElem? (i := 3) rfl) ?_
        refine ag_cvI (z := m_Mo_feesOf) (ci := 11) (av := [.int _]) (st := []) (q := 145) (k' := 0) (n' := 0) rfl rfl cv_Mo_442 ⟨by decide, by decide⟩ rfl rfl (by decide) (by decide) (SX.o hS rfl) rfl rfl rfl (Nat.le_of_ble_eq_true rfl) ?_
        refine GI.mono h (fun y1_ t1_ h => ?_)
        exact aw_ireturn (ty := .int) rfl rfl rfl (by decide) (by decide) h
  · replace h := h.2 cd_2
    refine aw_iload_n (q := 45) (j := 3) rfl rfl rfl (List.mem_of_getElem? (i := 3) rfl) ?_
    refine aw_if_ge (q := 48) (tgt := 52) rfl rfl (by decide) ⟨fun cd_5 => ?_, fun cd_5 => ?_⟩
    · replace h := h.1 cd_5
      refine aw_aload_n (q := 53) (j := 0) rfl rfl rfl (List.mem_of_getElem? (i := 0) rfl) ?_
      refine aw_iload (q := 55) (j := 4) rfl rfl (List.mem_of_getElem? (i := 4) rfl) ?_
      refine ag_cvI (z := m_Mo_feesOf) (ci := 11) (av := [.int _]) (st := []) (q := 58) (k' := 0) (n' := 0) rfl rfl cv_Mo_442 ⟨by decide, by decide⟩ rfl rfl (by decide) (by decide) (SX.o hS rfl) rfl rfl rfl (Nat.le_of_ble_eq_true rfl) ?_
      refine GI.mono h (fun y2_ t2_ h => ?_)
      refine aw_aload_n (q := 59) (j := 0) rfl rfl rfl (List.mem_of_getElem? (i := 0) rfl) ?_
      refine aw_iload_n (q := 60) (j := 3) rfl rfl rfl (List.mem_of_getElem? (i := 3) rfl) ?_
      refine ag_cvI (z := m_Mo_feesOf) (ci := 11) (av := [.int _]) (st := [.int _]) (q := 63) (k' := 0) (n' := 0) rfl rfl cv_Mo_442 ⟨by decide, by decide⟩ rfl rfl (by decide) (by decide) (SX.o hS rfl) rfl rfl rfl (Nat.le_of_ble_eq_true rfl) ?_
      refine GI.mono h (fun y3_ t3_ h => ?_)
      refine aw_isub (q := 64) rfl rfl ?_
      refine aw_istore (q := 66) (j := 5) (ls' := [(5, .int _), (0, .ref _), (1, .int _), (2, .int _), (3, .int _), (4, .int _)]) rfl rfl (by decide) rfl ?_
      refine aw_ls [1, 2, 3, 4, 5, 0] rfl ?_
      exact h
    · replace h := h.2 cd_5
      refine aw_iconst (q := 49) (v := 0) rfl rfl (by decide) ?_
      refine aw_goto (tgt := 64) rfl (by decide) ?_
      refine aw_istore (q := 66) (j := 5) (ls' := [(5, .int _), (0, .ref _), (1, .int _), (2, .int _), (3, .int _), (4, .int _)]) rfl rfl (by decide) rfl ?_
      refine aw_ls [1, 2, 3, 4, 5, 0] rfl ?_
      exact h
set_option maxRecDepth 20000 in
theorem v_Mo_hire_66 {E : EN} {g : GS} {s : MS} {Q : Option Value → SG → Prop} (x1 : Int32) (x2 : Int32) (x3 : Int32) (x4 : Int32) (x5 : Int32) (h : ((x3 < 0 → AWP E m_Mo_hire 95 0 0 [(0, .ref 120), (1, .int x1), (2, .int x2), (3, .int x3), (4, .int x4), (5, .int x5)] [] (mk g s) Q) ∧ (¬ x3 < 0 → (((0 : Int32) < x5 → AWP E m_Mo_hire 121 0 0 [(0, .ref 120), (1, .int x1), (2, .int x2), (3, .int x3), (4, .int x4), (5, .int x5)] [] (mk g s) Q) ∧ (¬ (0 : Int32) < x5 → ((x5 = 0 → GI E m_Mo_bits [.int x4] g s (fun y1_ t1_ => GI E m_Mo_bits [.int x3] g t1_ (fun y2_ t2_ => ((y1_ < y2_ → AWP E m_Mo_hire 95 0 0 [(0, .ref 120), (1, .int x1), (2, .int x2), (3, .int x3), (4, .int x4), (5, .int x5)] [] (mk g t2_) Q) ∧ (¬ y1_ < y2_ → AWP E m_Mo_hire 121 0 0 [(0, .ref 120), (1, .int x1), (2, .int x2), (3, .int x3), (4, .int x4), (5, .int x5)] [] (mk g t2_) Q))))) ∧ (¬ x5 = 0 → AWP E m_Mo_hire 95 0 0 [(0, .ref 120), (1, .int x1), (2, .int x2), (3, .int x3), (4, .int x4), (5, .int x5)] [] (mk g s) Q))))))) : AWP E m_Mo_hire 66 0 0 [(0, .ref 120), (1, .int x1), (2, .int x2), (3, .int x3), (4, .int x4), (5, .int x5)] [] (mk g s) Q := by
  refine aw_iload_n (q := 67) (j := 3) rfl rfl rfl (List.mem_of_getElem? (i := 3) rfl) ?_
  refine aw_if_lt (q := 70) (tgt := 95) rfl rfl (by decide) ⟨fun cd_1 => ?_, fun cd_1 => ?_⟩
  · replace h := h.1 cd_1
    refine aw_ls [0, 1, 2, 3, 4, 5] rfl ?_
    exact h
  · replace h := h.2 cd_1
    refine aw_iload (q := 72) (j := 5) rfl rfl (List.mem_of_getElem? (i := 5) rfl) ?_
    refine aw_if_gt (q := 75) (tgt := 121) rfl rfl (by decide) ⟨fun cd_2 => ?_, fun cd_2 => ?_⟩
    · replace h := h.1 cd_2
      refine aw_ls [0, 1, 2, 3, 4, 5] rfl ?_
      exact h
    · replace h := h.2 cd_2
      refine aw_iload (q := 77) (j := 5) rfl rfl (List.mem_of_getElem? (i := 5) rfl) ?_
      refine aw_if_ne (q := 80) (tgt := 95) rfl rfl (by decide) ⟨fun cd_3 => ?_, fun cd_3 => ?_⟩
      · replace h := h.1 cd_3
        refine aw_iload (q := 82) (j := 4) rfl rfl (List.mem_of_getElem? (i := 4) rfl) ?_
        refine ag_csI (z := m_Mo_bits) (av := [.int _]) (st := []) (q := 85) (k' := 0) (n' := 0) rfl rfl cs_Mo_445 ⟨by decide, by decide⟩ rfl rfl (by decide) (by decide) rfl rfl (Nat.le_of_ble_eq_true rfl) ?_
        refine GI.mono h (fun y1_ t1_ h => ?_)
        refine aw_iload_n (q := 86) (j := 3) rfl rfl rfl (List.mem_of_getElem? (i := 3) rfl) ?_
        refine ag_csI (z := m_Mo_bits) (av := [.int _]) (st := [.int _]) (q := 89) (k' := 0) (n' := 0) rfl rfl cs_Mo_445 ⟨by decide, by decide⟩ rfl rfl (by decide) (by decide) rfl rfl (Nat.le_of_ble_eq_true rfl) ?_
        refine GI.mono h (fun y2_ t2_ h => ?_)
        refine aw_icmp_lt (q := 92) (tgt := 95) rfl rfl (by decide) ⟨fun cd_4 => ?_, fun cd_4 => ?_⟩
        · replace h := h.1 cd_4
          refine aw_ls [0, 1, 2, 3, 4, 5] rfl ?_
          exact h
        · replace h := h.2 cd_4
          refine aw_goto (tgt := 121) rfl (by decide) ?_
          refine aw_ls [0, 1, 2, 3, 4, 5] rfl ?_
          exact h
      · replace h := h.2 cd_3
        refine aw_ls [0, 1, 2, 3, 4, 5] rfl ?_
        exact h
set_option maxRecDepth 20000 in
theorem v_Mo_hire_95 {E : EN} {g : GS} {s : MS} {Q : Option Value → SG → Prop} (x1 : Int32) (x2 : Int32) (x3 : Int32) (x4 : Int32) (x5 : Int32) (hS : SX g) (h : GV E m_Mo_copies [.ref 120] g s (fun t1_ => GV E m_Mo_hires [.ref 120, .int x4] g t1_ (fun t2_ => GV E m_Mo_goes [.ref 120, .int x1] g t2_ (fun t3_ => GI E m_Mo_isCleanNow [.ref 120, .int 1] g t3_ (fun y4_ t4_ => ((y4_ = 0 → AWP E m_Mo_hire 121 0 0 [(0, .ref 120), (1, .int x1), (2, .int x2), (3, .int x3), (4, .int x4), (5, .int x5)] [] (mk g t4_) Q) ∧ (¬ y4_ = 0 → AWP E m_Mo_hire 121 0 0 [(0, .ref 120), (1, .int x1), (2, .int x2), (3, .int x4), (4, .int x4), (5, .int x5)] [] (mk g t4_) Q))))))) : AWP E m_Mo_hire 95 0 0 [(0, .ref 120), (1, .int x1), (2, .int x2), (3, .int x3), (4, .int x4), (5, .int x5)] [] (mk g s) Q := by
  refine aw_aload_n (q := 96) (j := 0) rfl rfl rfl (List.mem_of_getElem? (i := 0) rfl) ?_
  refine ag_cvV (z := m_Mo_copies) (ci := 11) (av := []) (st := []) (q := 99) (k' := 0) (n' := 0) rfl rfl cv_Mo_395 ⟨by decide, by decide⟩ rfl rfl (by decide) (by decide) (SX.o hS rfl) rfl rfl rfl (Nat.le_of_ble_eq_true rfl) ?_
  refine GV.mono h (fun t1_ h => ?_)
  refine aw_aload_n (q := 100) (j := 0) rfl rfl rfl (List.mem_of_getElem? (i := 0) rfl) ?_
  refine aw_iload (q := 102) (j := 4) rfl rfl (List.mem_of_getElem? (i := 4) rfl) ?_
  refine ag_cvV (z := m_Mo_hires) (ci := 11) (av := [.int _]) (st := []) (q := 105) (k' := 0) (n' := 0) rfl rfl cv_Mo_448 ⟨by decide, by decide⟩ rfl rfl (by decide) (by decide) (SX.o hS rfl) rfl rfl rfl (Nat.le_of_ble_eq_true rfl) ?_
  refine GV.mono h (fun t2_ h => ?_)
  refine aw_aload_n (q := 106) (j := 0) rfl rfl rfl (List.mem_of_getElem? (i := 0) rfl) ?_
  refine aw_iload_n (q := 107) (j := 1) rfl rfl rfl (List.mem_of_getElem? (i := 1) rfl) ?_
  refine ag_cvV (z := m_Mo_goes) (ci := 11) (av := [.int _]) (st := []) (q := 110) (k' := 0) (n' := 0) rfl rfl cv_Mo_401 ⟨by decide, by decide⟩ rfl rfl (by decide) (by decide) (SX.o hS rfl) rfl rfl rfl (Nat.le_of_ble_eq_true rfl) ?_
  refine GV.mono h (fun t3_ h => ?_)
  refine aw_aload_n (q := 111) (j := 0) rfl rfl rfl (List.mem_of_getElem? (i := 0) rfl) ?_
  refine aw_iconst (q := 112) (v := 1) rfl rfl (by decide) ?_
  refine ag_cvI (z := m_Mo_isCleanNow) (ci := 11) (av := [.int _]) (st := []) (q := 115) (k' := 0) (n' := 0) rfl rfl cv_Mo_422 ⟨by decide, by decide⟩ rfl rfl (by decide) (by decide) (SX.o hS rfl) rfl rfl rfl (Nat.le_of_ble_eq_true rfl) ?_
  refine GI.mono h (fun y4_ t4_ h => ?_)
  refine aw_if_eq (q := 118) (tgt := 121) rfl rfl (by decide) ⟨fun cd_1 => ?_, fun cd_1 => ?_⟩
  · replace h := h.1 cd_1
    refine aw_ls [0, 1, 2, 3, 4, 5] rfl ?_
    exact h
  · replace h := h.2 cd_1
    refine aw_iload (q := 120) (j := 4) rfl rfl (List.mem_of_getElem? (i := 4) rfl) ?_
    refine aw_istore_n (q := 121) (j := 3) (ls' := [(3, .int _), (0, .ref _), (1, .int _), (2, .int _), (4, .int _), (5, .int _)]) rfl rfl rfl (by decide) rfl ?_
    refine aw_ls [1, 2, 3, 0, 4, 5] rfl ?_
    exact h
set_option maxRecDepth 20000 in
theorem v_Mo_hire_121 {E : EN} {g : GS} {s : MS} {Q : Option Value → SG → Prop} (x1 : Int32) (x2 : Int32) (x3 : Int32) (x4 : Int32) (x5 : Int32) (h : AWP E m_Mo_hire 28 0 0 [(0, .ref 120), (1, .int x1), (2, .int x2), (3, .int x3), (4, .int (x4 + 1))] [] (mk g s) Q) : AWP E m_Mo_hire 121 0 0 [(0, .ref 120), (1, .int x1), (2, .int x2), (3, .int x3), (4, .int x4), (5, .int x5)] [] (mk g s) Q := by
  refine aw_iinc (q := 124) (v := _ + 1) (ls' := [(4, .int _), (0, .ref _), (1, .int _), (2, .int _), (3, .int _), (5, .int _)]) rfl rfl (List.mem_of_getElem? (i := 4) rfl) rfl (by decide) rfl ?_
  refine aw_goto (tgt := 28) rfl (by decide) ?_
  refine aw_ls [1, 2, 3, 4, 0] rfl ?_
  exact h
set_option maxRecDepth 20000 in
theorem v_Mo_hire_136 {E : EN} {g : GS} {s : MS} {Q : Option Value → SG → Prop} (x1 : Int32) (x2 : Int32) (x3 : Int32) (x4 : Int32) (h : Q (some (.int x3)) (mk g s)) : AWP E m_Mo_hire 136 0 0 [(0, .ref 120), (1, .int x1), (2, .int x2), (3, .int x3), (4, .int x4)] [] (mk g s) Q := by
  refine aw_iload_n (q := 137) (j := 3) rfl rfl rfl (List.mem_of_getElem? (i := 3) rfl) ?_
  refine aw_goto (tgt := 145) rfl (by decide) ?_
  exact aw_ireturn (ty := .int) rfl rfl rfl (by decide) (by decide) h
set_option maxRecDepth 20000 in
theorem v_Mo_hire {E : EN} {g : GS} {s : MS} {Q : Option Value → SG → Prop} (x1 : Int32) (x2 : Int32) (h : GI E m_Mo_in [.int x1, .int 1, .int 300] g s (fun y1_ t1_ => ((y1_ = 0 → AWP E m_Mo_hire 20 0 0 [(0, .ref 120), (1, .int x1), (2, .int x2)] [] (mk g t1_) Q) ∧ (¬ y1_ = 0 → GI E m_Mo_in [.int x2, .int 0, .int 1] g t1_ (fun y2_ t2_ => ((y2_ = 0 → AWP E m_Mo_hire 20 0 0 [(0, .ref 120), (1, .int x1), (2, .int x2)] [] (mk g t2_) Q) ∧ (¬ y2_ = 0 → AWP E m_Mo_hire 28 0 0 [(0, .ref 120), (1, .int x1), (2, .int x2), (3, .int (-2)), (4, .int 0)] [] (mk g t2_) Q))))))) : AMet E m_Mo_hire [.ref 120, .int x1, .int x2] (mk g s) Q := by
  refine AMet.of (by decide) k_Mo_hire [(0, .ref 120), (1, .int x1), (2, .int x2)] (Nat.le_of_ble_eq_true rfl) rfl ?_
  refine aw_iload_n (q := 1) (j := 1) rfl rfl rfl (List.mem_of_getElem? (i := 1) rfl) ?_
  refine aw_iconst (q := 2) (v := 1) rfl rfl (by decide) ?_
  refine aw_sipush (q := 5) (v := 300) rfl rfl (by decide) ?_
  refine ag_csI (z := m_Mo_in) (av := [.int _, .int _, .int _]) (st := []) (q := 8) (k' := 0) (n' := 0) rfl rfl cs_Mo_350 ⟨by decide, by decide⟩ rfl rfl (by decide) (by decide) rfl rfl (Nat.le_of_ble_eq_true rfl) ?_
  refine GI.mono h (fun y1_ t1_ h => ?_)
  refine aw_if_eq (q := 11) (tgt := 20) rfl rfl (by decide) ⟨fun cd_1 => ?_, fun cd_1 => ?_⟩
  · replace h := h.1 cd_1
    refine aw_ls [0, 1, 2] rfl ?_
    exact h
  · replace h := h.2 cd_1
    refine aw_iload_n (q := 12) (j := 2) rfl rfl rfl (List.mem_of_getElem? (i := 2) rfl) ?_
    refine aw_iconst (q := 13) (v := 0) rfl rfl (by decide) ?_
    refine aw_iconst (q := 14) (v := 1) rfl rfl (by decide) ?_
    refine ag_csI (z := m_Mo_in) (av := [.int _, .int _, .int _]) (st := []) (q := 17) (k' := 0) (n' := 0) rfl rfl cs_Mo_350 ⟨by decide, by decide⟩ rfl rfl (by decide) (by decide) rfl rfl (Nat.le_of_ble_eq_true rfl) ?_
    refine GI.mono h (fun y2_ t2_ h => ?_)
    refine aw_if_ne (q := 20) (tgt := 22) rfl rfl (by decide) ⟨fun cd_2 => ?_, fun cd_2 => ?_⟩
    · replace h := h.1 cd_2
      refine aw_ls [0, 1, 2] rfl ?_
      exact h
    · replace h := h.2 cd_2
      refine aw_bipush (q := 24) (v := (-2)) rfl rfl (by decide) ?_
      refine aw_istore_n (q := 25) (j := 3) (ls' := [(3, .int _), (0, .ref _), (1, .int _), (2, .int _)]) rfl rfl rfl (by decide) rfl ?_
      refine aw_iconst (q := 26) (v := 0) rfl rfl (by decide) ?_
      refine aw_istore (q := 28) (j := 4) (ls' := [(4, .int _), (3, .int _), (0, .ref _), (1, .int _), (2, .int _)]) rfl rfl (by decide) rfl ?_
      refine aw_ls [2, 3, 4, 1, 0] rfl ?_
      exact h
set_option maxRecDepth 20000 in
theorem v_Mo_feesOf_4 {E : EN} {g : GS} {s : MS} {Q : Option Value → SG → Prop} (x1 : Int32) (x2 : Int32) (x3 : Int32) (hS : SX g) (h : vp_in (s.1 120 18) 2 ∧ (((s.1 137 (((s.1 120 18)).toNatClampNeg)) ≤ x3 → Q (some (.int x2)) (mk g s)) ∧ (¬ (s.1 137 (((s.1 120 18)).toNatClampNeg)) ≤ x3 → ((((x1 >>> (x3 &&& 31)) &&& 1) = 1 → vp_in ((8 * (s.1 120 18)) + x3) 16 ∧ AWP E m_Mo_feesOf 4 0 0 [(0, .ref 120), (1, .int x1), (2, .int (x2 + (s.1 141 ((((8 * (s.1 120 18)) + x3)).toNatClampNeg)))), (3, .int (x3 + 1))] [] (mk g s) Q) ∧ (¬ ((x1 >>> (x3 &&& 31)) &&& 1) = 1 → AWP E m_Mo_feesOf 4 0 0 [(0, .ref 120), (1, .int x1), (2, .int x2), (3, .int (x3 + 1))] [] (mk g s) Q))))) : AWP E m_Mo_feesOf 4 0 0 [(0, .ref 120), (1, .int x1), (2, .int x2), (3, .int x3)] [] (mk g s) Q := by
  refine aw_iload_n (q := 5) (j := 3) rfl rfl rfl (List.mem_of_getElem? (i := 3) rfl) ?_
  refine aw_aload_n (q := 6) (j := 0) rfl rfl rfl (List.mem_of_getElem? (i := 0) rfl) ?_
  refine ag_getR (q := 9) rfl rfl fl_Mo_67 rfl (SX.o hS rfl) (SX.r hS rfl) ?_
  refine aw_aload_n (q := 10) (j := 0) rfl rfl rfl (List.mem_of_getElem? (i := 0) rfl) ?_
  refine ag_getI (q := 13) rfl rfl fl_Mo_257 rfl (SX.o hS rfl) ?_
  obtain ⟨bd_1, h⟩ := h
  refine ag_iaload (q := 14) (N := 2) rfl rfl (SX.a hS rfl) bd_1 ?_
  refine aw_icmp_ge (q := 17) (tgt := 49) rfl rfl (by decide) ⟨fun cd_2 => ?_, fun cd_2 => ?_⟩
  · replace h := h.1 cd_2
    refine aw_iload_n (q := 50) (j := 2) rfl rfl rfl (List.mem_of_getElem? (i := 2) rfl) ?_
    exact aw_ireturn (ty := .int) rfl rfl rfl (by decide) (by decide) h
  · replace h := h.2 cd_2
    refine aw_iload_n (q := 18) (j := 1) rfl rfl rfl (List.mem_of_getElem? (i := 1) rfl) ?_
    refine aw_iload_n (q := 19) (j := 3) rfl rfl rfl (List.mem_of_getElem? (i := 3) rfl) ?_
    refine aw_ishr (q := 20) rfl rfl ?_
    refine aw_iconst (q := 21) (v := 1) rfl rfl (by decide) ?_
    refine aw_iand (q := 22) rfl rfl ?_
    refine aw_iconst (q := 23) (v := 1) rfl rfl (by decide) ?_
    refine aw_icmp_ne (q := 26) (tgt := 43) rfl rfl (by decide) ⟨fun cd_3 => ?_, fun cd_3 => ?_⟩
    · replace h := h.1 cd_3
      refine aw_iload_n (q := 27) (j := 2) rfl rfl rfl (List.mem_of_getElem? (i := 2) rfl) ?_
      refine aw_aload_n (q := 28) (j := 0) rfl rfl rfl (List.mem_of_getElem? (i := 0) rfl) ?_
      refine ag_getR (q := 31) rfl rfl fl_Mo_79 rfl (SX.o hS rfl) (SX.r hS rfl) ?_
      refine aw_bipush (q := 33) (v := 8) rfl rfl (by decide) ?_
      refine aw_aload_n (q := 34) (j := 0) rfl rfl rfl (List.mem_of_getElem? (i := 0) rfl) ?_
      refine ag_getI (q := 37) rfl rfl fl_Mo_257 rfl (SX.o hS rfl) ?_
      refine aw_imul (q := 38) rfl rfl ?_
      refine aw_iload_n (q := 39) (j := 3) rfl rfl rfl (List.mem_of_getElem? (i := 3) rfl) ?_
      refine aw_iadd (q := 40) rfl rfl ?_
      obtain ⟨bd_4, h⟩ := h
      refine ag_iaload (q := 41) (N := 16) rfl rfl (SX.a hS rfl) bd_4 ?_
      refine aw_iadd (q := 42) rfl rfl ?_
      refine aw_istore_n (q := 43) (j := 2) (ls' := [(2, .int _), (0, .ref _), (1, .int _), (3, .int _)]) rfl rfl rfl (by decide) rfl ?_
      refine aw_iinc (q := 46) (v := _ + 1) (ls' := [(3, .int _), (2, .int _), (0, .ref _), (1, .int _)]) rfl rfl (List.mem_of_getElem? (i := 3) rfl) rfl (by decide) rfl ?_
      refine aw_goto (tgt := 4) rfl (by decide) ?_
      refine aw_ls [2, 3, 1, 0] rfl ?_
      exact h
    · replace h := h.2 cd_3
      refine aw_iinc (q := 46) (v := _ + 1) (ls' := [(3, .int _), (0, .ref _), (1, .int _), (2, .int _)]) rfl rfl (List.mem_of_getElem? (i := 3) rfl) rfl (by decide) rfl ?_
      refine aw_goto (tgt := 4) rfl (by decide) ?_
      refine aw_ls [1, 2, 3, 0] rfl ?_
      exact h
set_option maxRecDepth 20000 in
theorem v_Mo_feesOf {E : EN} {g : GS} {s : MS} {Q : Option Value → SG → Prop} (x1 : Int32) (h : AWP E m_Mo_feesOf 4 0 0 [(0, .ref 120), (1, .int x1), (2, .int 0), (3, .int 0)] [] (mk g s) Q) : AMet E m_Mo_feesOf [.ref 120, .int x1] (mk g s) Q := by
  refine AMet.of (by decide) k_Mo_feesOf [(0, .ref 120), (1, .int x1)] (Nat.le_of_ble_eq_true rfl) rfl ?_
  refine aw_iconst (q := 1) (v := 0) rfl rfl (by decide) ?_
  refine aw_istore_n (q := 2) (j := 2) (ls' := [(2, .int _), (0, .ref _), (1, .int _)]) rfl rfl rfl (by decide) rfl ?_
  refine aw_iconst (q := 3) (v := 0) rfl rfl (by decide) ?_
  refine aw_istore_n (q := 4) (j := 3) (ls' := [(3, .int _), (2, .int _), (0, .ref _), (1, .int _)]) rfl rfl rfl (by decide) rfl ?_
  refine aw_ls [2, 3, 1, 0] rfl ?_
  exact h
set_option maxRecDepth 20000 in
theorem v_Mo_bits_4 {E : EN} {g : GS} {s : MS} {Q : Option Value → SG → Prop} (x0 : Int32) (x1 : Int32) (x2 : Int32) (h : ((8 ≤ x2 → Q (some (.int x1)) (mk g s)) ∧ (¬ 8 ≤ x2 → AWP E m_Mo_bits 4 0 0 [(0, .int x0), (1, .int (x1 + ((x0 >>> (x2 &&& 31)) &&& 1))), (2, .int (x2 + 1))] [] (mk g s) Q))) : AWP E m_Mo_bits 4 0 0 [(0, .int x0), (1, .int x1), (2, .int x2)] [] (mk g s) Q := by
  refine aw_iload_n (q := 5) (j := 2) rfl rfl rfl (List.mem_of_getElem? (i := 2) rfl) ?_
  refine aw_bipush (q := 7) (v := 8) rfl rfl (by decide) ?_
  refine aw_icmp_ge (q := 10) (tgt := 24) rfl rfl (by decide) ⟨fun cd_1 => ?_, fun cd_1 => ?_⟩
  · replace h := h.1 cd_1
    refine aw_iload_n (q := 25) (j := 1) rfl rfl rfl (List.mem_of_getElem? (i := 1) rfl) ?_
    exact aw_ireturn (ty := .int) rfl rfl rfl (by decide) (by decide) h
  · replace h := h.2 cd_1
    refine aw_iload_n (q := 11) (j := 1) rfl rfl rfl (List.mem_of_getElem? (i := 1) rfl) ?_
    refine aw_iload_n (q := 12) (j := 0) rfl rfl rfl (List.mem_of_getElem? (i := 0) rfl) ?_
    refine aw_iload_n (q := 13) (j := 2) rfl rfl rfl (List.mem_of_getElem? (i := 2) rfl) ?_
    refine aw_ishr (q := 14) rfl rfl ?_
    refine aw_iconst (q := 15) (v := 1) rfl rfl (by decide) ?_
    refine aw_iand (q := 16) rfl rfl ?_
    refine aw_iadd (q := 17) rfl rfl ?_
    refine aw_istore_n (q := 18) (j := 1) (ls' := [(1, .int _), (0, .int _), (2, .int _)]) rfl rfl rfl (by decide) rfl ?_
    refine aw_iinc (q := 21) (v := _ + 1) (ls' := [(2, .int _), (1, .int _), (0, .int _)]) rfl rfl (List.mem_of_getElem? (i := 2) rfl) rfl (by decide) rfl ?_
    refine aw_goto (tgt := 4) rfl (by decide) ?_
    refine aw_ls [2, 1, 0] rfl ?_
    exact h
set_option maxRecDepth 20000 in
theorem v_Mo_bits {E : EN} {g : GS} {s : MS} {Q : Option Value → SG → Prop} (x0 : Int32) (h : AWP E m_Mo_bits 4 0 0 [(0, .int x0), (1, .int 0), (2, .int 0)] [] (mk g s) Q) : AMet E m_Mo_bits [.int x0] (mk g s) Q := by
  refine AMet.of (by decide) k_Mo_bits [(0, .int x0)] (Nat.le_of_ble_eq_true rfl) rfl ?_
  refine aw_iconst (q := 1) (v := 0) rfl rfl (by decide) ?_
  refine aw_istore_n (q := 2) (j := 1) (ls' := [(1, .int _), (0, .int _)]) rfl rfl rfl (by decide) rfl ?_
  refine aw_iconst (q := 3) (v := 0) rfl rfl (by decide) ?_
  refine aw_istore_n (q := 4) (j := 2) (ls' := [(2, .int _), (1, .int _), (0, .int _)]) rfl rfl rfl (by decide) rfl ?_
  refine aw_ls [2, 1, 0] rfl ?_
  exact h
set_option maxRecDepth 20000 in
theorem v_Mo_hires_2 {E : EN} {g : GS} {s : MS} {Q : Option Value → SG → Prop} (x1 : Int32) (x2 : Int32) (hS : SX g) (h : vp_in (s.1 120 18) 2 ∧ (((s.1 137 (((s.1 120 18)).toNatClampNeg)) ≤ x2 → Q none (mk g s)) ∧ (¬ (s.1 137 (((s.1 120 18)).toNatClampNeg)) ≤ x2 → ((((x1 >>> (x2 &&& 31)) &&& 1) = 1 → vp_in (42 + x2) 120 ∧ (((s.1 163 (((42 + x2)).toNatClampNeg)) = 3 → (∀ s1_, s1_ = wi s 163 (((42 + x2)).toNatClampNeg) 0 → AWP E m_Mo_hires 2 0 0 [(0, .ref 120), (1, .int x1), (2, .int (x2 + 1))] [] (mk g s1_) Q)) ∧ (¬ (s.1 163 (((42 + x2)).toNatClampNeg)) = 3 → AWP E m_Mo_hires 2 0 0 [(0, .ref 120), (1, .int x1), (2, .int (x2 + 1))] [] (mk g s) Q))) ∧ (¬ ((x1 >>> (x2 &&& 31)) &&& 1) = 1 → vp_in (42 + x2) 120 ∧ (((s.1 163 (((42 + x2)).toNatClampNeg)) = 3 → AWP E m_Mo_hires 2 0 0 [(0, .ref 120), (1, .int x1), (2, .int (x2 + 1))] [] (mk g s) Q) ∧ (¬ (s.1 163 (((42 + x2)).toNatClampNeg)) = 3 → GV E m_Mo_goesHome [.ref 120, .int x2] g s (fun t2_ => AWP E m_Mo_hires 2 0 0 [(0, .ref 120), (1, .int x1), (2, .int (x2 + 1))] [] (mk g t2_) Q)))))))) : AWP E m_Mo_hires 2 0 0 [(0, .ref 120), (1, .int x1), (2, .int x2)] [] (mk g s) Q := by
  refine aw_iload_n (q := 3) (j := 2) rfl rfl rfl (List.mem_of_getElem? (i := 2) rfl) ?_
  refine aw_aload_n (q := 4) (j := 0) rfl rfl rfl (List.mem_of_getElem? (i := 0) rfl) ?_
  refine ag_getR (q := 7) rfl rfl fl_Mo_67 rfl (SX.o hS rfl) (SX.r hS rfl) ?_
  refine aw_aload_n (q := 8) (j := 0) rfl rfl rfl (List.mem_of_getElem? (i := 0) rfl) ?_
  refine ag_getI (q := 11) rfl rfl fl_Mo_257 rfl (SX.o hS rfl) ?_
  obtain ⟨bd_1, h⟩ := h
  refine ag_iaload (q := 12) (N := 2) rfl rfl (SX.a hS rfl) bd_1 ?_
  refine aw_icmp_ge (q := 15) (tgt := 85) rfl rfl (by decide) ⟨fun cd_2 => ?_, fun cd_2 => ?_⟩
  · replace h := h.1 cd_2
    exact aw_return rfl rfl (by decide) (by decide) h
  · replace h := h.2 cd_2
    refine aw_iload_n (q := 16) (j := 1) rfl rfl rfl (List.mem_of_getElem? (i := 1) rfl) ?_
    refine aw_iload_n (q := 17) (j := 2) rfl rfl rfl (List.mem_of_getElem? (i := 2) rfl) ?_
    refine aw_ishr (q := 18) rfl rfl ?_
    refine aw_iconst (q := 19) (v := 1) rfl rfl (by decide) ?_
    refine aw_iand (q := 20) rfl rfl ?_
    refine aw_iconst (q := 21) (v := 1) rfl rfl (by decide) ?_
    refine aw_icmp_ne (q := 24) (tgt := 28) rfl rfl (by decide) ⟨fun cd_3 => ?_, fun cd_3 => ?_⟩
    · replace h := h.1 cd_3
      refine aw_iconst (q := 25) (v := 1) rfl rfl (by decide) ?_
      refine aw_goto (tgt := 29) rfl (by decide) ?_
      refine aw_istore_n (q := 30) (j := 3) (ls' := [(3, .int _), (0, .ref _), (1, .int _), (2, .int _)]) rfl rfl rfl (by decide) rfl ?_
      refine aw_iload_n (q := 31) (j := 3) rfl rfl rfl (List.mem_of_getElem? (i := 0) rfl) ?_
      refine aw_if_eq (q := 34) (tgt := 57) rfl rfl (by decide) ⟨fun c => absurd c (by decide), fun _ => ?_⟩
      refine aw_aload_n (q := 35) (j := 0) rfl rfl rfl (List.mem_of_getElem? (i := 1) rfl) ?_
      refine ag_getR (q := 38) rfl rfl fl_Mo_146 rfl (SX.o hS rfl) (SX.r hS rfl) ?_
      refine aw_bipush (q := 40) (v := 42) rfl rfl (by decide) ?_
      refine aw_iload_n (q := 41) (j := 2) rfl rfl rfl (List.mem_of_getElem? (i := 3) rfl) ?_
      refine aw_iadd (q := 42) rfl rfl ?_
      obtain ⟨bd_4, h⟩ := h
      refine ag_iaload (q := 43) (N := 120) rfl rfl (SX.a hS rfl) bd_4 ?_
      refine aw_iconst (q := 44) (v := 3) rfl rfl (by decide) ?_
      refine aw_icmp_ne (q := 47) (tgt := 57) rfl rfl (by decide) ⟨fun cd_5 => ?_, fun cd_5 => ?_⟩
      · replace h := h.1 cd_5
        refine aw_aload_n (q := 48) (j := 0) rfl rfl rfl (List.mem_of_getElem? (i := 1) rfl) ?_
        refine ag_getR (q := 51) rfl rfl fl_Mo_146 rfl (SX.o hS rfl) (SX.r hS rfl) ?_
        refine aw_bipush (q := 53) (v := 42) rfl rfl (by decide) ?_
        refine aw_iload_n (q := 54) (j := 2) rfl rfl rfl (List.mem_of_getElem? (i := 3) rfl) ?_
        refine aw_iadd (q := 55) rfl rfl ?_
        refine aw_iconst (q := 56) (v := 0) rfl rfl (by decide) ?_
        refine ag_iastore (q := 57) (N := 120) rfl rfl (SX.a hS rfl) bd_4 ?_
        replace h := h _ rfl
        refine aw_iload_n (q := 58) (j := 3) rfl rfl rfl (List.mem_of_getElem? (i := 0) rfl) ?_
        refine aw_if_ne (q := 61) (tgt := 79) rfl rfl (by decide) ⟨fun c => absurd c (by decide), fun _ => ?_⟩
        refine aw_iinc (q := 82) (v := _ + 1) (ls' := [(2, .int _), (3, .int _), (0, .ref _), (1, .int _)]) rfl rfl (List.mem_of_getElem? (i := 3) rfl) rfl (by decide) rfl ?_
        refine aw_goto (tgt := 2) rfl (by decide) ?_
        refine aw_ls [2, 3, 0] rfl ?_
        exact h
      · replace h := h.2 cd_5
        refine aw_iload_n (q := 58) (j := 3) rfl rfl rfl (List.mem_of_getElem? (i := 0) rfl) ?_
        refine aw_if_ne (q := 61) (tgt := 79) rfl rfl (by decide) ⟨fun c => absurd c (by decide), fun _ => ?_⟩
        refine aw_iinc (q := 82) (v := _ + 1) (ls' := [(2, .int _), (3, .int _), (0, .ref _), (1, .int _)]) rfl rfl (List.mem_of_getElem? (i := 3) rfl) rfl (by decide) rfl ?_
        refine aw_goto (tgt := 2) rfl (by decide) ?_
        refine aw_ls [2, 3, 0] rfl ?_
        exact h
    · replace h := h.2 cd_3
      refine aw_iconst (q := 29) (v := 0) rfl rfl (by decide) ?_
      refine aw_istore_n (q := 30) (j := 3) (ls' := [(3, .int _), (0, .ref _), (1, .int _), (2, .int _)]) rfl rfl rfl (by decide) rfl ?_
      refine aw_iload_n (q := 31) (j := 3) rfl rfl rfl (List.mem_of_getElem? (i := 0) rfl) ?_
      refine aw_if_eq (q := 34) (tgt := 57) rfl rfl (by decide) ⟨fun _ => ?_, fun c => absurd (by decide) c⟩
      refine aw_iload_n (q := 58) (j := 3) rfl rfl rfl (List.mem_of_getElem? (i := 0) rfl) ?_
      refine aw_if_ne (q := 61) (tgt := 79) rfl rfl (by decide) ⟨fun _ => ?_, fun c => absurd (by decide) c⟩
      refine aw_aload_n (q := 62) (j := 0) rfl rfl rfl (List.mem_of_getElem? (i := 1) rfl) ?_
      refine ag_getR (q := 65) rfl rfl fl_Mo_146 rfl (SX.o hS rfl) (SX.r hS rfl) ?_
      refine aw_bipush (q := 67) (v := 42) rfl rfl (by decide) ?_
      refine aw_iload_n (q := 68) (j := 2) rfl rfl rfl (List.mem_of_getElem? (i := 3) rfl) ?_
      refine aw_iadd (q := 69) rfl rfl ?_
      obtain ⟨bd_6, h⟩ := h
      refine ag_iaload (q := 70) (N := 120) rfl rfl (SX.a hS rfl) bd_6 ?_
      refine aw_iconst (q := 71) (v := 3) rfl rfl (by decide) ?_
      refine aw_icmp_eq (q := 74) (tgt := 79) rfl rfl (by decide) ⟨fun cd_7 => ?_, fun cd_7 => ?_⟩
      · replace h := h.1 cd_7
        refine aw_iinc (q := 82) (v := _ + 1) (ls' := [(2, .int _), (3, .int _), (0, .ref _), (1, .int _)]) rfl rfl (List.mem_of_getElem? (i := 3) rfl) rfl (by decide) rfl ?_
        refine aw_goto (tgt := 2) rfl (by decide) ?_
        refine aw_ls [2, 3, 0] rfl ?_
        exact h
      · replace h := h.2 cd_7
        refine aw_aload_n (q := 75) (j := 0) rfl rfl rfl (List.mem_of_getElem? (i := 1) rfl) ?_
        refine aw_iload_n (q := 76) (j := 2) rfl rfl rfl (List.mem_of_getElem? (i := 3) rfl) ?_
        refine ag_cvV (z := m_Mo_goesHome) (ci := 11) (av := [.int _]) (st := []) (q := 79) (k' := 0) (n' := 0) rfl rfl cv_Mo_410 ⟨by decide, by decide⟩ rfl rfl (by decide) (by decide) (SX.o hS rfl) rfl rfl rfl (Nat.le_of_ble_eq_true rfl) ?_
        refine GV.mono h (fun t2_ h => ?_)
        refine aw_iinc (q := 82) (v := _ + 1) (ls' := [(2, .int _), (3, .int _), (0, .ref _), (1, .int _)]) rfl rfl (List.mem_of_getElem? (i := 3) rfl) rfl (by decide) rfl ?_
        refine aw_goto (tgt := 2) rfl (by decide) ?_
        refine aw_ls [2, 3, 0] rfl ?_
        exact h
set_option maxRecDepth 20000 in
theorem v_Mo_hires {E : EN} {g : GS} {s : MS} {Q : Option Value → SG → Prop} (x1 : Int32) (h : AWP E m_Mo_hires 2 0 0 [(0, .ref 120), (1, .int x1), (2, .int 0)] [] (mk g s) Q) : AMet E m_Mo_hires [.ref 120, .int x1] (mk g s) Q := by
  refine AMet.of (by decide) k_Mo_hires [(0, .ref 120), (1, .int x1)] (Nat.le_of_ble_eq_true rfl) rfl ?_
  refine aw_iconst (q := 1) (v := 0) rfl rfl (by decide) ?_
  refine aw_istore_n (q := 2) (j := 2) (ls' := [(2, .int _), (0, .ref _), (1, .int _)]) rfl rfl rfl (by decide) rfl ?_
  refine aw_ls [1, 2, 0] rfl ?_
  exact h
set_option maxRecDepth 20000 in
theorem v_Mo_taught {E : EN} {g : GS} {s : MS} {Q : Option Value → SG → Prop} (x1 : Int32) (x2 : Int32) (hS : SX g) (h : GI E m_Mo_isSet [.ref 120, .int x1, .int x2] g s (fun y1_ t1_ => ((y1_ = 0 → Q (some (.int (-1))) (mk g t1_)) ∧ (¬ y1_ = 0 → GV E m_Mo_teaches [.ref 120, .int x1, .int x2] g t1_ (fun t2_ => Q (some (.int (t2_.1 120 67))) (mk g t2_)))))) : AMet E m_Mo_taught [.ref 120, .int x1, .int x2] (mk g s) Q := by
  refine AMet.of (by decide) k_Mo_taught [(0, .ref 120), (1, .int x1), (2, .int x2)] (Nat.le_of_ble_eq_true rfl) rfl ?_
  refine aw_aload_n (q := 1) (j := 0) rfl rfl rfl (List.mem_of_getElem? (i := 0) rfl) ?_
  refine aw_iload_n (q := 2) (j := 1) rfl rfl rfl (List.mem_of_getElem? (i := 1) rfl) ?_
  refine aw_iload_n (q := 3) (j := 2) rfl rfl rfl (List.mem_of_getElem? (i := 2) rfl) ?_
  refine ag_cvI (z := m_Mo_isSet) (ci := 11) (av := [.int _, .int _]) (st := []) (q := 6) (k' := 0) (n' := 0) rfl rfl cv_Mo_457 ⟨by decide, by decide⟩ rfl rfl (by decide) (by decide) (SX.o hS rfl) rfl rfl rfl (Nat.le_of_ble_eq_true rfl) ?_
  refine GI.mono h (fun y1_ t1_ h => ?_)
  refine aw_if_ne (q := 9) (tgt := 11) rfl rfl (by decide) ⟨fun cd_1 => ?_, fun cd_1 => ?_⟩
  · replace h := h.1 cd_1
    refine aw_iconst (q := 10) (v := (-1)) rfl rfl (by decide) ?_
    exact aw_ireturn (ty := .int) rfl rfl rfl (by decide) (by decide) h
  · replace h := h.2 cd_1
    refine aw_aload_n (q := 12) (j := 0) rfl rfl rfl (List.mem_of_getElem? (i := 0) rfl) ?_
    refine aw_iload_n (q := 13) (j := 1) rfl rfl rfl (List.mem_of_getElem? (i := 1) rfl) ?_
    refine aw_iload_n (q := 14) (j := 2) rfl rfl rfl (List.mem_of_getElem? (i := 2) rfl) ?_
    refine ag_cvV (z := m_Mo_teaches) (ci := 11) (av := [.int _, .int _]) (st := []) (q := 17) (k' := 0) (n' := 0) rfl rfl cv_Mo_461 ⟨by decide, by decide⟩ rfl rfl (by decide) (by decide) (SX.o hS rfl) rfl rfl rfl (Nat.le_of_ble_eq_true rfl) ?_
    refine GV.mono h (fun t2_ h => ?_)
    refine aw_aload_n (q := 18) (j := 0) rfl rfl rfl (List.mem_of_getElem? (i := 0) rfl) ?_
    refine ag_getI (q := 21) rfl rfl fl_Mo_454 rfl (SX.o hS rfl) ?_
    exact aw_ireturn (ty := .int) rfl rfl rfl (by decide) (by decide) h
set_option maxRecDepth 20000 in
theorem v_Mo_isSet {E : EN} {g : GS} {s : MS} {Q : Option Value → SG → Prop} (x1 : Int32) (x2 : Int32) (hS : SX g) (h : vp_in (s.1 120 18) 2 ∧ GI E m_Mo_in [.int x1, .int 1, .int ((1 <<< ((s.1 137 (((s.1 120 18)).toNatClampNeg)) &&& 31)) - 1)] g s (fun y1_ t1_ => ((y1_ = 0 → Q (some (.int 0)) (mk g t1_)) ∧ (¬ y1_ = 0 → GI E m_Mo_bits [.int x1] g t1_ (fun y2_ t2_ => ((5 ≤ y2_ → Q (some (.int 0)) (mk g t2_)) ∧ (¬ 5 ≤ y2_ → GI E m_Mo_in [.int x2, .int 1, .int 300] g t2_ (fun y3_ t3_ => ((y3_ = 0 → Q (some (.int 0)) (mk g t3_)) ∧ (¬ y3_ = 0 → vp_in (t3_.1 120 18) 2 ∧ (((t3_.1 131 (((t3_.1 120 18)).toNatClampNeg)) ≤ 0 → Q (some (.int 0)) (mk g t3_)) ∧ (¬ (t3_.1 131 (((t3_.1 120 18)).toNatClampNeg)) ≤ 0 → Q (some (.int 1)) (mk g t3_))))))))))))) : AMet E m_Mo_isSet [.ref 120, .int x1, .int x2] (mk g s) Q := by
  refine AMet.of (by decide) k_Mo_isSet [(0, .ref 120), (1, .int x1), (2, .int x2)] (Nat.le_of_ble_eq_true rfl) rfl ?_
  refine aw_iload_n (q := 1) (j := 1) rfl rfl rfl (List.mem_of_getElem? (i := 1) rfl) ?_
  refine aw_iconst (q := 2) (v := 1) rfl rfl (by decide) ?_
  refine aw_iconst (q := 3) (v := 1) rfl rfl (by decide) ?_
  refine aw_aload_n (q := 4) (j := 0) rfl rfl rfl (List.mem_of_getElem? (i := 0) rfl) ?_
  refine ag_getR (q := 7) rfl rfl fl_Mo_67 rfl (SX.o hS rfl) (SX.r hS rfl) ?_
  refine aw_aload_n (q := 8) (j := 0) rfl rfl rfl (List.mem_of_getElem? (i := 0) rfl) ?_
  refine ag_getI (q := 11) rfl rfl fl_Mo_257 rfl (SX.o hS rfl) ?_
  obtain ⟨bd_1, h⟩ := h
  refine ag_iaload (q := 12) (N := 2) rfl rfl (SX.a hS rfl) bd_1 ?_
  refine aw_ishl (q := 13) rfl rfl ?_
  refine aw_iconst (q := 14) (v := 1) rfl rfl (by decide) ?_
  refine aw_isub (q := 15) rfl rfl ?_
  refine ag_csI (z := m_Mo_in) (av := [.int _, .int _, .int _]) (st := []) (q := 18) (k' := 0) (n' := 0) rfl rfl cs_Mo_350 ⟨by decide, by decide⟩ rfl rfl (by decide) (by decide) rfl rfl (Nat.le_of_ble_eq_true rfl) ?_
  refine GI.mono h (fun y1_ t1_ h => ?_)
  refine aw_if_eq (q := 21) (tgt := 56) rfl rfl (by decide) ⟨fun cd_2 => ?_, fun cd_2 => ?_⟩
  · replace h := h.1 cd_2
    refine aw_iconst (q := 57) (v := 0) rfl rfl (by decide) ?_
    exact aw_ireturn (ty := .boolean) rfl rfl rfl (by decide) (by decide) h
  · replace h := h.2 cd_2
    refine aw_iload_n (q := 22) (j := 1) rfl rfl rfl (List.mem_of_getElem? (i := 1) rfl) ?_
    refine ag_csI (z := m_Mo_bits) (av := [.int _]) (st := []) (q := 25) (k' := 0) (n' := 0) rfl rfl cs_Mo_445 ⟨by decide, by decide⟩ rfl rfl (by decide) (by decide) rfl rfl (Nat.le_of_ble_eq_true rfl) ?_
    refine GI.mono h (fun y2_ t2_ h => ?_)
    refine aw_iconst (q := 26) (v := 5) rfl rfl (by decide) ?_
    refine aw_icmp_ge (q := 29) (tgt := 56) rfl rfl (by decide) ⟨fun cd_3 => ?_, fun cd_3 => ?_⟩
    · replace h := h.1 cd_3
      refine aw_iconst (q := 57) (v := 0) rfl rfl (by decide) ?_
      exact aw_ireturn (ty := .boolean) rfl rfl rfl (by decide) (by decide) h
    · replace h := h.2 cd_3
      refine aw_iload_n (q := 30) (j := 2) rfl rfl rfl (List.mem_of_getElem? (i := 2) rfl) ?_
      refine aw_iconst (q := 31) (v := 1) rfl rfl (by decide) ?_
      refine aw_sipush (q := 34) (v := 300) rfl rfl (by decide) ?_
      refine ag_csI (z := m_Mo_in) (av := [.int _, .int _, .int _]) (st := []) (q := 37) (k' := 0) (n' := 0) rfl rfl cs_Mo_350 ⟨by decide, by decide⟩ rfl rfl (by decide) (by decide) rfl rfl (Nat.le_of_ble_eq_true rfl) ?_
      refine GI.mono h (fun y3_ t3_ h => ?_)
      refine aw_if_eq (q := 40) (tgt := 56) rfl rfl (by decide) ⟨fun cd_4 => ?_, fun cd_4 => ?_⟩
      · replace h := h.1 cd_4
        refine aw_iconst (q := 57) (v := 0) rfl rfl (by decide) ?_
        exact aw_ireturn (ty := .boolean) rfl rfl rfl (by decide) (by decide) h
      · replace h := h.2 cd_4
        refine aw_aload_n (q := 41) (j := 0) rfl rfl rfl (List.mem_of_getElem? (i := 0) rfl) ?_
        refine ag_getR (q := 44) rfl rfl fl_Mo_49 rfl (SX.o hS rfl) (SX.r hS rfl) ?_
        refine aw_aload_n (q := 45) (j := 0) rfl rfl rfl (List.mem_of_getElem? (i := 0) rfl) ?_
        refine ag_getI (q := 48) rfl rfl fl_Mo_257 rfl (SX.o hS rfl) ?_
        obtain ⟨bd_5, h⟩ := h
        refine ag_iaload (q := 49) (N := 2) rfl rfl (SX.a hS rfl) bd_5 ?_
        refine aw_if_le (q := 52) (tgt := 56) rfl rfl (by decide) ⟨fun cd_6 => ?_, fun cd_6 => ?_⟩
        · replace h := h.1 cd_6
          refine aw_iconst (q := 57) (v := 0) rfl rfl (by decide) ?_
          exact aw_ireturn (ty := .boolean) rfl rfl rfl (by decide) (by decide) h
        · replace h := h.2 cd_6
          refine aw_iconst (q := 53) (v := 1) rfl rfl (by decide) ?_
          refine aw_goto (tgt := 57) rfl (by decide) ?_
          exact aw_ireturn (ty := .boolean) rfl rfl rfl (by decide) (by decide) h
set_option maxRecDepth 20000 in
theorem v_Mo_teaches_5 {E : EN} {g : GS} {s : MS} {Q : Option Value → SG → Prop} (x1 : Int32) (x2 : Int32) (x3 : Int32) (x4 : Int32) (hS : SX g) (h : GI E m_Mo_bits [.int x1] g s (fun y1_ t1_ => ((y1_ ≤ x4 → (∀ s2_, s2_ = wi t1_ 120 66 (-1) → (∀ s3_, s3_ = wi s2_ 120 67 (-1) → AWP E m_Mo_teaches 45 0 0 [(0, .ref 120), (1, .int x1), (2, .int x2), (3, .int x3), (4, .int 0)] [] (mk g s3_) Q))) ∧ (¬ y1_ ≤ x4 → vp_in (t1_.1 120 18) 2 ∧ AWP E m_Mo_teaches 5 0 0 [(0, .ref 120), (1, .int x1), (2, .int x2), (3, .int (x3 * (t1_.1 131 (((t1_.1 120 18)).toNatClampNeg)))), (4, .int (x4 + 1))] [] (mk g t1_) Q)))) : AWP E m_Mo_teaches 5 0 0 [(0, .ref 120), (1, .int x1), (2, .int x2), (3, .int x3), (4, .int x4)] [] (mk g s) Q := by
  refine aw_iload (q := 7) (j := 4) rfl rfl (List.mem_of_getElem? (i := 4) rfl) ?_
  refine aw_iload_n (q := 8) (j := 1) rfl rfl rfl (List.mem_of_getElem? (i := 1) rfl) ?_
  refine ag_csI (z := m_Mo_bits) (av := [.int _]) (st := [.int _]) (q := 11) (k' := 0) (n' := 0) rfl rfl cs_Mo_445 ⟨by decide, by decide⟩ rfl rfl (by decide) (by decide) rfl rfl (Nat.le_of_ble_eq_true rfl) ?_
  refine GI.mono h (fun y1_ t1_ h => ?_)
  refine aw_icmp_ge (q := 14) (tgt := 32) rfl rfl (by decide) ⟨fun cd_1 => ?_, fun cd_1 => ?_⟩
  · replace h := h.1 cd_1
    refine aw_aload_n (q := 33) (j := 0) rfl rfl rfl (List.mem_of_getElem? (i := 0) rfl) ?_
    refine aw_iconst (q := 34) (v := (-1)) rfl rfl (by decide) ?_
    refine ag_putI (q := 37) rfl rfl fl_Mo_451 rfl rfl (SX.o hS rfl) ?_
    replace h := h _ rfl
    refine aw_aload_n (q := 38) (j := 0) rfl rfl rfl (List.mem_of_getElem? (i := 0) rfl) ?_
    refine aw_iconst (q := 39) (v := (-1)) rfl rfl (by decide) ?_
    refine ag_putI (q := 42) rfl rfl fl_Mo_454 rfl rfl (SX.o hS rfl) ?_
    replace h := h _ rfl
    refine aw_iconst (q := 43) (v := 0) rfl rfl (by decide) ?_
    refine aw_istore (q := 45) (j := 4) (ls' := [(4, .int _), (0, .ref _), (1, .int _), (2, .int _), (3, .int _)]) rfl rfl (by decide) rfl ?_
    refine aw_ls [1, 2, 3, 4, 0] rfl ?_
    exact h
  · replace h := h.2 cd_1
    refine aw_iload_n (q := 15) (j := 3) rfl rfl rfl (List.mem_of_getElem? (i := 3) rfl) ?_
    refine aw_aload_n (q := 16) (j := 0) rfl rfl rfl (List.mem_of_getElem? (i := 0) rfl) ?_
    refine ag_getR (q := 19) rfl rfl fl_Mo_49 rfl (SX.o hS rfl) (SX.r hS rfl) ?_
    refine aw_aload_n (q := 20) (j := 0) rfl rfl rfl (List.mem_of_getElem? (i := 0) rfl) ?_
    refine ag_getI (q := 23) rfl rfl fl_Mo_257 rfl (SX.o hS rfl) ?_
    obtain ⟨bd_2, h⟩ := h
    refine ag_iaload (q := 24) (N := 2) rfl rfl (SX.a hS rfl) bd_2 ?_
    refine aw_imul (q := 25) rfl rfl ?_
    refine aw_istore_n (q := 26) (j := 3) (ls' := [(3, .int _), (0, .ref _), (1, .int _), (2, .int _), (4, .int _)]) rfl rfl rfl (by decide) rfl ?_
    refine aw_iinc (q := 29) (v := _ + 1) (ls' := [(4, .int _), (3, .int _), (0, .ref _), (1, .int _), (2, .int _)]) rfl rfl (List.mem_of_getElem? (i := 4) rfl) rfl (by decide) rfl ?_
    refine aw_goto (tgt := 5) rfl (by decide) ?_
    refine aw_ls [2, 3, 4, 1, 0] rfl ?_
    exact h
set_option maxRecDepth 20000 in
theorem v_Mo_teaches_45 {E : EN} {g : GS} {s : MS} {Q : Option Value → SG → Prop} (x1 : Int32) (x2 : Int32) (x3 : Int32) (x4 : Int32) (hS : SX g) (h : ((x3 ≤ x4 → Q none (mk g s)) ∧ (¬ x3 ≤ x4 → GV E m_Mo_copies [.ref 120] g s (fun t1_ => AWP E m_Mo_teaches 61 0 0 [(0, .ref 120), (1, .int x1), (2, .int x2), (3, .int x3), (4, .int x4), (5, .int x3), (6, .int 0)] [] (mk g t1_) Q)))) : AWP E m_Mo_teaches 45 0 0 [(0, .ref 120), (1, .int x1), (2, .int x2), (3, .int x3), (4, .int x4)] [] (mk g s) Q := by
  refine aw_iload (q := 47) (j := 4) rfl rfl (List.mem_of_getElem? (i := 4) rfl) ?_
  refine aw_iload_n (q := 48) (j := 3) rfl rfl rfl (List.mem_of_getElem? (i := 3) rfl) ?_
  refine aw_icmp_ge (q := 51) (tgt := 171) rfl rfl (by decide) ⟨fun cd_1 => ?_, fun cd_1 => ?_⟩
  · replace h := h.1 cd_1
    exact aw_return rfl rfl (by decide) (by decide) h
  · replace h := h.2 cd_1
    refine aw_aload_n (q := 52) (j := 0) rfl rfl rfl (List.mem_of_getElem? (i := 0) rfl) ?_
    refine ag_cvV (z := m_Mo_copies) (ci := 11) (av := []) (st := []) (q := 55) (k' := 0) (n' := 0) rfl rfl cv_Mo_395 ⟨by decide, by decide⟩ rfl rfl (by decide) (by decide) (SX.o hS rfl) rfl rfl rfl (Nat.le_of_ble_eq_true rfl) ?_
    refine GV.mono h (fun t1_ h => ?_)
    refine aw_iload_n (q := 56) (j := 3) rfl rfl rfl (List.mem_of_getElem? (i := 3) rfl) ?_
    refine aw_istore (q := 58) (j := 5) (ls' := [(5, .int _), (0, .ref _), (1, .int _), (2, .int _), (3, .int _), (4, .int _)]) rfl rfl (by decide) rfl ?_
    refine aw_iconst (q := 59) (v := 0) rfl rfl (by decide) ?_
    refine aw_istore (q := 61) (j := 6) (ls' := [(6, .int _), (5, .int _), (0, .ref _), (1, .int _), (2, .int _), (3, .int _), (4, .int _)]) rfl rfl (by decide) rfl ?_
    refine aw_ls [2, 3, 4, 5, 6, 1, 0] rfl ?_
    exact h
set_option maxRecDepth 20000 in
theorem v_Mo_teaches_61 {E : EN} {g : GS} {s : MS} {Q : Option Value → SG → Prop} (x1 : Int32) (x2 : Int32) (x3 : Int32) (x4 : Int32) (x5 : Int32) (x6 : Int32) (hS : SX g) (h : vp_in (s.1 120 18) 2 ∧ (((s.1 137 (((s.1 120 18)).toNatClampNeg)) ≤ x6 → GV E m_Mo_goes [.ref 120, .int x2] g s (fun t1_ => GI E m_Mo_worthAll [.ref 120] g t1_ (fun y2_ t2_ => (((t2_.1 120 67) < y2_ → (∀ s3_, s3_ = wi t2_ 120 66 x4 → GI E m_Mo_worthAll [.ref 120] g s3_ (fun y4_ t4_ => (∀ s5_, s5_ = wi t4_ 120 67 y4_ → AWP E m_Mo_teaches 45 0 0 [(0, .ref 120), (1, .int x1), (2, .int x2), (3, .int x3), (4, .int (x4 + 1))] [] (mk g s5_) Q)))) ∧ (¬ (t2_.1 120 67) < y2_ → AWP E m_Mo_teaches 45 0 0 [(0, .ref 120), (1, .int x1), (2, .int x2), (3, .int x3), (4, .int (x4 + 1))] [] (mk g t2_) Q))))) ∧ (¬ (s.1 137 (((s.1 120 18)).toNatClampNeg)) ≤ x6 → ((((x1 >>> (x6 &&& 31)) &&& 1) = 0 → AWP E m_Mo_teaches 61 0 0 [(0, .ref 120), (1, .int x1), (2, .int x2), (3, .int x3), (4, .int x4), (5, .int x5), (6, .int (x6 + 1))] [] (mk g s) Q) ∧ (¬ ((x1 >>> (x6 &&& 31)) &&& 1) = 0 → ¬ (s.1 131 (((s.1 120 18)).toNatClampNeg)) = 0 ∧ ¬ (x5 / (s.1 131 (((s.1 120 18)).toNatClampNeg))) = 0 ∧ ¬ (s.1 131 (((s.1 120 18)).toNatClampNeg)) = 0 ∧ vp_in (90 + x6) 120 ∧ (∀ s6_, s6_ = wi s 163 (((90 + x6)).toNatClampNeg) ((x4 / (x5 / (s.1 131 (((s.1 120 18)).toNatClampNeg)))) - (x4 / (x5 / (s.1 131 (((s.1 120 18)).toNatClampNeg)))) / (s.1 131 (((s.1 120 18)).toNatClampNeg)) * (s.1 131 (((s.1 120 18)).toNatClampNeg))) → AWP E m_Mo_teaches 61 0 0 [(0, .ref 120), (1, .int x1), (2, .int x2), (3, .int x3), (4, .int x4), (5, .int (x5 / (s.1 131 (((s.1 120 18)).toNatClampNeg)))), (6, .int (x6 + 1))] [] (mk g s6_) Q)))))) : AWP E m_Mo_teaches 61 0 0 [(0, .ref 120), (1, .int x1), (2, .int x2), (3, .int x3), (4, .int x4), (5, .int x5), (6, .int x6)] [] (mk g s) Q := by
  refine aw_iload (q := 63) (j := 6) rfl rfl (List.mem_of_getElem? (i := 6) rfl) ?_
  refine aw_aload_n (q := 64) (j := 0) rfl rfl rfl (List.mem_of_getElem? (i := 0) rfl) ?_
  refine ag_getR (q := 67) rfl rfl fl_Mo_67 rfl (SX.o hS rfl) (SX.r hS rfl) ?_
  refine aw_aload_n (q := 68) (j := 0) rfl rfl rfl (List.mem_of_getElem? (i := 0) rfl) ?_
  refine ag_getI (q := 71) rfl rfl fl_Mo_257 rfl (SX.o hS rfl) ?_
  obtain ⟨bd_1, h⟩ := h
  refine ag_iaload (q := 72) (N := 2) rfl rfl (SX.a hS rfl) bd_1 ?_
  refine aw_icmp_ge (q := 75) (tgt := 132) rfl rfl (by decide) ⟨fun cd_2 => ?_, fun cd_2 => ?_⟩
  · replace h := h.1 cd_2
    refine aw_aload_n (q := 133) (j := 0) rfl rfl rfl (List.mem_of_getElem? (i := 0) rfl) ?_
    refine aw_iload_n (q := 134) (j := 2) rfl rfl rfl (List.mem_of_getElem? (i := 2) rfl) ?_
    refine ag_cvV (z := m_Mo_goes) (ci := 11) (av := [.int _]) (st := []) (q := 137) (k' := 0) (n' := 0) rfl rfl cv_Mo_401 ⟨by decide, by decide⟩ rfl rfl (by decide) (by decide) (SX.o hS rfl) rfl rfl rfl (Nat.le_of_ble_eq_true rfl) ?_
    refine GV.mono h (fun t1_ h => ?_)
    refine aw_aload_n (q := 138) (j := 0) rfl rfl rfl (List.mem_of_getElem? (i := 0) rfl) ?_
    refine ag_cvI (z := m_Mo_worthAll) (ci := 11) (av := []) (st := []) (q := 141) (k' := 0) (n' := 0) rfl rfl cv_Mo_432 ⟨by decide, by decide⟩ rfl rfl (by decide) (by decide) (SX.o hS rfl) rfl rfl rfl (Nat.le_of_ble_eq_true rfl) ?_
    refine GI.mono h (fun y2_ t2_ h => ?_)
    refine aw_aload_n (q := 142) (j := 0) rfl rfl rfl (List.mem_of_getElem? (i := 0) rfl) ?_
    refine ag_getI (q := 145) rfl rfl fl_Mo_454 rfl (SX.o hS rfl) ?_
    refine aw_icmp_gt (q := 148) (tgt := 151) rfl rfl (by decide) ⟨fun cd_3 => ?_, fun cd_3 => ?_⟩
    · replace h := h.1 cd_3
      refine aw_aload_n (q := 152) (j := 0) rfl rfl rfl (List.mem_of_getElem? (i := 0) rfl) ?_
      refine aw_iload (q := 154) (j := 4) rfl rfl (List.mem_of_getElem? (i := 4) rfl) ?_
      refine ag_putI (q := 157) rfl rfl fl_Mo_451 rfl rfl (SX.o hS rfl) ?_
      replace h := h _ rfl
      refine aw_aload_n (q := 158) (j := 0) rfl rfl rfl (List.mem_of_getElem? (i := 0) rfl) ?_
      refine aw_aload_n (q := 159) (j := 0) rfl rfl rfl (List.mem_of_getElem? (i := 0) rfl) ?_
      refine ag_cvI (z := m_Mo_worthAll) (ci := 11) (av := []) (st := [.ref _]) (q := 162) (k' := 0) (n' := 0) rfl rfl cv_Mo_432 ⟨by decide, by decide⟩ rfl rfl (by decide) (by decide) (SX.o hS rfl) rfl rfl rfl (Nat.le_of_ble_eq_true rfl) ?_
      refine GI.mono h (fun y4_ t4_ h => ?_)
      refine ag_putI (q := 165) rfl rfl fl_Mo_454 rfl rfl (SX.o hS rfl) ?_
      replace h := h _ rfl
      refine aw_iinc (q := 168) (v := _ + 1) (ls' := [(4, .int _), (0, .ref _), (1, .int _), (2, .int _), (3, .int _), (5, .int _), (6, .int _)]) rfl rfl (List.mem_of_getElem? (i := 4) rfl) rfl (by decide) rfl ?_
      refine aw_goto (tgt := 45) rfl (by decide) ?_
      refine aw_ls [1, 2, 3, 4, 0] rfl ?_
      exact h
    · replace h := h.2 cd_3
      refine aw_goto (tgt := 165) rfl (by decide) ?_
      refine aw_iinc (q := 168) (v := _ + 1) (ls' := [(4, .int _), (0, .ref _), (1, .int _), (2, .int _), (3, .int _), (5, .int _), (6, .int _)]) rfl rfl (List.mem_of_getElem? (i := 4) rfl) rfl (by decide) rfl ?_
      refine aw_goto (tgt := 45) rfl (by decide) ?_
      refine aw_ls [1, 2, 3, 4, 0] rfl ?_
      exact h
  · replace h := h.2 cd_2
    refine aw_iload_n (q := 76) (j := 1) rfl rfl rfl (List.mem_of_getElem? (i := 1) rfl) ?_
    refine aw_iload (q := 78) (j := 6) rfl rfl (List.mem_of_getElem? (i := 6) rfl) ?_
    refine aw_ishr (q := 79) rfl rfl ?_
    refine aw_iconst (q := 80) (v := 1) rfl rfl (by decide) ?_
    refine aw_iand (q := 81) rfl rfl ?_
    refine aw_if_ne (q := 84) (tgt := 87) rfl rfl (by decide) ⟨fun cd_4 => ?_, fun cd_4 => ?_⟩
    · replace h := h.1 cd_4
      refine aw_goto (tgt := 126) rfl (by decide) ?_
      refine aw_iinc (q := 129) (v := _ + 1) (ls' := [(6, .int _), (0, .ref _), (1, .int _), (2, .int _), (3, .int _), (4, .int _), (5, .int _)]) rfl rfl (List.mem_of_getElem? (i := 6) rfl) rfl (by decide) rfl ?_
      refine aw_goto (tgt := 61) rfl (by decide) ?_
      refine aw_ls [1, 2, 3, 4, 5, 6, 0] rfl ?_
      exact h
    · replace h := h.2 cd_4
      refine aw_iload (q := 89) (j := 5) rfl rfl (List.mem_of_getElem? (i := 5) rfl) ?_
      refine aw_aload_n (q := 90) (j := 0) rfl rfl rfl (List.mem_of_getElem? (i := 0) rfl) ?_
      refine ag_getR (q := 93) rfl rfl fl_Mo_49 rfl (SX.o hS rfl) (SX.r hS rfl) ?_
      refine aw_aload_n (q := 94) (j := 0) rfl rfl rfl (List.mem_of_getElem? (i := 0) rfl) ?_
      refine ag_getI (q := 97) rfl rfl fl_Mo_257 rfl (SX.o hS rfl) ?_
      refine ag_iaload (q := 98) (N := 2) rfl rfl (SX.a hS rfl) bd_1 ?_
      obtain ⟨zd_5, h⟩ := h
      refine aw_idiv (q := 99) rfl rfl zd_5 ?_
      refine aw_istore (q := 101) (j := 5) (ls' := [(5, .int _), (0, .ref _), (1, .int _), (2, .int _), (3, .int _), (4, .int _), (6, .int _)]) rfl rfl (by decide) rfl ?_
      refine aw_aload_n (q := 102) (j := 0) rfl rfl rfl (List.mem_of_getElem? (i := 1) rfl) ?_
      refine ag_getR (q := 105) rfl rfl fl_Mo_146 rfl (SX.o hS rfl) (SX.r hS rfl) ?_
      refine aw_bipush (q := 107) (v := 90) rfl rfl (by decide) ?_
      refine aw_iload (q := 109) (j := 6) rfl rfl (List.mem_of_getElem? (i := 6) rfl) ?_
      refine aw_iadd (q := 110) rfl rfl ?_
      refine aw_iload (q := 112) (j := 4) rfl rfl (List.mem_of_getElem? (i := 5) rfl) ?_
      refine aw_iload (q := 114) (j := 5) rfl rfl (List.mem_of_getElem? (i := 0) rfl) ?_
      obtain ⟨zd_6, h⟩ := h
      refine aw_idiv (q := 115) rfl rfl zd_6 ?_
      refine aw_aload_n (q := 116) (j := 0) rfl rfl rfl (List.mem_of_getElem? (i := 1) rfl) ?_
      refine ag_getR (q := 119) rfl rfl fl_Mo_49 rfl (SX.o hS rfl) (SX.r hS rfl) ?_
      refine aw_aload_n (q := 120) (j := 0) rfl rfl rfl (List.mem_of_getElem? (i := 1) rfl) ?_
      refine ag_getI (q := 123) rfl rfl fl_Mo_257 rfl (SX.o hS rfl) ?_
      refine ag_iaload (q := 124) (N := 2) rfl rfl (SX.a hS rfl) bd_1 ?_
      obtain ⟨zd_7, h⟩ := h
      refine aw_irem (q := 125) rfl rfl zd_7 ?_
      obtain ⟨bd_8, h⟩ := h
      refine ag_iastore (q := 126) (N := 120) rfl rfl (SX.a hS rfl) bd_8 ?_
      replace h := h _ rfl
      refine aw_iinc (q := 129) (v := _ + 1) (ls' := [(6, .int _), (5, .int _), (0, .ref _), (1, .int _), (2, .int _), (3, .int _), (4, .int _)]) rfl rfl (List.mem_of_getElem? (i := 6) rfl) rfl (by decide) rfl ?_
      refine aw_goto (tgt := 61) rfl (by decide) ?_
      refine aw_ls [2, 3, 4, 5, 6, 1, 0] rfl ?_
      exact h
set_option maxRecDepth 20000 in
theorem v_Mo_teaches {E : EN} {g : GS} {s : MS} {Q : Option Value → SG → Prop} (x1 : Int32) (x2 : Int32) (h : AWP E m_Mo_teaches 5 0 0 [(0, .ref 120), (1, .int x1), (2, .int x2), (3, .int 1), (4, .int 0)] [] (mk g s) Q) : AMet E m_Mo_teaches [.ref 120, .int x1, .int x2] (mk g s) Q := by
  refine AMet.of (by decide) k_Mo_teaches [(0, .ref 120), (1, .int x1), (2, .int x2)] (Nat.le_of_ble_eq_true rfl) rfl ?_
  refine aw_iconst (q := 1) (v := 1) rfl rfl (by decide) ?_
  refine aw_istore_n (q := 2) (j := 3) (ls' := [(3, .int _), (0, .ref _), (1, .int _), (2, .int _)]) rfl rfl rfl (by decide) rfl ?_
  refine aw_iconst (q := 3) (v := 0) rfl rfl (by decide) ?_
  refine aw_istore (q := 5) (j := 4) (ls' := [(4, .int _), (3, .int _), (0, .ref _), (1, .int _), (2, .int _)]) rfl rfl (by decide) rfl ?_
  refine aw_ls [2, 3, 4, 1, 0] rfl ?_
  exact h
set_option maxRecDepth 20000 in
theorem v_Mo_taughtAt_45 {E : EN} {g : GS} {s : MS} {Q : Option Value → SG → Prop} (x1 : Int32) (x2 : Int32) (x3 : Int32) (x4 : Int32) (x5 : Int32) (hS : SX g) (h : ((x5 ≤ x3 → vp_in (s.1 120 18) 2 ∧ ¬ (s.1 131 (((s.1 120 18)).toNatClampNeg)) = 0 ∧ Q (some (.int (x4 - x4 / (s.1 131 (((s.1 120 18)).toNatClampNeg)) * (s.1 131 (((s.1 120 18)).toNatClampNeg))))) (mk g s)) ∧ (¬ x5 ≤ x3 → vp_in (s.1 120 18) 2 ∧ ¬ (s.1 131 (((s.1 120 18)).toNatClampNeg)) = 0 ∧ AWP E m_Mo_taughtAt 45 0 0 [(0, .ref 120), (1, .int x1), (2, .int x2), (3, .int x3), (4, .int (x4 / (s.1 131 (((s.1 120 18)).toNatClampNeg)))), (5, .int (x5 + (-1)))] [] (mk g s) Q))) : AWP E m_Mo_taughtAt 45 0 0 [(0, .ref 120), (1, .int x1), (2, .int x2), (3, .int x3), (4, .int x4), (5, .int x5)] [] (mk g s) Q := by
  refine aw_iload (q := 47) (j := 5) rfl rfl (List.mem_of_getElem? (i := 5) rfl) ?_
  refine aw_iload_n (q := 48) (j := 3) rfl rfl rfl (List.mem_of_getElem? (i := 3) rfl) ?_
  refine aw_icmp_le (q := 51) (tgt := 71) rfl rfl (by decide) ⟨fun cd_1 => ?_, fun cd_1 => ?_⟩
  · replace h := h.1 cd_1
    refine aw_iload (q := 73) (j := 4) rfl rfl (List.mem_of_getElem? (i := 4) rfl) ?_
    refine aw_aload_n (q := 74) (j := 0) rfl rfl rfl (List.mem_of_getElem? (i := 0) rfl) ?_
    refine ag_getR (q := 77) rfl rfl fl_Mo_49 rfl (SX.o hS rfl) (SX.r hS rfl) ?_
    refine aw_aload_n (q := 78) (j := 0) rfl rfl rfl (List.mem_of_getElem? (i := 0) rfl) ?_
    refine ag_getI (q := 81) rfl rfl fl_Mo_257 rfl (SX.o hS rfl) ?_
    obtain ⟨bd_2, h⟩ := h
    refine ag_iaload (q := 82) (N := 2) rfl rfl (SX.a hS rfl) bd_2 ?_
    obtain ⟨zd_3, h⟩ := h
    refine aw_irem (q := 83) rfl rfl zd_3 ?_
    exact aw_ireturn (ty := .int) rfl rfl rfl (by decide) (by decide) h
  · replace h := h.2 cd_1
    refine aw_iload (q := 53) (j := 4) rfl rfl (List.mem_of_getElem? (i := 4) rfl) ?_
    refine aw_aload_n (q := 54) (j := 0) rfl rfl rfl (List.mem_of_getElem? (i := 0) rfl) ?_
    refine ag_getR (q := 57) rfl rfl fl_Mo_49 rfl (SX.o hS rfl) (SX.r hS rfl) ?_
    refine aw_aload_n (q := 58) (j := 0) rfl rfl rfl (List.mem_of_getElem? (i := 0) rfl) ?_
    refine ag_getI (q := 61) rfl rfl fl_Mo_257 rfl (SX.o hS rfl) ?_
    obtain ⟨bd_4, h⟩ := h
    refine ag_iaload (q := 62) (N := 2) rfl rfl (SX.a hS rfl) bd_4 ?_
    obtain ⟨zd_5, h⟩ := h
    refine aw_idiv (q := 63) rfl rfl zd_5 ?_
    refine aw_istore (q := 65) (j := 4) (ls' := [(4, .int _), (0, .ref _), (1, .int _), (2, .int _), (3, .int _), (5, .int _)]) rfl rfl (by decide) rfl ?_
    refine aw_iinc (q := 68) (v := _ + (-1)) (ls' := [(5, .int _), (4, .int _), (0, .ref _), (1, .int _), (2, .int _), (3, .int _)]) rfl rfl (List.mem_of_getElem? (i := 5) rfl) rfl (by decide) rfl ?_
    refine aw_goto (tgt := 45) rfl (by decide) ?_
    refine aw_ls [2, 3, 4, 5, 1, 0] rfl ?_
    exact h
set_option maxRecDepth 20000 in
theorem v_Mo_taughtAt {E : EN} {g : GS} {s : MS} {Q : Option Value → SG → Prop} (x1 : Int32) (x2 : Int32) (x3 : Int32) (hS : SX g) (h : GI E m_Mo_isSet [.ref 120, .int x1, .int x2] g s (fun y1_ t1_ => ((y1_ = 0 → Q (some (.int (-1))) (mk g t1_)) ∧ (¬ y1_ = 0 → GI E m_Mo_bits [.int x1] g t1_ (fun y2_ t2_ => GI E m_Mo_in [.int x3, .int 0, .int (y2_ - 1)] g t2_ (fun y3_ t3_ => ((y3_ = 0 → Q (some (.int (-1))) (mk g t3_)) ∧ (¬ y3_ = 0 → GV E m_Mo_teaches [.ref 120, .int x1, .int x2] g t3_ (fun t4_ => GI E m_Mo_bits [.int x1] g t4_ (fun y5_ t5_ => AWP E m_Mo_taughtAt 45 0 0 [(0, .ref 120), (1, .int x1), (2, .int x2), (3, .int x3), (4, .int (t4_.1 120 66)), (5, .int (y5_ - 1))] [] (mk g t5_) Q)))))))))) : AMet E m_Mo_taughtAt [.ref 120, .int x1, .int x2, .int x3] (mk g s) Q := by
  refine AMet.of (by decide) k_Mo_taughtAt [(0, .ref 120), (1, .int x1), (2, .int x2), (3, .int x3)] (Nat.le_of_ble_eq_true rfl) rfl ?_
  refine aw_aload_n (q := 1) (j := 0) rfl rfl rfl (List.mem_of_getElem? (i := 0) rfl) ?_
  refine aw_iload_n (q := 2) (j := 1) rfl rfl rfl (List.mem_of_getElem? (i := 1) rfl) ?_
  refine aw_iload_n (q := 3) (j := 2) rfl rfl rfl (List.mem_of_getElem? (i := 2) rfl) ?_
  refine ag_cvI (z := m_Mo_isSet) (ci := 11) (av := [.int _, .int _]) (st := []) (q := 6) (k' := 0) (n' := 0) rfl rfl cv_Mo_457 ⟨by decide, by decide⟩ rfl rfl (by decide) (by decide) (SX.o hS rfl) rfl rfl rfl (Nat.le_of_ble_eq_true rfl) ?_
  refine GI.mono h (fun y1_ t1_ h => ?_)
  refine aw_if_eq (q := 9) (tgt := 23) rfl rfl (by decide) ⟨fun cd_1 => ?_, fun cd_1 => ?_⟩
  · replace h := h.1 cd_1
    refine aw_iconst (q := 24) (v := (-1)) rfl rfl (by decide) ?_
    exact aw_ireturn (ty := .int) rfl rfl rfl (by decide) (by decide) h
  · replace h := h.2 cd_1
    refine aw_iload_n (q := 10) (j := 3) rfl rfl rfl (List.mem_of_getElem? (i := 3) rfl) ?_
    refine aw_iconst (q := 11) (v := 0) rfl rfl (by decide) ?_
    refine aw_iload_n (q := 12) (j := 1) rfl rfl rfl (List.mem_of_getElem? (i := 1) rfl) ?_
    refine ag_csI (z := m_Mo_bits) (av := [.int _]) (st := [.int _, .int _]) (q := 15) (k' := 0) (n' := 0) rfl rfl cs_Mo_445 ⟨by decide, by decide⟩ rfl rfl (by decide) (by decide) rfl rfl (Nat.le_of_ble_eq_true rfl) ?_
    refine GI.mono h (fun y2_ t2_ h => ?_)
    refine aw_iconst (q := 16) (v := 1) rfl rfl (by decide) ?_
    refine aw_isub (q := 17) rfl rfl ?_
    refine ag_csI (z := m_Mo_in) (av := [.int _, .int _, .int _]) (st := []) (q := 20) (k' := 0) (n' := 0) rfl rfl cs_Mo_350 ⟨by decide, by decide⟩ rfl rfl (by decide) (by decide) rfl rfl (Nat.le_of_ble_eq_true rfl) ?_
    refine GI.mono h (fun y3_ t3_ h => ?_)
    refine aw_if_ne (q := 23) (tgt := 25) rfl rfl (by decide) ⟨fun cd_2 => ?_, fun cd_2 => ?_⟩
    · replace h := h.1 cd_2
      refine aw_iconst (q := 24) (v := (-1)) rfl rfl (by decide) ?_
      exact aw_ireturn (ty := .int) rfl rfl rfl (by decide) (by decide) h
    · replace h := h.2 cd_2
      refine aw_aload_n (q := 26) (j := 0) rfl rfl rfl (List.mem_of_getElem? (i := 0) rfl) ?_
      refine aw_iload_n (q := 27) (j := 1) rfl rfl rfl (List.mem_of_getElem? (i := 1) rfl) ?_
      refine aw_iload_n (q := 28) (j := 2) rfl rfl rfl (List.mem_of_getElem? (i := 2) rfl) ?_
      refine ag_cvV (z := m_Mo_teaches) (ci := 11) (av := [.int _, .int _]) (st := []) (q := 31) (k' := 0) (n' := 0) rfl rfl cv_Mo_461 ⟨by decide, by decide⟩ rfl rfl (by decide) (by decide) (SX.o hS rfl) rfl rfl rfl (Nat.le_of_ble_eq_true rfl) ?_
      refine GV.mono h (fun t4_ h => ?_)
      refine aw_aload_n (q := 32) (j := 0) rfl rfl rfl (List.mem_of_getElem? (i := 0) rfl) ?_
      refine ag_getI (q := 35) rfl rfl fl_Mo_451 rfl (SX.o hS rfl) ?_
      refine aw_istore (q := 37) (j := 4) (ls' := [(4, .int _), (0, .ref _), (1, .int _), (2, .int _), (3, .int _)]) rfl rfl (by decide) rfl ?_
      refine aw_iload_n (q := 38) (j := 1) rfl rfl rfl (List.mem_of_getElem? (i := 2) rfl) ?_
      refine ag_csI (z := m_Mo_bits) (av := [.int _]) (st := []) (q := 41) (k' := 0) (n' := 0) rfl rfl cs_Mo_445 ⟨by decide, by decide⟩ rfl rfl (by decide) (by decide) rfl rfl (Nat.le_of_ble_eq_true rfl) ?_
      refine GI.mono h (fun y5_ t5_ h => ?_)
      refine aw_iconst (q := 42) (v := 1) rfl rfl (by decide) ?_
      refine aw_isub (q := 43) rfl rfl ?_
      refine aw_istore (q := 45) (j := 5) (ls' := [(5, .int _), (4, .int _), (0, .ref _), (1, .int _), (2, .int _), (3, .int _)]) rfl rfl (by decide) rfl ?_
      refine aw_ls [2, 3, 4, 5, 1, 0] rfl ?_
      exact h
set_option maxRecDepth 20000 in
theorem v_Mo_bestSwap_26 {E : EN} {g : GS} {s : MS} {Q : Option Value → SG → Prop} (x1 : Int32) (x2 : Int32) (x3 : Int32) (x4 : Int32) (hS : SX g) (h : vp_in (s.1 120 18) 2 ∧ (((s.1 134 (((s.1 120 18)).toNatClampNeg)) ≤ x4 → ((x1 = 0 → Q (some (.int x2)) (mk g s)) ∧ (¬ x1 = 0 → Q (some (.int x3)) (mk g s)))) ∧ (¬ (s.1 134 (((s.1 120 18)).toNatClampNeg)) ≤ x4 → AWP E m_Mo_bestSwap 46 0 0 [(0, .ref 120), (1, .int x1), (2, .int x2), (3, .int x3), (4, .int x4), (5, .int (x4 + 1))] [] (mk g s) Q))) : AWP E m_Mo_bestSwap 26 0 0 [(0, .ref 120), (1, .int x1), (2, .int x2), (3, .int x3), (4, .int x4)] [] (mk g s) Q := by
  refine aw_iload (q := 28) (j := 4) rfl rfl (List.mem_of_getElem? (i := 4) rfl) ?_
  refine aw_aload_n (q := 29) (j := 0) rfl rfl rfl (List.mem_of_getElem? (i := 0) rfl) ?_
  refine ag_getR (q := 32) rfl rfl fl_Mo_58 rfl (SX.o hS rfl) (SX.r hS rfl) ?_
  refine aw_aload_n (q := 33) (j := 0) rfl rfl rfl (List.mem_of_getElem? (i := 0) rfl) ?_
  refine ag_getI (q := 36) rfl rfl fl_Mo_257 rfl (SX.o hS rfl) ?_
  obtain ⟨bd_1, h⟩ := h
  refine ag_iaload (q := 37) (N := 2) rfl rfl (SX.a hS rfl) bd_1 ?_
  refine aw_icmp_ge (q := 40) (tgt := 144) rfl rfl (by decide) ⟨fun cd_2 => ?_, fun cd_2 => ?_⟩
  · replace h := h.1 cd_2
    refine aw_iload_n (q := 145) (j := 1) rfl rfl rfl (List.mem_of_getElem? (i := 1) rfl) ?_
    refine aw_if_ne (q := 148) (tgt := 152) rfl rfl (by decide) ⟨fun cd_3 => ?_, fun cd_3 => ?_⟩
    · replace h := h.1 cd_3
      refine aw_iload_n (q := 149) (j := 2) rfl rfl rfl (List.mem_of_getElem? (i := 2) rfl) ?_
      refine aw_goto (tgt := 153) rfl (by decide) ?_
      exact aw_ireturn (ty := .int) rfl rfl rfl (by decide) (by decide) h
    · replace h := h.2 cd_3
      refine aw_iload_n (q := 153) (j := 3) rfl rfl rfl (List.mem_of_getElem? (i := 3) rfl) ?_
      exact aw_ireturn (ty := .int) rfl rfl rfl (by decide) (by decide) h
  · replace h := h.2 cd_2
    refine aw_iload (q := 42) (j := 4) rfl rfl (List.mem_of_getElem? (i := 4) rfl) ?_
    refine aw_iconst (q := 43) (v := 1) rfl rfl (by decide) ?_
    refine aw_iadd (q := 44) rfl rfl ?_
    refine aw_istore (q := 46) (j := 5) (ls' := [(5, .int _), (0, .ref _), (1, .int _), (2, .int _), (3, .int _), (4, .int _)]) rfl rfl (by decide) rfl ?_
    refine aw_ls [1, 2, 3, 4, 5, 0] rfl ?_
    exact h
set_option maxRecDepth 20000 in
theorem v_Mo_bestSwap_46 {E : EN} {g : GS} {s : MS} {Q : Option Value → SG → Prop} (x1 : Int32) (x2 : Int32) (x3 : Int32) (x4 : Int32) (x5 : Int32) (hS : SX g) (h : vp_in (s.1 120 18) 2 ∧ (((s.1 134 (((s.1 120 18)).toNatClampNeg)) ≤ x5 → AWP E m_Mo_bestSwap 26 0 0 [(0, .ref 120), (1, .int x1), (2, .int x2), (3, .int x3), (4, .int (x4 + 1))] [] (mk g s) Q) ∧ (¬ (s.1 134 (((s.1 120 18)).toNatClampNeg)) ≤ x5 → GV E m_Mo_copies [.ref 120] g s (fun t1_ => vp_in x4 6 ∧ vp_in x5 6 ∧ (∀ s2_, s2_ = wi t1_ 164 ((x4).toNatClampNeg) (t1_.1 164 ((x5).toNatClampNeg)) → (∀ s3_, s3_ = wi s2_ 164 ((x5).toNatClampNeg) (t1_.1 164 ((x4).toNatClampNeg)) → GI E m_Mo_cleanBy [.ref 120] g s3_ (fun y4_ t4_ => ((y4_ < 0 → AWP E m_Mo_bestSwap 46 0 0 [(0, .ref 120), (1, .int x1), (2, .int x2), (3, .int x3), (4, .int x4), (5, .int (x5 + 1))] [] (mk g t4_) Q) ∧ (¬ y4_ < 0 → ((x3 < 0 → AWP E m_Mo_bestSwap 46 0 0 [(0, .ref 120), (1, .int x1), (2, .int ((10 * x4) + x5)), (3, .int y4_), (4, .int x4), (5, .int (x5 + 1))] [] (mk g t4_) Q) ∧ (¬ x3 < 0 → ((y4_ < x3 → AWP E m_Mo_bestSwap 46 0 0 [(0, .ref 120), (1, .int x1), (2, .int ((10 * x4) + x5)), (3, .int y4_), (4, .int x4), (5, .int (x5 + 1))] [] (mk g t4_) Q) ∧ (¬ y4_ < x3 → AWP E m_Mo_bestSwap 46 0 0 [(0, .ref 120), (1, .int x1), (2, .int x2), (3, .int x3), (4, .int x4), (5, .int (x5 + 1))] [] (mk g t4_) Q))))))))))))) : AWP E m_Mo_bestSwap 46 0 0 [(0, .ref 120), (1, .int x1), (2, .int x2), (3, .int x3), (4, .int x4), (5, .int x5)] [] (mk g s) Q := by
  refine aw_iload (q := 48) (j := 5) rfl rfl (List.mem_of_getElem? (i := 5) rfl) ?_
  refine aw_aload_n (q := 49) (j := 0) rfl rfl rfl (List.mem_of_getElem? (i := 0) rfl) ?_
  refine ag_getR (q := 52) rfl rfl fl_Mo_58 rfl (SX.o hS rfl) (SX.r hS rfl) ?_
  refine aw_aload_n (q := 53) (j := 0) rfl rfl rfl (List.mem_of_getElem? (i := 0) rfl) ?_
  refine ag_getI (q := 56) rfl rfl fl_Mo_257 rfl (SX.o hS rfl) ?_
  obtain ⟨bd_1, h⟩ := h
  refine ag_iaload (q := 57) (N := 2) rfl rfl (SX.a hS rfl) bd_1 ?_
  refine aw_icmp_ge (q := 60) (tgt := 138) rfl rfl (by decide) ⟨fun cd_2 => ?_, fun cd_2 => ?_⟩
  · replace h := h.1 cd_2
    refine aw_iinc (q := 141) (v := _ + 1) (ls' := [(4, .int _), (0, .ref _), (1, .int _), (2, .int _), (3, .int _), (5, .int _)]) rfl rfl (List.mem_of_getElem? (i := 4) rfl) rfl (by decide) rfl ?_
    refine aw_goto (tgt := 26) rfl (by decide) ?_
    refine aw_ls [1, 2, 3, 4, 0] rfl ?_
    exact h
  · replace h := h.2 cd_2
    refine aw_aload_n (q := 61) (j := 0) rfl rfl rfl (List.mem_of_getElem? (i := 0) rfl) ?_
    refine ag_cvV (z := m_Mo_copies) (ci := 11) (av := []) (st := []) (q := 64) (k' := 0) (n' := 0) rfl rfl cv_Mo_395 ⟨by decide, by decide⟩ rfl rfl (by decide) (by decide) (SX.o hS rfl) rfl rfl rfl (Nat.le_of_ble_eq_true rfl) ?_
    refine GV.mono h (fun t1_ h => ?_)
    refine aw_aload_n (q := 65) (j := 0) rfl rfl rfl (List.mem_of_getElem? (i := 0) rfl) ?_
    refine ag_getR (q := 68) rfl rfl fl_Mo_149 rfl (SX.o hS rfl) (SX.r hS rfl) ?_
    refine aw_iload (q := 70) (j := 4) rfl rfl (List.mem_of_getElem? (i := 4) rfl) ?_
    obtain ⟨bd_3, h⟩ := h
    refine ag_iaload (q := 71) (N := 6) rfl rfl (SX.a hS rfl) bd_3 ?_
    refine aw_istore (q := 73) (j := 6) (ls' := [(6, .int _), (0, .ref _), (1, .int _), (2, .int _), (3, .int _), (4, .int _), (5, .int _)]) rfl rfl (by decide) rfl ?_
    refine aw_aload_n (q := 74) (j := 0) rfl rfl rfl (List.mem_of_getElem? (i := 1) rfl) ?_
    refine ag_getR (q := 77) rfl rfl fl_Mo_149 rfl (SX.o hS rfl) (SX.r hS rfl) ?_
    refine aw_iload (q := 79) (j := 4) rfl rfl (List.mem_of_getElem? (i := 5) rfl) ?_
    refine aw_aload_n (q := 80) (j := 0) rfl rfl rfl (List.mem_of_getElem? (i := 1) rfl) ?_
    refine ag_getR (q := 83) rfl rfl fl_Mo_149 rfl (SX.o hS rfl) (SX.r hS rfl) ?_
    refine aw_iload (q := 85) (j := 5) rfl rfl (List.mem_of_getElem? (i := 6) rfl) ?_
    obtain ⟨bd_4, h⟩ := h
    refine ag_iaload (q := 86) (N := 6) rfl rfl (SX.a hS rfl) bd_4 ?_
    refine ag_iastore (q := 87) (N := 6) rfl rfl (SX.a hS rfl) bd_3 ?_
    replace h := h _ rfl
    refine aw_aload_n (q := 88) (j := 0) rfl rfl rfl (List.mem_of_getElem? (i := 1) rfl) ?_
    refine ag_getR (q := 91) rfl rfl fl_Mo_149 rfl (SX.o hS rfl) (SX.r hS rfl) ?_
    refine aw_iload (q := 93) (j := 5) rfl rfl (List.mem_of_getElem? (i := 6) rfl) ?_
    refine aw_iload (q := 95) (j := 6) rfl rfl (List.mem_of_getElem? (i := 0) rfl) ?_
    refine ag_iastore (q := 96) (N := 6) rfl rfl (SX.a hS rfl) bd_4 ?_
    replace h := h _ rfl
    refine aw_aload_n (q := 97) (j := 0) rfl rfl rfl (List.mem_of_getElem? (i := 1) rfl) ?_
    refine ag_cvI (z := m_Mo_cleanBy) (ci := 11) (av := []) (st := []) (q := 100) (k' := 0) (n' := 0) rfl rfl cv_Mo_426 ⟨by decide, by decide⟩ rfl rfl (by decide) (by decide) (SX.o hS rfl) rfl rfl rfl (Nat.le_of_ble_eq_true rfl) ?_
    refine GI.mono h (fun y4_ t4_ h => ?_)
    refine aw_istore (q := 102) (j := 7) (ls' := [(7, .int _), (6, .int _), (0, .ref _), (1, .int _), (2, .int _), (3, .int _), (4, .int _), (5, .int _)]) rfl rfl (by decide) rfl ?_
    refine aw_iload (q := 104) (j := 7) rfl rfl (List.mem_of_getElem? (i := 0) rfl) ?_
    refine aw_if_lt (q := 107) (tgt := 132) rfl rfl (by decide) ⟨fun cd_5 => ?_, fun cd_5 => ?_⟩
    · replace h := h.1 cd_5
      refine aw_iinc (q := 135) (v := _ + 1) (ls' := [(5, .int _), (7, .int _), (6, .int _), (0, .ref _), (1, .int _), (2, .int _), (3, .int _), (4, .int _)]) rfl rfl (List.mem_of_getElem? (i := 7) rfl) rfl (by decide) rfl ?_
      refine aw_goto (tgt := 46) rfl (by decide) ?_
      refine aw_ls [3, 4, 5, 6, 7, 0] rfl ?_
      exact h
    · replace h := h.2 cd_5
      refine aw_iload_n (q := 108) (j := 3) rfl rfl rfl (List.mem_of_getElem? (i := 5) rfl) ?_
      refine aw_if_lt (q := 111) (tgt := 120) rfl rfl (by decide) ⟨fun cd_6 => ?_, fun cd_6 => ?_⟩
      · replace h := h.1 cd_6
        refine aw_bipush (q := 122) (v := 10) rfl rfl (by decide) ?_
        refine aw_iload (q := 124) (j := 4) rfl rfl (List.mem_of_getElem? (i := 6) rfl) ?_
        refine aw_imul (q := 125) rfl rfl ?_
        refine aw_iload (q := 127) (j := 5) rfl rfl (List.mem_of_getElem? (i := 7) rfl) ?_
        refine aw_iadd (q := 128) rfl rfl ?_
        refine aw_istore_n (q := 129) (j := 2) (ls' := [(2, .int _), (7, .int _), (6, .int _), (0, .ref _), (1, .int _), (3, .int _), (4, .int _), (5, .int _)]) rfl rfl rfl (by decide) rfl ?_
        refine aw_iload (q := 131) (j := 7) rfl rfl (List.mem_of_getElem? (i := 1) rfl) ?_
        refine aw_istore_n (q := 132) (j := 3) (ls' := [(3, .int _), (2, .int _), (7, .int _), (6, .int _), (0, .ref _), (1, .int _), (4, .int _), (5, .int _)]) rfl rfl rfl (by decide) rfl ?_
        refine aw_iinc (q := 135) (v := _ + 1) (ls' := [(5, .int _), (3, .int _), (2, .int _), (7, .int _), (6, .int _), (0, .ref _), (1, .int _), (4, .int _)]) rfl rfl (List.mem_of_getElem? (i := 7) rfl) rfl (by decide) rfl ?_
        refine aw_goto (tgt := 46) rfl (by decide) ?_
        refine aw_ls [5, 6, 2, 1, 7, 0] rfl ?_
        exact h
      · replace h := h.2 cd_6
        refine aw_iload (q := 113) (j := 7) rfl rfl (List.mem_of_getElem? (i := 0) rfl) ?_
        refine aw_iload_n (q := 114) (j := 3) rfl rfl rfl (List.mem_of_getElem? (i := 5) rfl) ?_
        refine aw_icmp_lt (q := 117) (tgt := 120) rfl rfl (by decide) ⟨fun cd_7 => ?_, fun cd_7 => ?_⟩
        · replace h := h.1 cd_7
          refine aw_bipush (q := 122) (v := 10) rfl rfl (by decide) ?_
          refine aw_iload (q := 124) (j := 4) rfl rfl (List.mem_of_getElem? (i := 6) rfl) ?_
          refine aw_imul (q := 125) rfl rfl ?_
          refine aw_iload (q := 127) (j := 5) rfl rfl (List.mem_of_getElem? (i := 7) rfl) ?_
          refine aw_iadd (q := 128) rfl rfl ?_
          refine aw_istore_n (q := 129) (j := 2) (ls' := [(2, .int _), (7, .int _), (6, .int _), (0, .ref _), (1, .int _), (3, .int _), (4, .int _), (5, .int _)]) rfl rfl rfl (by decide) rfl ?_
          refine aw_iload (q := 131) (j := 7) rfl rfl (List.mem_of_getElem? (i := 1) rfl) ?_
          refine aw_istore_n (q := 132) (j := 3) (ls' := [(3, .int _), (2, .int _), (7, .int _), (6, .int _), (0, .ref _), (1, .int _), (4, .int _), (5, .int _)]) rfl rfl rfl (by decide) rfl ?_
          refine aw_iinc (q := 135) (v := _ + 1) (ls' := [(5, .int _), (3, .int _), (2, .int _), (7, .int _), (6, .int _), (0, .ref _), (1, .int _), (4, .int _)]) rfl rfl (List.mem_of_getElem? (i := 7) rfl) rfl (by decide) rfl ?_
          refine aw_goto (tgt := 46) rfl (by decide) ?_
          refine aw_ls [5, 6, 2, 1, 7, 0] rfl ?_
          exact h
        · replace h := h.2 cd_7
          refine aw_goto (tgt := 132) rfl (by decide) ?_
          refine aw_iinc (q := 135) (v := _ + 1) (ls' := [(5, .int _), (7, .int _), (6, .int _), (0, .ref _), (1, .int _), (2, .int _), (3, .int _), (4, .int _)]) rfl rfl (List.mem_of_getElem? (i := 7) rfl) rfl (by decide) rfl ?_
          refine aw_goto (tgt := 46) rfl (by decide) ?_
          refine aw_ls [3, 4, 5, 6, 7, 0] rfl ?_
          exact h
set_option maxRecDepth 20000 in
theorem v_Mo_bestSwap {E : EN} {g : GS} {s : MS} {Q : Option Value → SG → Prop} (x1 : Int32) (hS : SX g) (h : GI E m_Mo_in [.int x1, .int 0, .int 1] g s (fun y1_ t1_ => ((y1_ = 0 → Q (some (.int (-1))) (mk g t1_)) ∧ (¬ y1_ = 0 → GV E m_Mo_copies [.ref 120] g t1_ (fun t2_ => GI E m_Mo_cleanBy [.ref 120] g t2_ (fun y3_ t3_ => AWP E m_Mo_bestSwap 26 0 0 [(0, .ref 120), (1, .int x1), (2, .int (-2)), (3, .int y3_), (4, .int 0)] [] (mk g t3_) Q)))))) : AMet E m_Mo_bestSwap [.ref 120, .int x1] (mk g s) Q := by
  refine AMet.of (by decide) k_Mo_bestSwap [(0, .ref 120), (1, .int x1)] (Nat.le_of_ble_eq_true rfl) rfl ?_
  refine aw_iload_n (q := 1) (j := 1) rfl rfl rfl (List.mem_of_getElem? (i := 1) rfl) ?_
  refine aw_iconst (q := 2) (v := 0) rfl rfl (by decide) ?_
  refine aw_iconst (q := 3) (v := 1) rfl rfl (by decide) ?_
  refine ag_csI (z := m_Mo_in) (av := [.int _, .int _, .int _]) (st := []) (q := 6) (k' := 0) (n' := 0) rfl rfl cs_Mo_350 ⟨by decide, by decide⟩ rfl rfl (by decide) (by decide) rfl rfl (Nat.le_of_ble_eq_true rfl) ?_
  refine GI.mono h (fun y1_ t1_ h => ?_)
  refine aw_if_ne (q := 9) (tgt := 11) rfl rfl (by decide) ⟨fun cd_1 => ?_, fun cd_1 => ?_⟩
  · replace h := h.1 cd_1
    refine aw_iconst (q := 10) (v := (-1)) rfl rfl (by decide) ?_
    exact aw_ireturn (ty := .int) rfl rfl rfl (by decide) (by decide) h
  · replace h := h.2 cd_1
    refine aw_aload_n (q := 12) (j := 0) rfl rfl rfl (List.mem_of_getElem? (i := 0) rfl) ?_
    refine ag_cvV (z := m_Mo_copies) (ci := 11) (av := []) (st := []) (q := 15) (k' := 0) (n' := 0) rfl rfl cv_Mo_395 ⟨by decide, by decide⟩ rfl rfl (by decide) (by decide) (SX.o hS rfl) rfl rfl rfl (Nat.le_of_ble_eq_true rfl) ?_
    refine GV.mono h (fun t2_ h => ?_)
    refine aw_bipush (q := 17) (v := (-2)) rfl rfl (by decide) ?_
    refine aw_istore_n (q := 18) (j := 2) (ls' := [(2, .int _), (0, .ref _), (1, .int _)]) rfl rfl rfl (by decide) rfl ?_
    refine aw_aload_n (q := 19) (j := 0) rfl rfl rfl (List.mem_of_getElem? (i := 1) rfl) ?_
    refine ag_cvI (z := m_Mo_cleanBy) (ci := 11) (av := []) (st := []) (q := 22) (k' := 0) (n' := 0) rfl rfl cv_Mo_426 ⟨by decide, by decide⟩ rfl rfl (by decide) (by decide) (SX.o hS rfl) rfl rfl rfl (Nat.le_of_ble_eq_true rfl) ?_
    refine GI.mono h (fun y3_ t3_ h => ?_)
    refine aw_istore_n (q := 23) (j := 3) (ls' := [(3, .int _), (2, .int _), (0, .ref _), (1, .int _)]) rfl rfl rfl (by decide) rfl ?_
    refine aw_iconst (q := 24) (v := 0) rfl rfl (by decide) ?_
    refine aw_istore (q := 26) (j := 4) (ls' := [(4, .int _), (3, .int _), (2, .int _), (0, .ref _), (1, .int _)]) rfl rfl (by decide) rfl ?_
    refine aw_ls [3, 4, 2, 1, 0] rfl ?_
    exact h
set_option maxRecDepth 20000 in
theorem v_Mo_missed_28 {E : EN} {g : GS} {s : MS} {Q : Option Value → SG → Prop} (x1 : Int32) (x2 : Int32) (x3 : Int32) (x4 : Int32) (x5 : Int32) (hS : SX g) (h : vp_in (s.1 120 18) 2 ∧ (((s.1 137 (((s.1 120 18)).toNatClampNeg)) ≤ x5 → ((x2 = 0 → Q (some (.int x3)) (mk g s)) ∧ (¬ x2 = 0 → Q (some (.int x4)) (mk g s)))) ∧ (¬ (s.1 137 (((s.1 120 18)).toNatClampNeg)) ≤ x5 → vp_in (42 + x5) 120 ∧ (((s.1 162 (((42 + x5)).toNatClampNeg)) = 3 → AWP E m_Mo_missed 28 0 0 [(0, .ref 120), (1, .int x1), (2, .int x2), (3, .int x3), (4, .int x4), (5, .int (x5 + 1))] [] (mk g s) Q) ∧ (¬ (s.1 162 (((42 + x5)).toNatClampNeg)) = 3 → GV E m_Mo_copies [.ref 120] g s (fun t1_ => GV E m_Mo_goesHome [.ref 120, .int x5] g t1_ (fun t2_ => GV E m_Mo_goes [.ref 120, .int x1] g t2_ (fun t3_ => GI E m_Mo_worthAll [.ref 120] g t3_ (fun y4_ t4_ => ((x3 < 0 → AWP E m_Mo_missed 28 0 0 [(0, .ref 120), (1, .int x1), (2, .int x2), (3, .int x5), (4, .int y4_), (5, .int (x5 + 1))] [] (mk g t4_) Q) ∧ (¬ x3 < 0 → ((y4_ < x4 → AWP E m_Mo_missed 28 0 0 [(0, .ref 120), (1, .int x1), (2, .int x2), (3, .int x5), (4, .int y4_), (5, .int (x5 + 1))] [] (mk g t4_) Q) ∧ (¬ y4_ < x4 → AWP E m_Mo_missed 28 0 0 [(0, .ref 120), (1, .int x1), (2, .int x2), (3, .int x3), (4, .int x4), (5, .int (x5 + 1))] [] (mk g t4_) Q))))))))))))) : AWP E m_Mo_missed 28 0 0 [(0, .ref 120), (1, .int x1), (2, .int x2), (3, .int x3), (4, .int x4), (5, .int x5)] [] (mk g s) Q := by
  refine aw_iload (q := 30) (j := 5) rfl rfl (List.mem_of_getElem? (i := 5) rfl) ?_
  refine aw_aload_n (q := 31) (j := 0) rfl rfl rfl (List.mem_of_getElem? (i := 0) rfl) ?_
  refine ag_getR (q := 34) rfl rfl fl_Mo_67 rfl (SX.o hS rfl) (SX.r hS rfl) ?_
  refine aw_aload_n (q := 35) (j := 0) rfl rfl rfl (List.mem_of_getElem? (i := 0) rfl) ?_
  refine ag_getI (q := 38) rfl rfl fl_Mo_257 rfl (SX.o hS rfl) ?_
  obtain ⟨bd_1, h⟩ := h
  refine ag_iaload (q := 39) (N := 2) rfl rfl (SX.a hS rfl) bd_1 ?_
  refine aw_icmp_ge (q := 42) (tgt := 107) rfl rfl (by decide) ⟨fun cd_2 => ?_, fun cd_2 => ?_⟩
  · replace h := h.1 cd_2
    refine aw_iload_n (q := 108) (j := 2) rfl rfl rfl (List.mem_of_getElem? (i := 2) rfl) ?_
    refine aw_if_ne (q := 111) (tgt := 115) rfl rfl (by decide) ⟨fun cd_3 => ?_, fun cd_3 => ?_⟩
    · replace h := h.1 cd_3
      refine aw_iload_n (q := 112) (j := 3) rfl rfl rfl (List.mem_of_getElem? (i := 3) rfl) ?_
      refine aw_goto (tgt := 117) rfl (by decide) ?_
      exact aw_ireturn (ty := .int) rfl rfl rfl (by decide) (by decide) h
    · replace h := h.2 cd_3
      refine aw_iload (q := 117) (j := 4) rfl rfl (List.mem_of_getElem? (i := 4) rfl) ?_
      exact aw_ireturn (ty := .int) rfl rfl rfl (by decide) (by decide) h
  · replace h := h.2 cd_2
    refine aw_aload_n (q := 43) (j := 0) rfl rfl rfl (List.mem_of_getElem? (i := 0) rfl) ?_
    refine ag_getR (q := 46) rfl rfl fl_Mo_143 rfl (SX.o hS rfl) (SX.r hS rfl) ?_
    refine aw_bipush (q := 48) (v := 42) rfl rfl (by decide) ?_
    refine aw_iload (q := 50) (j := 5) rfl rfl (List.mem_of_getElem? (i := 5) rfl) ?_
    refine aw_iadd (q := 51) rfl rfl ?_
    obtain ⟨bd_4, h⟩ := h
    refine ag_iaload (q := 52) (N := 120) rfl rfl (SX.a hS rfl) bd_4 ?_
    refine aw_iconst (q := 53) (v := 3) rfl rfl (by decide) ?_
    refine aw_icmp_ne (q := 56) (tgt := 59) rfl rfl (by decide) ⟨fun cd_5 => ?_, fun cd_5 => ?_⟩
    · replace h := h.1 cd_5
      refine aw_goto (tgt := 101) rfl (by decide) ?_
      refine aw_iinc (q := 104) (v := _ + 1) (ls' := [(5, .int _), (0, .ref _), (1, .int _), (2, .int _), (3, .int _), (4, .int _)]) rfl rfl (List.mem_of_getElem? (i := 5) rfl) rfl (by decide) rfl ?_
      refine aw_goto (tgt := 28) rfl (by decide) ?_
      refine aw_ls [1, 2, 3, 4, 5, 0] rfl ?_
      exact h
    · replace h := h.2 cd_5
      refine aw_aload_n (q := 60) (j := 0) rfl rfl rfl (List.mem_of_getElem? (i := 0) rfl) ?_
      refine ag_cvV (z := m_Mo_copies) (ci := 11) (av := []) (st := []) (q := 63) (k' := 0) (n' := 0) rfl rfl cv_Mo_395 ⟨by decide, by decide⟩ rfl rfl (by decide) (by decide) (SX.o hS rfl) rfl rfl rfl (Nat.le_of_ble_eq_true rfl) ?_
      refine GV.mono h (fun t1_ h => ?_)
      refine aw_aload_n (q := 64) (j := 0) rfl rfl rfl (List.mem_of_getElem? (i := 0) rfl) ?_
      refine aw_iload (q := 66) (j := 5) rfl rfl (List.mem_of_getElem? (i := 5) rfl) ?_
      refine ag_cvV (z := m_Mo_goesHome) (ci := 11) (av := [.int _]) (st := []) (q := 69) (k' := 0) (n' := 0) rfl rfl cv_Mo_410 ⟨by decide, by decide⟩ rfl rfl (by decide) (by decide) (SX.o hS rfl) rfl rfl rfl (Nat.le_of_ble_eq_true rfl) ?_
      refine GV.mono h (fun t2_ h => ?_)
      refine aw_aload_n (q := 70) (j := 0) rfl rfl rfl (List.mem_of_getElem? (i := 0) rfl) ?_
      refine aw_iload_n (q := 71) (j := 1) rfl rfl rfl (List.mem_of_getElem? (i := 1) rfl) ?_
      refine ag_cvV (z := m_Mo_goes) (ci := 11) (av := [.int _]) (st := []) (q := 74) (k' := 0) (n' := 0) rfl rfl cv_Mo_401 ⟨by decide, by decide⟩ rfl rfl (by decide) (by decide) (SX.o hS rfl) rfl rfl rfl (Nat.le_of_ble_eq_true rfl) ?_
      refine GV.mono h (fun t3_ h => ?_)
      refine aw_aload_n (q := 75) (j := 0) rfl rfl rfl (List.mem_of_getElem? (i := 0) rfl) ?_
      refine ag_cvI (z := m_Mo_worthAll) (ci := 11) (av := []) (st := []) (q := 78) (k' := 0) (n' := 0) rfl rfl cv_Mo_432 ⟨by decide, by decide⟩ rfl rfl (by decide) (by decide) (SX.o hS rfl) rfl rfl rfl (Nat.le_of_ble_eq_true rfl) ?_
      refine GI.mono h (fun y4_ t4_ h => ?_)
      refine aw_istore (q := 80) (j := 6) (ls' := [(6, .int _), (0, .ref _), (1, .int _), (2, .int _), (3, .int _), (4, .int _), (5, .int _)]) rfl rfl (by decide) rfl ?_
      refine aw_iload_n (q := 81) (j := 3) rfl rfl rfl (List.mem_of_getElem? (i := 4) rfl) ?_
      refine aw_if_lt (q := 84) (tgt := 94) rfl rfl (by decide) ⟨fun cd_6 => ?_, fun cd_6 => ?_⟩
      · replace h := h.1 cd_6
        refine aw_iload (q := 96) (j := 5) rfl rfl (List.mem_of_getElem? (i := 6) rfl) ?_
        refine aw_istore_n (q := 97) (j := 3) (ls' := [(3, .int _), (6, .int _), (0, .ref _), (1, .int _), (2, .int _), (4, .int _), (5, .int _)]) rfl rfl rfl (by decide) rfl ?_
        refine aw_iload (q := 99) (j := 6) rfl rfl (List.mem_of_getElem? (i := 1) rfl) ?_
        refine aw_istore (q := 101) (j := 4) (ls' := [(4, .int _), (3, .int _), (6, .int _), (0, .ref _), (1, .int _), (2, .int _), (5, .int _)]) rfl rfl (by decide) rfl ?_
        refine aw_iinc (q := 104) (v := _ + 1) (ls' := [(5, .int _), (4, .int _), (3, .int _), (6, .int _), (0, .ref _), (1, .int _), (2, .int _)]) rfl rfl (List.mem_of_getElem? (i := 6) rfl) rfl (by decide) rfl ?_
        refine aw_goto (tgt := 28) rfl (by decide) ?_
        refine aw_ls [4, 5, 6, 2, 1, 0] rfl ?_
        exact h
      · replace h := h.2 cd_6
        refine aw_iload (q := 86) (j := 6) rfl rfl (List.mem_of_getElem? (i := 0) rfl) ?_
        refine aw_iload (q := 88) (j := 4) rfl rfl (List.mem_of_getElem? (i := 5) rfl) ?_
        refine aw_icmp_lt (q := 91) (tgt := 94) rfl rfl (by decide) ⟨fun cd_7 => ?_, fun cd_7 => ?_⟩
        · replace h := h.1 cd_7
          refine aw_iload (q := 96) (j := 5) rfl rfl (List.mem_of_getElem? (i := 6) rfl) ?_
          refine aw_istore_n (q := 97) (j := 3) (ls' := [(3, .int _), (6, .int _), (0, .ref _), (1, .int _), (2, .int _), (4, .int _), (5, .int _)]) rfl rfl rfl (by decide) rfl ?_
          refine aw_iload (q := 99) (j := 6) rfl rfl (List.mem_of_getElem? (i := 1) rfl) ?_
          refine aw_istore (q := 101) (j := 4) (ls' := [(4, .int _), (3, .int _), (6, .int _), (0, .ref _), (1, .int _), (2, .int _), (5, .int _)]) rfl rfl (by decide) rfl ?_
          refine aw_iinc (q := 104) (v := _ + 1) (ls' := [(5, .int _), (4, .int _), (3, .int _), (6, .int _), (0, .ref _), (1, .int _), (2, .int _)]) rfl rfl (List.mem_of_getElem? (i := 6) rfl) rfl (by decide) rfl ?_
          refine aw_goto (tgt := 28) rfl (by decide) ?_
          refine aw_ls [4, 5, 6, 2, 1, 0] rfl ?_
          exact h
        · replace h := h.2 cd_7
          refine aw_goto (tgt := 101) rfl (by decide) ?_
          refine aw_iinc (q := 104) (v := _ + 1) (ls' := [(5, .int _), (6, .int _), (0, .ref _), (1, .int _), (2, .int _), (3, .int _), (4, .int _)]) rfl rfl (List.mem_of_getElem? (i := 6) rfl) rfl (by decide) rfl ?_
          refine aw_goto (tgt := 28) rfl (by decide) ?_
          refine aw_ls [2, 3, 4, 5, 6, 0] rfl ?_
          exact h
set_option maxRecDepth 20000 in
theorem v_Mo_missed {E : EN} {g : GS} {s : MS} {Q : Option Value → SG → Prop} (x1 : Int32) (x2 : Int32) (h : GI E m_Mo_isLong [.int x1] g s (fun y1_ t1_ => ((y1_ = 0 → Q (some (.int (-1))) (mk g t1_)) ∧ (¬ y1_ = 0 → GI E m_Mo_in [.int x2, .int 0, .int 1] g t1_ (fun y2_ t2_ => ((y2_ = 0 → Q (some (.int (-1))) (mk g t2_)) ∧ (¬ y2_ = 0 → AWP E m_Mo_missed 28 0 0 [(0, .ref 120), (1, .int x1), (2, .int x2), (3, .int (-2)), (4, .int (-2)), (5, .int 0)] [] (mk g t2_) Q))))))) : AMet E m_Mo_missed [.ref 120, .int x1, .int x2] (mk g s) Q := by
  refine AMet.of (by decide) k_Mo_missed [(0, .ref 120), (1, .int x1), (2, .int x2)] (Nat.le_of_ble_eq_true rfl) rfl ?_
  refine aw_iload_n (q := 1) (j := 1) rfl rfl rfl (List.mem_of_getElem? (i := 1) rfl) ?_
  refine ag_csI (z := m_Mo_isLong) (av := [.int _]) (st := []) (q := 4) (k' := 0) (n' := 0) rfl rfl cs_Mo_429 ⟨by decide, by decide⟩ rfl rfl (by decide) (by decide) rfl rfl (Nat.le_of_ble_eq_true rfl) ?_
  refine GI.mono h (fun y1_ t1_ h => ?_)
  refine aw_if_eq (q := 7) (tgt := 16) rfl rfl (by decide) ⟨fun cd_1 => ?_, fun cd_1 => ?_⟩
  · replace h := h.1 cd_1
    refine aw_iconst (q := 17) (v := (-1)) rfl rfl (by decide) ?_
    exact aw_ireturn (ty := .int) rfl rfl rfl (by decide) (by decide) h
  · replace h := h.2 cd_1
    refine aw_iload_n (q := 8) (j := 2) rfl rfl rfl (List.mem_of_getElem? (i := 2) rfl) ?_
    refine aw_iconst (q := 9) (v := 0) rfl rfl (by decide) ?_
    refine aw_iconst (q := 10) (v := 1) rfl rfl (by decide) ?_
    refine ag_csI (z := m_Mo_in) (av := [.int _, .int _, .int _]) (st := []) (q := 13) (k' := 0) (n' := 0) rfl rfl cs_Mo_350 ⟨by decide, by decide⟩ rfl rfl (by decide) (by decide) rfl rfl (Nat.le_of_ble_eq_true rfl) ?_
    refine GI.mono h (fun y2_ t2_ h => ?_)
    refine aw_if_ne (q := 16) (tgt := 18) rfl rfl (by decide) ⟨fun cd_2 => ?_, fun cd_2 => ?_⟩
    · replace h := h.1 cd_2
      refine aw_iconst (q := 17) (v := (-1)) rfl rfl (by decide) ?_
      exact aw_ireturn (ty := .int) rfl rfl rfl (by decide) (by decide) h
    · replace h := h.2 cd_2
      refine aw_bipush (q := 20) (v := (-2)) rfl rfl (by decide) ?_
      refine aw_istore_n (q := 21) (j := 3) (ls' := [(3, .int _), (0, .ref _), (1, .int _), (2, .int _)]) rfl rfl rfl (by decide) rfl ?_
      refine aw_bipush (q := 23) (v := (-2)) rfl rfl (by decide) ?_
      refine aw_istore (q := 25) (j := 4) (ls' := [(4, .int _), (3, .int _), (0, .ref _), (1, .int _), (2, .int _)]) rfl rfl (by decide) rfl ?_
      refine aw_iconst (q := 26) (v := 0) rfl rfl (by decide) ?_
      refine aw_istore (q := 28) (j := 5) (ls' := [(5, .int _), (4, .int _), (3, .int _), (0, .ref _), (1, .int _), (2, .int _)]) rfl rfl (by decide) rfl ?_
      refine aw_ls [3, 4, 5, 2, 1, 0] rfl ?_
      exact h
set_option maxRecDepth 20000 in
theorem v_Mo_catAt_29 {E : EN} {g : GS} {s : MS} {Q : Option Value → SG → Prop} (x1 : Int32) (x2 : Int32) (x3 : Int32) (x4 : Int32) (x5 : Int32) (hS : SX g) (h : ((x1 ≤ x5 → ((x2 = 0 → Q (some (.int x3)) (mk g s)) ∧ (¬ x2 = 0 → Q (some (.int x4)) (mk g s)))) ∧ (¬ x1 ≤ x5 → GV E m_Mo_copies [.ref 120] g s (fun t1_ => GV E m_Mo_goes [.ref 120, .int x5] g t1_ (fun t2_ => (∀ s3_, s3_ = wi t2_ 163 118 ((t2_.1 163 118) + 10) → GV E m_Mo_goes [.ref 120, .int ((x1 + 10) - x5)] g s3_ (fun t4_ => GI E m_Mo_worthAll [.ref 120] g t4_ (fun y5_ t5_ => ((x4 < y5_ → AWP E m_Mo_catAt 29 0 0 [(0, .ref 120), (1, .int x1), (2, .int x2), (3, .int x5), (4, .int y5_), (5, .int (x5 + 1))] [] (mk g t5_) Q) ∧ (¬ x4 < y5_ → AWP E m_Mo_catAt 29 0 0 [(0, .ref 120), (1, .int x1), (2, .int x2), (3, .int x3), (4, .int x4), (5, .int (x5 + 1))] [] (mk g t5_) Q)))))))))) : AWP E m_Mo_catAt 29 0 0 [(0, .ref 120), (1, .int x1), (2, .int x2), (3, .int x3), (4, .int x4), (5, .int x5)] [] (mk g s) Q := by
  refine aw_iload (q := 31) (j := 5) rfl rfl (List.mem_of_getElem? (i := 5) rfl) ?_
  refine aw_iload_n (q := 32) (j := 1) rfl rfl rfl (List.mem_of_getElem? (i := 1) rfl) ?_
  refine aw_icmp_ge (q := 35) (tgt := 97) rfl rfl (by decide) ⟨fun cd_1 => ?_, fun cd_1 => ?_⟩
  · replace h := h.1 cd_1
    refine aw_iload_n (q := 98) (j := 2) rfl rfl rfl (List.mem_of_getElem? (i := 2) rfl) ?_
    refine aw_if_ne (q := 101) (tgt := 105) rfl rfl (by decide) ⟨fun cd_2 => ?_, fun cd_2 => ?_⟩
    · replace h := h.1 cd_2
      refine aw_iload_n (q := 102) (j := 3) rfl rfl rfl (List.mem_of_getElem? (i := 3) rfl) ?_
      refine aw_goto (tgt := 107) rfl (by decide) ?_
      exact aw_ireturn (ty := .int) rfl rfl rfl (by decide) (by decide) h
    · replace h := h.2 cd_2
      refine aw_iload (q := 107) (j := 4) rfl rfl (List.mem_of_getElem? (i := 4) rfl) ?_
      exact aw_ireturn (ty := .int) rfl rfl rfl (by decide) (by decide) h
  · replace h := h.2 cd_1
    refine aw_aload_n (q := 36) (j := 0) rfl rfl rfl (List.mem_of_getElem? (i := 0) rfl) ?_
    refine ag_cvV (z := m_Mo_copies) (ci := 11) (av := []) (st := []) (q := 39) (k' := 0) (n' := 0) rfl rfl cv_Mo_395 ⟨by decide, by decide⟩ rfl rfl (by decide) (by decide) (SX.o hS rfl) rfl rfl rfl (Nat.le_of_ble_eq_true rfl) ?_
    refine GV.mono h (fun t1_ h => ?_)
    refine aw_aload_n (q := 40) (j := 0) rfl rfl rfl (List.mem_of_getElem? (i := 0) rfl) ?_
    refine aw_iload (q := 42) (j := 5) rfl rfl (List.mem_of_getElem? (i := 5) rfl) ?_
    refine ag_cvV (z := m_Mo_goes) (ci := 11) (av := [.int _]) (st := []) (q := 45) (k' := 0) (n' := 0) rfl rfl cv_Mo_401 ⟨by decide, by decide⟩ rfl rfl (by decide) (by decide) (SX.o hS rfl) rfl rfl rfl (Nat.le_of_ble_eq_true rfl) ?_
    refine GV.mono h (fun t2_ h => ?_)
    refine aw_aload_n (q := 46) (j := 0) rfl rfl rfl (List.mem_of_getElem? (i := 0) rfl) ?_
    refine ag_getR (q := 49) rfl rfl fl_Mo_146 rfl (SX.o hS rfl) (SX.r hS rfl) ?_
    refine aw_bipush (q := 51) (v := 118) rfl rfl (by decide) ?_
    refine aw_dup2 (q := 52) rfl rfl rfl rfl ?_
    refine ag_iaload (q := 53) (N := 120) rfl rfl (SX.a hS rfl) (by unfold vp_in; decide) ?_
    refine aw_bipush (q := 55) (v := 10) rfl rfl (by decide) ?_
    refine aw_iadd (q := 56) rfl rfl ?_
    refine ag_iastore (q := 57) (N := 120) rfl rfl (SX.a hS rfl) (by unfold vp_in; decide) ?_
    replace h := h _ rfl
    refine aw_aload_n (q := 58) (j := 0) rfl rfl rfl (List.mem_of_getElem? (i := 0) rfl) ?_
    refine aw_iload_n (q := 59) (j := 1) rfl rfl rfl (List.mem_of_getElem? (i := 1) rfl) ?_
    refine aw_bipush (q := 61) (v := 10) rfl rfl (by decide) ?_
    refine aw_iadd (q := 62) rfl rfl ?_
    refine aw_iload (q := 64) (j := 5) rfl rfl (List.mem_of_getElem? (i := 5) rfl) ?_
    refine aw_isub (q := 65) rfl rfl ?_
    refine ag_cvV (z := m_Mo_goes) (ci := 11) (av := [.int _]) (st := []) (q := 68) (k' := 0) (n' := 0) rfl rfl cv_Mo_401 ⟨by decide, by decide⟩ rfl rfl (by decide) (by decide) (SX.o hS rfl) rfl rfl rfl (Nat.le_of_ble_eq_true rfl) ?_
    refine GV.mono h (fun t4_ h => ?_)
    refine aw_aload_n (q := 69) (j := 0) rfl rfl rfl (List.mem_of_getElem? (i := 0) rfl) ?_
    refine ag_cvI (z := m_Mo_worthAll) (ci := 11) (av := []) (st := []) (q := 72) (k' := 0) (n' := 0) rfl rfl cv_Mo_432 ⟨by decide, by decide⟩ rfl rfl (by decide) (by decide) (SX.o hS rfl) rfl rfl rfl (Nat.le_of_ble_eq_true rfl) ?_
    refine GI.mono h (fun y5_ t5_ h => ?_)
    refine aw_istore (q := 74) (j := 6) (ls' := [(6, .int _), (0, .ref _), (1, .int _), (2, .int _), (3, .int _), (4, .int _), (5, .int _)]) rfl rfl (by decide) rfl ?_
    refine aw_iload (q := 76) (j := 6) rfl rfl (List.mem_of_getElem? (i := 0) rfl) ?_
    refine aw_iload (q := 78) (j := 4) rfl rfl (List.mem_of_getElem? (i := 5) rfl) ?_
    refine aw_icmp_gt (q := 81) (tgt := 84) rfl rfl (by decide) ⟨fun cd_3 => ?_, fun cd_3 => ?_⟩
    · replace h := h.1 cd_3
      refine aw_iload (q := 86) (j := 5) rfl rfl (List.mem_of_getElem? (i := 6) rfl) ?_
      refine aw_istore_n (q := 87) (j := 3) (ls' := [(3, .int _), (6, .int _), (0, .ref _), (1, .int _), (2, .int _), (4, .int _), (5, .int _)]) rfl rfl rfl (by decide) rfl ?_
      refine aw_iload (q := 89) (j := 6) rfl rfl (List.mem_of_getElem? (i := 1) rfl) ?_
      refine aw_istore (q := 91) (j := 4) (ls' := [(4, .int _), (3, .int _), (6, .int _), (0, .ref _), (1, .int _), (2, .int _), (5, .int _)]) rfl rfl (by decide) rfl ?_
      refine aw_iinc (q := 94) (v := _ + 1) (ls' := [(5, .int _), (4, .int _), (3, .int _), (6, .int _), (0, .ref _), (1, .int _), (2, .int _)]) rfl rfl (List.mem_of_getElem? (i := 6) rfl) rfl (by decide) rfl ?_
      refine aw_goto (tgt := 29) rfl (by decide) ?_
      refine aw_ls [4, 5, 6, 2, 1, 0] rfl ?_
      exact h
    · replace h := h.2 cd_3
      refine aw_goto (tgt := 91) rfl (by decide) ?_
      refine aw_iinc (q := 94) (v := _ + 1) (ls' := [(5, .int _), (6, .int _), (0, .ref _), (1, .int _), (2, .int _), (3, .int _), (4, .int _)]) rfl rfl (List.mem_of_getElem? (i := 6) rfl) rfl (by decide) rfl ?_
      refine aw_goto (tgt := 29) rfl (by decide) ?_
      refine aw_ls [2, 3, 4, 5, 6, 0] rfl ?_
      exact h
set_option maxRecDepth 20000 in
theorem v_Mo_catAt {E : EN} {g : GS} {s : MS} {Q : Option Value → SG → Prop} (x1 : Int32) (x2 : Int32) (h : GI E m_Mo_in [.int x1, .int 1, .int 120] g s (fun y1_ t1_ => ((y1_ = 0 → Q (some (.int (-1))) (mk g t1_)) ∧ (¬ y1_ = 0 → GI E m_Mo_in [.int x2, .int 0, .int 1] g t1_ (fun y2_ t2_ => ((y2_ = 0 → Q (some (.int (-1))) (mk g t2_)) ∧ (¬ y2_ = 0 → AWP E m_Mo_catAt 29 0 0 [(0, .ref 120), (1, .int x1), (2, .int x2), (3, .int 0), (4, .int (-1)), (5, .int 0)] [] (mk g t2_) Q))))))) : AMet E m_Mo_catAt [.ref 120, .int x1, .int x2] (mk g s) Q := by
  refine AMet.of (by decide) k_Mo_catAt [(0, .ref 120), (1, .int x1), (2, .int x2)] (Nat.le_of_ble_eq_true rfl) rfl ?_
  refine aw_iload_n (q := 1) (j := 1) rfl rfl rfl (List.mem_of_getElem? (i := 1) rfl) ?_
  refine aw_iconst (q := 2) (v := 1) rfl rfl (by decide) ?_
  refine aw_bipush (q := 4) (v := 120) rfl rfl (by decide) ?_
  refine ag_csI (z := m_Mo_in) (av := [.int _, .int _, .int _]) (st := []) (q := 7) (k' := 0) (n' := 0) rfl rfl cs_Mo_350 ⟨by decide, by decide⟩ rfl rfl (by decide) (by decide) rfl rfl (Nat.le_of_ble_eq_true rfl) ?_
  refine GI.mono h (fun y1_ t1_ h => ?_)
  refine aw_if_eq (q := 10) (tgt := 19) rfl rfl (by decide) ⟨fun cd_1 => ?_, fun cd_1 => ?_⟩
  · replace h := h.1 cd_1
    refine aw_iconst (q := 20) (v := (-1)) rfl rfl (by decide) ?_
    exact aw_ireturn (ty := .int) rfl rfl rfl (by decide) (by decide) h
  · replace h := h.2 cd_1
    refine aw_iload_n (q := 11) (j := 2) rfl rfl rfl (List.mem_of_getElem? (i := 2) rfl) ?_
    refine aw_iconst (q := 12) (v := 0) rfl rfl (by decide) ?_
    refine aw_iconst (q := 13) (v := 1) rfl rfl (by decide) ?_
    refine ag_csI (z := m_Mo_in) (av := [.int _, .int _, .int _]) (st := []) (q := 16) (k' := 0) (n' := 0) rfl rfl cs_Mo_350 ⟨by decide, by decide⟩ rfl rfl (by decide) (by decide) rfl rfl (Nat.le_of_ble_eq_true rfl) ?_
    refine GI.mono h (fun y2_ t2_ h => ?_)
    refine aw_if_ne (q := 19) (tgt := 21) rfl rfl (by decide) ⟨fun cd_2 => ?_, fun cd_2 => ?_⟩
    · replace h := h.1 cd_2
      refine aw_iconst (q := 20) (v := (-1)) rfl rfl (by decide) ?_
      exact aw_ireturn (ty := .int) rfl rfl rfl (by decide) (by decide) h
    · replace h := h.2 cd_2
      refine aw_iconst (q := 22) (v := 0) rfl rfl (by decide) ?_
      refine aw_istore_n (q := 23) (j := 3) (ls' := [(3, .int _), (0, .ref _), (1, .int _), (2, .int _)]) rfl rfl rfl (by decide) rfl ?_
      refine aw_iconst (q := 24) (v := (-1)) rfl rfl (by decide) ?_
      refine aw_istore (q := 26) (j := 4) (ls' := [(4, .int _), (3, .int _), (0, .ref _), (1, .int _), (2, .int _)]) rfl rfl (by decide) rfl ?_
      refine aw_iconst (q := 27) (v := 0) rfl rfl (by decide) ?_
      refine aw_istore (q := 29) (j := 5) (ls' := [(5, .int _), (4, .int _), (3, .int _), (0, .ref _), (1, .int _), (2, .int _)]) rfl rfl (by decide) rfl ?_
      refine aw_ls [3, 4, 5, 2, 1, 0] rfl ?_
      exact h
set_option maxRecDepth 20000 in
theorem v_Mo_starves_16 {E : EN} {g : GS} {s : MS} {Q : Option Value → SG → Prop} (x1 : Int32) (x2 : Int32) (hS : SX g) (h : ((600 < x2 → Q (some (.int (-2))) (mk g s)) ∧ (¬ 600 < x2 → vp_in (74 + x1) 120 ∧ (((s.1 163 (((74 + x1)).toNatClampNeg)) = 99 → Q (some (.int x2)) (mk g s)) ∧ (¬ (s.1 163 (((74 + x1)).toNatClampNeg)) = 99 → GV E m_Mo_minuteGoes [.ref 120] g s (fun t1_ => AWP E m_Mo_starves 16 0 0 [(0, .ref 120), (1, .int x1), (2, .int (x2 + 1))] [] (mk g t1_) Q)))))) : AWP E m_Mo_starves 16 0 0 [(0, .ref 120), (1, .int x1), (2, .int x2)] [] (mk g s) Q := by
  refine aw_iload_n (q := 17) (j := 2) rfl rfl rfl (List.mem_of_getElem? (i := 2) rfl) ?_
  refine aw_sipush (q := 20) (v := 600) rfl rfl (by decide) ?_
  refine aw_icmp_gt (q := 23) (tgt := 49) rfl rfl (by decide) ⟨fun cd_1 => ?_, fun cd_1 => ?_⟩
  · replace h := h.1 cd_1
    refine aw_bipush (q := 51) (v := (-2)) rfl rfl (by decide) ?_
    exact aw_ireturn (ty := .int) rfl rfl rfl (by decide) (by decide) h
  · replace h := h.2 cd_1
    refine aw_aload_n (q := 24) (j := 0) rfl rfl rfl (List.mem_of_getElem? (i := 0) rfl) ?_
    refine ag_getR (q := 27) rfl rfl fl_Mo_146 rfl (SX.o hS rfl) (SX.r hS rfl) ?_
    refine aw_bipush (q := 29) (v := 74) rfl rfl (by decide) ?_
    refine aw_iload_n (q := 30) (j := 1) rfl rfl rfl (List.mem_of_getElem? (i := 1) rfl) ?_
    refine aw_iadd (q := 31) rfl rfl ?_
    obtain ⟨bd_2, h⟩ := h
    refine ag_iaload (q := 32) (N := 120) rfl rfl (SX.a hS rfl) bd_2 ?_
    refine aw_bipush (q := 34) (v := 99) rfl rfl (by decide) ?_
    refine aw_icmp_ne (q := 37) (tgt := 39) rfl rfl (by decide) ⟨fun cd_3 => ?_, fun cd_3 => ?_⟩
    · replace h := h.1 cd_3
      refine aw_iload_n (q := 38) (j := 2) rfl rfl rfl (List.mem_of_getElem? (i := 2) rfl) ?_
      exact aw_ireturn (ty := .int) rfl rfl rfl (by decide) (by decide) h
    · replace h := h.2 cd_3
      refine aw_aload_n (q := 40) (j := 0) rfl rfl rfl (List.mem_of_getElem? (i := 0) rfl) ?_
      refine ag_cvV (z := m_Mo_minuteGoes) (ci := 11) (av := []) (st := []) (q := 43) (k' := 0) (n' := 0) rfl rfl cv_Mo_380 ⟨by decide, by decide⟩ rfl rfl (by decide) (by decide) (SX.o hS rfl) rfl rfl rfl (Nat.le_of_ble_eq_true rfl) ?_
      refine GV.mono h (fun t1_ h => ?_)
      refine aw_iinc (q := 46) (v := _ + 1) (ls' := [(2, .int _), (0, .ref _), (1, .int _)]) rfl rfl (List.mem_of_getElem? (i := 2) rfl) rfl (by decide) rfl ?_
      refine aw_goto (tgt := 16) rfl (by decide) ?_
      refine aw_ls [1, 2, 0] rfl ?_
      exact h
set_option maxRecDepth 20000 in
theorem v_Mo_starves {E : EN} {g : GS} {s : MS} {Q : Option Value → SG → Prop} (x1 : Int32) (hS : SX g) (h : GI E m_Mo_isRat [.ref 120, .int x1] g s (fun y1_ t1_ => ((y1_ = 0 → Q (some (.int (-1))) (mk g t1_)) ∧ (¬ y1_ = 0 → GV E m_Mo_copies [.ref 120] g t1_ (fun t2_ => AWP E m_Mo_starves 16 0 0 [(0, .ref 120), (1, .int x1), (2, .int 0)] [] (mk g t2_) Q))))) : AMet E m_Mo_starves [.ref 120, .int x1] (mk g s) Q := by
  refine AMet.of (by decide) k_Mo_starves [(0, .ref 120), (1, .int x1)] (Nat.le_of_ble_eq_true rfl) rfl ?_
  refine aw_aload_n (q := 1) (j := 0) rfl rfl rfl (List.mem_of_getElem? (i := 0) rfl) ?_
  refine aw_iload_n (q := 2) (j := 1) rfl rfl rfl (List.mem_of_getElem? (i := 1) rfl) ?_
  refine ag_cvI (z := m_Mo_isRat) (ci := 11) (av := [.int _]) (st := []) (q := 5) (k' := 0) (n' := 0) rfl rfl cv_Mo_392 ⟨by decide, by decide⟩ rfl rfl (by decide) (by decide) (SX.o hS rfl) rfl rfl rfl (Nat.le_of_ble_eq_true rfl) ?_
  refine GI.mono h (fun y1_ t1_ h => ?_)
  refine aw_if_ne (q := 8) (tgt := 10) rfl rfl (by decide) ⟨fun cd_1 => ?_, fun cd_1 => ?_⟩
  · replace h := h.1 cd_1
    refine aw_iconst (q := 9) (v := (-1)) rfl rfl (by decide) ?_
    exact aw_ireturn (ty := .int) rfl rfl rfl (by decide) (by decide) h
  · replace h := h.2 cd_1
    refine aw_aload_n (q := 11) (j := 0) rfl rfl rfl (List.mem_of_getElem? (i := 0) rfl) ?_
    refine ag_cvV (z := m_Mo_copies) (ci := 11) (av := []) (st := []) (q := 14) (k' := 0) (n' := 0) rfl rfl cv_Mo_395 ⟨by decide, by decide⟩ rfl rfl (by decide) (by decide) (SX.o hS rfl) rfl rfl rfl (Nat.le_of_ble_eq_true rfl) ?_
    refine GV.mono h (fun t2_ h => ?_)
    refine aw_iconst (q := 15) (v := 0) rfl rfl (by decide) ?_
    refine aw_istore_n (q := 16) (j := 2) (ls' := [(2, .int _), (0, .ref _), (1, .int _)]) rfl rfl rfl (by decide) rfl ?_
    refine aw_ls [1, 2, 0] rfl ?_
    exact h
set_option maxRecDepth 20000 in
theorem v_Mo_mean_24 {E : EN} {g : GS} {s : MS} {Q : Option Value → SG → Prop} (x1 : Int32) (x2 : Int32) (x3 : Int32) (x4 : Int32) (hS : SX g) (h : ((x1 ≤ x4 → Q (some (.int x3)) (mk g s)) ∧ (¬ x1 ≤ x4 → GV E m_Mo_copies [.ref 120] g s (fun t1_ => (∀ s2_, s2_ = wi t1_ 120 61 ((t1_.1 120 61) + x4) → GV E m_Mo_goes [.ref 120, .int x2] g s2_ (fun t3_ => GI E m_Mo_inHoles [.ref 120, .int 0] g t3_ (fun y4_ t4_ => AWP E m_Mo_mean 24 0 0 [(0, .ref 120), (1, .int x1), (2, .int x2), (3, .int (x3 + y4_)), (4, .int (x4 + 1))] [] (mk g t4_) Q))))))) : AWP E m_Mo_mean 24 0 0 [(0, .ref 120), (1, .int x1), (2, .int x2), (3, .int x3), (4, .int x4)] [] (mk g s) Q := by
  refine aw_iload (q := 26) (j := 4) rfl rfl (List.mem_of_getElem? (i := 4) rfl) ?_
  refine aw_iload_n (q := 27) (j := 1) rfl rfl rfl (List.mem_of_getElem? (i := 1) rfl) ?_
  refine aw_icmp_ge (q := 30) (tgt := 64) rfl rfl (by decide) ⟨fun cd_1 => ?_, fun cd_1 => ?_⟩
  · replace h := h.1 cd_1
    refine aw_iload_n (q := 65) (j := 3) rfl rfl rfl (List.mem_of_getElem? (i := 3) rfl) ?_
    exact aw_ireturn (ty := .int) rfl rfl rfl (by decide) (by decide) h
  · replace h := h.2 cd_1
    refine aw_aload_n (q := 31) (j := 0) rfl rfl rfl (List.mem_of_getElem? (i := 0) rfl) ?_
    refine ag_cvV (z := m_Mo_copies) (ci := 11) (av := []) (st := []) (q := 34) (k' := 0) (n' := 0) rfl rfl cv_Mo_395 ⟨by decide, by decide⟩ rfl rfl (by decide) (by decide) (SX.o hS rfl) rfl rfl rfl (Nat.le_of_ble_eq_true rfl) ?_
    refine GV.mono h (fun t1_ h => ?_)
    refine aw_aload_n (q := 35) (j := 0) rfl rfl rfl (List.mem_of_getElem? (i := 0) rfl) ?_
    refine aw_dup (q := 36) rfl rfl rfl ?_
    refine ag_getI (q := 39) rfl rfl fl_Mo_344 rfl (SX.o hS rfl) ?_
    refine aw_iload (q := 41) (j := 4) rfl rfl (List.mem_of_getElem? (i := 4) rfl) ?_
    refine aw_iadd (q := 42) rfl rfl ?_
    refine ag_putI (q := 45) rfl rfl fl_Mo_344 rfl rfl (SX.o hS rfl) ?_
    replace h := h _ rfl
    refine aw_aload_n (q := 46) (j := 0) rfl rfl rfl (List.mem_of_getElem? (i := 0) rfl) ?_
    refine aw_iload_n (q := 47) (j := 2) rfl rfl rfl (List.mem_of_getElem? (i := 2) rfl) ?_
    refine ag_cvV (z := m_Mo_goes) (ci := 11) (av := [.int _]) (st := []) (q := 50) (k' := 0) (n' := 0) rfl rfl cv_Mo_401 ⟨by decide, by decide⟩ rfl rfl (by decide) (by decide) (SX.o hS rfl) rfl rfl rfl (Nat.le_of_ble_eq_true rfl) ?_
    refine GV.mono h (fun t3_ h => ?_)
    refine aw_iload_n (q := 51) (j := 3) rfl rfl rfl (List.mem_of_getElem? (i := 3) rfl) ?_
    refine aw_aload_n (q := 52) (j := 0) rfl rfl rfl (List.mem_of_getElem? (i := 0) rfl) ?_
    refine aw_iconst (q := 53) (v := 0) rfl rfl (by decide) ?_
    refine ag_cvI (z := m_Mo_inHoles) (ci := 11) (av := [.int _]) (st := [.int _]) (q := 56) (k' := 0) (n' := 0) rfl rfl cv_Mo_438 ⟨by decide, by decide⟩ rfl rfl (by decide) (by decide) (SX.o hS rfl) rfl rfl rfl (Nat.le_of_ble_eq_true rfl) ?_
    refine GI.mono h (fun y4_ t4_ h => ?_)
    refine aw_iadd (q := 57) rfl rfl ?_
    refine aw_istore_n (q := 58) (j := 3) (ls' := [(3, .int _), (0, .ref _), (1, .int _), (2, .int _), (4, .int _)]) rfl rfl rfl (by decide) rfl ?_
    refine aw_iinc (q := 61) (v := _ + 1) (ls' := [(4, .int _), (3, .int _), (0, .ref _), (1, .int _), (2, .int _)]) rfl rfl (List.mem_of_getElem? (i := 4) rfl) rfl (by decide) rfl ?_
    refine aw_goto (tgt := 24) rfl (by decide) ?_
    refine aw_ls [2, 3, 4, 1, 0] rfl ?_
    exact h
set_option maxRecDepth 20000 in
theorem v_Mo_mean {E : EN} {g : GS} {s : MS} {Q : Option Value → SG → Prop} (x1 : Int32) (x2 : Int32) (h : GI E m_Mo_in [.int x1, .int 1, .int 20] g s (fun y1_ t1_ => ((y1_ = 0 → Q (some (.int (-1))) (mk g t1_)) ∧ (¬ y1_ = 0 → GI E m_Mo_isLong [.int x2] g t1_ (fun y2_ t2_ => ((y2_ = 0 → Q (some (.int (-1))) (mk g t2_)) ∧ (¬ y2_ = 0 → AWP E m_Mo_mean 24 0 0 [(0, .ref 120), (1, .int x1), (2, .int x2), (3, .int 0), (4, .int 0)] [] (mk g t2_) Q))))))) : AMet E m_Mo_mean [.ref 120, .int x1, .int x2] (mk g s) Q := by
  refine AMet.of (by decide) k_Mo_mean [(0, .ref 120), (1, .int x1), (2, .int x2)] (Nat.le_of_ble_eq_true rfl) rfl ?_
  refine aw_iload_n (q := 1) (j := 1) rfl rfl rfl (List.mem_of_getElem? (i := 1) rfl) ?_
  refine aw_iconst (q := 2) (v := 1) rfl rfl (by decide) ?_
  refine aw_bipush (q := 4) (v := 20) rfl rfl (by decide) ?_
  refine ag_csI (z := m_Mo_in) (av := [.int _, .int _, .int _]) (st := []) (q := 7) (k' := 0) (n' := 0) rfl rfl cs_Mo_350 ⟨by decide, by decide⟩ rfl rfl (by decide) (by decide) rfl rfl (Nat.le_of_ble_eq_true rfl) ?_
  refine GI.mono h (fun y1_ t1_ h => ?_)
  refine aw_if_eq (q := 10) (tgt := 17) rfl rfl (by decide) ⟨fun cd_1 => ?_, fun cd_1 => ?_⟩
  · replace h := h.1 cd_1
    refine aw_iconst (q := 18) (v := (-1)) rfl rfl (by decide) ?_
    exact aw_ireturn (ty := .int) rfl rfl rfl (by decide) (by decide) h
  · replace h := h.2 cd_1
    refine aw_iload_n (q := 11) (j := 2) rfl rfl rfl (List.mem_of_getElem? (i := 2) rfl) ?_
    refine ag_csI (z := m_Mo_isLong) (av := [.int _]) (st := []) (q := 14) (k' := 0) (n' := 0) rfl rfl cs_Mo_429 ⟨by decide, by decide⟩ rfl rfl (by decide) (by decide) rfl rfl (Nat.le_of_ble_eq_true rfl) ?_
    refine GI.mono h (fun y2_ t2_ h => ?_)
    refine aw_if_ne (q := 17) (tgt := 19) rfl rfl (by decide) ⟨fun cd_2 => ?_, fun cd_2 => ?_⟩
    · replace h := h.1 cd_2
      refine aw_iconst (q := 18) (v := (-1)) rfl rfl (by decide) ?_
      exact aw_ireturn (ty := .int) rfl rfl rfl (by decide) (by decide) h
    · replace h := h.2 cd_2
      refine aw_iconst (q := 20) (v := 0) rfl rfl (by decide) ?_
      refine aw_istore_n (q := 21) (j := 3) (ls' := [(3, .int _), (0, .ref _), (1, .int _), (2, .int _)]) rfl rfl rfl (by decide) rfl ?_
      refine aw_iconst (q := 22) (v := 0) rfl rfl (by decide) ?_
      refine aw_istore (q := 24) (j := 4) (ls' := [(4, .int _), (3, .int _), (0, .ref _), (1, .int _), (2, .int _)]) rfl rfl (by decide) rfl ?_
      refine aw_ls [2, 3, 4, 1, 0] rfl ?_
      exact h
set_option maxRecDepth 20000 in
theorem v_Mo_tell {E : EN} {g : GS} {s : MS} {Q : Option Value → SG → Prop} (x1 : Int32) (x2 : Int32) (x3 : Int32) (x4 : Int32) (hS : SX g) (h : (((s.1 120 68) = 20 → Q (some (.int (-1))) (mk g s)) ∧ (¬ (s.1 120 68) = 20 → GI E m_Mo_isHole [.ref 120, .int x1] g s (fun y1_ t1_ => ((y1_ = 0 → Q (some (.int (-1))) (mk g t1_)) ∧ (¬ y1_ = 0 → GI E m_Mo_isGrain [.ref 120, .int x2] g t1_ (fun y2_ t2_ => ((y2_ = 0 → Q (some (.int (-1))) (mk g t2_)) ∧ (¬ y2_ = 0 → GI E m_Mo_in [.int x3, .int 0, .int 99] g t2_ (fun y3_ t3_ => ((y3_ = 0 → Q (some (.int (-1))) (mk g t3_)) ∧ (¬ y3_ = 0 → GI E m_Mo_in [.int x4, .int 0, .int 9999] g t3_ (fun y4_ t4_ => ((y4_ = 0 → Q (some (.int (-1))) (mk g t4_)) ∧ (¬ y4_ = 0 → vp_in (t4_.1 120 68) 20 ∧ (∀ s5_, s5_ = wi t4_ 167 (((t4_.1 120 68)).toNatClampNeg) x1 → (∀ s6_, s6_ = wi s5_ 168 (((t4_.1 120 68)).toNatClampNeg) x2 → (∀ s7_, s7_ = wi s6_ 169 (((t4_.1 120 68)).toNatClampNeg) x3 → (∀ s8_, s8_ = wi s7_ 170 (((t4_.1 120 68)).toNatClampNeg) x4 → (∀ s9_, s9_ = wi s8_ 120 68 ((t4_.1 120 68) + 1) → Q (some (.int (((t4_.1 120 68) + 1) - 1))) (mk g s9_))))))))))))))))))))) : AMet E m_Mo_tell [.ref 120, .int x1, .int x2, .int x3, .int x4] (mk g s) Q := by
  refine AMet.of (by decide) k_Mo_tell [(0, .ref 120), (1, .int x1), (2, .int x2), (3, .int x3), (4, .int x4)] (Nat.le_of_ble_eq_true rfl) rfl ?_
  refine aw_aload_n (q := 1) (j := 0) rfl rfl rfl (List.mem_of_getElem? (i := 0) rfl) ?_
  refine ag_getI (q := 4) rfl rfl fl_Mo_278 rfl (SX.o hS rfl) ?_
  refine aw_bipush (q := 6) (v := 20) rfl rfl (by decide) ?_
  refine aw_icmp_eq (q := 9) (tgt := 47) rfl rfl (by decide) ⟨fun cd_1 => ?_, fun cd_1 => ?_⟩
  · replace h := h.1 cd_1
    refine aw_iconst (q := 48) (v := (-1)) rfl rfl (by decide) ?_
    exact aw_ireturn (ty := .int) rfl rfl rfl (by decide) (by decide) h
  · replace h := h.2 cd_1
    refine aw_aload_n (q := 10) (j := 0) rfl rfl rfl (List.mem_of_getElem? (i := 0) rfl) ?_
    refine aw_iload_n (q := 11) (j := 1) rfl rfl rfl (List.mem_of_getElem? (i := 1) rfl) ?_
    refine ag_cvI (z := m_Mo_isHole) (ci := 11) (av := [.int _]) (st := []) (q := 14) (k' := 0) (n' := 0) rfl rfl cv_Mo_389 ⟨by decide, by decide⟩ rfl rfl (by decide) (by decide) (SX.o hS rfl) rfl rfl rfl (Nat.le_of_ble_eq_true rfl) ?_
    refine GI.mono h (fun y1_ t1_ h => ?_)
    refine aw_if_eq (q := 17) (tgt := 47) rfl rfl (by decide) ⟨fun cd_2 => ?_, fun cd_2 => ?_⟩
    · replace h := h.1 cd_2
      refine aw_iconst (q := 48) (v := (-1)) rfl rfl (by decide) ?_
      exact aw_ireturn (ty := .int) rfl rfl rfl (by decide) (by decide) h
    · replace h := h.2 cd_2
      refine aw_aload_n (q := 18) (j := 0) rfl rfl rfl (List.mem_of_getElem? (i := 0) rfl) ?_
      refine aw_iload_n (q := 19) (j := 2) rfl rfl rfl (List.mem_of_getElem? (i := 2) rfl) ?_
      refine ag_cvI (z := m_Mo_isGrain) (ci := 11) (av := [.int _]) (st := []) (q := 22) (k' := 0) (n' := 0) rfl rfl cv_Mo_386 ⟨by decide, by decide⟩ rfl rfl (by decide) (by decide) (SX.o hS rfl) rfl rfl rfl (Nat.le_of_ble_eq_true rfl) ?_
      refine GI.mono h (fun y2_ t2_ h => ?_)
      refine aw_if_eq (q := 25) (tgt := 47) rfl rfl (by decide) ⟨fun cd_3 => ?_, fun cd_3 => ?_⟩
      · replace h := h.1 cd_3
        refine aw_iconst (q := 48) (v := (-1)) rfl rfl (by decide) ?_
        exact aw_ireturn (ty := .int) rfl rfl rfl (by decide) (by decide) h
      · replace h := h.2 cd_3
        refine aw_iload_n (q := 26) (j := 3) rfl rfl rfl (List.mem_of_getElem? (i := 3) rfl) ?_
        refine aw_iconst (q := 27) (v := 0) rfl rfl (by decide) ?_
        refine aw_bipush (q := 29) (v := 99) rfl rfl (by decide) ?_
        refine ag_csI (z := m_Mo_in) (av := [.int _, .int _, .int _]) (st := []) (q := 32) (k' := 0) (n' := 0) rfl rfl cs_Mo_350 ⟨by decide, by decide⟩ rfl rfl (by decide) (by decide) rfl rfl (Nat.le_of_ble_eq_true rfl) ?_
        refine GI.mono h (fun y3_ t3_ h => ?_)
        refine aw_if_eq (q := 35) (tgt := 47) rfl rfl (by decide) ⟨fun cd_4 => ?_, fun cd_4 => ?_⟩
        · replace h := h.1 cd_4
          refine aw_iconst (q := 48) (v := (-1)) rfl rfl (by decide) ?_
          exact aw_ireturn (ty := .int) rfl rfl rfl (by decide) (by decide) h
        · replace h := h.2 cd_4
          refine aw_iload (q := 37) (j := 4) rfl rfl (List.mem_of_getElem? (i := 4) rfl) ?_
          refine aw_iconst (q := 38) (v := 0) rfl rfl (by decide) ?_
          refine aw_sipush (q := 41) (v := 9999) rfl rfl (by decide) ?_
          refine ag_csI (z := m_Mo_in) (av := [.int _, .int _, .int _]) (st := []) (q := 44) (k' := 0) (n' := 0) rfl rfl cs_Mo_350 ⟨by decide, by decide⟩ rfl rfl (by decide) (by decide) rfl rfl (Nat.le_of_ble_eq_true rfl) ?_
          refine GI.mono h (fun y4_ t4_ h => ?_)
          refine aw_if_ne (q := 47) (tgt := 49) rfl rfl (by decide) ⟨fun cd_5 => ?_, fun cd_5 => ?_⟩
          · replace h := h.1 cd_5
            refine aw_iconst (q := 48) (v := (-1)) rfl rfl (by decide) ?_
            exact aw_ireturn (ty := .int) rfl rfl rfl (by decide) (by decide) h
          · replace h := h.2 cd_5
            refine aw_aload_n (q := 50) (j := 0) rfl rfl rfl (List.mem_of_getElem? (i := 0) rfl) ?_
            refine ag_getR (q := 53) rfl rfl fl_Mo_158 rfl (SX.o hS rfl) (SX.r hS rfl) ?_
            refine aw_aload_n (q := 54) (j := 0) rfl rfl rfl (List.mem_of_getElem? (i := 0) rfl) ?_
            refine ag_getI (q := 57) rfl rfl fl_Mo_278 rfl (SX.o hS rfl) ?_
            refine aw_iload_n (q := 58) (j := 1) rfl rfl rfl (List.mem_of_getElem? (i := 1) rfl) ?_
            obtain ⟨bd_6, h⟩ := h
            refine ag_iastore (q := 59) (N := 20) rfl rfl (SX.a hS rfl) bd_6 ?_
            replace h := h _ rfl
            refine aw_aload_n (q := 60) (j := 0) rfl rfl rfl (List.mem_of_getElem? (i := 0) rfl) ?_
            refine ag_getR (q := 63) rfl rfl fl_Mo_161 rfl (SX.o hS rfl) (SX.r hS rfl) ?_
            refine aw_aload_n (q := 64) (j := 0) rfl rfl rfl (List.mem_of_getElem? (i := 0) rfl) ?_
            refine ag_getI (q := 67) rfl rfl fl_Mo_278 rfl (SX.o hS rfl) ?_
            refine aw_iload_n (q := 68) (j := 2) rfl rfl rfl (List.mem_of_getElem? (i := 2) rfl) ?_
            refine ag_iastore (q := 69) (N := 20) rfl rfl (SX.a hS rfl) bd_6 ?_
            replace h := h _ rfl
            refine aw_aload_n (q := 70) (j := 0) rfl rfl rfl (List.mem_of_getElem? (i := 0) rfl) ?_
            refine ag_getR (q := 73) rfl rfl fl_Mo_164 rfl (SX.o hS rfl) (SX.r hS rfl) ?_
            refine aw_aload_n (q := 74) (j := 0) rfl rfl rfl (List.mem_of_getElem? (i := 0) rfl) ?_
            refine ag_getI (q := 77) rfl rfl fl_Mo_278 rfl (SX.o hS rfl) ?_
            refine aw_iload_n (q := 78) (j := 3) rfl rfl rfl (List.mem_of_getElem? (i := 3) rfl) ?_
            refine ag_iastore (q := 79) (N := 20) rfl rfl (SX.a hS rfl) bd_6 ?_
            replace h := h _ rfl
            refine aw_aload_n (q := 80) (j := 0) rfl rfl rfl (List.mem_of_getElem? (i := 0) rfl) ?_
            refine ag_getR (q := 83) rfl rfl fl_Mo_167 rfl (SX.o hS rfl) (SX.r hS rfl) ?_
            refine aw_aload_n (q := 84) (j := 0) rfl rfl rfl (List.mem_of_getElem? (i := 0) rfl) ?_
            refine ag_getI (q := 87) rfl rfl fl_Mo_278 rfl (SX.o hS rfl) ?_
            refine aw_iload (q := 89) (j := 4) rfl rfl (List.mem_of_getElem? (i := 4) rfl) ?_
            refine ag_iastore (q := 90) (N := 20) rfl rfl (SX.a hS rfl) bd_6 ?_
            replace h := h _ rfl
            refine aw_aload_n (q := 91) (j := 0) rfl rfl rfl (List.mem_of_getElem? (i := 0) rfl) ?_
            refine aw_dup (q := 92) rfl rfl rfl ?_
            refine ag_getI (q := 95) rfl rfl fl_Mo_278 rfl (SX.o hS rfl) ?_
            refine aw_iconst (q := 96) (v := 1) rfl rfl (by decide) ?_
            refine aw_iadd (q := 97) rfl rfl ?_
            refine ag_putI (q := 100) rfl rfl fl_Mo_278 rfl rfl (SX.o hS rfl) ?_
            replace h := h _ rfl
            refine aw_aload_n (q := 101) (j := 0) rfl rfl rfl (List.mem_of_getElem? (i := 0) rfl) ?_
            refine ag_getI (q := 104) rfl rfl fl_Mo_278 rfl (SX.o hS rfl) ?_
            refine aw_iconst (q := 105) (v := 1) rfl rfl (by decide) ?_
            refine aw_isub (q := 106) rfl rfl ?_
            exact aw_ireturn (ty := .int) rfl rfl rfl (by decide) (by decide) h
set_option maxRecDepth 20000 in
theorem v_Mo_forget {E : EN} {g : GS} {s : MS} {Q : Option Value → SG → Prop}  (hS : SX g) (h : (∀ s1_, s1_ = wi s 120 68 0 → Q (some (.int (s.1 120 68))) (mk g s1_))) : AMet E m_Mo_forget [.ref 120] (mk g s) Q := by
  refine AMet.of (by decide) k_Mo_forget [(0, .ref 120)] (Nat.le_of_ble_eq_true rfl) rfl ?_
  refine aw_aload_n (q := 1) (j := 0) rfl rfl rfl (List.mem_of_getElem? (i := 0) rfl) ?_
  refine ag_getI (q := 4) rfl rfl fl_Mo_278 rfl (SX.o hS rfl) ?_
  refine aw_istore_n (q := 5) (j := 1) (ls' := [(1, .int _), (0, .ref _)]) rfl rfl rfl (by decide) rfl ?_
  refine aw_aload_n (q := 6) (j := 0) rfl rfl rfl (List.mem_of_getElem? (i := 1) rfl) ?_
  refine aw_iconst (q := 7) (v := 0) rfl rfl (by decide) ?_
  refine ag_putI (q := 10) rfl rfl fl_Mo_278 rfl rfl (SX.o hS rfl) ?_
  replace h := h _ rfl
  refine aw_iload_n (q := 11) (j := 1) rfl rfl rfl (List.mem_of_getElem? (i := 0) rfl) ?_
  exact aw_ireturn (ty := .int) rfl rfl rfl (by decide) (by decide) h
set_option maxRecDepth 20000 in
theorem v_Mo_jokes_45 {E : EN} {g : GS} {s : MS} {Q : Option Value → SG → Prop} (x1 : Int32) (x2 : Int32) (x3 : Int32) (x4 : Int32) (hS : SX g) (h : vp_in (s.1 120 18) 2 ∧ (((s.1 134 (((s.1 120 18)).toNatClampNeg)) ≤ x4 → ((x2 = (-1) → Q (some (.int x3)) (mk g s)) ∧ (¬ x2 = (-1) → Q (some (.int (-1))) (mk g s)))) ∧ (¬ (s.1 134 (((s.1 120 18)).toNatClampNeg)) ≤ x4 → AWP E m_Mo_jokes 65 0 0 [(0, .ref 120), (1, .int x1), (2, .int x2), (3, .int x3), (4, .int x4), (5, .int (x4 + 1))] [] (mk g s) Q))) : AWP E m_Mo_jokes 45 0 0 [(0, .ref 120), (1, .int x1), (2, .int x2), (3, .int x3), (4, .int x4)] [] (mk g s) Q := by
  refine aw_iload (q := 47) (j := 4) rfl rfl (List.mem_of_getElem? (i := 4) rfl) ?_
  refine aw_aload_n (q := 48) (j := 0) rfl rfl rfl (List.mem_of_getElem? (i := 0) rfl) ?_
  refine ag_getR (q := 51) rfl rfl fl_Mo_58 rfl (SX.o hS rfl) (SX.r hS rfl) ?_
  refine aw_aload_n (q := 52) (j := 0) rfl rfl rfl (List.mem_of_getElem? (i := 0) rfl) ?_
  refine ag_getI (q := 55) rfl rfl fl_Mo_257 rfl (SX.o hS rfl) ?_
  obtain ⟨bd_1, h⟩ := h
  refine ag_iaload (q := 56) (N := 2) rfl rfl (SX.a hS rfl) bd_1 ?_
  refine aw_icmp_ge (q := 59) (tgt := 148) rfl rfl (by decide) ⟨fun cd_2 => ?_, fun cd_2 => ?_⟩
  · replace h := h.1 cd_2
    refine aw_iload_n (q := 149) (j := 2) rfl rfl rfl (List.mem_of_getElem? (i := 2) rfl) ?_
    refine aw_iconst (q := 150) (v := (-1)) rfl rfl (by decide) ?_
    refine aw_icmp_ne (q := 153) (tgt := 157) rfl rfl (by decide) ⟨fun cd_3 => ?_, fun cd_3 => ?_⟩
    · replace h := h.1 cd_3
      refine aw_iload_n (q := 154) (j := 3) rfl rfl rfl (List.mem_of_getElem? (i := 3) rfl) ?_
      refine aw_goto (tgt := 158) rfl (by decide) ?_
      exact aw_ireturn (ty := .int) rfl rfl rfl (by decide) (by decide) h
    · replace h := h.2 cd_3
      refine aw_iconst (q := 158) (v := (-1)) rfl rfl (by decide) ?_
      exact aw_ireturn (ty := .int) rfl rfl rfl (by decide) (by decide) h
  · replace h := h.2 cd_2
    refine aw_iload (q := 61) (j := 4) rfl rfl (List.mem_of_getElem? (i := 4) rfl) ?_
    refine aw_iconst (q := 62) (v := 1) rfl rfl (by decide) ?_
    refine aw_iadd (q := 63) rfl rfl ?_
    refine aw_istore (q := 65) (j := 5) (ls' := [(5, .int _), (0, .ref _), (1, .int _), (2, .int _), (3, .int _), (4, .int _)]) rfl rfl (by decide) rfl ?_
    refine aw_ls [1, 2, 3, 4, 5, 0] rfl ?_
    exact h
set_option maxRecDepth 20000 in
theorem v_Mo_jokes_65 {E : EN} {g : GS} {s : MS} {Q : Option Value → SG → Prop} (x1 : Int32) (x2 : Int32) (x3 : Int32) (x4 : Int32) (x5 : Int32) (hS : SX g) (h : vp_in (s.1 120 18) 2 ∧ (((s.1 134 (((s.1 120 18)).toNatClampNeg)) ≤ x5 → AWP E m_Mo_jokes 45 0 0 [(0, .ref 120), (1, .int x1), (2, .int x2), (3, .int x3), (4, .int (x4 + 1))] [] (mk g s) Q) ∧ (¬ (s.1 134 (((s.1 120 18)).toNatClampNeg)) ≤ x5 → AWP E m_Mo_jokes 82 0 0 [(0, .ref 120), (1, .int x1), (2, .int x2), (3, .int x3), (4, .int x4), (5, .int x5), (6, .int 0)] [] (mk g s) Q))) : AWP E m_Mo_jokes 65 0 0 [(0, .ref 120), (1, .int x1), (2, .int x2), (3, .int x3), (4, .int x4), (5, .int x5)] [] (mk g s) Q := by
  refine aw_iload (q := 67) (j := 5) rfl rfl (List.mem_of_getElem? (i := 5) rfl) ?_
  refine aw_aload_n (q := 68) (j := 0) rfl rfl rfl (List.mem_of_getElem? (i := 0) rfl) ?_
  refine ag_getR (q := 71) rfl rfl fl_Mo_58 rfl (SX.o hS rfl) (SX.r hS rfl) ?_
  refine aw_aload_n (q := 72) (j := 0) rfl rfl rfl (List.mem_of_getElem? (i := 0) rfl) ?_
  refine ag_getI (q := 75) rfl rfl fl_Mo_257 rfl (SX.o hS rfl) ?_
  obtain ⟨bd_1, h⟩ := h
  refine ag_iaload (q := 76) (N := 2) rfl rfl (SX.a hS rfl) bd_1 ?_
  refine aw_icmp_ge (q := 79) (tgt := 142) rfl rfl (by decide) ⟨fun cd_2 => ?_, fun cd_2 => ?_⟩
  · replace h := h.1 cd_2
    refine aw_iinc (q := 145) (v := _ + 1) (ls' := [(4, .int _), (0, .ref _), (1, .int _), (2, .int _), (3, .int _), (5, .int _)]) rfl rfl (List.mem_of_getElem? (i := 4) rfl) rfl (by decide) rfl ?_
    refine aw_goto (tgt := 45) rfl (by decide) ?_
    refine aw_ls [1, 2, 3, 4, 0] rfl ?_
    exact h
  · replace h := h.2 cd_2
    refine aw_iconst (q := 80) (v := 0) rfl rfl (by decide) ?_
    refine aw_istore (q := 82) (j := 6) (ls' := [(6, .int _), (0, .ref _), (1, .int _), (2, .int _), (3, .int _), (4, .int _), (5, .int _)]) rfl rfl (by decide) rfl ?_
    refine aw_ls [1, 2, 3, 4, 5, 6, 0] rfl ?_
    exact h
set_option maxRecDepth 20000 in
theorem v_Mo_jokes_82 {E : EN} {g : GS} {s : MS} {Q : Option Value → SG → Prop} (x1 : Int32) (x2 : Int32) (x3 : Int32) (x4 : Int32) (x5 : Int32) (x6 : Int32) (hS : SX g) (h : ((60 < x6 → AWP E m_Mo_jokes 65 0 0 [(0, .ref 120), (1, .int x1), (2, .int x2), (3, .int x3), (4, .int x4), (5, .int (x5 + 1))] [] (mk g s) Q) ∧ (¬ 60 < x6 → GI E m_Mo_isSo [.ref 120, .int x4, .int x5, .int x6, .int x1] g s (fun y1_ t1_ => ((y1_ = 0 → AWP E m_Mo_jokes 82 0 0 [(0, .ref 120), (1, .int x1), (2, .int x2), (3, .int x3), (4, .int x4), (5, .int x5), (6, .int (x6 + 1))] [] (mk g t1_) Q) ∧ (¬ y1_ = 0 → ((x3 = x2 → Q (some (.int (((1000 * x4) + (100 * x5)) + x6))) (mk g t1_)) ∧ (¬ x3 = x2 → AWP E m_Mo_jokes 82 0 0 [(0, .ref 120), (1, .int x1), (2, .int x2), (3, .int (x3 + 1)), (4, .int x4), (5, .int x5), (6, .int (x6 + 1))] [] (mk g t1_) Q)))))))) : AWP E m_Mo_jokes 82 0 0 [(0, .ref 120), (1, .int x1), (2, .int x2), (3, .int x3), (4, .int x4), (5, .int x5), (6, .int x6)] [] (mk g s) Q := by
  refine aw_iload (q := 84) (j := 6) rfl rfl (List.mem_of_getElem? (i := 6) rfl) ?_
  refine aw_bipush (q := 86) (v := 60) rfl rfl (by decide) ?_
  refine aw_icmp_gt (q := 89) (tgt := 136) rfl rfl (by decide) ⟨fun cd_1 => ?_, fun cd_1 => ?_⟩
  · replace h := h.1 cd_1
    refine aw_iinc (q := 139) (v := _ + 1) (ls' := [(5, .int _), (0, .ref _), (1, .int _), (2, .int _), (3, .int _), (4, .int _), (6, .int _)]) rfl rfl (List.mem_of_getElem? (i := 5) rfl) rfl (by decide) rfl ?_
    refine aw_goto (tgt := 65) rfl (by decide) ?_
    refine aw_ls [1, 2, 3, 4, 5, 0] rfl ?_
    exact h
  · replace h := h.2 cd_1
    refine aw_aload_n (q := 90) (j := 0) rfl rfl rfl (List.mem_of_getElem? (i := 0) rfl) ?_
    refine aw_iload (q := 92) (j := 4) rfl rfl (List.mem_of_getElem? (i := 4) rfl) ?_
    refine aw_iload (q := 94) (j := 5) rfl rfl (List.mem_of_getElem? (i := 5) rfl) ?_
    refine aw_iload (q := 96) (j := 6) rfl rfl (List.mem_of_getElem? (i := 6) rfl) ?_
    refine aw_iload_n (q := 97) (j := 1) rfl rfl rfl (List.mem_of_getElem? (i := 1) rfl) ?_
    refine ag_cvI (z := m_Mo_isSo) (ci := 11) (av := [.int _, .int _, .int _, .int _]) (st := []) (q := 100) (k' := 0) (n' := 0) rfl rfl cv_Mo_464 ⟨by decide, by decide⟩ rfl rfl (by decide) (by decide) (SX.o hS rfl) rfl rfl rfl (Nat.le_of_ble_eq_true rfl) ?_
    refine GI.mono h (fun y1_ t1_ h => ?_)
    refine aw_if_ne (q := 103) (tgt := 106) rfl rfl (by decide) ⟨fun cd_2 => ?_, fun cd_2 => ?_⟩
    · replace h := h.1 cd_2
      refine aw_goto (tgt := 130) rfl (by decide) ?_
      refine aw_iinc (q := 133) (v := _ + 1) (ls' := [(6, .int _), (0, .ref _), (1, .int _), (2, .int _), (3, .int _), (4, .int _), (5, .int _)]) rfl rfl (List.mem_of_getElem? (i := 6) rfl) rfl (by decide) rfl ?_
      refine aw_goto (tgt := 82) rfl (by decide) ?_
      refine aw_ls [1, 2, 3, 4, 5, 6, 0] rfl ?_
      exact h
    · replace h := h.2 cd_2
      refine aw_iload_n (q := 107) (j := 3) rfl rfl rfl (List.mem_of_getElem? (i := 3) rfl) ?_
      refine aw_iload_n (q := 108) (j := 2) rfl rfl rfl (List.mem_of_getElem? (i := 2) rfl) ?_
      refine aw_icmp_ne (q := 111) (tgt := 127) rfl rfl (by decide) ⟨fun cd_3 => ?_, fun cd_3 => ?_⟩
      · replace h := h.1 cd_3
        refine aw_sipush (q := 114) (v := 1000) rfl rfl (by decide) ?_
        refine aw_iload (q := 116) (j := 4) rfl rfl (List.mem_of_getElem? (i := 4) rfl) ?_
        refine aw_imul (q := 117) rfl rfl ?_
        refine aw_bipush (q := 119) (v := 100) rfl rfl (by decide) ?_
        refine aw_iload (q := 121) (j := 5) rfl rfl (List.mem_of_getElem? (i := 5) rfl) ?_
        refine aw_imul (q := 122) rfl rfl ?_
        refine aw_iadd (q := 123) rfl rfl ?_
        refine aw_iload (q := 125) (j := 6) rfl rfl (List.mem_of_getElem? (i := 6) rfl) ?_
        refine aw_iadd (q := 126) rfl rfl ?_
        exact aw_ireturn (ty := .int) rfl rfl rfl (by decide) (by decide) h
      · replace h := h.2 cd_3
        refine aw_iinc (q := 130) (v := _ + 1) (ls' := [(3, .int _), (0, .ref _), (1, .int _), (2, .int _), (4, .int _), (5, .int _), (6, .int _)]) rfl rfl (List.mem_of_getElem? (i := 3) rfl) rfl (by decide) rfl ?_
        refine aw_iinc (q := 133) (v := _ + 1) (ls' := [(6, .int _), (3, .int _), (0, .ref _), (1, .int _), (2, .int _), (4, .int _), (5, .int _)]) rfl rfl (List.mem_of_getElem? (i := 6) rfl) rfl (by decide) rfl ?_
        refine aw_goto (tgt := 82) rfl (by decide) ?_
        refine aw_ls [2, 3, 4, 1, 5, 6, 0] rfl ?_
        exact h
set_option maxRecDepth 20000 in
theorem v_Mo_jokes {E : EN} {g : GS} {s : MS} {Q : Option Value → SG → Prop} (x1 : Int32) (x2 : Int32) (hS : SX g) (h : GI E m_Mo_in [.int x1, .int 0, .int (s.1 120 68)] g s (fun y1_ t1_ => ((y1_ = 0 → Q (some (.int (-1))) (mk g t1_)) ∧ (¬ y1_ = 0 → (((-1) ≤ x2 → GI E m_Mo_isSo [.ref 120, .int 0, .int 0, .int 0, .int x1] g t1_ (fun y2_ t2_ => ((y2_ = 0 → AWP E m_Mo_jokes 45 0 0 [(0, .ref 120), (1, .int x1), (2, .int x2), (3, .int 0), (4, .int 0)] [] (mk g t2_) Q) ∧ (¬ y2_ = 0 → ((x2 = 0 → Q (some (.int (-3))) (mk g t2_)) ∧ (¬ x2 = 0 → AWP E m_Mo_jokes 45 0 0 [(0, .ref 120), (1, .int x1), (2, .int x2), (3, .int 1), (4, .int 0)] [] (mk g t2_) Q)))))) ∧ (¬ (-1) ≤ x2 → Q (some (.int (-1))) (mk g t1_))))))) : AMet E m_Mo_jokes [.ref 120, .int x1, .int x2] (mk g s) Q := by
  refine AMet.of (by decide) k_Mo_jokes [(0, .ref 120), (1, .int x1), (2, .int x2)] (Nat.le_of_ble_eq_true rfl) rfl ?_
  refine aw_iload_n (q := 1) (j := 1) rfl rfl rfl (List.mem_of_getElem? (i := 1) rfl) ?_
  refine aw_iconst (q := 2) (v := 0) rfl rfl (by decide) ?_
  refine aw_aload_n (q := 3) (j := 0) rfl rfl rfl (List.mem_of_getElem? (i := 0) rfl) ?_
  refine ag_getI (q := 6) rfl rfl fl_Mo_278 rfl (SX.o hS rfl) ?_
  refine ag_csI (z := m_Mo_in) (av := [.int _, .int _, .int _]) (st := []) (q := 9) (k' := 0) (n' := 0) rfl rfl cs_Mo_350 ⟨by decide, by decide⟩ rfl rfl (by decide) (by decide) rfl rfl (Nat.le_of_ble_eq_true rfl) ?_
  refine GI.mono h (fun y1_ t1_ h => ?_)
  refine aw_if_eq (q := 12) (tgt := 17) rfl rfl (by decide) ⟨fun cd_1 => ?_, fun cd_1 => ?_⟩
  · replace h := h.1 cd_1
    refine aw_iconst (q := 18) (v := (-1)) rfl rfl (by decide) ?_
    exact aw_ireturn (ty := .int) rfl rfl rfl (by decide) (by decide) h
  · replace h := h.2 cd_1
    refine aw_iload_n (q := 13) (j := 2) rfl rfl rfl (List.mem_of_getElem? (i := 2) rfl) ?_
    refine aw_iconst (q := 14) (v := (-1)) rfl rfl (by decide) ?_
    refine aw_icmp_ge (q := 17) (tgt := 19) rfl rfl (by decide) ⟨fun cd_2 => ?_, fun cd_2 => ?_⟩
    · replace h := h.1 cd_2
      refine aw_iconst (q := 20) (v := 0) rfl rfl (by decide) ?_
      refine aw_istore_n (q := 21) (j := 3) (ls' := [(3, .int _), (0, .ref _), (1, .int _), (2, .int _)]) rfl rfl rfl (by decide) rfl ?_
      refine aw_aload_n (q := 22) (j := 0) rfl rfl rfl (List.mem_of_getElem? (i := 1) rfl) ?_
      refine aw_iconst (q := 23) (v := 0) rfl rfl (by decide) ?_
      refine aw_iconst (q := 24) (v := 0) rfl rfl (by decide) ?_
      refine aw_iconst (q := 25) (v := 0) rfl rfl (by decide) ?_
      refine aw_iload_n (q := 26) (j := 1) rfl rfl rfl (List.mem_of_getElem? (i := 2) rfl) ?_
      refine ag_cvI (z := m_Mo_isSo) (ci := 11) (av := [.int _, .int _, .int _, .int _]) (st := []) (q := 29) (k' := 0) (n' := 0) rfl rfl cv_Mo_464 ⟨by decide, by decide⟩ rfl rfl (by decide) (by decide) (SX.o hS rfl) rfl rfl rfl (Nat.le_of_ble_eq_true rfl) ?_
      refine GI.mono h (fun y2_ t2_ h => ?_)
      refine aw_if_eq (q := 32) (tgt := 42) rfl rfl (by decide) ⟨fun cd_3 => ?_, fun cd_3 => ?_⟩
      · replace h := h.1 cd_3
        refine aw_iconst (q := 43) (v := 0) rfl rfl (by decide) ?_
        refine aw_istore (q := 45) (j := 4) (ls' := [(4, .int _), (3, .int _), (0, .ref _), (1, .int _), (2, .int _)]) rfl rfl (by decide) rfl ?_
        refine aw_ls [2, 3, 4, 1, 0] rfl ?_
        exact h
      · replace h := h.2 cd_3
        refine aw_iload_n (q := 33) (j := 2) rfl rfl rfl (List.mem_of_getElem? (i := 3) rfl) ?_
        refine aw_if_ne (q := 36) (tgt := 39) rfl rfl (by decide) ⟨fun cd_4 => ?_, fun cd_4 => ?_⟩
        · replace h := h.1 cd_4
          refine aw_bipush (q := 38) (v := (-3)) rfl rfl (by decide) ?_
          exact aw_ireturn (ty := .int) rfl rfl rfl (by decide) (by decide) h
        · replace h := h.2 cd_4
          refine aw_iinc (q := 42) (v := 1) (ls' := [(3, .int _), (0, .ref _), (1, .int _), (2, .int _)]) rfl rfl (List.mem_of_getElem? (i := 0) rfl) rfl (by decide) rfl ?_
          refine aw_iconst (q := 43) (v := 0) rfl rfl (by decide) ?_
          refine aw_istore (q := 45) (j := 4) (ls' := [(4, .int _), (3, .int _), (0, .ref _), (1, .int _), (2, .int _)]) rfl rfl (by decide) rfl ?_
          refine aw_ls [2, 3, 4, 1, 0] rfl ?_
          exact h
    · replace h := h.2 cd_2
      refine aw_iconst (q := 18) (v := (-1)) rfl rfl (by decide) ?_
      exact aw_ireturn (ty := .int) rfl rfl rfl (by decide) (by decide) h
set_option maxRecDepth 20000 in
theorem v_Mo_isSo_10 {E : EN} {g : GS} {s : MS} {Q : Option Value → SG → Prop} (x1 : Int32) (x2 : Int32) (x3 : Int32) (x4 : Int32) (x5 : Int32) (x6 : Int32) (hS : SX g) (h : ((x4 ≤ x6 → AWP E m_Mo_isSo 47 0 0 [(0, .ref 120), (1, .int x1), (2, .int x2), (3, .int x3), (4, .int x4), (5, .int x5), (6, .int 0)] [] (mk g s) Q) ∧ (¬ x4 ≤ x6 → vp_in x6 20 ∧ (((s.1 169 ((x6).toNatClampNeg)) ≤ x5 → AWP E m_Mo_isSo 10 0 0 [(0, .ref 120), (1, .int x1), (2, .int x2), (3, .int x3), (4, .int x4), (5, .int x5), (6, .int (x6 + 1))] [] (mk g s) Q) ∧ (¬ (s.1 169 ((x6).toNatClampNeg)) ≤ x5 → AWP E m_Mo_isSo 10 0 0 [(0, .ref 120), (1, .int x1), (2, .int x2), (3, .int x3), (4, .int x4), (5, .int (s.1 169 ((x6).toNatClampNeg))), (6, .int (x6 + 1))] [] (mk g s) Q))))) : AWP E m_Mo_isSo 10 0 0 [(0, .ref 120), (1, .int x1), (2, .int x2), (3, .int x3), (4, .int x4), (5, .int x5), (6, .int x6)] [] (mk g s) Q := by
  refine aw_iload (q := 12) (j := 6) rfl rfl (List.mem_of_getElem? (i := 6) rfl) ?_
  refine aw_iload (q := 14) (j := 4) rfl rfl (List.mem_of_getElem? (i := 4) rfl) ?_
  refine aw_icmp_ge (q := 17) (tgt := 44) rfl rfl (by decide) ⟨fun cd_1 => ?_, fun cd_1 => ?_⟩
  · replace h := h.1 cd_1
    refine aw_iconst (q := 45) (v := 0) rfl rfl (by decide) ?_
    refine aw_istore (q := 47) (j := 6) (ls' := [(6, .int _), (0, .ref _), (1, .int _), (2, .int _), (3, .int _), (4, .int _), (5, .int _)]) rfl rfl (by decide) rfl ?_
    refine aw_ls [1, 2, 3, 4, 5, 6, 0] rfl ?_
    exact h
  · replace h := h.2 cd_1
    refine aw_aload_n (q := 18) (j := 0) rfl rfl rfl (List.mem_of_getElem? (i := 0) rfl) ?_
    refine ag_getR (q := 21) rfl rfl fl_Mo_164 rfl (SX.o hS rfl) (SX.r hS rfl) ?_
    refine aw_iload (q := 23) (j := 6) rfl rfl (List.mem_of_getElem? (i := 6) rfl) ?_
    obtain ⟨bd_2, h⟩ := h
    refine ag_iaload (q := 24) (N := 20) rfl rfl (SX.a hS rfl) bd_2 ?_
    refine aw_iload (q := 26) (j := 5) rfl rfl (List.mem_of_getElem? (i := 5) rfl) ?_
    refine aw_icmp_le (q := 29) (tgt := 38) rfl rfl (by decide) ⟨fun cd_3 => ?_, fun cd_3 => ?_⟩
    · replace h := h.1 cd_3
      refine aw_iinc (q := 41) (v := _ + 1) (ls' := [(6, .int _), (0, .ref _), (1, .int _), (2, .int _), (3, .int _), (4, .int _), (5, .int _)]) rfl rfl (List.mem_of_getElem? (i := 6) rfl) rfl (by decide) rfl ?_
      refine aw_goto (tgt := 10) rfl (by decide) ?_
      refine aw_ls [1, 2, 3, 4, 5, 6, 0] rfl ?_
      exact h
    · replace h := h.2 cd_3
      refine aw_aload_n (q := 30) (j := 0) rfl rfl rfl (List.mem_of_getElem? (i := 0) rfl) ?_
      refine ag_getR (q := 33) rfl rfl fl_Mo_164 rfl (SX.o hS rfl) (SX.r hS rfl) ?_
      refine aw_iload (q := 35) (j := 6) rfl rfl (List.mem_of_getElem? (i := 6) rfl) ?_
      refine ag_iaload (q := 36) (N := 20) rfl rfl (SX.a hS rfl) bd_2 ?_
      refine aw_istore (q := 38) (j := 5) (ls' := [(5, .int _), (0, .ref _), (1, .int _), (2, .int _), (3, .int _), (4, .int _), (6, .int _)]) rfl rfl (by decide) rfl ?_
      refine aw_iinc (q := 41) (v := _ + 1) (ls' := [(6, .int _), (5, .int _), (0, .ref _), (1, .int _), (2, .int _), (3, .int _), (4, .int _)]) rfl rfl (List.mem_of_getElem? (i := 6) rfl) rfl (by decide) rfl ?_
      refine aw_goto (tgt := 10) rfl (by decide) ?_
      refine aw_ls [2, 3, 4, 5, 6, 1, 0] rfl ?_
      exact h
set_option maxRecDepth 20000 in
theorem v_Mo_isSo_47 {E : EN} {g : GS} {s : MS} {Q : Option Value → SG → Prop} (x1 : Int32) (x2 : Int32) (x3 : Int32) (x4 : Int32) (x5 : Int32) (x6 : Int32) (hS : SX g) (h : ((x5 < x6 → Q (some (.int 1)) (mk g s)) ∧ (¬ x5 < x6 → ((x6 = x3 → ((x1 = x2 → AWP E m_Mo_isSo 74 0 0 [(0, .ref 120), (1, .int x1), (2, .int x2), (3, .int x3), (4, .int x4), (5, .int x5), (6, .int x6), (7, .int 0)] [] (mk g s) Q) ∧ (¬ x1 = x2 → GV E m_Mo_swaps [.ref 120, .int x1, .int x2] g s (fun t1_ => AWP E m_Mo_isSo 74 0 0 [(0, .ref 120), (1, .int x1), (2, .int x2), (3, .int x3), (4, .int x4), (5, .int x5), (6, .int x6), (7, .int 0)] [] (mk g t1_) Q)))) ∧ (¬ x6 = x3 → AWP E m_Mo_isSo 74 0 0 [(0, .ref 120), (1, .int x1), (2, .int x2), (3, .int x3), (4, .int x4), (5, .int x5), (6, .int x6), (7, .int 0)] [] (mk g s) Q))))) : AWP E m_Mo_isSo 47 0 0 [(0, .ref 120), (1, .int x1), (2, .int x2), (3, .int x3), (4, .int x4), (5, .int x5), (6, .int x6)] [] (mk g s) Q := by
  refine aw_iload (q := 49) (j := 6) rfl rfl (List.mem_of_getElem? (i := 6) rfl) ?_
  refine aw_iload (q := 51) (j := 5) rfl rfl (List.mem_of_getElem? (i := 5) rfl) ?_
  refine aw_icmp_gt (q := 54) (tgt := 147) rfl rfl (by decide) ⟨fun cd_1 => ?_, fun cd_1 => ?_⟩
  · replace h := h.1 cd_1
    refine aw_iconst (q := 148) (v := 1) rfl rfl (by decide) ?_
    exact aw_ireturn (ty := .boolean) rfl rfl rfl (by decide) (by decide) h
  · replace h := h.2 cd_1
    refine aw_iload (q := 56) (j := 6) rfl rfl (List.mem_of_getElem? (i := 6) rfl) ?_
    refine aw_iload_n (q := 57) (j := 3) rfl rfl rfl (List.mem_of_getElem? (i := 3) rfl) ?_
    refine aw_icmp_ne (q := 60) (tgt := 71) rfl rfl (by decide) ⟨fun cd_2 => ?_, fun cd_2 => ?_⟩
    · replace h := h.1 cd_2
      refine aw_iload_n (q := 61) (j := 1) rfl rfl rfl (List.mem_of_getElem? (i := 1) rfl) ?_
      refine aw_iload_n (q := 62) (j := 2) rfl rfl rfl (List.mem_of_getElem? (i := 2) rfl) ?_
      refine aw_icmp_eq (q := 65) (tgt := 71) rfl rfl (by decide) ⟨fun cd_3 => ?_, fun cd_3 => ?_⟩
      · replace h := h.1 cd_3
        refine aw_iconst (q := 72) (v := 0) rfl rfl (by decide) ?_
        refine aw_istore (q := 74) (j := 7) (ls' := [(7, .int _), (0, .ref _), (1, .int _), (2, .int _), (3, .int _), (4, .int _), (5, .int _), (6, .int _)]) rfl rfl (by decide) rfl ?_
        refine aw_ls [1, 2, 3, 4, 5, 6, 7, 0] rfl ?_
        exact h
      · replace h := h.2 cd_3
        refine aw_aload_n (q := 66) (j := 0) rfl rfl rfl (List.mem_of_getElem? (i := 0) rfl) ?_
        refine aw_iload_n (q := 67) (j := 1) rfl rfl rfl (List.mem_of_getElem? (i := 1) rfl) ?_
        refine aw_iload_n (q := 68) (j := 2) rfl rfl rfl (List.mem_of_getElem? (i := 2) rfl) ?_
        refine ag_cvV (z := m_Mo_swaps) (ci := 11) (av := [.int _, .int _]) (st := []) (q := 71) (k' := 0) (n' := 0) rfl rfl cv_Mo_407 ⟨by decide, by decide⟩ rfl rfl (by decide) (by decide) (SX.o hS rfl) rfl rfl rfl (Nat.le_of_ble_eq_true rfl) ?_
        refine GV.mono h (fun t1_ h => ?_)
        refine aw_iconst (q := 72) (v := 0) rfl rfl (by decide) ?_
        refine aw_istore (q := 74) (j := 7) (ls' := [(7, .int _), (0, .ref _), (1, .int _), (2, .int _), (3, .int _), (4, .int _), (5, .int _), (6, .int _)]) rfl rfl (by decide) rfl ?_
        refine aw_ls [1, 2, 3, 4, 5, 6, 7, 0] rfl ?_
        exact h
    · replace h := h.2 cd_2
      refine aw_iconst (q := 72) (v := 0) rfl rfl (by decide) ?_
      refine aw_istore (q := 74) (j := 7) (ls' := [(7, .int _), (0, .ref _), (1, .int _), (2, .int _), (3, .int _), (4, .int _), (5, .int _), (6, .int _)]) rfl rfl (by decide) rfl ?_
      refine aw_ls [1, 2, 3, 4, 5, 6, 7, 0] rfl ?_
      exact h
set_option maxRecDepth 20000 in
theorem v_Mo_isSo_74 {E : EN} {g : GS} {s : MS} {Q : Option Value → SG → Prop} (x1 : Int32) (x2 : Int32) (x3 : Int32) (x4 : Int32) (x5 : Int32) (x6 : Int32) (x7 : Int32) (hS : SX g) (h : ((x4 ≤ x7 → GV E m_Mo_minuteGoes [.ref 120] g s (fun t1_ => AWP E m_Mo_isSo 47 0 0 [(0, .ref 120), (1, .int x1), (2, .int x2), (3, .int x3), (4, .int x4), (5, .int x5), (6, .int (x6 + 1))] [] (mk g t1_) Q)) ∧ (¬ x4 ≤ x7 → vp_in x7 20 ∧ (((s.1 169 ((x7).toNatClampNeg)) = x6 → vp_in ((6 + (6 * (s.1 167 ((x7).toNatClampNeg)))) + (s.1 168 ((x7).toNatClampNeg))) 120 ∧ (((s.1 163 ((((6 + (6 * (s.1 167 ((x7).toNatClampNeg)))) + (s.1 168 ((x7).toNatClampNeg)))).toNatClampNeg)) = (s.1 170 ((x7).toNatClampNeg)) → AWP E m_Mo_isSo 74 0 0 [(0, .ref 120), (1, .int x1), (2, .int x2), (3, .int x3), (4, .int x4), (5, .int x5), (6, .int x6), (7, .int (x7 + 1))] [] (mk g s) Q) ∧ (¬ (s.1 163 ((((6 + (6 * (s.1 167 ((x7).toNatClampNeg)))) + (s.1 168 ((x7).toNatClampNeg)))).toNatClampNeg)) = (s.1 170 ((x7).toNatClampNeg)) → Q (some (.int 0)) (mk g s)))) ∧ (¬ (s.1 169 ((x7).toNatClampNeg)) = x6 → AWP E m_Mo_isSo 74 0 0 [(0, .ref 120), (1, .int x1), (2, .int x2), (3, .int x3), (4, .int x4), (5, .int x5), (6, .int x6), (7, .int (x7 + 1))] [] (mk g s) Q))))) : AWP E m_Mo_isSo 74 0 0 [(0, .ref 120), (1, .int x1), (2, .int x2), (3, .int x3), (4, .int x4), (5, .int x5), (6, .int x6), (7, .int x7)] [] (mk g s) Q := by
  refine aw_iload (q := 76) (j := 7) rfl rfl (List.mem_of_getElem? (i := 7) rfl) ?_
  refine aw_iload (q := 78) (j := 4) rfl rfl (List.mem_of_getElem? (i := 4) rfl) ?_
  refine aw_icmp_ge (q := 81) (tgt := 137) rfl rfl (by decide) ⟨fun cd_1 => ?_, fun cd_1 => ?_⟩
  · replace h := h.1 cd_1
    refine aw_aload_n (q := 138) (j := 0) rfl rfl rfl (List.mem_of_getElem? (i := 0) rfl) ?_
    refine ag_cvV (z := m_Mo_minuteGoes) (ci := 11) (av := []) (st := []) (q := 141) (k' := 0) (n' := 0) rfl rfl cv_Mo_380 ⟨by decide, by decide⟩ rfl rfl (by decide) (by decide) (SX.o hS rfl) rfl rfl rfl (Nat.le_of_ble_eq_true rfl) ?_
    refine GV.mono h (fun t1_ h => ?_)
    refine aw_iinc (q := 144) (v := _ + 1) (ls' := [(6, .int _), (0, .ref _), (1, .int _), (2, .int _), (3, .int _), (4, .int _), (5, .int _), (7, .int _)]) rfl rfl (List.mem_of_getElem? (i := 6) rfl) rfl (by decide) rfl ?_
    refine aw_goto (tgt := 47) rfl (by decide) ?_
    refine aw_ls [1, 2, 3, 4, 5, 6, 0] rfl ?_
    exact h
  · replace h := h.2 cd_1
    refine aw_aload_n (q := 82) (j := 0) rfl rfl rfl (List.mem_of_getElem? (i := 0) rfl) ?_
    refine ag_getR (q := 85) rfl rfl fl_Mo_164 rfl (SX.o hS rfl) (SX.r hS rfl) ?_
    refine aw_iload (q := 87) (j := 7) rfl rfl (List.mem_of_getElem? (i := 7) rfl) ?_
    obtain ⟨bd_2, h⟩ := h
    refine ag_iaload (q := 88) (N := 20) rfl rfl (SX.a hS rfl) bd_2 ?_
    refine aw_iload (q := 90) (j := 6) rfl rfl (List.mem_of_getElem? (i := 6) rfl) ?_
    refine aw_icmp_ne (q := 93) (tgt := 131) rfl rfl (by decide) ⟨fun cd_3 => ?_, fun cd_3 => ?_⟩
    · replace h := h.1 cd_3
      refine aw_aload_n (q := 94) (j := 0) rfl rfl rfl (List.mem_of_getElem? (i := 0) rfl) ?_
      refine ag_getR (q := 97) rfl rfl fl_Mo_146 rfl (SX.o hS rfl) (SX.r hS rfl) ?_
      refine aw_bipush (q := 99) (v := 6) rfl rfl (by decide) ?_
      refine aw_bipush (q := 101) (v := 6) rfl rfl (by decide) ?_
      refine aw_aload_n (q := 102) (j := 0) rfl rfl rfl (List.mem_of_getElem? (i := 0) rfl) ?_
      refine ag_getR (q := 105) rfl rfl fl_Mo_158 rfl (SX.o hS rfl) (SX.r hS rfl) ?_
      refine aw_iload (q := 107) (j := 7) rfl rfl (List.mem_of_getElem? (i := 7) rfl) ?_
      refine ag_iaload (q := 108) (N := 20) rfl rfl (SX.a hS rfl) bd_2 ?_
      refine aw_imul (q := 109) rfl rfl ?_
      refine aw_iadd (q := 110) rfl rfl ?_
      refine aw_aload_n (q := 111) (j := 0) rfl rfl rfl (List.mem_of_getElem? (i := 0) rfl) ?_
      refine ag_getR (q := 114) rfl rfl fl_Mo_161 rfl (SX.o hS rfl) (SX.r hS rfl) ?_
      refine aw_iload (q := 116) (j := 7) rfl rfl (List.mem_of_getElem? (i := 7) rfl) ?_
      refine ag_iaload (q := 117) (N := 20) rfl rfl (SX.a hS rfl) bd_2 ?_
      refine aw_iadd (q := 118) rfl rfl ?_
      obtain ⟨bd_4, h⟩ := h
      refine ag_iaload (q := 119) (N := 120) rfl rfl (SX.a hS rfl) bd_4 ?_
      refine aw_aload_n (q := 120) (j := 0) rfl rfl rfl (List.mem_of_getElem? (i := 0) rfl) ?_
      refine ag_getR (q := 123) rfl rfl fl_Mo_167 rfl (SX.o hS rfl) (SX.r hS rfl) ?_
      refine aw_iload (q := 125) (j := 7) rfl rfl (List.mem_of_getElem? (i := 7) rfl) ?_
      refine ag_iaload (q := 126) (N := 20) rfl rfl (SX.a hS rfl) bd_2 ?_
      refine aw_icmp_eq (q := 129) (tgt := 131) rfl rfl (by decide) ⟨fun cd_5 => ?_, fun cd_5 => ?_⟩
      · replace h := h.1 cd_5
        refine aw_iinc (q := 134) (v := _ + 1) (ls' := [(7, .int _), (0, .ref _), (1, .int _), (2, .int _), (3, .int _), (4, .int _), (5, .int _), (6, .int _)]) rfl rfl (List.mem_of_getElem? (i := 7) rfl) rfl (by decide) rfl ?_
        refine aw_goto (tgt := 74) rfl (by decide) ?_
        refine aw_ls [1, 2, 3, 4, 5, 6, 7, 0] rfl ?_
        exact h
      · replace h := h.2 cd_5
        refine aw_iconst (q := 130) (v := 0) rfl rfl (by decide) ?_
        exact aw_ireturn (ty := .boolean) rfl rfl rfl (by decide) (by decide) h
    · replace h := h.2 cd_3
      refine aw_iinc (q := 134) (v := _ + 1) (ls' := [(7, .int _), (0, .ref _), (1, .int _), (2, .int _), (3, .int _), (4, .int _), (5, .int _), (6, .int _)]) rfl rfl (List.mem_of_getElem? (i := 7) rfl) rfl (by decide) rfl ?_
      refine aw_goto (tgt := 74) rfl (by decide) ?_
      refine aw_ls [1, 2, 3, 4, 5, 6, 7, 0] rfl ?_
      exact h
set_option maxRecDepth 20000 in
theorem v_Mo_isSo {E : EN} {g : GS} {s : MS} {Q : Option Value → SG → Prop} (x1 : Int32) (x2 : Int32) (x3 : Int32) (x4 : Int32) (hS : SX g) (h : GV E m_Mo_begins [.ref 120] g s (fun t1_ => AWP E m_Mo_isSo 10 0 0 [(0, .ref 120), (1, .int x1), (2, .int x2), (3, .int x3), (4, .int x4), (5, .int (-1)), (6, .int 0)] [] (mk g t1_) Q)) : AMet E m_Mo_isSo [.ref 120, .int x1, .int x2, .int x3, .int x4] (mk g s) Q := by
  refine AMet.of (by decide) k_Mo_isSo [(0, .ref 120), (1, .int x1), (2, .int x2), (3, .int x3), (4, .int x4)] (Nat.le_of_ble_eq_true rfl) rfl ?_
  refine aw_aload_n (q := 1) (j := 0) rfl rfl rfl (List.mem_of_getElem? (i := 0) rfl) ?_
  refine ag_cvV (z := m_Mo_begins) (ci := 11) (av := []) (st := []) (q := 4) (k' := 0) (n' := 0) rfl rfl cv_Mo_184 ⟨by decide, by decide⟩ rfl rfl (by decide) (by decide) (SX.o hS rfl) rfl rfl rfl (Nat.le_of_ble_eq_true rfl) ?_
  refine GV.mono h (fun t1_ h => ?_)
  refine aw_iconst (q := 5) (v := (-1)) rfl rfl (by decide) ?_
  refine aw_istore (q := 7) (j := 5) (ls' := [(5, .int _), (0, .ref _), (1, .int _), (2, .int _), (3, .int _), (4, .int _)]) rfl rfl (by decide) rfl ?_
  refine aw_iconst (q := 8) (v := 0) rfl rfl (by decide) ?_
  refine aw_istore (q := 10) (j := 6) (ls' := [(6, .int _), (5, .int _), (0, .ref _), (1, .int _), (2, .int _), (3, .int _), (4, .int _)]) rfl rfl (by decide) rfl ?_
  refine aw_ls [2, 3, 4, 5, 6, 1, 0] rfl ?_
  exact h
set_option maxRecDepth 20000 in
theorem v_Mo_hold_20 {E : EN} {g : GS} {s : MS} {Q : Option Value → SG → Prop} (x1 : Int32) (x2 : Int32) (hS : SX g) (h : ((120 ≤ x2 → Q (some (.int 1)) (mk g s)) ∧ (¬ 120 ≤ x2 → vp_in x2 120 ∧ vp_in ((120 * x1) + x2) 360 ∧ (∀ s1_, s1_ = wi s 172 ((((120 * x1) + x2)).toNatClampNeg) (s.1 162 ((x2).toNatClampNeg)) → AWP E m_Mo_hold 20 0 0 [(0, .ref 120), (1, .int x1), (2, .int (x2 + 1))] [] (mk g s1_) Q)))) : AWP E m_Mo_hold 20 0 0 [(0, .ref 120), (1, .int x1), (2, .int x2)] [] (mk g s) Q := by
  refine aw_iload_n (q := 21) (j := 2) rfl rfl rfl (List.mem_of_getElem? (i := 2) rfl) ?_
  refine aw_bipush (q := 23) (v := 120) rfl rfl (by decide) ?_
  refine aw_icmp_ge (q := 26) (tgt := 49) rfl rfl (by decide) ⟨fun cd_1 => ?_, fun cd_1 => ?_⟩
  · replace h := h.1 cd_1
    refine aw_iconst (q := 50) (v := 1) rfl rfl (by decide) ?_
    exact aw_ireturn (ty := .boolean) rfl rfl rfl (by decide) (by decide) h
  · replace h := h.2 cd_1
    refine aw_aload_n (q := 27) (j := 0) rfl rfl rfl (List.mem_of_getElem? (i := 0) rfl) ?_
    refine ag_getR (q := 30) rfl rfl fl_Mo_173 rfl (SX.o hS rfl) (SX.r hS rfl) ?_
    refine aw_bipush (q := 32) (v := 120) rfl rfl (by decide) ?_
    refine aw_iload_n (q := 33) (j := 1) rfl rfl rfl (List.mem_of_getElem? (i := 1) rfl) ?_
    refine aw_imul (q := 34) rfl rfl ?_
    refine aw_iload_n (q := 35) (j := 2) rfl rfl rfl (List.mem_of_getElem? (i := 2) rfl) ?_
    refine aw_iadd (q := 36) rfl rfl ?_
    refine aw_aload_n (q := 37) (j := 0) rfl rfl rfl (List.mem_of_getElem? (i := 0) rfl) ?_
    refine ag_getR (q := 40) rfl rfl fl_Mo_143 rfl (SX.o hS rfl) (SX.r hS rfl) ?_
    refine aw_iload_n (q := 41) (j := 2) rfl rfl rfl (List.mem_of_getElem? (i := 2) rfl) ?_
    obtain ⟨bd_2, h⟩ := h
    refine ag_iaload (q := 42) (N := 120) rfl rfl (SX.a hS rfl) bd_2 ?_
    obtain ⟨bd_3, h⟩ := h
    refine ag_iastore (q := 43) (N := 360) rfl rfl (SX.a hS rfl) bd_3 ?_
    replace h := h _ rfl
    refine aw_iinc (q := 46) (v := _ + 1) (ls' := [(2, .int _), (0, .ref _), (1, .int _)]) rfl rfl (List.mem_of_getElem? (i := 2) rfl) rfl (by decide) rfl ?_
    refine aw_goto (tgt := 20) rfl (by decide) ?_
    refine aw_ls [1, 2, 0] rfl ?_
    exact h
set_option maxRecDepth 20000 in
theorem v_Mo_hold {E : EN} {g : GS} {s : MS} {Q : Option Value → SG → Prop} (x1 : Int32) (hS : SX g) (h : GI E m_Mo_in [.int x1, .int 0, .int 2] g s (fun y1_ t1_ => ((y1_ = 0 → Q (some (.int 0)) (mk g t1_)) ∧ (¬ y1_ = 0 → vp_in x1 3 ∧ (∀ s2_, s2_ = wi t1_ 171 ((x1).toNatClampNeg) (vp_nar .boolean 1) → AWP E m_Mo_hold 20 0 0 [(0, .ref 120), (1, .int x1), (2, .int 0)] [] (mk g s2_) Q))))) : AMet E m_Mo_hold [.ref 120, .int x1] (mk g s) Q := by
  refine AMet.of (by decide) k_Mo_hold [(0, .ref 120), (1, .int x1)] (Nat.le_of_ble_eq_true rfl) rfl ?_
  refine aw_iload_n (q := 1) (j := 1) rfl rfl rfl (List.mem_of_getElem? (i := 1) rfl) ?_
  refine aw_iconst (q := 2) (v := 0) rfl rfl (by decide) ?_
  refine aw_iconst (q := 3) (v := 2) rfl rfl (by decide) ?_
  refine ag_csI (z := m_Mo_in) (av := [.int _, .int _, .int _]) (st := []) (q := 6) (k' := 0) (n' := 0) rfl rfl cs_Mo_350 ⟨by decide, by decide⟩ rfl rfl (by decide) (by decide) rfl rfl (Nat.le_of_ble_eq_true rfl) ?_
  refine GI.mono h (fun y1_ t1_ h => ?_)
  refine aw_if_ne (q := 9) (tgt := 11) rfl rfl (by decide) ⟨fun cd_1 => ?_, fun cd_1 => ?_⟩
  · replace h := h.1 cd_1
    refine aw_iconst (q := 10) (v := 0) rfl rfl (by decide) ?_
    exact aw_ireturn (ty := .boolean) rfl rfl rfl (by decide) (by decide) h
  · replace h := h.2 cd_1
    refine aw_aload_n (q := 12) (j := 0) rfl rfl rfl (List.mem_of_getElem? (i := 0) rfl) ?_
    refine ag_getR (q := 15) rfl rfl fl_Mo_170 rfl (SX.o hS rfl) (SX.r hS rfl) ?_
    refine aw_iload_n (q := 16) (j := 1) rfl rfl rfl (List.mem_of_getElem? (i := 1) rfl) ?_
    refine aw_iconst (q := 17) (v := 1) rfl rfl (by decide) ?_
    obtain ⟨bd_2, h⟩ := h
    refine ag_zastore (q := 18) (N := 3) rfl rfl (SX.a hS rfl) bd_2 ?_
    replace h := h _ rfl
    refine aw_iconst (q := 19) (v := 0) rfl rfl (by decide) ?_
    refine aw_istore_n (q := 20) (j := 2) (ls' := [(2, .int _), (0, .ref _), (1, .int _)]) rfl rfl rfl (by decide) rfl ?_
    refine aw_ls [1, 2, 0] rfl ?_
    exact h
set_option maxRecDepth 20000 in
theorem v_Mo_restore_22 {E : EN} {g : GS} {s : MS} {Q : Option Value → SG → Prop} (x1 : Int32) (x2 : Int32) (hS : SX g) (h : ((120 ≤ x2 → (∀ s1_, s1_ = wi s 120 64 0 → Q (some (.int 1)) (mk g s1_))) ∧ (¬ 120 ≤ x2 → vp_in ((120 * x1) + x2) 360 ∧ vp_in x2 120 ∧ (∀ s2_, s2_ = wi s 162 ((x2).toNatClampNeg) (s.1 172 ((((120 * x1) + x2)).toNatClampNeg)) → AWP E m_Mo_restore 22 0 0 [(0, .ref 120), (1, .int x1), (2, .int (x2 + 1))] [] (mk g s2_) Q)))) : AWP E m_Mo_restore 22 0 0 [(0, .ref 120), (1, .int x1), (2, .int x2)] [] (mk g s) Q := by
  refine aw_iload_n (q := 23) (j := 2) rfl rfl rfl (List.mem_of_getElem? (i := 2) rfl) ?_
  refine aw_bipush (q := 25) (v := 120) rfl rfl (by decide) ?_
  refine aw_icmp_ge (q := 28) (tgt := 51) rfl rfl (by decide) ⟨fun cd_1 => ?_, fun cd_1 => ?_⟩
  · replace h := h.1 cd_1
    refine aw_aload_n (q := 52) (j := 0) rfl rfl rfl (List.mem_of_getElem? (i := 0) rfl) ?_
    refine aw_iconst (q := 53) (v := 0) rfl rfl (by decide) ?_
    refine ag_putI (q := 56) rfl rfl fl_Mo_275 rfl rfl (SX.o hS rfl) ?_
    replace h := h _ rfl
    refine aw_iconst (q := 57) (v := 1) rfl rfl (by decide) ?_
    exact aw_ireturn (ty := .boolean) rfl rfl rfl (by decide) (by decide) h
  · replace h := h.2 cd_1
    refine aw_aload_n (q := 29) (j := 0) rfl rfl rfl (List.mem_of_getElem? (i := 0) rfl) ?_
    refine ag_getR (q := 32) rfl rfl fl_Mo_143 rfl (SX.o hS rfl) (SX.r hS rfl) ?_
    refine aw_iload_n (q := 33) (j := 2) rfl rfl rfl (List.mem_of_getElem? (i := 2) rfl) ?_
    refine aw_aload_n (q := 34) (j := 0) rfl rfl rfl (List.mem_of_getElem? (i := 0) rfl) ?_
    refine ag_getR (q := 37) rfl rfl fl_Mo_173 rfl (SX.o hS rfl) (SX.r hS rfl) ?_
    refine aw_bipush (q := 39) (v := 120) rfl rfl (by decide) ?_
    refine aw_iload_n (q := 40) (j := 1) rfl rfl rfl (List.mem_of_getElem? (i := 1) rfl) ?_
    refine aw_imul (q := 41) rfl rfl ?_
    refine aw_iload_n (q := 42) (j := 2) rfl rfl rfl (List.mem_of_getElem? (i := 2) rfl) ?_
    refine aw_iadd (q := 43) rfl rfl ?_
    obtain ⟨bd_2, h⟩ := h
    refine ag_iaload (q := 44) (N := 360) rfl rfl (SX.a hS rfl) bd_2 ?_
    obtain ⟨bd_3, h⟩ := h
    refine ag_iastore (q := 45) (N := 120) rfl rfl (SX.a hS rfl) bd_3 ?_
    replace h := h _ rfl
    refine aw_iinc (q := 48) (v := _ + 1) (ls' := [(2, .int _), (0, .ref _), (1, .int _)]) rfl rfl (List.mem_of_getElem? (i := 2) rfl) rfl (by decide) rfl ?_
    refine aw_goto (tgt := 22) rfl (by decide) ?_
    refine aw_ls [1, 2, 0] rfl ?_
    exact h
set_option maxRecDepth 20000 in
theorem v_Mo_restore {E : EN} {g : GS} {s : MS} {Q : Option Value → SG → Prop} (x1 : Int32) (hS : SX g) (h : GI E m_Mo_in [.int x1, .int 0, .int 2] g s (fun y1_ t1_ => ((y1_ = 0 → Q (some (.int 0)) (mk g t1_)) ∧ (¬ y1_ = 0 → vp_in x1 3 ∧ (((t1_.1 171 ((x1).toNatClampNeg)) = 0 → Q (some (.int 0)) (mk g t1_)) ∧ (¬ (t1_.1 171 ((x1).toNatClampNeg)) = 0 → AWP E m_Mo_restore 22 0 0 [(0, .ref 120), (1, .int x1), (2, .int 0)] [] (mk g t1_) Q)))))) : AMet E m_Mo_restore [.ref 120, .int x1] (mk g s) Q := by
  refine AMet.of (by decide) k_Mo_restore [(0, .ref 120), (1, .int x1)] (Nat.le_of_ble_eq_true rfl) rfl ?_
  refine aw_iload_n (q := 1) (j := 1) rfl rfl rfl (List.mem_of_getElem? (i := 1) rfl) ?_
  refine aw_iconst (q := 2) (v := 0) rfl rfl (by decide) ?_
  refine aw_iconst (q := 3) (v := 2) rfl rfl (by decide) ?_
  refine ag_csI (z := m_Mo_in) (av := [.int _, .int _, .int _]) (st := []) (q := 6) (k' := 0) (n' := 0) rfl rfl cs_Mo_350 ⟨by decide, by decide⟩ rfl rfl (by decide) (by decide) rfl rfl (Nat.le_of_ble_eq_true rfl) ?_
  refine GI.mono h (fun y1_ t1_ h => ?_)
  refine aw_if_eq (q := 9) (tgt := 18) rfl rfl (by decide) ⟨fun cd_1 => ?_, fun cd_1 => ?_⟩
  · replace h := h.1 cd_1
    refine aw_iconst (q := 19) (v := 0) rfl rfl (by decide) ?_
    exact aw_ireturn (ty := .boolean) rfl rfl rfl (by decide) (by decide) h
  · replace h := h.2 cd_1
    refine aw_aload_n (q := 10) (j := 0) rfl rfl rfl (List.mem_of_getElem? (i := 0) rfl) ?_
    refine ag_getR (q := 13) rfl rfl fl_Mo_170 rfl (SX.o hS rfl) (SX.r hS rfl) ?_
    refine aw_iload_n (q := 14) (j := 1) rfl rfl rfl (List.mem_of_getElem? (i := 1) rfl) ?_
    obtain ⟨bd_2, h⟩ := h
    refine ag_zaload (q := 15) (N := 3) rfl rfl (SX.a hS rfl) bd_2 ?_
    refine aw_if_ne (q := 18) (tgt := 20) rfl rfl (by decide) ⟨fun cd_3 => ?_, fun cd_3 => ?_⟩
    · replace h := h.1 cd_3
      refine aw_iconst (q := 19) (v := 0) rfl rfl (by decide) ?_
      exact aw_ireturn (ty := .boolean) rfl rfl rfl (by decide) (by decide) h
    · replace h := h.2 cd_3
      refine aw_iconst (q := 21) (v := 0) rfl rfl (by decide) ?_
      refine aw_istore_n (q := 22) (j := 2) (ls' := [(2, .int _), (0, .ref _), (1, .int _)]) rfl rfl rfl (by decide) rfl ?_
      refine aw_ls [1, 2, 0] rfl ?_
      exact h
set_option maxRecDepth 20000 in
theorem v_Mo_count_134 {E : EN} {g : GS} {s : MS} {Q : Option Value → SG → Prop} (x1 : Int32) (x2 : Int32) (x3 : Int32) (hS : SX g) (h : vp_in (s.1 120 18) 2 ∧ (((s.1 137 (((s.1 120 18)).toNatClampNeg)) ≤ x3 → Q (some (.int x2)) (mk g s)) ∧ (¬ (s.1 137 (((s.1 120 18)).toNatClampNeg)) ≤ x3 → vp_in (42 + x3) 120 ∧ (((s.1 162 (((42 + x3)).toNatClampNeg)) = 3 → AWP E m_Mo_count 134 0 0 [(0, .ref 120), (1, .int x1), (2, .int (x2 ||| (1 <<< (x3 &&& 31)))), (3, .int (x3 + 1))] [] (mk g s) Q) ∧ (¬ (s.1 162 (((42 + x3)).toNatClampNeg)) = 3 → AWP E m_Mo_count 134 0 0 [(0, .ref 120), (1, .int x1), (2, .int x2), (3, .int (x3 + 1))] [] (mk g s) Q))))) : AWP E m_Mo_count 134 0 0 [(0, .ref 120), (1, .int x1), (2, .int x2), (3, .int x3)] [] (mk g s) Q := by
  refine aw_iload_n (q := 135) (j := 3) rfl rfl rfl (List.mem_of_getElem? (i := 3) rfl) ?_
  refine aw_aload_n (q := 136) (j := 0) rfl rfl rfl (List.mem_of_getElem? (i := 0) rfl) ?_
  refine ag_getR (q := 139) rfl rfl fl_Mo_67 rfl (SX.o hS rfl) (SX.r hS rfl) ?_
  refine aw_aload_n (q := 140) (j := 0) rfl rfl rfl (List.mem_of_getElem? (i := 0) rfl) ?_
  refine ag_getI (q := 143) rfl rfl fl_Mo_257 rfl (SX.o hS rfl) ?_
  obtain ⟨bd_1, h⟩ := h
  refine ag_iaload (q := 144) (N := 2) rfl rfl (SX.a hS rfl) bd_1 ?_
  refine aw_icmp_ge (q := 147) (tgt := 172) rfl rfl (by decide) ⟨fun cd_2 => ?_, fun cd_2 => ?_⟩
  · replace h := h.1 cd_2
    refine aw_iload_n (q := 173) (j := 2) rfl rfl rfl (List.mem_of_getElem? (i := 2) rfl) ?_
    exact aw_ireturn (ty := .int) rfl rfl rfl (by decide) (by decide) h
  · replace h := h.2 cd_2
    refine aw_aload_n (q := 148) (j := 0) rfl rfl rfl (List.mem_of_getElem? (i := 0) rfl) ?_
    refine ag_getR (q := 151) rfl rfl fl_Mo_143 rfl (SX.o hS rfl) (SX.r hS rfl) ?_
    refine aw_bipush (q := 153) (v := 42) rfl rfl (by decide) ?_
    refine aw_iload_n (q := 154) (j := 3) rfl rfl rfl (List.mem_of_getElem? (i := 3) rfl) ?_
    refine aw_iadd (q := 155) rfl rfl ?_
    obtain ⟨bd_3, h⟩ := h
    refine ag_iaload (q := 156) (N := 120) rfl rfl (SX.a hS rfl) bd_3 ?_
    refine aw_iconst (q := 157) (v := 3) rfl rfl (by decide) ?_
    refine aw_icmp_ne (q := 160) (tgt := 166) rfl rfl (by decide) ⟨fun cd_4 => ?_, fun cd_4 => ?_⟩
    · replace h := h.1 cd_4
      refine aw_iload_n (q := 161) (j := 2) rfl rfl rfl (List.mem_of_getElem? (i := 2) rfl) ?_
      refine aw_iconst (q := 162) (v := 1) rfl rfl (by decide) ?_
      refine aw_iload_n (q := 163) (j := 3) rfl rfl rfl (List.mem_of_getElem? (i := 3) rfl) ?_
      refine aw_ishl (q := 164) rfl rfl ?_
      refine aw_ior (q := 165) rfl rfl ?_
      refine aw_istore_n (q := 166) (j := 2) (ls' := [(2, .int _), (0, .ref _), (1, .int _), (3, .int _)]) rfl rfl rfl (by decide) rfl ?_
      refine aw_iinc (q := 169) (v := _ + 1) (ls' := [(3, .int _), (2, .int _), (0, .ref _), (1, .int _)]) rfl rfl (List.mem_of_getElem? (i := 3) rfl) rfl (by decide) rfl ?_
      refine aw_goto (tgt := 134) rfl (by decide) ?_
      refine aw_ls [2, 3, 1, 0] rfl ?_
      exact h
    · replace h := h.2 cd_4
      refine aw_iinc (q := 169) (v := _ + 1) (ls' := [(3, .int _), (0, .ref _), (1, .int _), (2, .int _)]) rfl rfl (List.mem_of_getElem? (i := 3) rfl) rfl (by decide) rfl ?_
      refine aw_goto (tgt := 134) rfl (by decide) ?_
      refine aw_ls [1, 2, 3, 0] rfl ?_
      exact h
set_option maxRecDepth 20000 in
theorem v_Mo_count_273 {E : EN} {g : GS} {s : MS} {Q : Option Value → SG → Prop} (x1 : Int32) (x2 : Int32) (x3 : Int32) (hS : SX g) (h : vp_in (s.1 120 18) 2 ∧ (((s.1 137 (((s.1 120 18)).toNatClampNeg)) ≤ x3 → Q (some (.int x2)) (mk g s)) ∧ (¬ (s.1 137 (((s.1 120 18)).toNatClampNeg)) ≤ x3 → vp_in (58 + x3) 120 ∧ AWP E m_Mo_count 273 0 0 [(0, .ref 120), (1, .int x1), (2, .int (x2 + (s.1 163 (((58 + x3)).toNatClampNeg)))), (3, .int (x3 + 1))] [] (mk g s) Q))) : AWP E m_Mo_count 273 0 0 [(0, .ref 120), (1, .int x1), (2, .int x2), (3, .int x3)] [] (mk g s) Q := by
  refine aw_iload_n (q := 274) (j := 3) rfl rfl rfl (List.mem_of_getElem? (i := 3) rfl) ?_
  refine aw_aload_n (q := 275) (j := 0) rfl rfl rfl (List.mem_of_getElem? (i := 0) rfl) ?_
  refine ag_getR (q := 278) rfl rfl fl_Mo_67 rfl (SX.o hS rfl) (SX.r hS rfl) ?_
  refine aw_aload_n (q := 279) (j := 0) rfl rfl rfl (List.mem_of_getElem? (i := 0) rfl) ?_
  refine ag_getI (q := 282) rfl rfl fl_Mo_257 rfl (SX.o hS rfl) ?_
  obtain ⟨bd_1, h⟩ := h
  refine ag_iaload (q := 283) (N := 2) rfl rfl (SX.a hS rfl) bd_1 ?_
  refine aw_icmp_ge (q := 286) (tgt := 304) rfl rfl (by decide) ⟨fun cd_2 => ?_, fun cd_2 => ?_⟩
  · replace h := h.1 cd_2
    refine aw_iload_n (q := 305) (j := 2) rfl rfl rfl (List.mem_of_getElem? (i := 2) rfl) ?_
    exact aw_ireturn (ty := .int) rfl rfl rfl (by decide) (by decide) h
  · replace h := h.2 cd_2
    refine aw_iload_n (q := 287) (j := 2) rfl rfl rfl (List.mem_of_getElem? (i := 2) rfl) ?_
    refine aw_aload_n (q := 288) (j := 0) rfl rfl rfl (List.mem_of_getElem? (i := 0) rfl) ?_
    refine ag_getR (q := 291) rfl rfl fl_Mo_146 rfl (SX.o hS rfl) (SX.r hS rfl) ?_
    refine aw_bipush (q := 293) (v := 58) rfl rfl (by decide) ?_
    refine aw_iload_n (q := 294) (j := 3) rfl rfl rfl (List.mem_of_getElem? (i := 3) rfl) ?_
    refine aw_iadd (q := 295) rfl rfl ?_
    obtain ⟨bd_3, h⟩ := h
    refine ag_iaload (q := 296) (N := 120) rfl rfl (SX.a hS rfl) bd_3 ?_
    refine aw_iadd (q := 297) rfl rfl ?_
    refine aw_istore_n (q := 298) (j := 2) (ls' := [(2, .int _), (0, .ref _), (1, .int _), (3, .int _)]) rfl rfl rfl (by decide) rfl ?_
    refine aw_iinc (q := 301) (v := _ + 1) (ls' := [(3, .int _), (2, .int _), (0, .ref _), (1, .int _)]) rfl rfl (List.mem_of_getElem? (i := 3) rfl) rfl (by decide) rfl ?_
    refine aw_goto (tgt := 273) rfl (by decide) ?_
    refine aw_ls [2, 3, 1, 0] rfl ?_
    exact h
set_option maxRecDepth 20000 in
theorem v_Mo_count {E : EN} {g : GS} {s : MS} {Q : Option Value → SG → Prop} (x1 : Int32) (hS : SX g) (h : ((x1 < 0 ∨ 15 < x1 → Q (some (.int (-1))) (mk g s)) ∧ (x1 = 0 → vp_in (s.1 120 18) 2 ∧ Q (some (.int (s.1 131 (((s.1 120 18)).toNatClampNeg)))) (mk g s)) ∧ (x1 = 1 → vp_in (s.1 120 18) 2 ∧ Q (some (.int (s.1 134 (((s.1 120 18)).toNatClampNeg)))) (mk g s)) ∧ (x1 = 2 → vp_in (s.1 120 18) 2 ∧ Q (some (.int (s.1 137 (((s.1 120 18)).toNatClampNeg)))) (mk g s)) ∧ (x1 = 3 → vp_in (s.1 120 18) 2 ∧ Q (some (.int (s.1 142 (((s.1 120 18)).toNatClampNeg)))) (mk g s)) ∧ (x1 = 4 → vp_in (110 + x1) 120 ∧ Q (some (.int (s.1 162 (((110 + x1)).toNatClampNeg)))) (mk g s)) ∧ (x1 = 5 → vp_in (110 + x1) 120 ∧ Q (some (.int (s.1 162 (((110 + x1)).toNatClampNeg)))) (mk g s)) ∧ (x1 = 6 → vp_in (110 + x1) 120 ∧ Q (some (.int (s.1 162 (((110 + x1)).toNatClampNeg)))) (mk g s)) ∧ (x1 = 7 → vp_in (110 + x1) 120 ∧ Q (some (.int (s.1 162 (((110 + x1)).toNatClampNeg)))) (mk g s)) ∧ (x1 = 8 → AWP E m_Mo_count 134 0 0 [(0, .ref 120), (1, .int x1), (2, .int 0), (3, .int 0)] [] (mk g s) Q) ∧ (x1 = 9 → Q (some (.int (s.1 162 118))) (mk g s)) ∧ (x1 = 10 → Q (some (.int (s.1 162 119))) (mk g s)) ∧ (x1 = 11 → Q (some (.int (s.1 120 2))) (mk g s)) ∧ (x1 = 12 → Q (some (.int (s.1 120 64))) (mk g s)) ∧ (x1 = 13 → Q (some (.int (s.1 120 68))) (mk g s)) ∧ (x1 = 14 → (((s.1 171 0) = 0 → (((s.1 171 1) = 0 → (((s.1 171 2) = 0 → Q (some (.int ((0 + 0) + 0))) (mk g s)) ∧ (¬ (s.1 171 2) = 0 → Q (some (.int ((0 + 0) + 1))) (mk g s)))) ∧ (¬ (s.1 171 1) = 0 → (((s.1 171 2) = 0 → Q (some (.int ((0 + 1) + 0))) (mk g s)) ∧ (¬ (s.1 171 2) = 0 → Q (some (.int ((0 + 1) + 1))) (mk g s)))))) ∧ (¬ (s.1 171 0) = 0 → (((s.1 171 1) = 0 → (((s.1 171 2) = 0 → Q (some (.int ((1 + 0) + 0))) (mk g s)) ∧ (¬ (s.1 171 2) = 0 → Q (some (.int ((1 + 0) + 1))) (mk g s)))) ∧ (¬ (s.1 171 1) = 0 → (((s.1 171 2) = 0 → Q (some (.int ((1 + 1) + 0))) (mk g s)) ∧ (¬ (s.1 171 2) = 0 → Q (some (.int ((1 + 1) + 1))) (mk g s)))))))) ∧ (x1 = 15 → GV E m_Mo_copies [.ref 120] g s (fun t1_ => GI E m_Mo_inHeap [.ref 120] g t1_ (fun y2_ t2_ => GI E m_Mo_inHoles [.ref 120, .int 1] g t2_ (fun y3_ t3_ => GI E m_Mo_inHoles [.ref 120, .int 0] g t3_ (fun y4_ t4_ => AWP E m_Mo_count 273 0 0 [(0, .ref 120), (1, .int x1), (2, .int ((y2_ + y3_) + y4_)), (3, .int 0)] [] (mk g t4_) Q))))))) : AMet E m_Mo_count [.ref 120, .int x1] (mk g s) Q := by
  refine AMet.of (by decide) k_Mo_count [(0, .ref 120), (1, .int x1)] (Nat.le_of_ble_eq_true rfl) rfl ?_
  refine aw_iload_n (q := 1) (j := 1) rfl rfl rfl (List.mem_of_getElem? (i := 1) rfl) ?_
  by_cases cd_1 : x1 < 0 ∨ 15 < x1
  · replace h := h.1 cd_1
    refine aw_tableLt (tgt := 306) rfl (a := 0) (b := 15) (by decide) (by decide) cd_1 (by decide) ?_
    refine aw_iconst (q := 307) (v := (-1)) rfl rfl (by decide) ?_
    exact aw_ireturn (ty := .int) rfl rfl rfl (by decide) (by decide) h
  · obtain ⟨jd_2, hjd_2, ejd_2⟩ := sw_cases 15 15 (fun q => cd_1 (Or.inl q)) (fun q => cd_1 (Or.inr q)) (by decide)
    replace h := h.2
    match jd_2, hjd_2, ejd_2 with
    | 0, _, e => 
      have e : x1 = 0 := Int32.toInt_inj.mp (e.trans (by decide))
      replace h := h.1 e
      refine aw_tableEq (tgt := 80) rfl e (by decide) (by decide) rfl (by decide) ?_
      refine aw_aload_n (q := 81) (j := 0) rfl rfl rfl (List.mem_of_getElem? (i := 0) rfl) ?_
      refine ag_getR (q := 84) rfl rfl fl_Mo_49 rfl (SX.o hS rfl) (SX.r hS rfl) ?_
      refine aw_aload_n (q := 85) (j := 0) rfl rfl rfl (List.mem_of_getElem? (i := 0) rfl) ?_
      refine ag_getI (q := 88) rfl rfl fl_Mo_257 rfl (SX.o hS rfl) ?_
      obtain ⟨bd_3, h⟩ := h
      refine ag_iaload (q := 89) (N := 2) rfl rfl (SX.a hS rfl) bd_3 ?_
      exact aw_ireturn (ty := .int) rfl rfl rfl (by decide) (by decide) h
    | 1, _, e => 
      have e : x1 = 1 := Int32.toInt_inj.mp (e.trans (by decide))
      replace h := h.2.1 e
      refine aw_tableEq (tgt := 90) rfl e (by decide) (by decide) rfl (by decide) ?_
      refine aw_aload_n (q := 91) (j := 0) rfl rfl rfl (List.mem_of_getElem? (i := 0) rfl) ?_
      refine ag_getR (q := 94) rfl rfl fl_Mo_58 rfl (SX.o hS rfl) (SX.r hS rfl) ?_
      refine aw_aload_n (q := 95) (j := 0) rfl rfl rfl (List.mem_of_getElem? (i := 0) rfl) ?_
      refine ag_getI (q := 98) rfl rfl fl_Mo_257 rfl (SX.o hS rfl) ?_
      obtain ⟨bd_4, h⟩ := h
      refine ag_iaload (q := 99) (N := 2) rfl rfl (SX.a hS rfl) bd_4 ?_
      exact aw_ireturn (ty := .int) rfl rfl rfl (by decide) (by decide) h
    | 2, _, e => 
      have e : x1 = 2 := Int32.toInt_inj.mp (e.trans (by decide))
      replace h := h.2.2.1 e
      refine aw_tableEq (tgt := 100) rfl e (by decide) (by decide) rfl (by decide) ?_
      refine aw_aload_n (q := 101) (j := 0) rfl rfl rfl (List.mem_of_getElem? (i := 0) rfl) ?_
      refine ag_getR (q := 104) rfl rfl fl_Mo_67 rfl (SX.o hS rfl) (SX.r hS rfl) ?_
      refine aw_aload_n (q := 105) (j := 0) rfl rfl rfl (List.mem_of_getElem? (i := 0) rfl) ?_
      refine ag_getI (q := 108) rfl rfl fl_Mo_257 rfl (SX.o hS rfl) ?_
      obtain ⟨bd_5, h⟩ := h
      refine ag_iaload (q := 109) (N := 2) rfl rfl (SX.a hS rfl) bd_5 ?_
      exact aw_ireturn (ty := .int) rfl rfl rfl (by decide) (by decide) h
    | 3, _, e => 
      have e : x1 = 3 := Int32.toInt_inj.mp (e.trans (by decide))
      replace h := h.2.2.2.1 e
      refine aw_tableEq (tgt := 110) rfl e (by decide) (by decide) rfl (by decide) ?_
      refine aw_aload_n (q := 111) (j := 0) rfl rfl rfl (List.mem_of_getElem? (i := 0) rfl) ?_
      refine ag_getR (q := 114) rfl rfl fl_Mo_82 rfl (SX.o hS rfl) (SX.r hS rfl) ?_
      refine aw_aload_n (q := 115) (j := 0) rfl rfl rfl (List.mem_of_getElem? (i := 0) rfl) ?_
      refine ag_getI (q := 118) rfl rfl fl_Mo_257 rfl (SX.o hS rfl) ?_
      obtain ⟨bd_6, h⟩ := h
      refine ag_iaload (q := 119) (N := 2) rfl rfl (SX.a hS rfl) bd_6 ?_
      exact aw_ireturn (ty := .int) rfl rfl rfl (by decide) (by decide) h
    | 4, _, e => 
      have e : x1 = 4 := Int32.toInt_inj.mp (e.trans (by decide))
      replace h := h.2.2.2.2.1 e
      refine aw_tableEq (tgt := 120) rfl e (by decide) (by decide) rfl (by decide) ?_
      refine aw_aload_n (q := 121) (j := 0) rfl rfl rfl (List.mem_of_getElem? (i := 0) rfl) ?_
      refine ag_getR (q := 124) rfl rfl fl_Mo_143 rfl (SX.o hS rfl) (SX.r hS rfl) ?_
      refine aw_bipush (q := 126) (v := 110) rfl rfl (by decide) ?_
      refine aw_iload_n (q := 127) (j := 1) rfl rfl rfl (List.mem_of_getElem? (i := 1) rfl) ?_
      refine aw_iadd (q := 128) rfl rfl ?_
      obtain ⟨bd_7, h⟩ := h
      refine ag_iaload (q := 129) (N := 120) rfl rfl (SX.a hS rfl) bd_7 ?_
      exact aw_ireturn (ty := .int) rfl rfl rfl (by decide) (by decide) h
    | 5, _, e => 
      have e : x1 = 5 := Int32.toInt_inj.mp (e.trans (by decide))
      replace h := h.2.2.2.2.2.1 e
      refine aw_tableEq (tgt := 120) rfl e (by decide) (by decide) rfl (by decide) ?_
      refine aw_aload_n (q := 121) (j := 0) rfl rfl rfl (List.mem_of_getElem? (i := 0) rfl) ?_
      refine ag_getR (q := 124) rfl rfl fl_Mo_143 rfl (SX.o hS rfl) (SX.r hS rfl) ?_
      refine aw_bipush (q := 126) (v := 110) rfl rfl (by decide) ?_
      refine aw_iload_n (q := 127) (j := 1) rfl rfl rfl (List.mem_of_getElem? (i := 1) rfl) ?_
      refine aw_iadd (q := 128) rfl rfl ?_
      obtain ⟨bd_8, h⟩ := h
      refine ag_iaload (q := 129) (N := 120) rfl rfl (SX.a hS rfl) bd_8 ?_
      exact aw_ireturn (ty := .int) rfl rfl rfl (by decide) (by decide) h
    | 6, _, e => 
      have e : x1 = 6 := Int32.toInt_inj.mp (e.trans (by decide))
      replace h := h.2.2.2.2.2.2.1 e
      refine aw_tableEq (tgt := 120) rfl e (by decide) (by decide) rfl (by decide) ?_
      refine aw_aload_n (q := 121) (j := 0) rfl rfl rfl (List.mem_of_getElem? (i := 0) rfl) ?_
      refine ag_getR (q := 124) rfl rfl fl_Mo_143 rfl (SX.o hS rfl) (SX.r hS rfl) ?_
      refine aw_bipush (q := 126) (v := 110) rfl rfl (by decide) ?_
      refine aw_iload_n (q := 127) (j := 1) rfl rfl rfl (List.mem_of_getElem? (i := 1) rfl) ?_
      refine aw_iadd (q := 128) rfl rfl ?_
      obtain ⟨bd_9, h⟩ := h
      refine ag_iaload (q := 129) (N := 120) rfl rfl (SX.a hS rfl) bd_9 ?_
      exact aw_ireturn (ty := .int) rfl rfl rfl (by decide) (by decide) h
    | 7, _, e => 
      have e : x1 = 7 := Int32.toInt_inj.mp (e.trans (by decide))
      replace h := h.2.2.2.2.2.2.2.1 e
      refine aw_tableEq (tgt := 120) rfl e (by decide) (by decide) rfl (by decide) ?_
      refine aw_aload_n (q := 121) (j := 0) rfl rfl rfl (List.mem_of_getElem? (i := 0) rfl) ?_
      refine ag_getR (q := 124) rfl rfl fl_Mo_143 rfl (SX.o hS rfl) (SX.r hS rfl) ?_
      refine aw_bipush (q := 126) (v := 110) rfl rfl (by decide) ?_
      refine aw_iload_n (q := 127) (j := 1) rfl rfl rfl (List.mem_of_getElem? (i := 1) rfl) ?_
      refine aw_iadd (q := 128) rfl rfl ?_
      obtain ⟨bd_10, h⟩ := h
      refine ag_iaload (q := 129) (N := 120) rfl rfl (SX.a hS rfl) bd_10 ?_
      exact aw_ireturn (ty := .int) rfl rfl rfl (by decide) (by decide) h
    | 8, _, e => 
      have e : x1 = 8 := Int32.toInt_inj.mp (e.trans (by decide))
      replace h := h.2.2.2.2.2.2.2.2.1 e
      refine aw_tableEq (tgt := 130) rfl e (by decide) (by decide) rfl (by decide) ?_
      refine aw_iconst (q := 131) (v := 0) rfl rfl (by decide) ?_
      refine aw_istore_n (q := 132) (j := 2) (ls' := [(2, .int _), (0, .ref _), (1, .int _)]) rfl rfl rfl (by decide) rfl ?_
      refine aw_iconst (q := 133) (v := 0) rfl rfl (by decide) ?_
      refine aw_istore_n (q := 134) (j := 3) (ls' := [(3, .int _), (2, .int _), (0, .ref _), (1, .int _)]) rfl rfl rfl (by decide) rfl ?_
      refine aw_ls [2, 3, 1, 0] rfl ?_
      exact h
    | 9, _, e => 
      have e : x1 = 9 := Int32.toInt_inj.mp (e.trans (by decide))
      replace h := h.2.2.2.2.2.2.2.2.2.1 e
      refine aw_tableEq (tgt := 174) rfl e (by decide) (by decide) rfl (by decide) ?_
      refine aw_aload_n (q := 175) (j := 0) rfl rfl rfl (List.mem_of_getElem? (i := 0) rfl) ?_
      refine ag_getR (q := 178) rfl rfl fl_Mo_143 rfl (SX.o hS rfl) (SX.r hS rfl) ?_
      refine aw_bipush (q := 180) (v := 118) rfl rfl (by decide) ?_
      refine ag_iaload (q := 181) (N := 120) rfl rfl (SX.a hS rfl) (by unfold vp_in; decide) ?_
      exact aw_ireturn (ty := .int) rfl rfl rfl (by decide) (by decide) h
    | 10, _, e => 
      have e : x1 = 10 := Int32.toInt_inj.mp (e.trans (by decide))
      replace h := h.2.2.2.2.2.2.2.2.2.2.1 e
      refine aw_tableEq (tgt := 182) rfl e (by decide) (by decide) rfl (by decide) ?_
      refine aw_aload_n (q := 183) (j := 0) rfl rfl rfl (List.mem_of_getElem? (i := 0) rfl) ?_
      refine ag_getR (q := 186) rfl rfl fl_Mo_143 rfl (SX.o hS rfl) (SX.r hS rfl) ?_
      refine aw_bipush (q := 188) (v := 119) rfl rfl (by decide) ?_
      refine ag_iaload (q := 189) (N := 120) rfl rfl (SX.a hS rfl) (by unfold vp_in; decide) ?_
      exact aw_ireturn (ty := .int) rfl rfl rfl (by decide) (by decide) h
    | 11, _, e => 
      have e : x1 = 11 := Int32.toInt_inj.mp (e.trans (by decide))
      replace h := h.2.2.2.2.2.2.2.2.2.2.2.1 e
      refine aw_tableEq (tgt := 190) rfl e (by decide) (by decide) rfl (by decide) ?_
      refine aw_aload_n (q := 191) (j := 0) rfl rfl rfl (List.mem_of_getElem? (i := 0) rfl) ?_
      refine ag_getI (q := 194) rfl rfl fl_Mo_190 rfl (SX.o hS rfl) ?_
      exact aw_ireturn (ty := .int) rfl rfl rfl (by decide) (by decide) h
    | 12, _, e => 
      have e : x1 = 12 := Int32.toInt_inj.mp (e.trans (by decide))
      replace h := h.2.2.2.2.2.2.2.2.2.2.2.2.1 e
      refine aw_tableEq (tgt := 195) rfl e (by decide) (by decide) rfl (by decide) ?_
      refine aw_aload_n (q := 196) (j := 0) rfl rfl rfl (List.mem_of_getElem? (i := 0) rfl) ?_
      refine ag_getI (q := 199) rfl rfl fl_Mo_275 rfl (SX.o hS rfl) ?_
      exact aw_ireturn (ty := .int) rfl rfl rfl (by decide) (by decide) h
    | 13, _, e => 
      have e : x1 = 13 := Int32.toInt_inj.mp (e.trans (by decide))
      replace h := h.2.2.2.2.2.2.2.2.2.2.2.2.2.1 e
      refine aw_tableEq (tgt := 200) rfl e (by decide) (by decide) rfl (by decide) ?_
      refine aw_aload_n (q := 201) (j := 0) rfl rfl rfl (List.mem_of_getElem? (i := 0) rfl) ?_
      refine ag_getI (q := 204) rfl rfl fl_Mo_278 rfl (SX.o hS rfl) ?_
      exact aw_ireturn (ty := .int) rfl rfl rfl (by decide) (by decide) h
    | 14, _, e => 
      have e : x1 = 14 := Int32.toInt_inj.mp (e.trans (by decide))
      replace h := h.2.2.2.2.2.2.2.2.2.2.2.2.2.2.1 e
      refine aw_tableEq (tgt := 205) rfl e (by decide) (by decide) rfl (by decide) ?_
      refine aw_aload_n (q := 206) (j := 0) rfl rfl rfl (List.mem_of_getElem? (i := 0) rfl) ?_
      refine ag_getR (q := 209) rfl rfl fl_Mo_170 rfl (SX.o hS rfl) (SX.r hS rfl) ?_
      refine aw_iconst (q := 210) (v := 0) rfl rfl (by decide) ?_
      refine ag_zaload (q := 211) (N := 3) rfl rfl (SX.a hS rfl) (by unfold vp_in; decide) ?_
      refine aw_if_eq (q := 214) (tgt := 218) rfl rfl (by decide) ⟨fun cd_11 => ?_, fun cd_11 => ?_⟩
      · replace h := h.1 cd_11
        refine aw_iconst (q := 219) (v := 0) rfl rfl (by decide) ?_
        refine aw_aload_n (q := 220) (j := 0) rfl rfl rfl (List.mem_of_getElem? (i := 0) rfl) ?_
        refine ag_getR (q := 223) rfl rfl fl_Mo_170 rfl (SX.o hS rfl) (SX.r hS rfl) ?_
        refine aw_iconst (q := 224) (v := 1) rfl rfl (by decide) ?_
        refine ag_zaload (q := 225) (N := 3) rfl rfl (SX.a hS rfl) (by unfold vp_in; decide) ?_
        refine aw_if_eq (q := 228) (tgt := 232) rfl rfl (by decide) ⟨fun cd_12 => ?_, fun cd_12 => ?_⟩
        · replace h := h.1 cd_12
          refine aw_iconst (q := 233) (v := 0) rfl rfl (by decide) ?_
          refine aw_iadd (q := 234) rfl rfl ?_
          refine aw_aload_n (q := 235) (j := 0) rfl rfl rfl (List.mem_of_getElem? (i := 0) rfl) ?_
          refine ag_getR (q := 238) rfl rfl fl_Mo_170 rfl (SX.o hS rfl) (SX.r hS rfl) ?_
          refine aw_iconst (q := 239) (v := 2) rfl rfl (by decide) ?_
          refine ag_zaload (q := 240) (N := 3) rfl rfl (SX.a hS rfl) (by unfold vp_in; decide) ?_
          refine aw_if_eq (q := 243) (tgt := 247) rfl rfl (by decide) ⟨fun cd_13 => ?_, fun cd_13 => ?_⟩
          · replace h := h.1 cd_13
            refine aw_iconst (q := 248) (v := 0) rfl rfl (by decide) ?_
            refine aw_iadd (q := 249) rfl rfl ?_
            exact aw_ireturn (ty := .int) rfl rfl rfl (by decide) (by decide) h
          · replace h := h.2 cd_13
            refine aw_iconst (q := 244) (v := 1) rfl rfl (by decide) ?_
            refine aw_goto (tgt := 248) rfl (by decide) ?_
            refine aw_iadd (q := 249) rfl rfl ?_
            exact aw_ireturn (ty := .int) rfl rfl rfl (by decide) (by decide) h
        · replace h := h.2 cd_12
          refine aw_iconst (q := 229) (v := 1) rfl rfl (by decide) ?_
          refine aw_goto (tgt := 233) rfl (by decide) ?_
          refine aw_iadd (q := 234) rfl rfl ?_
          refine aw_aload_n (q := 235) (j := 0) rfl rfl rfl (List.mem_of_getElem? (i := 0) rfl) ?_
          refine ag_getR (q := 238) rfl rfl fl_Mo_170 rfl (SX.o hS rfl) (SX.r hS rfl) ?_
          refine aw_iconst (q := 239) (v := 2) rfl rfl (by decide) ?_
          refine ag_zaload (q := 240) (N := 3) rfl rfl (SX.a hS rfl) (by unfold vp_in; decide) ?_
          refine aw_if_eq (q := 243) (tgt := 247) rfl rfl (by decide) ⟨fun cd_14 => ?_, fun cd_14 => ?_⟩
          · replace h := h.1 cd_14
            refine aw_iconst (q := 248) (v := 0) rfl rfl (by decide) ?_
            refine aw_iadd (q := 249) rfl rfl ?_
            exact aw_ireturn (ty := .int) rfl rfl rfl (by decide) (by decide) h
          · replace h := h.2 cd_14
            refine aw_iconst (q := 244) (v := 1) rfl rfl (by decide) ?_
            refine aw_goto (tgt := 248) rfl (by decide) ?_
            refine aw_iadd (q := 249) rfl rfl ?_
            exact aw_ireturn (ty := .int) rfl rfl rfl (by decide) (by decide) h
      · replace h := h.2 cd_11
        refine aw_iconst (q := 215) (v := 1) rfl rfl (by decide) ?_
        refine aw_goto (tgt := 219) rfl (by decide) ?_
        refine aw_aload_n (q := 220) (j := 0) rfl rfl rfl (List.mem_of_getElem? (i := 0) rfl) ?_
        refine ag_getR (q := 223) rfl rfl fl_Mo_170 rfl (SX.o hS rfl) (SX.r hS rfl) ?_
        refine aw_iconst (q := 224) (v := 1) rfl rfl (by decide) ?_
        refine ag_zaload (q := 225) (N := 3) rfl rfl (SX.a hS rfl) (by unfold vp_in; decide) ?_
        refine aw_if_eq (q := 228) (tgt := 232) rfl rfl (by decide) ⟨fun cd_15 => ?_, fun cd_15 => ?_⟩
        · replace h := h.1 cd_15
          refine aw_iconst (q := 233) (v := 0) rfl rfl (by decide) ?_
          refine aw_iadd (q := 234) rfl rfl ?_
          refine aw_aload_n (q := 235) (j := 0) rfl rfl rfl (List.mem_of_getElem? (i := 0) rfl) ?_
          refine ag_getR (q := 238) rfl rfl fl_Mo_170 rfl (SX.o hS rfl) (SX.r hS rfl) ?_
          refine aw_iconst (q := 239) (v := 2) rfl rfl (by decide) ?_
          refine ag_zaload (q := 240) (N := 3) rfl rfl (SX.a hS rfl) (by unfold vp_in; decide) ?_
          refine aw_if_eq (q := 243) (tgt := 247) rfl rfl (by decide) ⟨fun cd_16 => ?_, fun cd_16 => ?_⟩
          · replace h := h.1 cd_16
            refine aw_iconst (q := 248) (v := 0) rfl rfl (by decide) ?_
            refine aw_iadd (q := 249) rfl rfl ?_
            exact aw_ireturn (ty := .int) rfl rfl rfl (by decide) (by decide) h
          · replace h := h.2 cd_16
            refine aw_iconst (q := 244) (v := 1) rfl rfl (by decide) ?_
            refine aw_goto (tgt := 248) rfl (by decide) ?_
            refine aw_iadd (q := 249) rfl rfl ?_
            exact aw_ireturn (ty := .int) rfl rfl rfl (by decide) (by decide) h
        · replace h := h.2 cd_15
          refine aw_iconst (q := 229) (v := 1) rfl rfl (by decide) ?_
          refine aw_goto (tgt := 233) rfl (by decide) ?_
          refine aw_iadd (q := 234) rfl rfl ?_
          refine aw_aload_n (q := 235) (j := 0) rfl rfl rfl (List.mem_of_getElem? (i := 0) rfl) ?_
          refine ag_getR (q := 238) rfl rfl fl_Mo_170 rfl (SX.o hS rfl) (SX.r hS rfl) ?_
          refine aw_iconst (q := 239) (v := 2) rfl rfl (by decide) ?_
          refine ag_zaload (q := 240) (N := 3) rfl rfl (SX.a hS rfl) (by unfold vp_in; decide) ?_
          refine aw_if_eq (q := 243) (tgt := 247) rfl rfl (by decide) ⟨fun cd_17 => ?_, fun cd_17 => ?_⟩
          · replace h := h.1 cd_17
            refine aw_iconst (q := 248) (v := 0) rfl rfl (by decide) ?_
            refine aw_iadd (q := 249) rfl rfl ?_
            exact aw_ireturn (ty := .int) rfl rfl rfl (by decide) (by decide) h
          · replace h := h.2 cd_17
            refine aw_iconst (q := 244) (v := 1) rfl rfl (by decide) ?_
            refine aw_goto (tgt := 248) rfl (by decide) ?_
            refine aw_iadd (q := 249) rfl rfl ?_
            exact aw_ireturn (ty := .int) rfl rfl rfl (by decide) (by decide) h
    | 15, _, e => 
      have e : x1 = 15 := Int32.toInt_inj.mp (e.trans (by decide))
      replace h := h.2.2.2.2.2.2.2.2.2.2.2.2.2.2.2 e
      refine aw_tableEq (tgt := 250) rfl e (by decide) (by decide) rfl (by decide) ?_
      refine aw_aload_n (q := 251) (j := 0) rfl rfl rfl (List.mem_of_getElem? (i := 0) rfl) ?_
      refine ag_cvV (z := m_Mo_copies) (ci := 11) (av := []) (st := []) (q := 254) (k' := 0) (n' := 0) rfl rfl cv_Mo_395 ⟨by decide, by decide⟩ rfl rfl (by decide) (by decide) (SX.o hS rfl) rfl rfl rfl (Nat.le_of_ble_eq_true rfl) ?_
      refine GV.mono h (fun t1_ h => ?_)
      refine aw_aload_n (q := 255) (j := 0) rfl rfl rfl (List.mem_of_getElem? (i := 0) rfl) ?_
      refine ag_cvI (z := m_Mo_inHeap) (ci := 11) (av := []) (st := []) (q := 258) (k' := 0) (n' := 0) rfl rfl cv_Mo_435 ⟨by decide, by decide⟩ rfl rfl (by decide) (by decide) (SX.o hS rfl) rfl rfl rfl (Nat.le_of_ble_eq_true rfl) ?_
      refine GI.mono h (fun y2_ t2_ h => ?_)
      refine aw_aload_n (q := 259) (j := 0) rfl rfl rfl (List.mem_of_getElem? (i := 0) rfl) ?_
      refine aw_iconst (q := 260) (v := 1) rfl rfl (by decide) ?_
      refine ag_cvI (z := m_Mo_inHoles) (ci := 11) (av := [.int _]) (st := [.int _]) (q := 263) (k' := 0) (n' := 0) rfl rfl cv_Mo_438 ⟨by decide, by decide⟩ rfl rfl (by decide) (by decide) (SX.o hS rfl) rfl rfl rfl (Nat.le_of_ble_eq_true rfl) ?_
      refine GI.mono h (fun y3_ t3_ h => ?_)
      refine aw_iadd (q := 264) rfl rfl ?_
      refine aw_aload_n (q := 265) (j := 0) rfl rfl rfl (List.mem_of_getElem? (i := 0) rfl) ?_
      refine aw_iconst (q := 266) (v := 0) rfl rfl (by decide) ?_
      refine ag_cvI (z := m_Mo_inHoles) (ci := 11) (av := [.int _]) (st := [.int _]) (q := 269) (k' := 0) (n' := 0) rfl rfl cv_Mo_438 ⟨by decide, by decide⟩ rfl rfl (by decide) (by decide) (SX.o hS rfl) rfl rfl rfl (Nat.le_of_ble_eq_true rfl) ?_
      refine GI.mono h (fun y4_ t4_ h => ?_)
      refine aw_iadd (q := 270) rfl rfl ?_
      refine aw_istore_n (q := 271) (j := 2) (ls' := [(2, .int _), (0, .ref _), (1, .int _)]) rfl rfl rfl (by decide) rfl ?_
      refine aw_iconst (q := 272) (v := 0) rfl rfl (by decide) ?_
      refine aw_istore_n (q := 273) (j := 3) (ls' := [(3, .int _), (2, .int _), (0, .ref _), (1, .int _)]) rfl rfl rfl (by decide) rfl ?_
      refine aw_ls [2, 3, 1, 0] rfl ?_
      exact h
    | j + 16, hj, _ => exact absurd hj (by omega)
