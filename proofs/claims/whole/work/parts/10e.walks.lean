/-! walks of the methods, by program (vcgen.py) -/
set_option maxRecDepth 20000 in
theorem v_Rs_catAt {E : EN} {g : GS} {s : MS} {Q : Option Value → SG → Prop} (x1 : Int32) (x2 : Int32) (hS : SX g) (h : ((x1 < 1 → Q (some (.int (-1))) (mk g s)) ∧ (¬ x1 < 1 → ((120 < x1 → Q (some (.int (-1))) (mk g s)) ∧ (¬ 120 < x1 → GI E m_Rs_isOf [.int x2, .int 2] g s (fun y1_ t1_ => ((y1_ = 0 → Q (some (.int (-1))) (mk g t1_)) ∧ (¬ y1_ = 0 → GV E m_Planner_seekCat [.ref 31, .ref 28, .ref 74, .int x1] g t1_ (fun t2_ => ((x2 = 0 → Q (some (.int (t2_.1 31 2))) (mk g t2_)) ∧ (¬ x2 = 0 → Q (some (.int (t2_.1 31 3))) (mk g t2_)))))))))))) : AMet E m_Rs_catAt [.ref 16, .int x1, .int x2] (mk g s) Q := by
  refine AMet.of (by decide) k_Rs_catAt [(0, .ref 16), (1, .int x1), (2, .int x2)] (Nat.le_of_ble_eq_true rfl) rfl ?_
  refine aw_iload_n (q := 1) (j := 1) rfl rfl rfl (List.mem_of_getElem? (i := 1) rfl) ?_
  refine aw_iconst (q := 2) (v := 1) rfl rfl (by decide) ?_
  refine aw_icmp_lt (q := 5) (tgt := 19) rfl rfl (by decide) ⟨fun cd_1 => ?_, fun cd_1 => ?_⟩
  · replace h := h.1 cd_1
    refine aw_iconst (q := 20) (v := (-1)) rfl rfl (by decide) ?_
    exact aw_ireturn (ty := .int) rfl rfl rfl (by decide) (by decide) h
  · replace h := h.2 cd_1
    refine aw_iload_n (q := 6) (j := 1) rfl rfl rfl (List.mem_of_getElem? (i := 1) rfl) ?_
    refine aw_bipush (q := 8) (v := 120) rfl rfl (by decide) ?_
    refine aw_icmp_gt (q := 11) (tgt := 19) rfl rfl (by decide) ⟨fun cd_2 => ?_, fun cd_2 => ?_⟩
    · replace h := h.1 cd_2
      refine aw_iconst (q := 20) (v := (-1)) rfl rfl (by decide) ?_
      exact aw_ireturn (ty := .int) rfl rfl rfl (by decide) (by decide) h
    · replace h := h.2 cd_2
      refine aw_iload_n (q := 12) (j := 2) rfl rfl rfl (List.mem_of_getElem? (i := 2) rfl) ?_
      refine aw_iconst (q := 13) (v := 2) rfl rfl (by decide) ?_
      refine ag_csI (z := m_Rs_isOf) (av := [.int _, .int _]) (st := []) (q := 16) (k' := 0) (n' := 0) rfl rfl cs_Rs_122 ⟨by decide, by decide⟩ rfl rfl (by decide) (by decide) rfl rfl (Nat.le_of_ble_eq_true rfl) ?_
      refine GI.mono h (fun y1_ t1_ h => ?_)
      refine aw_if_ne (q := 19) (tgt := 21) rfl rfl (by decide) ⟨fun cd_3 => ?_, fun cd_3 => ?_⟩
      · replace h := h.1 cd_3
        refine aw_iconst (q := 20) (v := (-1)) rfl rfl (by decide) ?_
        exact aw_ireturn (ty := .int) rfl rfl rfl (by decide) (by decide) h
      · replace h := h.2 cd_3
        refine aw_aload_n (q := 22) (j := 0) rfl rfl rfl (List.mem_of_getElem? (i := 0) rfl) ?_
        refine ag_getR (q := 25) rfl rfl fl_Rs_32 rfl (SX.o hS rfl) (SX.r hS rfl) ?_
        refine aw_aload_n (q := 26) (j := 0) rfl rfl rfl (List.mem_of_getElem? (i := 0) rfl) ?_
        refine ag_getR (q := 29) rfl rfl fl_Rs_81 rfl (SX.o hS rfl) (SX.r hS rfl) ?_
        refine aw_aload_n (q := 30) (j := 0) rfl rfl rfl (List.mem_of_getElem? (i := 0) rfl) ?_
        refine ag_getR (q := 33) rfl rfl fl_Rs_46 rfl (SX.o hS rfl) (SX.r hS rfl) ?_
        refine aw_iload_n (q := 34) (j := 1) rfl rfl rfl (List.mem_of_getElem? (i := 1) rfl) ?_
        refine ag_cvV (z := m_Planner_seekCat) (ci := 5) (av := [.ref _, .ref _, .int _]) (st := []) (q := 37) (k' := 0) (n' := 0) rfl rfl cv_Rs_312 ⟨by decide, by decide⟩ rfl rfl (by decide) (by decide) (SX.o hS rfl) rfl rfl rfl (Nat.le_of_ble_eq_true rfl) ?_
        refine GV.mono h (fun t2_ h => ?_)
        refine aw_iload_n (q := 38) (j := 2) rfl rfl rfl (List.mem_of_getElem? (i := 2) rfl) ?_
        refine aw_if_ne (q := 41) (tgt := 51) rfl rfl (by decide) ⟨fun cd_4 => ?_, fun cd_4 => ?_⟩
        · replace h := h.1 cd_4
          refine aw_aload_n (q := 42) (j := 0) rfl rfl rfl (List.mem_of_getElem? (i := 0) rfl) ?_
          refine ag_getR (q := 45) rfl rfl fl_Rs_32 rfl (SX.o hS rfl) (SX.r hS rfl) ?_
          refine ag_getI (q := 48) rfl rfl fl_Rs_284 rfl (SX.o hS rfl) ?_
          refine aw_goto (tgt := 58) rfl (by decide) ?_
          exact aw_ireturn (ty := .int) rfl rfl rfl (by decide) (by decide) h
        · replace h := h.2 cd_4
          refine aw_aload_n (q := 52) (j := 0) rfl rfl rfl (List.mem_of_getElem? (i := 0) rfl) ?_
          refine ag_getR (q := 55) rfl rfl fl_Rs_32 rfl (SX.o hS rfl) (SX.r hS rfl) ?_
          refine ag_getI (q := 58) rfl rfl fl_Rs_281 rfl (SX.o hS rfl) ?_
          exact aw_ireturn (ty := .int) rfl rfl rfl (by decide) (by decide) h
set_option maxRecDepth 20000 in
theorem v_Rs_starves {E : EN} {g : GS} {s : MS} {Q : Option Value → SG → Prop} (x1 : Int32) (t : Nat) (hS : SX g) (et : t = 88 ∨ t = 104) (ht : g.2.2 16 10 = some t) (h : GI E m_Rs_isOf [.int x1, .int (s.1 t 13)] g s (fun y1_ t1_ => ((y1_ = 0 → Q (some (.int (-1))) (mk g t1_)) ∧ (¬ y1_ = 0 → GI E m_Planner_starvesBy [.ref 31, .ref 28, .ref 74, .int x1] g t1_ (fun y2_ t2_ => Q (some (.int y2_)) (mk g t2_)))))) : AMet E m_Rs_starves [.ref 16, .int x1] (mk g s) Q := by
  refine AMet.of (by decide) k_Rs_starves [(0, .ref 16), (1, .int x1)] (Nat.le_of_ble_eq_true rfl) rfl ?_
  refine aw_iload_n (q := 1) (j := 1) rfl rfl rfl (List.mem_of_getElem? (i := 1) rfl) ?_
  refine aw_aload_n (q := 2) (j := 0) rfl rfl rfl (List.mem_of_getElem? (i := 0) rfl) ?_
  refine ag_getR (q := 5) rfl rfl fl_Rs_60 rfl (SX.o hS rfl) ht ?_
  refine ag_getI (q := 8) rfl rfl fl_Rs_137 rfl (TS.o (TS.of hS et)) ?_
  refine ag_csI (z := m_Rs_isOf) (av := [.int _, .int _]) (st := []) (q := 11) (k' := 0) (n' := 0) rfl rfl cs_Rs_122 ⟨by decide, by decide⟩ rfl rfl (by decide) (by decide) rfl rfl (Nat.le_of_ble_eq_true rfl) ?_
  refine GI.mono h (fun y1_ t1_ h => ?_)
  refine aw_if_eq (q := 14) (tgt := 33) rfl rfl (by decide) ⟨fun cd_1 => ?_, fun cd_1 => ?_⟩
  · replace h := h.1 cd_1
    refine aw_iconst (q := 34) (v := (-1)) rfl rfl (by decide) ?_
    exact aw_ireturn (ty := .int) rfl rfl rfl (by decide) (by decide) h
  · replace h := h.2 cd_1
    refine aw_aload_n (q := 15) (j := 0) rfl rfl rfl (List.mem_of_getElem? (i := 0) rfl) ?_
    refine ag_getR (q := 18) rfl rfl fl_Rs_32 rfl (SX.o hS rfl) (SX.r hS rfl) ?_
    refine aw_aload_n (q := 19) (j := 0) rfl rfl rfl (List.mem_of_getElem? (i := 0) rfl) ?_
    refine ag_getR (q := 22) rfl rfl fl_Rs_81 rfl (SX.o hS rfl) (SX.r hS rfl) ?_
    refine aw_aload_n (q := 23) (j := 0) rfl rfl rfl (List.mem_of_getElem? (i := 0) rfl) ?_
    refine ag_getR (q := 26) rfl rfl fl_Rs_46 rfl (SX.o hS rfl) (SX.r hS rfl) ?_
    refine aw_iload_n (q := 27) (j := 1) rfl rfl rfl (List.mem_of_getElem? (i := 1) rfl) ?_
    refine ag_cvI (z := m_Planner_starvesBy) (ci := 5) (av := [.ref _, .ref _, .int _]) (st := []) (q := 30) (k' := 0) (n' := 0) rfl rfl cv_Rs_315 ⟨by decide, by decide⟩ rfl rfl (by decide) (by decide) (SX.o hS rfl) rfl rfl rfl (Nat.le_of_ble_eq_true rfl) ?_
    refine GI.mono h (fun y2_ t2_ h => ?_)
    refine aw_goto (tgt := 34) rfl (by decide) ?_
    exact aw_ireturn (ty := .int) rfl rfl rfl (by decide) (by decide) h
set_option maxRecDepth 20000 in
theorem v_Rs_mean {E : EN} {g : GS} {s : MS} {Q : Option Value → SG → Prop} (x1 : Int32) (x2 : Int32) (hS : SX g) (h : ((x1 < 1 → Q (some (.int (-1))) (mk g s)) ∧ (¬ x1 < 1 → ((20 < x1 → Q (some (.int (-1))) (mk g s)) ∧ (¬ 20 < x1 → GI E m_Rs_isMinutes [.int x2] g s (fun y1_ t1_ => ((y1_ = 0 → Q (some (.int (-1))) (mk g t1_)) ∧ (¬ y1_ = 0 → GI E m_Planner_misplacedOf [.ref 31, .ref 28, .ref 74, .int x1, .int x2] g t1_ (fun y2_ t2_ => Q (some (.int y2_)) (mk g t2_)))))))))) : AMet E m_Rs_mean [.ref 16, .int x1, .int x2] (mk g s) Q := by
  refine AMet.of (by decide) k_Rs_mean [(0, .ref 16), (1, .int x1), (2, .int x2)] (Nat.le_of_ble_eq_true rfl) rfl ?_
  refine aw_iload_n (q := 1) (j := 1) rfl rfl rfl (List.mem_of_getElem? (i := 1) rfl) ?_
  refine aw_iconst (q := 2) (v := 1) rfl rfl (by decide) ?_
  refine aw_icmp_lt (q := 5) (tgt := 18) rfl rfl (by decide) ⟨fun cd_1 => ?_, fun cd_1 => ?_⟩
  · replace h := h.1 cd_1
    refine aw_iconst (q := 19) (v := (-1)) rfl rfl (by decide) ?_
    exact aw_ireturn (ty := .int) rfl rfl rfl (by decide) (by decide) h
  · replace h := h.2 cd_1
    refine aw_iload_n (q := 6) (j := 1) rfl rfl rfl (List.mem_of_getElem? (i := 1) rfl) ?_
    refine aw_bipush (q := 8) (v := 20) rfl rfl (by decide) ?_
    refine aw_icmp_gt (q := 11) (tgt := 18) rfl rfl (by decide) ⟨fun cd_2 => ?_, fun cd_2 => ?_⟩
    · replace h := h.1 cd_2
      refine aw_iconst (q := 19) (v := (-1)) rfl rfl (by decide) ?_
      exact aw_ireturn (ty := .int) rfl rfl rfl (by decide) (by decide) h
    · replace h := h.2 cd_2
      refine aw_iload_n (q := 12) (j := 2) rfl rfl rfl (List.mem_of_getElem? (i := 2) rfl) ?_
      refine ag_csI (z := m_Rs_isMinutes) (av := [.int _]) (st := []) (q := 15) (k' := 0) (n' := 0) rfl rfl cs_Rs_254 ⟨by decide, by decide⟩ rfl rfl (by decide) (by decide) rfl rfl (Nat.le_of_ble_eq_true rfl) ?_
      refine GI.mono h (fun y1_ t1_ h => ?_)
      refine aw_if_ne (q := 18) (tgt := 20) rfl rfl (by decide) ⟨fun cd_3 => ?_, fun cd_3 => ?_⟩
      · replace h := h.1 cd_3
        refine aw_iconst (q := 19) (v := (-1)) rfl rfl (by decide) ?_
        exact aw_ireturn (ty := .int) rfl rfl rfl (by decide) (by decide) h
      · replace h := h.2 cd_3
        refine aw_aload_n (q := 21) (j := 0) rfl rfl rfl (List.mem_of_getElem? (i := 0) rfl) ?_
        refine ag_getR (q := 24) rfl rfl fl_Rs_32 rfl (SX.o hS rfl) (SX.r hS rfl) ?_
        refine aw_aload_n (q := 25) (j := 0) rfl rfl rfl (List.mem_of_getElem? (i := 0) rfl) ?_
        refine ag_getR (q := 28) rfl rfl fl_Rs_81 rfl (SX.o hS rfl) (SX.r hS rfl) ?_
        refine aw_aload_n (q := 29) (j := 0) rfl rfl rfl (List.mem_of_getElem? (i := 0) rfl) ?_
        refine ag_getR (q := 32) rfl rfl fl_Rs_46 rfl (SX.o hS rfl) (SX.r hS rfl) ?_
        refine aw_iload_n (q := 33) (j := 1) rfl rfl rfl (List.mem_of_getElem? (i := 1) rfl) ?_
        refine aw_iload_n (q := 34) (j := 2) rfl rfl rfl (List.mem_of_getElem? (i := 2) rfl) ?_
        refine ag_cvI (z := m_Planner_misplacedOf) (ci := 5) (av := [.ref _, .ref _, .int _, .int _]) (st := []) (q := 37) (k' := 0) (n' := 0) rfl rfl cv_Rs_318 ⟨by decide, by decide⟩ rfl rfl (by decide) (by decide) (SX.o hS rfl) rfl rfl rfl (Nat.le_of_ble_eq_true rfl) ?_
        refine GI.mono h (fun y2_ t2_ h => ?_)
        exact aw_ireturn (ty := .int) rfl rfl rfl (by decide) (by decide) h
set_option maxRecDepth 20000 in
theorem v_Rs_sales {E : EN} {g : GS} {s : MS} {Q : Option Value → SG → Prop} (x1 : Int32) (t : Nat) (hS : SX g) (ht : g.2.2 16 10 = some t) (h : GI E m_Rs_isOf [.int x1, .int 2] g s (fun y1_ t1_ => ((y1_ = 0 → Q (some (.int (-1))) (mk g t1_)) ∧ (¬ y1_ = 0 → GV E m_Planner_seekSales [.ref 31, .ref t, .ref 74] g t1_ (fun t2_ => ((x1 = 0 → Q (some (.int (t2_.1 31 3))) (mk g t2_)) ∧ (¬ x1 = 0 → Q (some (.int (t2_.1 31 2))) (mk g t2_)))))))) : AMet E m_Rs_sales [.ref 16, .int x1] (mk g s) Q := by
  refine AMet.of (by decide) k_Rs_sales [(0, .ref 16), (1, .int x1)] (Nat.le_of_ble_eq_true rfl) rfl ?_
  refine aw_iload_n (q := 1) (j := 1) rfl rfl rfl (List.mem_of_getElem? (i := 1) rfl) ?_
  refine aw_iconst (q := 2) (v := 2) rfl rfl (by decide) ?_
  refine ag_csI (z := m_Rs_isOf) (av := [.int _, .int _]) (st := []) (q := 5) (k' := 0) (n' := 0) rfl rfl cs_Rs_122 ⟨by decide, by decide⟩ rfl rfl (by decide) (by decide) rfl rfl (Nat.le_of_ble_eq_true rfl) ?_
  refine GI.mono h (fun y1_ t1_ h => ?_)
  refine aw_if_ne (q := 8) (tgt := 10) rfl rfl (by decide) ⟨fun cd_1 => ?_, fun cd_1 => ?_⟩
  · replace h := h.1 cd_1
    refine aw_iconst (q := 9) (v := (-1)) rfl rfl (by decide) ?_
    exact aw_ireturn (ty := .int) rfl rfl rfl (by decide) (by decide) h
  · replace h := h.2 cd_1
    refine aw_aload_n (q := 11) (j := 0) rfl rfl rfl (List.mem_of_getElem? (i := 0) rfl) ?_
    refine ag_getR (q := 14) rfl rfl fl_Rs_32 rfl (SX.o hS rfl) (SX.r hS rfl) ?_
    refine aw_aload_n (q := 15) (j := 0) rfl rfl rfl (List.mem_of_getElem? (i := 0) rfl) ?_
    refine ag_getR (q := 18) rfl rfl fl_Rs_60 rfl (SX.o hS rfl) ht ?_
    refine aw_aload_n (q := 19) (j := 0) rfl rfl rfl (List.mem_of_getElem? (i := 0) rfl) ?_
    refine ag_getR (q := 22) rfl rfl fl_Rs_46 rfl (SX.o hS rfl) (SX.r hS rfl) ?_
    refine ag_cvV (z := m_Planner_seekSales) (ci := 5) (av := [.ref _, .ref _]) (st := []) (q := 25) (k' := 0) (n' := 0) rfl rfl cv_Rs_322 ⟨by decide, by decide⟩ rfl rfl (by decide) (by decide) (SX.o hS rfl) rfl rfl rfl (Nat.le_of_ble_eq_true rfl) ?_
    refine GV.mono h (fun t2_ h => ?_)
    refine aw_iload_n (q := 26) (j := 1) rfl rfl rfl (List.mem_of_getElem? (i := 1) rfl) ?_
    refine aw_if_ne (q := 29) (tgt := 39) rfl rfl (by decide) ⟨fun cd_2 => ?_, fun cd_2 => ?_⟩
    · replace h := h.1 cd_2
      refine aw_aload_n (q := 30) (j := 0) rfl rfl rfl (List.mem_of_getElem? (i := 0) rfl) ?_
      refine ag_getR (q := 33) rfl rfl fl_Rs_32 rfl (SX.o hS rfl) (SX.r hS rfl) ?_
      refine ag_getI (q := 36) rfl rfl fl_Rs_281 rfl (SX.o hS rfl) ?_
      refine aw_goto (tgt := 46) rfl (by decide) ?_
      exact aw_ireturn (ty := .int) rfl rfl rfl (by decide) (by decide) h
    · replace h := h.2 cd_2
      refine aw_aload_n (q := 40) (j := 0) rfl rfl rfl (List.mem_of_getElem? (i := 0) rfl) ?_
      refine ag_getR (q := 43) rfl rfl fl_Rs_32 rfl (SX.o hS rfl) (SX.r hS rfl) ?_
      refine ag_getI (q := 46) rfl rfl fl_Rs_284 rfl (SX.o hS rfl) ?_
      exact aw_ireturn (ty := .int) rfl rfl rfl (by decide) (by decide) h
set_option maxRecDepth 20000 in
theorem v_Rs_tell {E : EN} {g : GS} {s : MS} {Q : Option Value → SG → Prop} (x1 : Int32) (x2 : Int32) (x3 : Int32) (x4 : Int32) (t : Nat) (hS : SX g) (et : t = 88 ∨ t = 104) (ht : g.2.2 16 10 = some t) (h : GI E m_Rs_isOf [.int x1, .int (s.1 t 12)] g s (fun y1_ t1_ => ((y1_ = 0 → Q (some (.int (-1))) (mk g t1_)) ∧ (¬ y1_ = 0 → GI E m_Rs_isOf [.int x2, .int (t1_.1 t 11)] g t1_ (fun y2_ t2_ => ((y2_ = 0 → Q (some (.int (-1))) (mk g t2_)) ∧ (¬ y2_ = 0 → GI E m_Rs_isOf [.int x3, .int 100] g t2_ (fun y3_ t3_ => ((y3_ = 0 → Q (some (.int (-1))) (mk g t3_)) ∧ (¬ y3_ = 0 → GI E m_Rs_isOf [.int x4, .int 10000] g t3_ (fun y4_ t4_ => ((y4_ = 0 → Q (some (.int (-1))) (mk g t4_)) ∧ (¬ y4_ = 0 → GI E m_Facts_note [.ref 56, .int x1, .int x2, .int x3, .int x4] g t4_ (fun y5_ t5_ => Q (some (.int y5_)) (mk g t5_))))))))))))))) : AMet E m_Rs_tell [.ref 16, .int x1, .int x2, .int x3, .int x4] (mk g s) Q := by
  refine AMet.of (by decide) k_Rs_tell [(0, .ref 16), (1, .int x1), (2, .int x2), (3, .int x3), (4, .int x4)] (Nat.le_of_ble_eq_true rfl) rfl ?_
  refine aw_iload_n (q := 1) (j := 1) rfl rfl rfl (List.mem_of_getElem? (i := 1) rfl) ?_
  refine aw_aload_n (q := 2) (j := 0) rfl rfl rfl (List.mem_of_getElem? (i := 0) rfl) ?_
  refine ag_getR (q := 5) rfl rfl fl_Rs_60 rfl (SX.o hS rfl) ht ?_
  refine ag_getI (q := 8) rfl rfl fl_Rs_130 rfl (TS.o (TS.of hS et)) ?_
  refine ag_csI (z := m_Rs_isOf) (av := [.int _, .int _]) (st := []) (q := 11) (k' := 0) (n' := 0) rfl rfl cs_Rs_122 ⟨by decide, by decide⟩ rfl rfl (by decide) (by decide) rfl rfl (Nat.le_of_ble_eq_true rfl) ?_
  refine GI.mono h (fun y1_ t1_ h => ?_)
  refine aw_if_eq (q := 14) (tgt := 48) rfl rfl (by decide) ⟨fun cd_1 => ?_, fun cd_1 => ?_⟩
  · replace h := h.1 cd_1
    refine aw_iconst (q := 49) (v := (-1)) rfl rfl (by decide) ?_
    exact aw_ireturn (ty := .int) rfl rfl rfl (by decide) (by decide) h
  · replace h := h.2 cd_1
    refine aw_iload_n (q := 15) (j := 2) rfl rfl rfl (List.mem_of_getElem? (i := 2) rfl) ?_
    refine aw_aload_n (q := 16) (j := 0) rfl rfl rfl (List.mem_of_getElem? (i := 0) rfl) ?_
    refine ag_getR (q := 19) rfl rfl fl_Rs_60 rfl (SX.o hS rfl) ht ?_
    refine ag_getI (q := 22) rfl rfl fl_Rs_119 rfl (TS.o (TS.of hS et)) ?_
    refine ag_csI (z := m_Rs_isOf) (av := [.int _, .int _]) (st := []) (q := 25) (k' := 0) (n' := 0) rfl rfl cs_Rs_122 ⟨by decide, by decide⟩ rfl rfl (by decide) (by decide) rfl rfl (Nat.le_of_ble_eq_true rfl) ?_
    refine GI.mono h (fun y2_ t2_ h => ?_)
    refine aw_if_eq (q := 28) (tgt := 48) rfl rfl (by decide) ⟨fun cd_2 => ?_, fun cd_2 => ?_⟩
    · replace h := h.1 cd_2
      refine aw_iconst (q := 49) (v := (-1)) rfl rfl (by decide) ?_
      exact aw_ireturn (ty := .int) rfl rfl rfl (by decide) (by decide) h
    · replace h := h.2 cd_2
      refine aw_iload_n (q := 29) (j := 3) rfl rfl rfl (List.mem_of_getElem? (i := 3) rfl) ?_
      refine aw_bipush (q := 31) (v := 100) rfl rfl (by decide) ?_
      refine ag_csI (z := m_Rs_isOf) (av := [.int _, .int _]) (st := []) (q := 34) (k' := 0) (n' := 0) rfl rfl cs_Rs_122 ⟨by decide, by decide⟩ rfl rfl (by decide) (by decide) rfl rfl (Nat.le_of_ble_eq_true rfl) ?_
      refine GI.mono h (fun y3_ t3_ h => ?_)
      refine aw_if_eq (q := 37) (tgt := 48) rfl rfl (by decide) ⟨fun cd_3 => ?_, fun cd_3 => ?_⟩
      · replace h := h.1 cd_3
        refine aw_iconst (q := 49) (v := (-1)) rfl rfl (by decide) ?_
        exact aw_ireturn (ty := .int) rfl rfl rfl (by decide) (by decide) h
      · replace h := h.2 cd_3
        refine aw_iload (q := 39) (j := 4) rfl rfl (List.mem_of_getElem? (i := 4) rfl) ?_
        refine aw_sipush (q := 42) (v := 10000) rfl rfl (by decide) ?_
        refine ag_csI (z := m_Rs_isOf) (av := [.int _, .int _]) (st := []) (q := 45) (k' := 0) (n' := 0) rfl rfl cs_Rs_122 ⟨by decide, by decide⟩ rfl rfl (by decide) (by decide) rfl rfl (Nat.le_of_ble_eq_true rfl) ?_
        refine GI.mono h (fun y4_ t4_ h => ?_)
        refine aw_if_ne (q := 48) (tgt := 50) rfl rfl (by decide) ⟨fun cd_4 => ?_, fun cd_4 => ?_⟩
        · replace h := h.1 cd_4
          refine aw_iconst (q := 49) (v := (-1)) rfl rfl (by decide) ?_
          exact aw_ireturn (ty := .int) rfl rfl rfl (by decide) (by decide) h
        · replace h := h.2 cd_4
          refine aw_aload_n (q := 51) (j := 0) rfl rfl rfl (List.mem_of_getElem? (i := 0) rfl) ?_
          refine ag_getR (q := 54) rfl rfl fl_Rs_39 rfl (SX.o hS rfl) (SX.r hS rfl) ?_
          refine aw_iload_n (q := 55) (j := 1) rfl rfl rfl (List.mem_of_getElem? (i := 1) rfl) ?_
          refine aw_iload_n (q := 56) (j := 2) rfl rfl rfl (List.mem_of_getElem? (i := 2) rfl) ?_
          refine aw_iload_n (q := 57) (j := 3) rfl rfl rfl (List.mem_of_getElem? (i := 3) rfl) ?_
          refine aw_iload (q := 59) (j := 4) rfl rfl (List.mem_of_getElem? (i := 4) rfl) ?_
          refine ag_cvI (z := m_Facts_note) (ci := 0) (av := [.int _, .int _, .int _, .int _]) (st := []) (q := 62) (k' := 0) (n' := 0) rfl rfl cv_Rs_326 ⟨by decide, by decide⟩ rfl rfl (by decide) (by decide) (SX.o hS rfl) rfl rfl rfl (Nat.le_of_ble_eq_true rfl) ?_
          refine GI.mono h (fun y5_ t5_ h => ?_)
          exact aw_ireturn (ty := .int) rfl rfl rfl (by decide) (by decide) h
set_option maxRecDepth 20000 in
theorem v_Rs_forget {E : EN} {g : GS} {s : MS} {Q : Option Value → SG → Prop}  (hS : SX g) (h : (∀ s1_, s1_ = wi s 56 7 0 → Q (some (.int (s.1 56 7))) (mk g s1_))) : AMet E m_Rs_forget [.ref 16] (mk g s) Q := by
  refine AMet.of (by decide) k_Rs_forget [(0, .ref 16)] (Nat.le_of_ble_eq_true rfl) rfl ?_
  refine aw_aload_n (q := 1) (j := 0) rfl rfl rfl (List.mem_of_getElem? (i := 0) rfl) ?_
  refine ag_getR (q := 4) rfl rfl fl_Rs_39 rfl (SX.o hS rfl) (SX.r hS rfl) ?_
  refine ag_getI (q := 7) rfl rfl fl_Rs_330 rfl (SX.o hS rfl) ?_
  refine aw_istore_n (q := 8) (j := 1) (ls' := [(1, .int _), (0, .ref _)]) rfl rfl rfl (by decide) rfl ?_
  refine aw_aload_n (q := 9) (j := 0) rfl rfl rfl (List.mem_of_getElem? (i := 1) rfl) ?_
  refine ag_getR (q := 12) rfl rfl fl_Rs_39 rfl (SX.o hS rfl) (SX.r hS rfl) ?_
  refine aw_iconst (q := 13) (v := 0) rfl rfl (by decide) ?_
  refine ag_putI (q := 16) rfl rfl fl_Rs_330 rfl rfl (SX.o hS rfl) ?_
  replace h := h _ rfl
  refine aw_iload_n (q := 17) (j := 1) rfl rfl rfl (List.mem_of_getElem? (i := 0) rfl) ?_
  exact aw_ireturn (ty := .int) rfl rfl rfl (by decide) (by decide) h
set_option maxRecDepth 20000 in
theorem v_Rs_jokes {E : EN} {g : GS} {s : MS} {Q : Option Value → SG → Prop} (x1 : Int32) (x2 : Int32) (t : Nat) (hS : SX g) (et : t = 88 ∨ t = 104) (ht : g.2.2 16 10 = some t) (h : ((x1 < 0 → Q (some (.int (-1))) (mk g s)) ∧ (¬ x1 < 0 → (((s.1 56 7) < x1 → Q (some (.int (-1))) (mk g s)) ∧ (¬ (s.1 56 7) < x1 → (((-1) ≤ x2 → GV E m_Facts_watch [.ref 56, .ref 28] g s (fun t1_ => GI E m_Facts_seekJoke [.ref 56, .int (t1_.1 t 12), .int x1, .int x2] g t1_ (fun y2_ t2_ => Q (some (.int y2_)) (mk g t2_)))) ∧ (¬ (-1) ≤ x2 → Q (some (.int (-1))) (mk g s)))))))) : AMet E m_Rs_jokes [.ref 16, .int x1, .int x2] (mk g s) Q := by
  refine AMet.of (by decide) k_Rs_jokes [(0, .ref 16), (1, .int x1), (2, .int x2)] (Nat.le_of_ble_eq_true rfl) rfl ?_
  refine aw_iload_n (q := 1) (j := 1) rfl rfl rfl (List.mem_of_getElem? (i := 1) rfl) ?_
  refine aw_if_lt (q := 4) (tgt := 20) rfl rfl (by decide) ⟨fun cd_1 => ?_, fun cd_1 => ?_⟩
  · replace h := h.1 cd_1
    refine aw_iconst (q := 21) (v := (-1)) rfl rfl (by decide) ?_
    exact aw_ireturn (ty := .int) rfl rfl rfl (by decide) (by decide) h
  · replace h := h.2 cd_1
    refine aw_iload_n (q := 5) (j := 1) rfl rfl rfl (List.mem_of_getElem? (i := 1) rfl) ?_
    refine aw_aload_n (q := 6) (j := 0) rfl rfl rfl (List.mem_of_getElem? (i := 0) rfl) ?_
    refine ag_getR (q := 9) rfl rfl fl_Rs_39 rfl (SX.o hS rfl) (SX.r hS rfl) ?_
    refine ag_getI (q := 12) rfl rfl fl_Rs_330 rfl (SX.o hS rfl) ?_
    refine aw_icmp_gt (q := 15) (tgt := 20) rfl rfl (by decide) ⟨fun cd_2 => ?_, fun cd_2 => ?_⟩
    · replace h := h.1 cd_2
      refine aw_iconst (q := 21) (v := (-1)) rfl rfl (by decide) ?_
      exact aw_ireturn (ty := .int) rfl rfl rfl (by decide) (by decide) h
    · replace h := h.2 cd_2
      refine aw_iload_n (q := 16) (j := 2) rfl rfl rfl (List.mem_of_getElem? (i := 2) rfl) ?_
      refine aw_iconst (q := 17) (v := (-1)) rfl rfl (by decide) ?_
      refine aw_icmp_ge (q := 20) (tgt := 22) rfl rfl (by decide) ⟨fun cd_3 => ?_, fun cd_3 => ?_⟩
      · replace h := h.1 cd_3
        refine aw_aload_n (q := 23) (j := 0) rfl rfl rfl (List.mem_of_getElem? (i := 0) rfl) ?_
        refine ag_getR (q := 26) rfl rfl fl_Rs_39 rfl (SX.o hS rfl) (SX.r hS rfl) ?_
        refine aw_aload_n (q := 27) (j := 0) rfl rfl rfl (List.mem_of_getElem? (i := 0) rfl) ?_
        refine ag_getR (q := 30) rfl rfl fl_Rs_81 rfl (SX.o hS rfl) (SX.r hS rfl) ?_
        refine ag_cvV (z := m_Facts_watch) (ci := 0) (av := [.ref _]) (st := []) (q := 33) (k' := 0) (n' := 0) rfl rfl cv_Rs_333 ⟨by decide, by decide⟩ rfl rfl (by decide) (by decide) (SX.o hS rfl) rfl rfl rfl (Nat.le_of_ble_eq_true rfl) ?_
        refine GV.mono h (fun t1_ h => ?_)
        refine aw_aload_n (q := 34) (j := 0) rfl rfl rfl (List.mem_of_getElem? (i := 0) rfl) ?_
        refine ag_getR (q := 37) rfl rfl fl_Rs_39 rfl (SX.o hS rfl) (SX.r hS rfl) ?_
        refine aw_aload_n (q := 38) (j := 0) rfl rfl rfl (List.mem_of_getElem? (i := 0) rfl) ?_
        refine ag_getR (q := 41) rfl rfl fl_Rs_60 rfl (SX.o hS rfl) ht ?_
        refine ag_getI (q := 44) rfl rfl fl_Rs_130 rfl (TS.o (TS.of hS et)) ?_
        refine aw_iload_n (q := 45) (j := 1) rfl rfl rfl (List.mem_of_getElem? (i := 1) rfl) ?_
        refine aw_iload_n (q := 46) (j := 2) rfl rfl rfl (List.mem_of_getElem? (i := 2) rfl) ?_
        refine ag_cvI (z := m_Facts_seekJoke) (ci := 0) (av := [.int _, .int _, .int _]) (st := []) (q := 49) (k' := 0) (n' := 0) rfl rfl cv_Rs_337 ⟨by decide, by decide⟩ rfl rfl (by decide) (by decide) (SX.o hS rfl) rfl rfl rfl (Nat.le_of_ble_eq_true rfl) ?_
        refine GI.mono h (fun y2_ t2_ h => ?_)
        exact aw_ireturn (ty := .int) rfl rfl rfl (by decide) (by decide) h
      · replace h := h.2 cd_3
        refine aw_iconst (q := 21) (v := (-1)) rfl rfl (by decide) ?_
        exact aw_ireturn (ty := .int) rfl rfl rfl (by decide) (by decide) h
set_option maxRecDepth 20000 in
theorem v_Rs_count {E : EN} {g : GS} {s : MS} {Q : Option Value → SG → Prop} (x1 : Int32) (t : Nat) (hS : SX g) (et : t = 88 ∨ t = 104) (ht : g.2.2 16 10 = some t) (h : ((x1 < 0 ∨ 15 < x1 → Q (some (.int (-1))) (mk g s)) ∧ (x1 = 0 → Q (some (.int (s.1 t 11))) (mk g s)) ∧ (x1 = 1 → Q (some (.int (s.1 t 12))) (mk g s)) ∧ (x1 = 2 → Q (some (.int (s.1 t 13))) (mk g s)) ∧ (x1 = 3 → Q (some (.int (s.1 t 14))) (mk g s)) ∧ (x1 = 4 → Q (some (.int (s.1 74 3))) (mk g s)) ∧ (x1 = 5 → Q (some (.int (s.1 74 5))) (mk g s)) ∧ (x1 = 6 → Q (some (.int (s.1 74 6))) (mk g s)) ∧ (x1 = 7 → Q (some (.int (s.1 74 7))) (mk g s)) ∧ (x1 = 8 → GI E m_House_ratsThatAre [.ref 74, .ref t, .int 3] g s (fun y1_ t1_ => Q (some (.int y1_)) (mk g t1_))) ∧ (x1 = 9 → Q (some (.int (s.1 74 4))) (mk g s)) ∧ (x1 = 10 → Q (some (.int (s.1 74 8))) (mk g s)) ∧ (x1 = 11 → Q (some (.int (s.1 16 12))) (mk g s)) ∧ (x1 = 12 → Q (some (.int (s.1 16 15))) (mk g s)) ∧ (x1 = 13 → Q (some (.int (s.1 56 7))) (mk g s)) ∧ (x1 = 14 → GI E m_Int_bitCount [.int (s.1 16 16)] g s (fun y2_ t2_ => Q (some (.int y2_)) (mk g t2_))) ∧ (x1 = 15 → GI E m_House_allInHeap [.ref 74] g s (fun y3_ t3_ => GI E m_House_allInHoles [.ref 74] g t3_ (fun y4_ t4_ => GI E m_House_allCarried [.ref 74, .ref t] g t4_ (fun y5_ t5_ => Q (some (.int ((y3_ + y4_) + y5_))) (mk g t5_))))))) : AMet E m_Rs_count [.ref 16, .int x1] (mk g s) Q := by
  refine AMet.of (by decide) k_Rs_count [(0, .ref 16), (1, .int x1)] (Nat.le_of_ble_eq_true rfl) rfl ?_
  refine aw_iload_n (q := 1) (j := 1) rfl rfl rfl (List.mem_of_getElem? (i := 1) rfl) ?_
  by_cases cd_1 : x1 < 0 ∨ 15 < x1
  · replace h := h.1 cd_1
    refine aw_tableLt (tgt := 227) rfl (a := 0) (b := 15) (by decide) (by decide) cd_1 (by decide) ?_
    refine aw_iconst (q := 228) (v := (-1)) rfl rfl (by decide) ?_
    exact aw_ireturn (ty := .int) rfl rfl rfl (by decide) (by decide) h
  · obtain ⟨jd_2, hjd_2, ejd_2⟩ := sw_cases 15 15 (fun q => cd_1 (Or.inl q)) (fun q => cd_1 (Or.inr q)) (by decide)
    replace h := h.2
    match jd_2, hjd_2, ejd_2 with
    | 0, _, e => 
      have e : x1 = 0 := Int32.toInt_inj.mp (e.trans (by decide))
      replace h := h.1 e
      refine aw_tableEq (tgt := 80) rfl e (by decide) (by decide) rfl (by decide) ?_
      refine aw_aload_n (q := 81) (j := 0) rfl rfl rfl (List.mem_of_getElem? (i := 0) rfl) ?_
      refine ag_getR (q := 84) rfl rfl fl_Rs_60 rfl (SX.o hS rfl) ht ?_
      refine ag_getI (q := 87) rfl rfl fl_Rs_119 rfl (TS.o (TS.of hS et)) ?_
      exact aw_ireturn (ty := .int) rfl rfl rfl (by decide) (by decide) h
    | 1, _, e => 
      have e : x1 = 1 := Int32.toInt_inj.mp (e.trans (by decide))
      replace h := h.2.1 e
      refine aw_tableEq (tgt := 88) rfl e (by decide) (by decide) rfl (by decide) ?_
      refine aw_aload_n (q := 89) (j := 0) rfl rfl rfl (List.mem_of_getElem? (i := 0) rfl) ?_
      refine ag_getR (q := 92) rfl rfl fl_Rs_60 rfl (SX.o hS rfl) ht ?_
      refine ag_getI (q := 95) rfl rfl fl_Rs_130 rfl (TS.o (TS.of hS et)) ?_
      exact aw_ireturn (ty := .int) rfl rfl rfl (by decide) (by decide) h
    | 2, _, e => 
      have e : x1 = 2 := Int32.toInt_inj.mp (e.trans (by decide))
      replace h := h.2.2.1 e
      refine aw_tableEq (tgt := 96) rfl e (by decide) (by decide) rfl (by decide) ?_
      refine aw_aload_n (q := 97) (j := 0) rfl rfl rfl (List.mem_of_getElem? (i := 0) rfl) ?_
      refine ag_getR (q := 100) rfl rfl fl_Rs_60 rfl (SX.o hS rfl) ht ?_
      refine ag_getI (q := 103) rfl rfl fl_Rs_137 rfl (TS.o (TS.of hS et)) ?_
      exact aw_ireturn (ty := .int) rfl rfl rfl (by decide) (by decide) h
    | 3, _, e => 
      have e : x1 = 3 := Int32.toInt_inj.mp (e.trans (by decide))
      replace h := h.2.2.2.1 e
      refine aw_tableEq (tgt := 104) rfl e (by decide) (by decide) rfl (by decide) ?_
      refine aw_aload_n (q := 105) (j := 0) rfl rfl rfl (List.mem_of_getElem? (i := 0) rfl) ?_
      refine ag_getR (q := 108) rfl rfl fl_Rs_60 rfl (SX.o hS rfl) ht ?_
      refine ag_getI (q := 111) rfl rfl fl_Rs_219 rfl (TS.o (TS.of hS et)) ?_
      exact aw_ireturn (ty := .int) rfl rfl rfl (by decide) (by decide) h
    | 4, _, e => 
      have e : x1 = 4 := Int32.toInt_inj.mp (e.trans (by decide))
      replace h := h.2.2.2.2.1 e
      refine aw_tableEq (tgt := 112) rfl e (by decide) (by decide) rfl (by decide) ?_
      refine aw_aload_n (q := 113) (j := 0) rfl rfl rfl (List.mem_of_getElem? (i := 0) rfl) ?_
      refine ag_getR (q := 116) rfl rfl fl_Rs_46 rfl (SX.o hS rfl) (SX.r hS rfl) ?_
      refine ag_getI (q := 119) rfl rfl fl_Rs_197 rfl (HS.o (HS.of hS (b := 74) rfl)) ?_
      exact aw_ireturn (ty := .int) rfl rfl rfl (by decide) (by decide) h
    | 5, _, e => 
      have e : x1 = 5 := Int32.toInt_inj.mp (e.trans (by decide))
      replace h := h.2.2.2.2.2.1 e
      refine aw_tableEq (tgt := 120) rfl e (by decide) (by decide) rfl (by decide) ?_
      refine aw_aload_n (q := 121) (j := 0) rfl rfl rfl (List.mem_of_getElem? (i := 0) rfl) ?_
      refine ag_getR (q := 124) rfl rfl fl_Rs_46 rfl (SX.o hS rfl) (SX.r hS rfl) ?_
      refine ag_getI (q := 127) rfl rfl fl_Rs_204 rfl (HS.o (HS.of hS (b := 74) rfl)) ?_
      exact aw_ireturn (ty := .int) rfl rfl rfl (by decide) (by decide) h
    | 6, _, e => 
      have e : x1 = 6 := Int32.toInt_inj.mp (e.trans (by decide))
      replace h := h.2.2.2.2.2.2.1 e
      refine aw_tableEq (tgt := 128) rfl e (by decide) (by decide) rfl (by decide) ?_
      refine aw_aload_n (q := 129) (j := 0) rfl rfl rfl (List.mem_of_getElem? (i := 0) rfl) ?_
      refine ag_getR (q := 132) rfl rfl fl_Rs_46 rfl (SX.o hS rfl) (SX.r hS rfl) ?_
      refine ag_getI (q := 135) rfl rfl fl_Rs_344 rfl (HS.o (HS.of hS (b := 74) rfl)) ?_
      exact aw_ireturn (ty := .int) rfl rfl rfl (by decide) (by decide) h
    | 7, _, e => 
      have e : x1 = 7 := Int32.toInt_inj.mp (e.trans (by decide))
      replace h := h.2.2.2.2.2.2.2.1 e
      refine aw_tableEq (tgt := 136) rfl e (by decide) (by decide) rfl (by decide) ?_
      refine aw_aload_n (q := 137) (j := 0) rfl rfl rfl (List.mem_of_getElem? (i := 0) rfl) ?_
      refine ag_getR (q := 140) rfl rfl fl_Rs_46 rfl (SX.o hS rfl) (SX.r hS rfl) ?_
      refine ag_getI (q := 143) rfl rfl fl_Rs_222 rfl (HS.o (HS.of hS (b := 74) rfl)) ?_
      exact aw_ireturn (ty := .int) rfl rfl rfl (by decide) (by decide) h
    | 8, _, e => 
      have e : x1 = 8 := Int32.toInt_inj.mp (e.trans (by decide))
      replace h := h.2.2.2.2.2.2.2.2.1 e
      refine aw_tableEq (tgt := 144) rfl e (by decide) (by decide) rfl (by decide) ?_
      refine aw_aload_n (q := 145) (j := 0) rfl rfl rfl (List.mem_of_getElem? (i := 0) rfl) ?_
      refine ag_getR (q := 148) rfl rfl fl_Rs_46 rfl (SX.o hS rfl) (SX.r hS rfl) ?_
      refine aw_aload_n (q := 149) (j := 0) rfl rfl rfl (List.mem_of_getElem? (i := 0) rfl) ?_
      refine ag_getR (q := 152) rfl rfl fl_Rs_60 rfl (SX.o hS rfl) ht ?_
      refine aw_iconst (q := 153) (v := 3) rfl rfl (by decide) ?_
      refine ag_cvI (z := m_House_ratsThatAre) (ci := 2) (av := [.ref _, .int _]) (st := []) (q := 156) (k' := 0) (n' := 0) rfl rfl cv_Rs_347 ⟨by decide, by decide⟩ rfl rfl (by decide) (by decide) (HS.o (HS.of hS (b := 74) rfl)) rfl rfl rfl (Nat.le_of_ble_eq_true rfl) ?_
      refine GI.mono h (fun y1_ t1_ h => ?_)
      exact aw_ireturn (ty := .int) rfl rfl rfl (by decide) (by decide) h
    | 9, _, e => 
      have e : x1 = 9 := Int32.toInt_inj.mp (e.trans (by decide))
      replace h := h.2.2.2.2.2.2.2.2.2.1 e
      refine aw_tableEq (tgt := 157) rfl e (by decide) (by decide) rfl (by decide) ?_
      refine aw_aload_n (q := 158) (j := 0) rfl rfl rfl (List.mem_of_getElem? (i := 0) rfl) ?_
      refine ag_getR (q := 161) rfl rfl fl_Rs_46 rfl (SX.o hS rfl) (SX.r hS rfl) ?_
      refine ag_getI (q := 164) rfl rfl fl_Rs_216 rfl (HS.o (HS.of hS (b := 74) rfl)) ?_
      exact aw_ireturn (ty := .int) rfl rfl rfl (by decide) (by decide) h
    | 10, _, e => 
      have e : x1 = 10 := Int32.toInt_inj.mp (e.trans (by decide))
      replace h := h.2.2.2.2.2.2.2.2.2.2.1 e
      refine aw_tableEq (tgt := 165) rfl e (by decide) (by decide) rfl (by decide) ?_
      refine aw_aload_n (q := 166) (j := 0) rfl rfl rfl (List.mem_of_getElem? (i := 0) rfl) ?_
      refine ag_getR (q := 169) rfl rfl fl_Rs_46 rfl (SX.o hS rfl) (SX.r hS rfl) ?_
      refine ag_getI (q := 172) rfl rfl fl_Rs_274 rfl (HS.o (HS.of hS (b := 74) rfl)) ?_
      exact aw_ireturn (ty := .int) rfl rfl rfl (by decide) (by decide) h
    | 11, _, e => 
      have e : x1 = 11 := Int32.toInt_inj.mp (e.trans (by decide))
      replace h := h.2.2.2.2.2.2.2.2.2.2.2.1 e
      refine aw_tableEq (tgt := 173) rfl e (by decide) (by decide) rfl (by decide) ?_
      refine aw_aload_n (q := 174) (j := 0) rfl rfl rfl (List.mem_of_getElem? (i := 0) rfl) ?_
      refine ag_getI (q := 177) rfl rfl fl_Rs_92 rfl (SX.o hS rfl) ?_
      exact aw_ireturn (ty := .int) rfl rfl rfl (by decide) (by decide) h
    | 12, _, e => 
      have e : x1 = 12 := Int32.toInt_inj.mp (e.trans (by decide))
      replace h := h.2.2.2.2.2.2.2.2.2.2.2.2.1 e
      refine aw_tableEq (tgt := 178) rfl e (by decide) (by decide) rfl (by decide) ?_
      refine aw_aload_n (q := 179) (j := 0) rfl rfl rfl (List.mem_of_getElem? (i := 0) rfl) ?_
      refine ag_getI (q := 182) rfl rfl fl_Rs_233 rfl (SX.o hS rfl) ?_
      exact aw_ireturn (ty := .int) rfl rfl rfl (by decide) (by decide) h
    | 13, _, e => 
      have e : x1 = 13 := Int32.toInt_inj.mp (e.trans (by decide))
      replace h := h.2.2.2.2.2.2.2.2.2.2.2.2.2.1 e
      refine aw_tableEq (tgt := 183) rfl e (by decide) (by decide) rfl (by decide) ?_
      refine aw_aload_n (q := 184) (j := 0) rfl rfl rfl (List.mem_of_getElem? (i := 0) rfl) ?_
      refine ag_getR (q := 187) rfl rfl fl_Rs_39 rfl (SX.o hS rfl) (SX.r hS rfl) ?_
      refine ag_getI (q := 190) rfl rfl fl_Rs_330 rfl (SX.o hS rfl) ?_
      exact aw_ireturn (ty := .int) rfl rfl rfl (by decide) (by decide) h
    | 14, _, e => 
      have e : x1 = 14 := Int32.toInt_inj.mp (e.trans (by decide))
      replace h := h.2.2.2.2.2.2.2.2.2.2.2.2.2.2.1 e
      refine aw_tableEq (tgt := 191) rfl e (by decide) (by decide) rfl (by decide) ?_
      refine aw_aload_n (q := 192) (j := 0) rfl rfl rfl (List.mem_of_getElem? (i := 0) rfl) ?_
      refine ag_getI (q := 195) rfl rfl fl_Rs_341 rfl (SX.o hS rfl) ?_
      refine ag_csI (z := m_Int_bitCount) (av := [.int _]) (st := []) (q := 198) (k' := 0) (n' := 0) rfl rfl cs_Rs_297 ⟨by decide, by decide⟩ rfl rfl (by decide) (by decide) rfl rfl (Nat.le_of_ble_eq_true rfl) ?_
      refine GI.mono h (fun y2_ t2_ h => ?_)
      exact aw_ireturn (ty := .int) rfl rfl rfl (by decide) (by decide) h
    | 15, _, e => 
      have e : x1 = 15 := Int32.toInt_inj.mp (e.trans (by decide))
      replace h := h.2.2.2.2.2.2.2.2.2.2.2.2.2.2.2 e
      refine aw_tableEq (tgt := 199) rfl e (by decide) (by decide) rfl (by decide) ?_
      refine aw_aload_n (q := 200) (j := 0) rfl rfl rfl (List.mem_of_getElem? (i := 0) rfl) ?_
      refine ag_getR (q := 203) rfl rfl fl_Rs_46 rfl (SX.o hS rfl) (SX.r hS rfl) ?_
      refine ag_cvI (z := m_House_allInHeap) (ci := 2) (av := []) (st := []) (q := 206) (k' := 0) (n' := 0) rfl rfl cv_Rs_265 ⟨by decide, by decide⟩ rfl rfl (by decide) (by decide) (HS.o (HS.of hS (b := 74) rfl)) rfl rfl rfl (Nat.le_of_ble_eq_true rfl) ?_
      refine GI.mono h (fun y3_ t3_ h => ?_)
      refine aw_aload_n (q := 207) (j := 0) rfl rfl rfl (List.mem_of_getElem? (i := 0) rfl) ?_
      refine ag_getR (q := 210) rfl rfl fl_Rs_46 rfl (SX.o hS rfl) (SX.r hS rfl) ?_
      refine ag_cvI (z := m_House_allInHoles) (ci := 2) (av := []) (st := [.int _]) (q := 213) (k' := 0) (n' := 0) rfl rfl cv_Rs_268 ⟨by decide, by decide⟩ rfl rfl (by decide) (by decide) (HS.o (HS.of hS (b := 74) rfl)) rfl rfl rfl (Nat.le_of_ble_eq_true rfl) ?_
      refine GI.mono h (fun y4_ t4_ h => ?_)
      refine aw_iadd (q := 214) rfl rfl ?_
      refine aw_aload_n (q := 215) (j := 0) rfl rfl rfl (List.mem_of_getElem? (i := 0) rfl) ?_
      refine ag_getR (q := 218) rfl rfl fl_Rs_46 rfl (SX.o hS rfl) (SX.r hS rfl) ?_
      refine aw_aload_n (q := 219) (j := 0) rfl rfl rfl (List.mem_of_getElem? (i := 0) rfl) ?_
      refine ag_getR (q := 222) rfl rfl fl_Rs_60 rfl (SX.o hS rfl) ht ?_
      refine ag_cvI (z := m_House_allCarried) (ci := 2) (av := [.ref _]) (st := [.int _]) (q := 225) (k' := 0) (n' := 0) rfl rfl cv_Rs_350 ⟨by decide, by decide⟩ rfl rfl (by decide) (by decide) (HS.o (HS.of hS (b := 74) rfl)) rfl rfl rfl (Nat.le_of_ble_eq_true rfl) ?_
      refine GI.mono h (fun y5_ t5_ h => ?_)
      refine aw_iadd (q := 226) rfl rfl ?_
      exact aw_ireturn (ty := .int) rfl rfl rfl (by decide) (by decide) h
    | j + 16, hj, _ => exact absurd hj (by omega)
set_option maxRecDepth 20000 in
theorem v_Mo_plain_54 {E : EN} {g : GS} {s : MS} {Q : Option Value → SG → Prop} (x1 : Int32) (x2 : Int32) (hS : SX g) (h : ((3 ≤ x2 → Q none (mk g s)) ∧ (¬ 3 ≤ x2 → vp_in ((3 * x1) + x2) 6 ∧ (∀ s1_, s1_ = wi s 150 ((((3 * x1) + x2)).toNatClampNeg) 0 → (∀ s2_, s2_ = wi s1_ 151 ((((3 * x1) + x2)).toNatClampNeg) 0 → AWP E m_Mo_plain 54 0 0 [(0, .ref 120), (1, .int x1), (2, .int (x2 + 1))] [] (mk g s2_) Q))))) : AWP E m_Mo_plain 54 0 0 [(0, .ref 120), (1, .int x1), (2, .int x2)] [] (mk g s) Q := by
  refine aw_iload_n (q := 55) (j := 2) rfl rfl rfl (List.mem_of_getElem? (i := 2) rfl) ?_
  refine aw_iconst (q := 56) (v := 3) rfl rfl (by decide) ?_
  refine aw_icmp_ge (q := 59) (tgt := 87) rfl rfl (by decide) ⟨fun cd_1 => ?_, fun cd_1 => ?_⟩
  · replace h := h.1 cd_1
    exact aw_return rfl rfl (by decide) (by decide) h
  · replace h := h.2 cd_1
    refine aw_aload_n (q := 60) (j := 0) rfl rfl rfl (List.mem_of_getElem? (i := 0) rfl) ?_
    refine ag_getR (q := 63) rfl rfl fl_Mo_106 rfl (SX.o hS rfl) (SX.r hS rfl) ?_
    refine aw_iconst (q := 64) (v := 3) rfl rfl (by decide) ?_
    refine aw_iload_n (q := 65) (j := 1) rfl rfl rfl (List.mem_of_getElem? (i := 1) rfl) ?_
    refine aw_imul (q := 66) rfl rfl ?_
    refine aw_iload_n (q := 67) (j := 2) rfl rfl rfl (List.mem_of_getElem? (i := 2) rfl) ?_
    refine aw_iadd (q := 68) rfl rfl ?_
    refine aw_iconst (q := 69) (v := 0) rfl rfl (by decide) ?_
    obtain ⟨bd_2, h⟩ := h
    refine ag_iastore (q := 70) (N := 6) rfl rfl (SX.a hS rfl) bd_2 ?_
    replace h := h _ rfl
    refine aw_aload_n (q := 71) (j := 0) rfl rfl rfl (List.mem_of_getElem? (i := 0) rfl) ?_
    refine ag_getR (q := 74) rfl rfl fl_Mo_109 rfl (SX.o hS rfl) (SX.r hS rfl) ?_
    refine aw_iconst (q := 75) (v := 3) rfl rfl (by decide) ?_
    refine aw_iload_n (q := 76) (j := 1) rfl rfl rfl (List.mem_of_getElem? (i := 1) rfl) ?_
    refine aw_imul (q := 77) rfl rfl ?_
    refine aw_iload_n (q := 78) (j := 2) rfl rfl rfl (List.mem_of_getElem? (i := 2) rfl) ?_
    refine aw_iadd (q := 79) rfl rfl ?_
    refine aw_iconst (q := 80) (v := 0) rfl rfl (by decide) ?_
    refine ag_iastore (q := 81) (N := 6) rfl rfl (SX.a hS rfl) bd_2 ?_
    replace h := h _ rfl
    refine aw_iinc (q := 84) (v := _ + 1) (ls' := [(2, .int _), (0, .ref _), (1, .int _)]) rfl rfl (List.mem_of_getElem? (i := 2) rfl) rfl (by decide) rfl ?_
    refine aw_goto (tgt := 54) rfl (by decide) ?_
    refine aw_ls [1, 2, 0] rfl ?_
    exact h
set_option maxRecDepth 20000 in
theorem v_Mo_plain {E : EN} {g : GS} {s : MS} {Q : Option Value → SG → Prop} (x1 : Int32) (hS : SX g) (h : vp_in x1 2 ∧ (∀ s1_, s1_ = wi s 131 ((x1).toNatClampNeg) 0 → (∀ s2_, s2_ = wi s1_ 134 ((x1).toNatClampNeg) 0 → (∀ s3_, s3_ = wi s2_ 137 ((x1).toNatClampNeg) 0 → (∀ s4_, s4_ = wi s3_ 142 ((x1).toNatClampNeg) 0 → (∀ s5_, s5_ = wi s4_ 147 ((x1).toNatClampNeg) 9999 → (∀ s6_, s6_ = wi s5_ 148 ((x1).toNatClampNeg) 50 → (∀ s7_, s7_ = wi s6_ 149 ((x1).toNatClampNeg) 0 → AWP E m_Mo_plain 54 0 0 [(0, .ref 120), (1, .int x1), (2, .int 0)] [] (mk g s7_) Q)))))))) : AMet E m_Mo_plain [.ref 120, .int x1] (mk g s) Q := by
  refine AMet.of (by decide) k_Mo_plain [(0, .ref 120), (1, .int x1)] (Nat.le_of_ble_eq_true rfl) rfl ?_
  refine aw_aload_n (q := 1) (j := 0) rfl rfl rfl (List.mem_of_getElem? (i := 0) rfl) ?_
  refine ag_getR (q := 4) rfl rfl fl_Mo_49 rfl (SX.o hS rfl) (SX.r hS rfl) ?_
  refine aw_iload_n (q := 5) (j := 1) rfl rfl rfl (List.mem_of_getElem? (i := 1) rfl) ?_
  refine aw_iconst (q := 6) (v := 0) rfl rfl (by decide) ?_
  obtain ⟨bd_1, h⟩ := h
  refine ag_iastore (q := 7) (N := 2) rfl rfl (SX.a hS rfl) bd_1 ?_
  replace h := h _ rfl
  refine aw_aload_n (q := 8) (j := 0) rfl rfl rfl (List.mem_of_getElem? (i := 0) rfl) ?_
  refine ag_getR (q := 11) rfl rfl fl_Mo_58 rfl (SX.o hS rfl) (SX.r hS rfl) ?_
  refine aw_iload_n (q := 12) (j := 1) rfl rfl rfl (List.mem_of_getElem? (i := 1) rfl) ?_
  refine aw_iconst (q := 13) (v := 0) rfl rfl (by decide) ?_
  refine ag_iastore (q := 14) (N := 2) rfl rfl (SX.a hS rfl) bd_1 ?_
  replace h := h _ rfl
  refine aw_aload_n (q := 15) (j := 0) rfl rfl rfl (List.mem_of_getElem? (i := 0) rfl) ?_
  refine ag_getR (q := 18) rfl rfl fl_Mo_67 rfl (SX.o hS rfl) (SX.r hS rfl) ?_
  refine aw_iload_n (q := 19) (j := 1) rfl rfl rfl (List.mem_of_getElem? (i := 1) rfl) ?_
  refine aw_iconst (q := 20) (v := 0) rfl rfl (by decide) ?_
  refine ag_iastore (q := 21) (N := 2) rfl rfl (SX.a hS rfl) bd_1 ?_
  replace h := h _ rfl
  refine aw_aload_n (q := 22) (j := 0) rfl rfl rfl (List.mem_of_getElem? (i := 0) rfl) ?_
  refine ag_getR (q := 25) rfl rfl fl_Mo_82 rfl (SX.o hS rfl) (SX.r hS rfl) ?_
  refine aw_iload_n (q := 26) (j := 1) rfl rfl rfl (List.mem_of_getElem? (i := 1) rfl) ?_
  refine aw_iconst (q := 27) (v := 0) rfl rfl (by decide) ?_
  refine ag_iastore (q := 28) (N := 2) rfl rfl (SX.a hS rfl) bd_1 ?_
  replace h := h _ rfl
  refine aw_aload_n (q := 29) (j := 0) rfl rfl rfl (List.mem_of_getElem? (i := 0) rfl) ?_
  refine ag_getR (q := 32) rfl rfl fl_Mo_97 rfl (SX.o hS rfl) (SX.r hS rfl) ?_
  refine aw_iload_n (q := 33) (j := 1) rfl rfl rfl (List.mem_of_getElem? (i := 1) rfl) ?_
  refine aw_sipush (q := 36) (v := 9999) rfl rfl (by decide) ?_
  refine ag_iastore (q := 37) (N := 2) rfl rfl (SX.a hS rfl) bd_1 ?_
  replace h := h _ rfl
  refine aw_aload_n (q := 38) (j := 0) rfl rfl rfl (List.mem_of_getElem? (i := 0) rfl) ?_
  refine ag_getR (q := 41) rfl rfl fl_Mo_100 rfl (SX.o hS rfl) (SX.r hS rfl) ?_
  refine aw_iload_n (q := 42) (j := 1) rfl rfl rfl (List.mem_of_getElem? (i := 1) rfl) ?_
  refine aw_bipush (q := 44) (v := 50) rfl rfl (by decide) ?_
  refine ag_iastore (q := 45) (N := 2) rfl rfl (SX.a hS rfl) bd_1 ?_
  replace h := h _ rfl
  refine aw_aload_n (q := 46) (j := 0) rfl rfl rfl (List.mem_of_getElem? (i := 0) rfl) ?_
  refine ag_getR (q := 49) rfl rfl fl_Mo_103 rfl (SX.o hS rfl) (SX.r hS rfl) ?_
  refine aw_iload_n (q := 50) (j := 1) rfl rfl rfl (List.mem_of_getElem? (i := 1) rfl) ?_
  refine aw_iconst (q := 51) (v := 0) rfl rfl (by decide) ?_
  refine ag_iastore (q := 52) (N := 2) rfl rfl (SX.a hS rfl) bd_1 ?_
  replace h := h _ rfl
  refine aw_iconst (q := 53) (v := 0) rfl rfl (by decide) ?_
  refine aw_istore_n (q := 54) (j := 2) (ls' := [(2, .int _), (0, .ref _), (1, .int _)]) rfl rfl rfl (by decide) rfl ?_
  refine aw_ls [1, 2, 0] rfl ?_
  exact h
set_option maxRecDepth 20000 in
theorem v_Mo_word {E : EN} {g : GS} {s : MS} {Q : Option Value → SG → Prop} (x0 : Int32) (x1 : Int32) (x2 : Int32) (x3 : Int32) (x4 : Int32) (x5 : Int32) (x6 : Int32) (h : GL E m_Mo_appends [.long 0, .int x0] g s (fun y1_ t1_ => GL E m_Mo_appends [.long y1_, .int x1] g t1_ (fun y2_ t2_ => GL E m_Mo_appends [.long y2_, .int x2] g t2_ (fun y3_ t3_ => GL E m_Mo_appends [.long y3_, .int x3] g t3_ (fun y4_ t4_ => GL E m_Mo_appends [.long y4_, .int x4] g t4_ (fun y5_ t5_ => GL E m_Mo_appends [.long y5_, .int x5] g t5_ (fun y6_ t6_ => GL E m_Mo_appends [.long y6_, .int x6] g t6_ (fun y7_ t7_ => Q (some (.long y7_)) (mk g t7_))))))))) : AMet E m_Mo_word [.int x0, .int x1, .int x2, .int x3, .int x4, .int x5, .int x6] (mk g s) Q := by
  refine AMet.of (by decide) k_Mo_word [(0, .int x0), (1, .int x1), (2, .int x2), (3, .int x3), (4, .int x4), (5, .int x5), (6, .int x6)] (Nat.le_of_ble_eq_true rfl) rfl ?_
  refine aw_lconst (q := 1) (v := 0) rfl rfl (by decide) ?_
  refine aw_iload_n (q := 2) (j := 0) rfl rfl rfl (List.mem_of_getElem? (i := 0) rfl) ?_
  refine ag_csL (z := m_Mo_appends) (av := [.long _, .int _]) (st := []) (q := 5) (k' := 0) (n' := 0) rfl rfl cs_Mo_201 ⟨by decide, by decide⟩ rfl rfl (by decide) (by decide) rfl rfl (Nat.le_of_ble_eq_true rfl) ?_
  refine GL.mono h (fun y1_ t1_ h => ?_)
  refine aw_iload_n (q := 6) (j := 1) rfl rfl rfl (List.mem_of_getElem? (i := 1) rfl) ?_
  refine ag_csL (z := m_Mo_appends) (av := [.long _, .int _]) (st := []) (q := 9) (k' := 0) (n' := 0) rfl rfl cs_Mo_201 ⟨by decide, by decide⟩ rfl rfl (by decide) (by decide) rfl rfl (Nat.le_of_ble_eq_true rfl) ?_
  refine GL.mono h (fun y2_ t2_ h => ?_)
  refine aw_iload_n (q := 10) (j := 2) rfl rfl rfl (List.mem_of_getElem? (i := 2) rfl) ?_
  refine ag_csL (z := m_Mo_appends) (av := [.long _, .int _]) (st := []) (q := 13) (k' := 0) (n' := 0) rfl rfl cs_Mo_201 ⟨by decide, by decide⟩ rfl rfl (by decide) (by decide) rfl rfl (Nat.le_of_ble_eq_true rfl) ?_
  refine GL.mono h (fun y3_ t3_ h => ?_)
  refine aw_iload_n (q := 14) (j := 3) rfl rfl rfl (List.mem_of_getElem? (i := 3) rfl) ?_
  refine ag_csL (z := m_Mo_appends) (av := [.long _, .int _]) (st := []) (q := 17) (k' := 0) (n' := 0) rfl rfl cs_Mo_201 ⟨by decide, by decide⟩ rfl rfl (by decide) (by decide) rfl rfl (Nat.le_of_ble_eq_true rfl) ?_
  refine GL.mono h (fun y4_ t4_ h => ?_)
  refine aw_iload (q := 19) (j := 4) rfl rfl (List.mem_of_getElem? (i := 4) rfl) ?_
  refine ag_csL (z := m_Mo_appends) (av := [.long _, .int _]) (st := []) (q := 22) (k' := 0) (n' := 0) rfl rfl cs_Mo_201 ⟨by decide, by decide⟩ rfl rfl (by decide) (by decide) rfl rfl (Nat.le_of_ble_eq_true rfl) ?_
  refine GL.mono h (fun y5_ t5_ h => ?_)
  refine aw_iload (q := 24) (j := 5) rfl rfl (List.mem_of_getElem? (i := 5) rfl) ?_
  refine ag_csL (z := m_Mo_appends) (av := [.long _, .int _]) (st := []) (q := 27) (k' := 0) (n' := 0) rfl rfl cs_Mo_201 ⟨by decide, by decide⟩ rfl rfl (by decide) (by decide) rfl rfl (Nat.le_of_ble_eq_true rfl) ?_
  refine GL.mono h (fun y6_ t6_ h => ?_)
  refine aw_iload (q := 29) (j := 6) rfl rfl (List.mem_of_getElem? (i := 6) rfl) ?_
  refine ag_csL (z := m_Mo_appends) (av := [.long _, .int _]) (st := []) (q := 32) (k' := 0) (n' := 0) rfl rfl cs_Mo_201 ⟨by decide, by decide⟩ rfl rfl (by decide) (by decide) rfl rfl (Nat.le_of_ble_eq_true rfl) ?_
  refine GL.mono h (fun y7_ t7_ h => ?_)
  exact aw_lreturn rfl rfl (by decide) (by decide) h
set_option maxRecDepth 20000 in
theorem v_Mo_appends {E : EN} {g : GS} {s : MS} {Q : Option Value → SG → Prop} (l0 : Int64) (x2 : Int32) (h : ((x2 = 0 → Q (some (.long l0)) (mk g s)) ∧ (¬ x2 = 0 → Q (some (.long ((27 * l0) + (Int32.toInt64 ((x2 - 97) + 1))))) (mk g s)))) : AMet E m_Mo_appends [.long l0, .int x2] (mk g s) Q := by
  refine AMet.of (by decide) k_Mo_appends [(0, .long l0), (2, .int x2)] (Nat.le_of_ble_eq_true rfl) rfl ?_
  refine aw_iload_n (q := 1) (j := 2) rfl rfl rfl (List.mem_of_getElem? (i := 1) rfl) ?_
  refine aw_if_ne (q := 4) (tgt := 8) rfl rfl (by decide) ⟨fun cd_1 => ?_, fun cd_1 => ?_⟩
  · replace h := h.1 cd_1
    refine aw_lload_n (q := 5) (j := 0) rfl rfl rfl (List.mem_of_getElem? (i := 0) rfl) ?_
    refine aw_goto (tgt := 21) rfl (by decide) ?_
    exact aw_lreturn rfl rfl (by decide) (by decide) h
  · replace h := h.2 cd_1
    refine aw_ldc2 (q := 11) rfl rfl kl_Mo_199 ?_
    refine aw_lload_n (q := 12) (j := 0) rfl rfl rfl (List.mem_of_getElem? (i := 0) rfl) ?_
    refine aw_lmul (q := 13) rfl rfl ?_
    refine aw_iload_n (q := 14) (j := 2) rfl rfl rfl (List.mem_of_getElem? (i := 1) rfl) ?_
    refine aw_bipush (q := 16) (v := 97) rfl rfl (by decide) ?_
    refine aw_isub (q := 17) rfl rfl ?_
    refine aw_iconst (q := 18) (v := 1) rfl rfl (by decide) ?_
    refine aw_iadd (q := 19) rfl rfl ?_
    refine aw_i2l (q := 20) rfl rfl ?_
    refine aw_ladd (q := 21) rfl rfl ?_
    exact aw_lreturn rfl rfl (by decide) (by decide) h
set_option maxRecDepth 20000 in
theorem v_Mo_begins_2 {E : EN} {g : GS} {s : MS} {Q : Option Value → SG → Prop} (x1 : Int32) (hS : SX g) (h : ((120 ≤ x1 → AWP E m_Mo_begins 23 0 0 [(0, .ref 120), (1, .int 0)] [] (mk g s) Q) ∧ (¬ 120 ≤ x1 → vp_in x1 120 ∧ (∀ s1_, s1_ = wi s 163 ((x1).toNatClampNeg) 0 → AWP E m_Mo_begins 2 0 0 [(0, .ref 120), (1, .int (x1 + 1))] [] (mk g s1_) Q)))) : AWP E m_Mo_begins 2 0 0 [(0, .ref 120), (1, .int x1)] [] (mk g s) Q := by
  refine aw_iload_n (q := 3) (j := 1) rfl rfl rfl (List.mem_of_getElem? (i := 1) rfl) ?_
  refine aw_bipush (q := 5) (v := 120) rfl rfl (by decide) ?_
  refine aw_icmp_ge (q := 8) (tgt := 21) rfl rfl (by decide) ⟨fun cd_1 => ?_, fun cd_1 => ?_⟩
  · replace h := h.1 cd_1
    refine aw_iconst (q := 22) (v := 0) rfl rfl (by decide) ?_
    refine aw_istore_n (q := 23) (j := 1) (ls' := [(1, .int _), (0, .ref _)]) rfl rfl rfl (by decide) rfl ?_
    refine aw_ls [1, 0] rfl ?_
    exact h
  · replace h := h.2 cd_1
    refine aw_aload_n (q := 9) (j := 0) rfl rfl rfl (List.mem_of_getElem? (i := 0) rfl) ?_
    refine ag_getR (q := 12) rfl rfl fl_Mo_146 rfl (SX.o hS rfl) (SX.r hS rfl) ?_
    refine aw_iload_n (q := 13) (j := 1) rfl rfl rfl (List.mem_of_getElem? (i := 1) rfl) ?_
    refine aw_iconst (q := 14) (v := 0) rfl rfl (by decide) ?_
    obtain ⟨bd_2, h⟩ := h
    refine ag_iastore (q := 15) (N := 120) rfl rfl (SX.a hS rfl) bd_2 ?_
    replace h := h _ rfl
    refine aw_iinc (q := 18) (v := _ + 1) (ls' := [(1, .int _), (0, .ref _)]) rfl rfl (List.mem_of_getElem? (i := 1) rfl) rfl (by decide) rfl ?_
    refine aw_goto (tgt := 2) rfl (by decide) ?_
    refine aw_ls [1, 0] rfl ?_
    exact h
set_option maxRecDepth 20000 in
theorem v_Mo_begins_23 {E : EN} {g : GS} {s : MS} {Q : Option Value → SG → Prop} (x1 : Int32) (hS : SX g) (h : vp_in (s.1 120 18) 2 ∧ (((s.1 131 (((s.1 120 18)).toNatClampNeg)) ≤ x1 → AWP E m_Mo_begins 64 0 0 [(0, .ref 120), (1, .int 0)] [] (mk g s) Q) ∧ (¬ (s.1 131 (((s.1 120 18)).toNatClampNeg)) ≤ x1 → vp_in ((6 * (s.1 120 18)) + x1) 12 ∧ vp_in x1 120 ∧ (∀ s1_, s1_ = wi s 163 ((x1).toNatClampNeg) (s.1 132 ((((6 * (s.1 120 18)) + x1)).toNatClampNeg)) → AWP E m_Mo_begins 23 0 0 [(0, .ref 120), (1, .int (x1 + 1))] [] (mk g s1_) Q)))) : AWP E m_Mo_begins 23 0 0 [(0, .ref 120), (1, .int x1)] [] (mk g s) Q := by
  refine aw_iload_n (q := 24) (j := 1) rfl rfl rfl (List.mem_of_getElem? (i := 1) rfl) ?_
  refine aw_aload_n (q := 25) (j := 0) rfl rfl rfl (List.mem_of_getElem? (i := 0) rfl) ?_
  refine ag_getR (q := 28) rfl rfl fl_Mo_49 rfl (SX.o hS rfl) (SX.r hS rfl) ?_
  refine aw_aload_n (q := 29) (j := 0) rfl rfl rfl (List.mem_of_getElem? (i := 0) rfl) ?_
  refine ag_getI (q := 32) rfl rfl fl_Mo_257 rfl (SX.o hS rfl) ?_
  obtain ⟨bd_1, h⟩ := h
  refine ag_iaload (q := 33) (N := 2) rfl rfl (SX.a hS rfl) bd_1 ?_
  refine aw_icmp_ge (q := 36) (tgt := 62) rfl rfl (by decide) ⟨fun cd_2 => ?_, fun cd_2 => ?_⟩
  · replace h := h.1 cd_2
    refine aw_iconst (q := 63) (v := 0) rfl rfl (by decide) ?_
    refine aw_istore_n (q := 64) (j := 1) (ls' := [(1, .int _), (0, .ref _)]) rfl rfl rfl (by decide) rfl ?_
    refine aw_ls [1, 0] rfl ?_
    exact h
  · replace h := h.2 cd_2
    refine aw_aload_n (q := 37) (j := 0) rfl rfl rfl (List.mem_of_getElem? (i := 0) rfl) ?_
    refine ag_getR (q := 40) rfl rfl fl_Mo_146 rfl (SX.o hS rfl) (SX.r hS rfl) ?_
    refine aw_iload_n (q := 41) (j := 1) rfl rfl rfl (List.mem_of_getElem? (i := 1) rfl) ?_
    refine aw_aload_n (q := 42) (j := 0) rfl rfl rfl (List.mem_of_getElem? (i := 0) rfl) ?_
    refine ag_getR (q := 45) rfl rfl fl_Mo_52 rfl (SX.o hS rfl) (SX.r hS rfl) ?_
    refine aw_bipush (q := 47) (v := 6) rfl rfl (by decide) ?_
    refine aw_aload_n (q := 48) (j := 0) rfl rfl rfl (List.mem_of_getElem? (i := 0) rfl) ?_
    refine ag_getI (q := 51) rfl rfl fl_Mo_257 rfl (SX.o hS rfl) ?_
    refine aw_imul (q := 52) rfl rfl ?_
    refine aw_iload_n (q := 53) (j := 1) rfl rfl rfl (List.mem_of_getElem? (i := 1) rfl) ?_
    refine aw_iadd (q := 54) rfl rfl ?_
    obtain ⟨bd_3, h⟩ := h
    refine ag_iaload (q := 55) (N := 12) rfl rfl (SX.a hS rfl) bd_3 ?_
    obtain ⟨bd_4, h⟩ := h
    refine ag_iastore (q := 56) (N := 120) rfl rfl (SX.a hS rfl) bd_4 ?_
    replace h := h _ rfl
    refine aw_iinc (q := 59) (v := _ + 1) (ls' := [(1, .int _), (0, .ref _)]) rfl rfl (List.mem_of_getElem? (i := 1) rfl) rfl (by decide) rfl ?_
    refine aw_goto (tgt := 23) rfl (by decide) ?_
    refine aw_ls [1, 0] rfl ?_
    exact h
set_option maxRecDepth 20000 in
theorem v_Mo_begins_64 {E : EN} {g : GS} {s : MS} {Q : Option Value → SG → Prop} (x1 : Int32) (hS : SX g) (h : ((8 ≤ x1 → GV E m_Mo_plainly [.ref 120] g s (fun t1_ => Q none (mk g t1_))) ∧ (¬ 8 ≤ x1 → vp_in (66 + x1) 120 ∧ (∀ s2_, s2_ = wi s 163 (((66 + x1)).toNatClampNeg) (-2) → vp_in ((8 * (s.1 120 18)) + x1) 16 ∧ vp_in (82 + x1) 120 ∧ (∀ s3_, s3_ = wi s2_ 163 (((82 + x1)).toNatClampNeg) (s.1 140 ((((8 * (s.1 120 18)) + x1)).toNatClampNeg)) → vp_in (90 + x1) 120 ∧ (∀ s4_, s4_ = wi s3_ 163 (((90 + x1)).toNatClampNeg) (s.1 138 ((((8 * (s.1 120 18)) + x1)).toNatClampNeg)) → vp_in (106 + x1) 120 ∧ (∀ s5_, s5_ = wi s4_ 163 (((106 + x1)).toNatClampNeg) (-2) → AWP E m_Mo_begins 64 0 0 [(0, .ref 120), (1, .int (x1 + 1))] [] (mk g s5_) Q))))))) : AWP E m_Mo_begins 64 0 0 [(0, .ref 120), (1, .int x1)] [] (mk g s) Q := by
  refine aw_iload_n (q := 65) (j := 1) rfl rfl rfl (List.mem_of_getElem? (i := 1) rfl) ?_
  refine aw_bipush (q := 67) (v := 8) rfl rfl (by decide) ?_
  refine aw_icmp_ge (q := 70) (tgt := 144) rfl rfl (by decide) ⟨fun cd_1 => ?_, fun cd_1 => ?_⟩
  · replace h := h.1 cd_1
    refine aw_aload_n (q := 145) (j := 0) rfl rfl rfl (List.mem_of_getElem? (i := 0) rfl) ?_
    refine ag_cvV (z := m_Mo_plainly) (ci := 11) (av := []) (st := []) (q := 148) (k' := 0) (n' := 0) rfl rfl cv_Mo_347 ⟨by decide, by decide⟩ rfl rfl (by decide) (by decide) (SX.o hS rfl) rfl rfl rfl (Nat.le_of_ble_eq_true rfl) ?_
    refine GV.mono h (fun t1_ h => ?_)
    exact aw_return rfl rfl (by decide) (by decide) h
  · replace h := h.2 cd_1
    refine aw_aload_n (q := 71) (j := 0) rfl rfl rfl (List.mem_of_getElem? (i := 0) rfl) ?_
    refine ag_getR (q := 74) rfl rfl fl_Mo_146 rfl (SX.o hS rfl) (SX.r hS rfl) ?_
    refine aw_bipush (q := 76) (v := 66) rfl rfl (by decide) ?_
    refine aw_iload_n (q := 77) (j := 1) rfl rfl rfl (List.mem_of_getElem? (i := 1) rfl) ?_
    refine aw_iadd (q := 78) rfl rfl ?_
    refine aw_bipush (q := 80) (v := (-2)) rfl rfl (by decide) ?_
    obtain ⟨bd_2, h⟩ := h
    refine ag_iastore (q := 81) (N := 120) rfl rfl (SX.a hS rfl) bd_2 ?_
    replace h := h _ rfl
    refine aw_aload_n (q := 82) (j := 0) rfl rfl rfl (List.mem_of_getElem? (i := 0) rfl) ?_
    refine ag_getR (q := 85) rfl rfl fl_Mo_146 rfl (SX.o hS rfl) (SX.r hS rfl) ?_
    refine aw_bipush (q := 87) (v := 82) rfl rfl (by decide) ?_
    refine aw_iload_n (q := 88) (j := 1) rfl rfl rfl (List.mem_of_getElem? (i := 1) rfl) ?_
    refine aw_iadd (q := 89) rfl rfl ?_
    refine aw_aload_n (q := 90) (j := 0) rfl rfl rfl (List.mem_of_getElem? (i := 0) rfl) ?_
    refine ag_getR (q := 93) rfl rfl fl_Mo_76 rfl (SX.o hS rfl) (SX.r hS rfl) ?_
    refine aw_bipush (q := 95) (v := 8) rfl rfl (by decide) ?_
    refine aw_aload_n (q := 96) (j := 0) rfl rfl rfl (List.mem_of_getElem? (i := 0) rfl) ?_
    refine ag_getI (q := 99) rfl rfl fl_Mo_257 rfl (SX.o hS rfl) ?_
    refine aw_imul (q := 100) rfl rfl ?_
    refine aw_iload_n (q := 101) (j := 1) rfl rfl rfl (List.mem_of_getElem? (i := 1) rfl) ?_
    refine aw_iadd (q := 102) rfl rfl ?_
    obtain ⟨bd_3, h⟩ := h
    refine ag_iaload (q := 103) (N := 16) rfl rfl (SX.a hS rfl) bd_3 ?_
    obtain ⟨bd_4, h⟩ := h
    refine ag_iastore (q := 104) (N := 120) rfl rfl (SX.a hS rfl) bd_4 ?_
    replace h := h _ rfl
    refine aw_aload_n (q := 105) (j := 0) rfl rfl rfl (List.mem_of_getElem? (i := 0) rfl) ?_
    refine ag_getR (q := 108) rfl rfl fl_Mo_146 rfl (SX.o hS rfl) (SX.r hS rfl) ?_
    refine aw_bipush (q := 110) (v := 90) rfl rfl (by decide) ?_
    refine aw_iload_n (q := 111) (j := 1) rfl rfl rfl (List.mem_of_getElem? (i := 1) rfl) ?_
    refine aw_iadd (q := 112) rfl rfl ?_
    refine aw_aload_n (q := 113) (j := 0) rfl rfl rfl (List.mem_of_getElem? (i := 0) rfl) ?_
    refine ag_getR (q := 116) rfl rfl fl_Mo_70 rfl (SX.o hS rfl) (SX.r hS rfl) ?_
    refine aw_bipush (q := 118) (v := 8) rfl rfl (by decide) ?_
    refine aw_aload_n (q := 119) (j := 0) rfl rfl rfl (List.mem_of_getElem? (i := 0) rfl) ?_
    refine ag_getI (q := 122) rfl rfl fl_Mo_257 rfl (SX.o hS rfl) ?_
    refine aw_imul (q := 123) rfl rfl ?_
    refine aw_iload_n (q := 124) (j := 1) rfl rfl rfl (List.mem_of_getElem? (i := 1) rfl) ?_
    refine aw_iadd (q := 125) rfl rfl ?_
    refine ag_iaload (q := 126) (N := 16) rfl rfl (SX.a hS rfl) bd_3 ?_
    obtain ⟨bd_5, h⟩ := h
    refine ag_iastore (q := 127) (N := 120) rfl rfl (SX.a hS rfl) bd_5 ?_
    replace h := h _ rfl
    refine aw_aload_n (q := 128) (j := 0) rfl rfl rfl (List.mem_of_getElem? (i := 0) rfl) ?_
    refine ag_getR (q := 131) rfl rfl fl_Mo_146 rfl (SX.o hS rfl) (SX.r hS rfl) ?_
    refine aw_bipush (q := 133) (v := 106) rfl rfl (by decide) ?_
    refine aw_iload_n (q := 134) (j := 1) rfl rfl rfl (List.mem_of_getElem? (i := 1) rfl) ?_
    refine aw_iadd (q := 135) rfl rfl ?_
    refine aw_bipush (q := 137) (v := (-2)) rfl rfl (by decide) ?_
    obtain ⟨bd_6, h⟩ := h
    refine ag_iastore (q := 138) (N := 120) rfl rfl (SX.a hS rfl) bd_6 ?_
    replace h := h _ rfl
    refine aw_iinc (q := 141) (v := _ + 1) (ls' := [(1, .int _), (0, .ref _)]) rfl rfl (List.mem_of_getElem? (i := 1) rfl) rfl (by decide) rfl ?_
    refine aw_goto (tgt := 64) rfl (by decide) ?_
    refine aw_ls [1, 0] rfl ?_
    exact h
set_option maxRecDepth 20000 in
theorem v_Mo_begins {E : EN} {g : GS} {s : MS} {Q : Option Value → SG → Prop}  (h : AWP E m_Mo_begins 2 0 0 [(0, .ref 120), (1, .int 0)] [] (mk g s) Q) : AMet E m_Mo_begins [.ref 120] (mk g s) Q := by
  refine AMet.of (by decide) k_Mo_begins [(0, .ref 120)] (Nat.le_of_ble_eq_true rfl) rfl ?_
  refine aw_iconst (q := 1) (v := 0) rfl rfl (by decide) ?_
  refine aw_istore_n (q := 2) (j := 1) (ls' := [(1, .int _), (0, .ref _)]) rfl rfl rfl (by decide) rfl ?_
  refine aw_ls [1, 0] rfl ?_
  exact h
set_option maxRecDepth 20000 in
theorem v_Mo_plainly_15 {E : EN} {g : GS} {s : MS} {Q : Option Value → SG → Prop} (x1 : Int32) (hS : SX g) (h : ((6 ≤ x1 → Q none (mk g s)) ∧ (¬ 6 ≤ x1 → vp_in ((6 * (s.1 120 18)) + x1) 12 ∧ vp_in x1 6 ∧ (∀ s1_, s1_ = wi s 164 ((x1).toNatClampNeg) (s.1 135 ((((6 * (s.1 120 18)) + x1)).toNatClampNeg)) → AWP E m_Mo_plainly 15 0 0 [(0, .ref 120), (1, .int (x1 + 1))] [] (mk g s1_) Q)))) : AWP E m_Mo_plainly 15 0 0 [(0, .ref 120), (1, .int x1)] [] (mk g s) Q := by
  refine aw_iload_n (q := 16) (j := 1) rfl rfl rfl (List.mem_of_getElem? (i := 1) rfl) ?_
  refine aw_bipush (q := 18) (v := 6) rfl rfl (by decide) ?_
  refine aw_icmp_ge (q := 21) (tgt := 47) rfl rfl (by decide) ⟨fun cd_1 => ?_, fun cd_1 => ?_⟩
  · replace h := h.1 cd_1
    exact aw_return rfl rfl (by decide) (by decide) h
  · replace h := h.2 cd_1
    refine aw_aload_n (q := 22) (j := 0) rfl rfl rfl (List.mem_of_getElem? (i := 0) rfl) ?_
    refine ag_getR (q := 25) rfl rfl fl_Mo_149 rfl (SX.o hS rfl) (SX.r hS rfl) ?_
    refine aw_iload_n (q := 26) (j := 1) rfl rfl rfl (List.mem_of_getElem? (i := 1) rfl) ?_
    refine aw_aload_n (q := 27) (j := 0) rfl rfl rfl (List.mem_of_getElem? (i := 0) rfl) ?_
    refine ag_getR (q := 30) rfl rfl fl_Mo_61 rfl (SX.o hS rfl) (SX.r hS rfl) ?_
    refine aw_bipush (q := 32) (v := 6) rfl rfl (by decide) ?_
    refine aw_aload_n (q := 33) (j := 0) rfl rfl rfl (List.mem_of_getElem? (i := 0) rfl) ?_
    refine ag_getI (q := 36) rfl rfl fl_Mo_257 rfl (SX.o hS rfl) ?_
    refine aw_imul (q := 37) rfl rfl ?_
    refine aw_iload_n (q := 38) (j := 1) rfl rfl rfl (List.mem_of_getElem? (i := 1) rfl) ?_
    refine aw_iadd (q := 39) rfl rfl ?_
    obtain ⟨bd_2, h⟩ := h
    refine ag_iaload (q := 40) (N := 12) rfl rfl (SX.a hS rfl) bd_2 ?_
    obtain ⟨bd_3, h⟩ := h
    refine ag_iastore (q := 41) (N := 6) rfl rfl (SX.a hS rfl) bd_3 ?_
    replace h := h _ rfl
    refine aw_iinc (q := 44) (v := _ + 1) (ls' := [(1, .int _), (0, .ref _)]) rfl rfl (List.mem_of_getElem? (i := 1) rfl) rfl (by decide) rfl ?_
    refine aw_goto (tgt := 15) rfl (by decide) ?_
    refine aw_ls [1, 0] rfl ?_
    exact h
set_option maxRecDepth 20000 in
theorem v_Mo_plainly {E : EN} {g : GS} {s : MS} {Q : Option Value → SG → Prop}  (hS : SX g) (h : vp_in (s.1 120 18) 2 ∧ (∀ s1_, s1_ = wi s 120 61 (s.1 149 (((s.1 120 18)).toNatClampNeg)) → AWP E m_Mo_plainly 15 0 0 [(0, .ref 120), (1, .int 0)] [] (mk g s1_) Q)) : AMet E m_Mo_plainly [.ref 120] (mk g s) Q := by
  refine AMet.of (by decide) k_Mo_plainly [(0, .ref 120)] (Nat.le_of_ble_eq_true rfl) rfl ?_
  refine aw_aload_n (q := 1) (j := 0) rfl rfl rfl (List.mem_of_getElem? (i := 0) rfl) ?_
  refine aw_aload_n (q := 2) (j := 0) rfl rfl rfl (List.mem_of_getElem? (i := 0) rfl) ?_
  refine ag_getR (q := 5) rfl rfl fl_Mo_103 rfl (SX.o hS rfl) (SX.r hS rfl) ?_
  refine aw_aload_n (q := 6) (j := 0) rfl rfl rfl (List.mem_of_getElem? (i := 0) rfl) ?_
  refine ag_getI (q := 9) rfl rfl fl_Mo_257 rfl (SX.o hS rfl) ?_
  obtain ⟨bd_1, h⟩ := h
  refine ag_iaload (q := 10) (N := 2) rfl rfl (SX.a hS rfl) bd_1 ?_
  refine ag_putI (q := 13) rfl rfl fl_Mo_344 rfl rfl (SX.o hS rfl) ?_
  replace h := h _ rfl
  refine aw_iconst (q := 14) (v := 0) rfl rfl (by decide) ?_
  refine aw_istore_n (q := 15) (j := 1) (ls' := [(1, .int _), (0, .ref _)]) rfl rfl rfl (by decide) rfl ?_
  refine aw_ls [1, 0] rfl ?_
  exact h
set_option maxRecDepth 20000 in
theorem v_Mo_keepsRow_2 {E : EN} {g : GS} {s : MS} {Q : Option Value → SG → Prop} (x1 : Int32) (hS : SX g) (h : ((120 ≤ x1 → Q none (mk g s)) ∧ (¬ 120 ≤ x1 → vp_in x1 120 ∧ (∀ s1_, s1_ = wi s 162 ((x1).toNatClampNeg) (s.1 163 ((x1).toNatClampNeg)) → AWP E m_Mo_keepsRow 2 0 0 [(0, .ref 120), (1, .int (x1 + 1))] [] (mk g s1_) Q)))) : AWP E m_Mo_keepsRow 2 0 0 [(0, .ref 120), (1, .int x1)] [] (mk g s) Q := by
  refine aw_iload_n (q := 3) (j := 1) rfl rfl rfl (List.mem_of_getElem? (i := 1) rfl) ?_
  refine aw_bipush (q := 5) (v := 120) rfl rfl (by decide) ?_
  refine aw_icmp_ge (q := 8) (tgt := 26) rfl rfl (by decide) ⟨fun cd_1 => ?_, fun cd_1 => ?_⟩
  · replace h := h.1 cd_1
    exact aw_return rfl rfl (by decide) (by decide) h
  · replace h := h.2 cd_1
    refine aw_aload_n (q := 9) (j := 0) rfl rfl rfl (List.mem_of_getElem? (i := 0) rfl) ?_
    refine ag_getR (q := 12) rfl rfl fl_Mo_143 rfl (SX.o hS rfl) (SX.r hS rfl) ?_
    refine aw_iload_n (q := 13) (j := 1) rfl rfl rfl (List.mem_of_getElem? (i := 1) rfl) ?_
    refine aw_aload_n (q := 14) (j := 0) rfl rfl rfl (List.mem_of_getElem? (i := 0) rfl) ?_
    refine ag_getR (q := 17) rfl rfl fl_Mo_146 rfl (SX.o hS rfl) (SX.r hS rfl) ?_
    refine aw_iload_n (q := 18) (j := 1) rfl rfl rfl (List.mem_of_getElem? (i := 1) rfl) ?_
    obtain ⟨bd_2, h⟩ := h
    refine ag_iaload (q := 19) (N := 120) rfl rfl (SX.a hS rfl) bd_2 ?_
    refine ag_iastore (q := 20) (N := 120) rfl rfl (SX.a hS rfl) bd_2 ?_
    replace h := h _ rfl
    refine aw_iinc (q := 23) (v := _ + 1) (ls' := [(1, .int _), (0, .ref _)]) rfl rfl (List.mem_of_getElem? (i := 1) rfl) rfl (by decide) rfl ?_
    refine aw_goto (tgt := 2) rfl (by decide) ?_
    refine aw_ls [1, 0] rfl ?_
    exact h
set_option maxRecDepth 20000 in
theorem v_Mo_keepsRow {E : EN} {g : GS} {s : MS} {Q : Option Value → SG → Prop}  (h : AWP E m_Mo_keepsRow 2 0 0 [(0, .ref 120), (1, .int 0)] [] (mk g s) Q) : AMet E m_Mo_keepsRow [.ref 120] (mk g s) Q := by
  refine AMet.of (by decide) k_Mo_keepsRow [(0, .ref 120)] (Nat.le_of_ble_eq_true rfl) rfl ?_
  refine aw_iconst (q := 1) (v := 0) rfl rfl (by decide) ?_
  refine aw_istore_n (q := 2) (j := 1) (ls' := [(1, .int _), (0, .ref _)]) rfl rfl rfl (by decide) rfl ?_
  refine aw_ls [1, 0] rfl ?_
  exact h
set_option maxRecDepth 20000 in
theorem v_Mo_feed {E : EN} {g : GS} {s : MS} {Q : Option Value → SG → Prop} (x1 : Int32) (x2 : Int32) (x3 : Int32) (x4 : Int32) (x5 : Int32) (hS : SX g) (h : ((((s.1 120 2) + 20) ≤ 2000 → GV E m_Mo_put [.ref 120, .int x1] g s (fun t1_ => GV E m_Mo_put [.ref 120, .int x2] g t1_ (fun t2_ => GV E m_Mo_put [.ref 120, .int x3] g t2_ (fun t3_ => GV E m_Mo_put [.ref 120, .int x4] g t3_ (fun t4_ => GV E m_Mo_put [.ref 120, .int x5] g t4_ (fun t5_ => Q (some (.int (t5_.1 120 2))) (mk g t5_))))))) ∧ (¬ ((s.1 120 2) + 20) ≤ 2000 → Q (some (.int (-1))) (mk g s)))) : AMet E m_Mo_feed [.ref 120, .int x1, .int x2, .int x3, .int x4, .int x5] (mk g s) Q := by
  refine AMet.of (by decide) k_Mo_feed [(0, .ref 120), (1, .int x1), (2, .int x2), (3, .int x3), (4, .int x4), (5, .int x5)] (Nat.le_of_ble_eq_true rfl) rfl ?_
  refine aw_aload_n (q := 1) (j := 0) rfl rfl rfl (List.mem_of_getElem? (i := 0) rfl) ?_
  refine ag_getI (q := 4) rfl rfl fl_Mo_190 rfl (SX.o hS rfl) ?_
  refine aw_bipush (q := 6) (v := 20) rfl rfl (by decide) ?_
  refine aw_iadd (q := 7) rfl rfl ?_
  refine aw_sipush (q := 10) (v := 2000) rfl rfl (by decide) ?_
  refine aw_icmp_le (q := 13) (tgt := 15) rfl rfl (by decide) ⟨fun cd_1 => ?_, fun cd_1 => ?_⟩
  · replace h := h.1 cd_1
    refine aw_aload_n (q := 16) (j := 0) rfl rfl rfl (List.mem_of_getElem? (i := 0) rfl) ?_
    refine aw_iload_n (q := 17) (j := 1) rfl rfl rfl (List.mem_of_getElem? (i := 1) rfl) ?_
    refine ag_cvV (z := m_Mo_put) (ci := 11) (av := [.int _]) (st := []) (q := 20) (k' := 0) (n' := 0) rfl rfl cv_Mo_193 ⟨by decide, by decide⟩ rfl rfl (by decide) (by decide) (SX.o hS rfl) rfl rfl rfl (Nat.le_of_ble_eq_true rfl) ?_
    refine GV.mono h (fun t1_ h => ?_)
    refine aw_aload_n (q := 21) (j := 0) rfl rfl rfl (List.mem_of_getElem? (i := 0) rfl) ?_
    refine aw_iload_n (q := 22) (j := 2) rfl rfl rfl (List.mem_of_getElem? (i := 2) rfl) ?_
    refine ag_cvV (z := m_Mo_put) (ci := 11) (av := [.int _]) (st := []) (q := 25) (k' := 0) (n' := 0) rfl rfl cv_Mo_193 ⟨by decide, by decide⟩ rfl rfl (by decide) (by decide) (SX.o hS rfl) rfl rfl rfl (Nat.le_of_ble_eq_true rfl) ?_
    refine GV.mono h (fun t2_ h => ?_)
    refine aw_aload_n (q := 26) (j := 0) rfl rfl rfl (List.mem_of_getElem? (i := 0) rfl) ?_
    refine aw_iload_n (q := 27) (j := 3) rfl rfl rfl (List.mem_of_getElem? (i := 3) rfl) ?_
    refine ag_cvV (z := m_Mo_put) (ci := 11) (av := [.int _]) (st := []) (q := 30) (k' := 0) (n' := 0) rfl rfl cv_Mo_193 ⟨by decide, by decide⟩ rfl rfl (by decide) (by decide) (SX.o hS rfl) rfl rfl rfl (Nat.le_of_ble_eq_true rfl) ?_
    refine GV.mono h (fun t3_ h => ?_)
    refine aw_aload_n (q := 31) (j := 0) rfl rfl rfl (List.mem_of_getElem? (i := 0) rfl) ?_
    refine aw_iload (q := 33) (j := 4) rfl rfl (List.mem_of_getElem? (i := 4) rfl) ?_
    refine ag_cvV (z := m_Mo_put) (ci := 11) (av := [.int _]) (st := []) (q := 36) (k' := 0) (n' := 0) rfl rfl cv_Mo_193 ⟨by decide, by decide⟩ rfl rfl (by decide) (by decide) (SX.o hS rfl) rfl rfl rfl (Nat.le_of_ble_eq_true rfl) ?_
    refine GV.mono h (fun t4_ h => ?_)
    refine aw_aload_n (q := 37) (j := 0) rfl rfl rfl (List.mem_of_getElem? (i := 0) rfl) ?_
    refine aw_iload (q := 39) (j := 5) rfl rfl (List.mem_of_getElem? (i := 5) rfl) ?_
    refine ag_cvV (z := m_Mo_put) (ci := 11) (av := [.int _]) (st := []) (q := 42) (k' := 0) (n' := 0) rfl rfl cv_Mo_193 ⟨by decide, by decide⟩ rfl rfl (by decide) (by decide) (SX.o hS rfl) rfl rfl rfl (Nat.le_of_ble_eq_true rfl) ?_
    refine GV.mono h (fun t5_ h => ?_)
    refine aw_aload_n (q := 43) (j := 0) rfl rfl rfl (List.mem_of_getElem? (i := 0) rfl) ?_
    refine ag_getI (q := 46) rfl rfl fl_Mo_190 rfl (SX.o hS rfl) ?_
    exact aw_ireturn (ty := .int) rfl rfl rfl (by decide) (by decide) h
  · replace h := h.2 cd_1
    refine aw_iconst (q := 14) (v := (-1)) rfl rfl (by decide) ?_
    exact aw_ireturn (ty := .int) rfl rfl rfl (by decide) (by decide) h
set_option maxRecDepth 20000 in
theorem v_Mo_put_3 {E : EN} {g : GS} {s : MS} {Q : Option Value → SG → Prop} (x1 : Int32) (x2 : Int32) (hS : SX g) (h : ((x2 < 0 → Q none (mk g s)) ∧ (¬ x2 < 0 → vp_in (s.1 120 2) 2000 ∧ (∀ s1_, s1_ = wi s 121 (((s.1 120 2)).toNatClampNeg) (vp_nar .byte ((Int32.toInt8 (x1 >>> (x2 &&& 31))).toInt32)) → (∀ s2_, s2_ = wi s1_ 120 2 ((s.1 120 2) + 1) → AWP E m_Mo_put 3 0 0 [(0, .ref 120), (1, .int x1), (2, .int (x2 + (-8)))] [] (mk g s2_) Q))))) : AWP E m_Mo_put 3 0 0 [(0, .ref 120), (1, .int x1), (2, .int x2)] [] (mk g s) Q := by
  refine aw_iload_n (q := 4) (j := 2) rfl rfl rfl (List.mem_of_getElem? (i := 2) rfl) ?_
  refine aw_if_lt (q := 7) (tgt := 36) rfl rfl (by decide) ⟨fun cd_1 => ?_, fun cd_1 => ?_⟩
  · replace h := h.1 cd_1
    exact aw_return rfl rfl (by decide) (by decide) h
  · replace h := h.2 cd_1
    refine aw_aload_n (q := 8) (j := 0) rfl rfl rfl (List.mem_of_getElem? (i := 0) rfl) ?_
    refine ag_getR (q := 11) rfl rfl fl_Mo_13 rfl (SX.o hS rfl) (SX.r hS rfl) ?_
    refine aw_aload_n (q := 12) (j := 0) rfl rfl rfl (List.mem_of_getElem? (i := 0) rfl) ?_
    refine ag_getI (q := 15) rfl rfl fl_Mo_190 rfl (SX.o hS rfl) ?_
    refine aw_iload_n (q := 16) (j := 1) rfl rfl rfl (List.mem_of_getElem? (i := 1) rfl) ?_
    refine aw_iload_n (q := 17) (j := 2) rfl rfl rfl (List.mem_of_getElem? (i := 2) rfl) ?_
    refine aw_ishr (q := 18) rfl rfl ?_
    refine aw_i2b (q := 19) rfl rfl ?_
    obtain ⟨bd_2, h⟩ := h
    refine ag_bastore (q := 20) (N := 2000) rfl rfl (SX.a hS rfl) bd_2 ?_
    replace h := h _ rfl
    refine aw_aload_n (q := 21) (j := 0) rfl rfl rfl (List.mem_of_getElem? (i := 0) rfl) ?_
    refine aw_dup (q := 22) rfl rfl rfl ?_
    refine ag_getI (q := 25) rfl rfl fl_Mo_190 rfl (SX.o hS rfl) ?_
    refine aw_iconst (q := 26) (v := 1) rfl rfl (by decide) ?_
    refine aw_iadd (q := 27) rfl rfl ?_
    refine ag_putI (q := 30) rfl rfl fl_Mo_190 rfl rfl (SX.o hS rfl) ?_
    replace h := h _ rfl
    refine aw_iinc (q := 33) (v := _ + (-8)) (ls' := [(2, .int _), (0, .ref _), (1, .int _)]) rfl rfl (List.mem_of_getElem? (i := 2) rfl) rfl (by decide) rfl ?_
    refine aw_goto (tgt := 3) rfl (by decide) ?_
    refine aw_ls [1, 2, 0] rfl ?_
    exact h
set_option maxRecDepth 20000 in
theorem v_Mo_put {E : EN} {g : GS} {s : MS} {Q : Option Value → SG → Prop} (x1 : Int32) (h : AWP E m_Mo_put 3 0 0 [(0, .ref 120), (1, .int x1), (2, .int 24)] [] (mk g s) Q) : AMet E m_Mo_put [.ref 120, .int x1] (mk g s) Q := by
  refine AMet.of (by decide) k_Mo_put [(0, .ref 120), (1, .int x1)] (Nat.le_of_ble_eq_true rfl) rfl ?_
  refine aw_bipush (q := 2) (v := 24) rfl rfl (by decide) ?_
  refine aw_istore_n (q := 3) (j := 2) (ls' := [(2, .int _), (0, .ref _), (1, .int _)]) rfl rfl rfl (by decide) rfl ?_
  refine aw_ls [1, 2, 0] rfl ?_
  exact h
set_option maxRecDepth 20000 in
theorem v_Mo_back {E : EN} {g : GS} {s : MS} {Q : Option Value → SG → Prop} (x1 : Int32) (hS : SX g) (h : ((x1 < 0 → Q (some (.int (-1))) (mk g s)) ∧ (¬ x1 < 0 → ((x1 ≤ (s.1 120 2) → (∀ s1_, s1_ = wi s 120 2 ((s.1 120 2) - x1) → Q (some (.int ((s.1 120 2) - x1))) (mk g s1_))) ∧ (¬ x1 ≤ (s.1 120 2) → Q (some (.int (-1))) (mk g s)))))) : AMet E m_Mo_back [.ref 120, .int x1] (mk g s) Q := by
  refine AMet.of (by decide) k_Mo_back [(0, .ref 120), (1, .int x1)] (Nat.le_of_ble_eq_true rfl) rfl ?_
  refine aw_iload_n (q := 1) (j := 1) rfl rfl rfl (List.mem_of_getElem? (i := 1) rfl) ?_
  refine aw_if_lt (q := 4) (tgt := 12) rfl rfl (by decide) ⟨fun cd_1 => ?_, fun cd_1 => ?_⟩
  · replace h := h.1 cd_1
    refine aw_iconst (q := 13) (v := (-1)) rfl rfl (by decide) ?_
    exact aw_ireturn (ty := .int) rfl rfl rfl (by decide) (by decide) h
  · replace h := h.2 cd_1
    refine aw_iload_n (q := 5) (j := 1) rfl rfl rfl (List.mem_of_getElem? (i := 1) rfl) ?_
    refine aw_aload_n (q := 6) (j := 0) rfl rfl rfl (List.mem_of_getElem? (i := 0) rfl) ?_
    refine ag_getI (q := 9) rfl rfl fl_Mo_190 rfl (SX.o hS rfl) ?_
    refine aw_icmp_le (q := 12) (tgt := 14) rfl rfl (by decide) ⟨fun cd_2 => ?_, fun cd_2 => ?_⟩
    · replace h := h.1 cd_2
      refine aw_aload_n (q := 15) (j := 0) rfl rfl rfl (List.mem_of_getElem? (i := 0) rfl) ?_
      refine aw_dup (q := 16) rfl rfl rfl ?_
      refine ag_getI (q := 19) rfl rfl fl_Mo_190 rfl (SX.o hS rfl) ?_
      refine aw_iload_n (q := 20) (j := 1) rfl rfl rfl (List.mem_of_getElem? (i := 1) rfl) ?_
      refine aw_isub (q := 21) rfl rfl ?_
      refine ag_putI (q := 24) rfl rfl fl_Mo_190 rfl rfl (SX.o hS rfl) ?_
      replace h := h _ rfl
      refine aw_aload_n (q := 25) (j := 0) rfl rfl rfl (List.mem_of_getElem? (i := 0) rfl) ?_
      refine ag_getI (q := 28) rfl rfl fl_Mo_190 rfl (SX.o hS rfl) ?_
      exact aw_ireturn (ty := .int) rfl rfl rfl (by decide) (by decide) h
    · replace h := h.2 cd_2
      refine aw_iconst (q := 13) (v := (-1)) rfl rfl (by decide) ?_
      exact aw_ireturn (ty := .int) rfl rfl rfl (by decide) (by decide) h
set_option maxRecDepth 20000 in
theorem v_Mo_read_10 {E : EN} {g : GS} {s : MS} {Q : Option Value → SG → Prop} (x1 : Int32) (hS : SX g) (h : (((s.1 120 4) ≤ x1 → (∀ s1_, s1_ = wi s 120 2 0 → GV E m_Mo_cut [.ref 120] g s1_ (fun t2_ => (∀ s3_, s3_ = wi t2_ 120 11 0 → (∀ s4_, s4_ = wi s3_ 120 12 0 → (∀ s5_, s5_ = wi s4_ 120 13 0 → (∀ s6_, s6_ = wi s5_ 120 15 0 → (∀ s7_, s7_ = wi s6_ 120 19 (1 - (t2_.1 120 18)) → (∀ s8_, s8_ = wi s7_ 120 20 0 → GV E m_Mo_plain [.ref 120, .int (1 - (t2_.1 120 18))] g s8_ (fun t9_ => (∀ s10_, s10_ = wi t9_ 120 45 (130 * (t9_.1 120 19)) → (∀ s11_, s11_ = wi s10_ 120 51 (420 * (t9_.1 120 19)) → AWP E m_Mo_read 112 0 0 [(0, .ref 120), (1, .int x1)] [] (mk g s11_) Q)))))))))))) ∧ (¬ (s.1 120 4) ≤ x1 → vp_in x1 2000 ∧ (∀ s12_, s12_ = wi s 122 ((x1).toNatClampNeg) (vp_nar .byte (s.1 121 ((x1).toNatClampNeg))) → AWP E m_Mo_read 10 0 0 [(0, .ref 120), (1, .int (x1 + 1))] [] (mk g s12_) Q)))) : AWP E m_Mo_read 10 0 0 [(0, .ref 120), (1, .int x1)] [] (mk g s) Q := by
  refine aw_iload_n (q := 11) (j := 1) rfl rfl rfl (List.mem_of_getElem? (i := 1) rfl) ?_
  refine aw_aload_n (q := 12) (j := 0) rfl rfl rfl (List.mem_of_getElem? (i := 0) rfl) ?_
  refine ag_getI (q := 15) rfl rfl fl_Mo_196 rfl (SX.o hS rfl) ?_
  refine aw_icmp_ge (q := 18) (tgt := 36) rfl rfl (by decide) ⟨fun cd_1 => ?_, fun cd_1 => ?_⟩
  · replace h := h.1 cd_1
    refine aw_aload_n (q := 37) (j := 0) rfl rfl rfl (List.mem_of_getElem? (i := 0) rfl) ?_
    refine aw_iconst (q := 38) (v := 0) rfl rfl (by decide) ?_
    refine ag_putI (q := 41) rfl rfl fl_Mo_190 rfl rfl (SX.o hS rfl) ?_
    replace h := h _ rfl
    refine aw_aload_n (q := 42) (j := 0) rfl rfl rfl (List.mem_of_getElem? (i := 0) rfl) ?_
    refine ag_cvV (z := m_Mo_cut) (ci := 11) (av := []) (st := []) (q := 45) (k' := 0) (n' := 0) rfl rfl cv_Mo_251 ⟨by decide, by decide⟩ rfl rfl (by decide) (by decide) (SX.o hS rfl) rfl rfl rfl (Nat.le_of_ble_eq_true rfl) ?_
    refine GV.mono h (fun t2_ h => ?_)
    refine aw_aload_n (q := 46) (j := 0) rfl rfl rfl (List.mem_of_getElem? (i := 0) rfl) ?_
    refine aw_iconst (q := 47) (v := 0) rfl rfl (by decide) ?_
    refine ag_putI (q := 50) rfl rfl fl_Mo_230 rfl rfl (SX.o hS rfl) ?_
    replace h := h _ rfl
    refine aw_aload_n (q := 51) (j := 0) rfl rfl rfl (List.mem_of_getElem? (i := 0) rfl) ?_
    refine aw_iconst (q := 52) (v := 0) rfl rfl (by decide) ?_
    refine ag_putI (q := 55) rfl rfl fl_Mo_254 rfl rfl (SX.o hS rfl) ?_
    replace h := h _ rfl
    refine aw_aload_n (q := 56) (j := 0) rfl rfl rfl (List.mem_of_getElem? (i := 0) rfl) ?_
    refine aw_iconst (q := 57) (v := 0) rfl rfl (by decide) ?_
    refine ag_putI (q := 60) rfl rfl fl_Mo_227 rfl rfl (SX.o hS rfl) ?_
    replace h := h _ rfl
    refine aw_aload_n (q := 61) (j := 0) rfl rfl rfl (List.mem_of_getElem? (i := 0) rfl) ?_
    refine aw_iconst (q := 62) (v := 0) rfl rfl (by decide) ?_
    refine ag_putI (q := 65) rfl rfl fl_Mo_236 rfl rfl (SX.o hS rfl) ?_
    replace h := h _ rfl
    refine aw_aload_n (q := 66) (j := 0) rfl rfl rfl (List.mem_of_getElem? (i := 0) rfl) ?_
    refine aw_iconst (q := 67) (v := 1) rfl rfl (by decide) ?_
    refine aw_aload_n (q := 68) (j := 0) rfl rfl rfl (List.mem_of_getElem? (i := 0) rfl) ?_
    refine ag_getI (q := 71) rfl rfl fl_Mo_257 rfl (SX.o hS rfl) ?_
    refine aw_isub (q := 72) rfl rfl ?_
    refine ag_putI (q := 75) rfl rfl fl_Mo_260 rfl rfl (SX.o hS rfl) ?_
    replace h := h _ rfl
    refine aw_aload_n (q := 76) (j := 0) rfl rfl rfl (List.mem_of_getElem? (i := 0) rfl) ?_
    refine aw_iconst (q := 77) (v := 0) rfl rfl (by decide) ?_
    refine ag_putI (q := 80) rfl rfl fl_Mo_263 rfl rfl (SX.o hS rfl) ?_
    replace h := h _ rfl
    refine aw_aload_n (q := 81) (j := 0) rfl rfl rfl (List.mem_of_getElem? (i := 0) rfl) ?_
    refine aw_aload_n (q := 82) (j := 0) rfl rfl rfl (List.mem_of_getElem? (i := 0) rfl) ?_
    refine ag_getI (q := 85) rfl rfl fl_Mo_260 rfl (SX.o hS rfl) ?_
    refine ag_cvV (z := m_Mo_plain) (ci := 11) (av := [.int _]) (st := []) (q := 88) (k' := 0) (n' := 0) rfl rfl cv_Mo_176 ⟨by decide, by decide⟩ rfl rfl (by decide) (by decide) (SX.o hS rfl) rfl rfl rfl (Nat.le_of_ble_eq_true rfl) ?_
    refine GV.mono h (fun t9_ h => ?_)
    refine aw_aload_n (q := 89) (j := 0) rfl rfl rfl (List.mem_of_getElem? (i := 0) rfl) ?_
    refine aw_sipush (q := 92) (v := 130) rfl rfl (by decide) ?_
    refine aw_aload_n (q := 93) (j := 0) rfl rfl rfl (List.mem_of_getElem? (i := 0) rfl) ?_
    refine ag_getI (q := 96) rfl rfl fl_Mo_260 rfl (SX.o hS rfl) ?_
    refine aw_imul (q := 97) rfl rfl ?_
    refine ag_putI (q := 100) rfl rfl fl_Mo_266 rfl rfl (SX.o hS rfl) ?_
    replace h := h _ rfl
    refine aw_aload_n (q := 101) (j := 0) rfl rfl rfl (List.mem_of_getElem? (i := 0) rfl) ?_
    refine aw_sipush (q := 104) (v := 420) rfl rfl (by decide) ?_
    refine aw_aload_n (q := 105) (j := 0) rfl rfl rfl (List.mem_of_getElem? (i := 0) rfl) ?_
    refine ag_getI (q := 108) rfl rfl fl_Mo_260 rfl (SX.o hS rfl) ?_
    refine aw_imul (q := 109) rfl rfl ?_
    refine ag_putI (q := 112) rfl rfl fl_Mo_269 rfl rfl (SX.o hS rfl) ?_
    replace h := h _ rfl
    refine aw_ls [0, 1] rfl ?_
    exact h
  · replace h := h.2 cd_1
    refine aw_aload_n (q := 19) (j := 0) rfl rfl rfl (List.mem_of_getElem? (i := 0) rfl) ?_
    refine ag_getR (q := 22) rfl rfl fl_Mo_17 rfl (SX.o hS rfl) (SX.r hS rfl) ?_
    refine aw_iload_n (q := 23) (j := 1) rfl rfl rfl (List.mem_of_getElem? (i := 1) rfl) ?_
    refine aw_aload_n (q := 24) (j := 0) rfl rfl rfl (List.mem_of_getElem? (i := 0) rfl) ?_
    refine ag_getR (q := 27) rfl rfl fl_Mo_13 rfl (SX.o hS rfl) (SX.r hS rfl) ?_
    refine aw_iload_n (q := 28) (j := 1) rfl rfl rfl (List.mem_of_getElem? (i := 1) rfl) ?_
    obtain ⟨bd_2, h⟩ := h
    refine ag_baload (q := 29) (N := 2000) rfl rfl (SX.a hS rfl) bd_2 ?_
    refine ag_bastore (q := 30) (N := 2000) rfl rfl (SX.a hS rfl) bd_2 ?_
    replace h := h _ rfl
    refine aw_iinc (q := 33) (v := _ + 1) (ls' := [(1, .int _), (0, .ref _)]) rfl rfl (List.mem_of_getElem? (i := 1) rfl) rfl (by decide) rfl ?_
    refine aw_goto (tgt := 10) rfl (by decide) ?_
    refine aw_ls [1, 0] rfl ?_
    exact h
set_option maxRecDepth 20000 in
theorem v_Mo_read_112 {E : EN} {g : GS} {s : MS} {Q : Option Value → SG → Prop} (x1 : Int32) (hS : SX g) (h : (((s.1 120 13) = 0 → GI E m_Mo_is [.ref 120, .int 0] g s (fun y1_ t1_ => ((y1_ = 0 → GV E m_Mo_tellOne [.ref 120] g t1_ (fun t2_ => AWP E m_Mo_read 112 0 0 [(0, .ref 120), (1, .int x1)] [] (mk g t2_) Q)) ∧ (¬ y1_ = 0 → AWP E m_Mo_read 134 0 0 [(0, .ref 120), (1, .int x1)] [] (mk g t1_) Q)))) ∧ (¬ (s.1 120 13) = 0 → AWP E m_Mo_read 134 0 0 [(0, .ref 120), (1, .int x1)] [] (mk g s) Q))) : AWP E m_Mo_read 112 0 0 [(0, .ref 120), (1, .int x1)] [] (mk g s) Q := by
  refine aw_aload_n (q := 113) (j := 0) rfl rfl rfl (List.mem_of_getElem? (i := 0) rfl) ?_
  refine ag_getI (q := 116) rfl rfl fl_Mo_227 rfl (SX.o hS rfl) ?_
  refine aw_if_ne (q := 119) (tgt := 134) rfl rfl (by decide) ⟨fun cd_1 => ?_, fun cd_1 => ?_⟩
  · replace h := h.1 cd_1
    refine aw_aload_n (q := 120) (j := 0) rfl rfl rfl (List.mem_of_getElem? (i := 0) rfl) ?_
    refine aw_iconst (q := 121) (v := 0) rfl rfl (by decide) ?_
    refine ag_cvI (z := m_Mo_is) (ci := 11) (av := [.int _]) (st := []) (q := 124) (k' := 0) (n' := 0) rfl rfl cv_Mo_245 ⟨by decide, by decide⟩ rfl rfl (by decide) (by decide) (SX.o hS rfl) rfl rfl rfl (Nat.le_of_ble_eq_true rfl) ?_
    refine GI.mono h (fun y1_ t1_ h => ?_)
    refine aw_if_ne (q := 127) (tgt := 134) rfl rfl (by decide) ⟨fun cd_2 => ?_, fun cd_2 => ?_⟩
    · replace h := h.1 cd_2
      refine aw_aload_n (q := 128) (j := 0) rfl rfl rfl (List.mem_of_getElem? (i := 0) rfl) ?_
      refine ag_cvV (z := m_Mo_tellOne) (ci := 11) (av := []) (st := []) (q := 131) (k' := 0) (n' := 0) rfl rfl cv_Mo_272 ⟨by decide, by decide⟩ rfl rfl (by decide) (by decide) (SX.o hS rfl) rfl rfl rfl (Nat.le_of_ble_eq_true rfl) ?_
      refine GV.mono h (fun t2_ h => ?_)
      refine aw_goto (tgt := 112) rfl (by decide) ?_
      refine aw_ls [0, 1] rfl ?_
      exact h
    · replace h := h.2 cd_2
      refine aw_ls [0, 1] rfl ?_
      exact h
  · replace h := h.2 cd_1
    refine aw_ls [0, 1] rfl ?_
    exact h
set_option maxRecDepth 20000 in
theorem v_Mo_read_134 {E : EN} {g : GS} {s : MS} {Q : Option Value → SG → Prop} (x1 : Int32) (hS : SX g) (h : (((s.1 120 13) ≤ 0 → (((s.1 120 15) ≤ 0 → (∀ s1_, s1_ = wi s 120 17 (-1) → AWP E m_Mo_read 167 0 0 [(0, .ref 120), (1, .int x1)] [] (mk g s1_) Q)) ∧ (¬ (s.1 120 15) ≤ 0 → (∀ s2_, s2_ = wi s 120 17 (s.1 120 16) → AWP E m_Mo_read 167 0 0 [(0, .ref 120), (1, .int x1)] [] (mk g s2_) Q)))) ∧ (¬ (s.1 120 13) ≤ 0 → (∀ s3_, s3_ = wi s 120 17 (s.1 120 14) → AWP E m_Mo_read 167 0 0 [(0, .ref 120), (1, .int x1)] [] (mk g s3_) Q)))) : AWP E m_Mo_read 134 0 0 [(0, .ref 120), (1, .int x1)] [] (mk g s) Q := by
  refine aw_aload_n (q := 135) (j := 0) rfl rfl rfl (List.mem_of_getElem? (i := 0) rfl) ?_
  refine aw_aload_n (q := 136) (j := 0) rfl rfl rfl (List.mem_of_getElem? (i := 0) rfl) ?_
  refine ag_getI (q := 139) rfl rfl fl_Mo_227 rfl (SX.o hS rfl) ?_
  refine aw_if_le (q := 142) (tgt := 149) rfl rfl (by decide) ⟨fun cd_1 => ?_, fun cd_1 => ?_⟩
  · replace h := h.1 cd_1
    refine aw_aload_n (q := 150) (j := 0) rfl rfl rfl (List.mem_of_getElem? (i := 0) rfl) ?_
    refine ag_getI (q := 153) rfl rfl fl_Mo_236 rfl (SX.o hS rfl) ?_
    refine aw_if_le (q := 156) (tgt := 163) rfl rfl (by decide) ⟨fun cd_2 => ?_, fun cd_2 => ?_⟩
    · replace h := h.1 cd_2
      refine aw_iconst (q := 164) (v := (-1)) rfl rfl (by decide) ?_
      refine ag_putI (q := 167) rfl rfl fl_Mo_37 rfl rfl (SX.o hS rfl) ?_
      replace h := h _ rfl
      refine aw_ls [0, 1] rfl ?_
      exact h
    · replace h := h.2 cd_2
      refine aw_aload_n (q := 157) (j := 0) rfl rfl rfl (List.mem_of_getElem? (i := 0) rfl) ?_
      refine ag_getI (q := 160) rfl rfl fl_Mo_239 rfl (SX.o hS rfl) ?_
      refine aw_goto (tgt := 164) rfl (by decide) ?_
      refine ag_putI (q := 167) rfl rfl fl_Mo_37 rfl rfl (SX.o hS rfl) ?_
      replace h := h _ rfl
      refine aw_ls [0, 1] rfl ?_
      exact h
  · replace h := h.2 cd_1
    refine aw_aload_n (q := 143) (j := 0) rfl rfl rfl (List.mem_of_getElem? (i := 0) rfl) ?_
    refine ag_getI (q := 146) rfl rfl fl_Mo_233 rfl (SX.o hS rfl) ?_
    refine aw_goto (tgt := 164) rfl (by decide) ?_
    refine ag_putI (q := 167) rfl rfl fl_Mo_37 rfl rfl (SX.o hS rfl) ?_
    replace h := h _ rfl
    refine aw_ls [0, 1] rfl ?_
    exact h
set_option maxRecDepth 20000 in
theorem v_Mo_read_167 {E : EN} {g : GS} {s : MS} {Q : Option Value → SG → Prop} (x1 : Int32) (hS : SX g) (h : (((s.1 120 13) ≤ 0 → (((s.1 120 15) ≤ 0 → (∀ s1_, s1_ = wi s 120 18 (s.1 120 19) → GV E m_Mo_begins [.ref 120] g s1_ (fun t2_ => GV E m_Mo_keepsRow [.ref 120] g t2_ (fun t3_ => (∀ s4_, s4_ = wi t3_ 120 64 0 → (∀ s5_, s5_ = wi s4_ 120 68 0 → AWP E m_Mo_read 219 0 0 [(0, .ref 120), (1, .int 0)] [] (mk g s5_) Q)))))) ∧ (¬ (s.1 120 15) ≤ 0 → Q (some (.int (s.1 120 15))) (mk g s)))) ∧ (¬ (s.1 120 13) ≤ 0 → Q (some (.int (s.1 120 13))) (mk g s)))) : AWP E m_Mo_read 167 0 0 [(0, .ref 120), (1, .int x1)] [] (mk g s) Q := by
  refine aw_aload_n (q := 168) (j := 0) rfl rfl rfl (List.mem_of_getElem? (i := 0) rfl) ?_
  refine ag_getI (q := 171) rfl rfl fl_Mo_227 rfl (SX.o hS rfl) ?_
  refine aw_if_le (q := 174) (tgt := 179) rfl rfl (by decide) ⟨fun cd_1 => ?_, fun cd_1 => ?_⟩
  · replace h := h.1 cd_1
    refine aw_aload_n (q := 180) (j := 0) rfl rfl rfl (List.mem_of_getElem? (i := 0) rfl) ?_
    refine ag_getI (q := 183) rfl rfl fl_Mo_236 rfl (SX.o hS rfl) ?_
    refine aw_if_le (q := 186) (tgt := 191) rfl rfl (by decide) ⟨fun cd_2 => ?_, fun cd_2 => ?_⟩
    · replace h := h.1 cd_2
      refine aw_aload_n (q := 192) (j := 0) rfl rfl rfl (List.mem_of_getElem? (i := 0) rfl) ?_
      refine aw_aload_n (q := 193) (j := 0) rfl rfl rfl (List.mem_of_getElem? (i := 0) rfl) ?_
      refine ag_getI (q := 196) rfl rfl fl_Mo_260 rfl (SX.o hS rfl) ?_
      refine ag_putI (q := 199) rfl rfl fl_Mo_257 rfl rfl (SX.o hS rfl) ?_
      replace h := h _ rfl
      refine aw_aload_n (q := 200) (j := 0) rfl rfl rfl (List.mem_of_getElem? (i := 0) rfl) ?_
      refine ag_cvV (z := m_Mo_begins) (ci := 11) (av := []) (st := []) (q := 203) (k' := 0) (n' := 0) rfl rfl cv_Mo_184 ⟨by decide, by decide⟩ rfl rfl (by decide) (by decide) (SX.o hS rfl) rfl rfl rfl (Nat.le_of_ble_eq_true rfl) ?_
      refine GV.mono h (fun t2_ h => ?_)
      refine aw_aload_n (q := 204) (j := 0) rfl rfl rfl (List.mem_of_getElem? (i := 0) rfl) ?_
      refine ag_cvV (z := m_Mo_keepsRow) (ci := 11) (av := []) (st := []) (q := 207) (k' := 0) (n' := 0) rfl rfl cv_Mo_187 ⟨by decide, by decide⟩ rfl rfl (by decide) (by decide) (SX.o hS rfl) rfl rfl rfl (Nat.le_of_ble_eq_true rfl) ?_
      refine GV.mono h (fun t3_ h => ?_)
      refine aw_aload_n (q := 208) (j := 0) rfl rfl rfl (List.mem_of_getElem? (i := 0) rfl) ?_
      refine aw_iconst (q := 209) (v := 0) rfl rfl (by decide) ?_
      refine ag_putI (q := 212) rfl rfl fl_Mo_275 rfl rfl (SX.o hS rfl) ?_
      replace h := h _ rfl
      refine aw_aload_n (q := 213) (j := 0) rfl rfl rfl (List.mem_of_getElem? (i := 0) rfl) ?_
      refine aw_iconst (q := 214) (v := 0) rfl rfl (by decide) ?_
      refine ag_putI (q := 217) rfl rfl fl_Mo_278 rfl rfl (SX.o hS rfl) ?_
      replace h := h _ rfl
      refine aw_iconst (q := 218) (v := 0) rfl rfl (by decide) ?_
      refine aw_istore_n (q := 219) (j := 1) (ls' := [(1, .int _), (0, .ref _)]) rfl rfl rfl (by decide) rfl ?_
      refine aw_ls [1, 0] rfl ?_
      exact h
    · replace h := h.2 cd_2
      refine aw_aload_n (q := 187) (j := 0) rfl rfl rfl (List.mem_of_getElem? (i := 0) rfl) ?_
      refine ag_getI (q := 190) rfl rfl fl_Mo_236 rfl (SX.o hS rfl) ?_
      exact aw_ireturn (ty := .int) rfl rfl rfl (by decide) (by decide) h
  · replace h := h.2 cd_1
    refine aw_aload_n (q := 175) (j := 0) rfl rfl rfl (List.mem_of_getElem? (i := 0) rfl) ?_
    refine ag_getI (q := 178) rfl rfl fl_Mo_227 rfl (SX.o hS rfl) ?_
    exact aw_ireturn (ty := .int) rfl rfl rfl (by decide) (by decide) h
set_option maxRecDepth 20000 in
theorem v_Mo_read_219 {E : EN} {g : GS} {s : MS} {Q : Option Value → SG → Prop} (x1 : Int32) (hS : SX g) (h : ((3 ≤ x1 → Q (some (.int 0)) (mk g s)) ∧ (¬ 3 ≤ x1 → vp_in x1 3 ∧ (∀ s1_, s1_ = wi s 171 ((x1).toNatClampNeg) (vp_nar .boolean 0) → AWP E m_Mo_read 219 0 0 [(0, .ref 120), (1, .int (x1 + 1))] [] (mk g s1_) Q)))) : AWP E m_Mo_read 219 0 0 [(0, .ref 120), (1, .int x1)] [] (mk g s) Q := by
  refine aw_iload_n (q := 220) (j := 1) rfl rfl rfl (List.mem_of_getElem? (i := 1) rfl) ?_
  refine aw_iconst (q := 221) (v := 3) rfl rfl (by decide) ?_
  refine aw_icmp_ge (q := 224) (tgt := 237) rfl rfl (by decide) ⟨fun cd_1 => ?_, fun cd_1 => ?_⟩
  · replace h := h.1 cd_1
    refine aw_iconst (q := 238) (v := 0) rfl rfl (by decide) ?_
    exact aw_ireturn (ty := .int) rfl rfl rfl (by decide) (by decide) h
  · replace h := h.2 cd_1
    refine aw_aload_n (q := 225) (j := 0) rfl rfl rfl (List.mem_of_getElem? (i := 0) rfl) ?_
    refine ag_getR (q := 228) rfl rfl fl_Mo_170 rfl (SX.o hS rfl) (SX.r hS rfl) ?_
    refine aw_iload_n (q := 229) (j := 1) rfl rfl rfl (List.mem_of_getElem? (i := 1) rfl) ?_
    refine aw_iconst (q := 230) (v := 0) rfl rfl (by decide) ?_
    obtain ⟨bd_2, h⟩ := h
    refine ag_zastore (q := 231) (N := 3) rfl rfl (SX.a hS rfl) bd_2 ?_
    replace h := h _ rfl
    refine aw_iinc (q := 234) (v := _ + 1) (ls' := [(1, .int _), (0, .ref _)]) rfl rfl (List.mem_of_getElem? (i := 1) rfl) rfl (by decide) rfl ?_
    refine aw_goto (tgt := 219) rfl (by decide) ?_
    refine aw_ls [1, 0] rfl ?_
    exact h
set_option maxRecDepth 20000 in
theorem v_Mo_read {E : EN} {g : GS} {s : MS} {Q : Option Value → SG → Prop}  (hS : SX g) (h : (∀ s1_, s1_ = wi s 120 4 (s.1 120 2) → AWP E m_Mo_read 10 0 0 [(0, .ref 120), (1, .int 0)] [] (mk g s1_) Q)) : AMet E m_Mo_read [.ref 120] (mk g s) Q := by
  refine AMet.of (by decide) k_Mo_read [(0, .ref 120)] (Nat.le_of_ble_eq_true rfl) rfl ?_
  refine aw_aload_n (q := 1) (j := 0) rfl rfl rfl (List.mem_of_getElem? (i := 0) rfl) ?_
  refine aw_aload_n (q := 2) (j := 0) rfl rfl rfl (List.mem_of_getElem? (i := 0) rfl) ?_
  refine ag_getI (q := 5) rfl rfl fl_Mo_190 rfl (SX.o hS rfl) ?_
  refine ag_putI (q := 8) rfl rfl fl_Mo_196 rfl rfl (SX.o hS rfl) ?_
  replace h := h _ rfl
  refine aw_iconst (q := 9) (v := 0) rfl rfl (by decide) ?_
  refine aw_istore_n (q := 10) (j := 1) (ls' := [(1, .int _), (0, .ref _)]) rfl rfl rfl (by decide) rfl ?_
  refine aw_ls [1, 0] rfl ?_
  exact h
set_option maxRecDepth 20000 in
theorem v_Mo_cut_7 {E : EN} {g : GS} {s : MS} {Q : Option Value → SG → Prop} (x1 : Int32) (hS : SX g) (h : ((400 < (s.1 120 10) → Q none (mk g s)) ∧ (¬ 400 < (s.1 120 10) → GI E m_Mo_byteAt [.ref 120, .int x1] g s (fun y1_ t1_ => ((x1 < (t1_.1 120 4) → ((y1_ = 9 → AWP E m_Mo_cut 7 0 0 [(0, .ref 120), (1, .int (x1 + 1))] [] (mk g t1_) Q) ∧ (¬ y1_ = 9 → ((y1_ = 10 → AWP E m_Mo_cut 7 0 0 [(0, .ref 120), (1, .int (x1 + 1))] [] (mk g t1_) Q) ∧ (¬ y1_ = 10 → ((y1_ = 13 → AWP E m_Mo_cut 7 0 0 [(0, .ref 120), (1, .int (x1 + 1))] [] (mk g t1_) Q) ∧ (¬ y1_ = 13 → ((y1_ = 32 → AWP E m_Mo_cut 7 0 0 [(0, .ref 120), (1, .int (x1 + 1))] [] (mk g t1_) Q) ∧ (¬ y1_ = 32 → GI E m_Mo_isLetter [.int y1_] g t1_ (fun y2_ t2_ => ((y2_ = 0 → GI E m_Mo_isDigit [.int y1_] g t2_ (fun y3_ t3_ => ((y3_ = 0 → GI E m_Mo_byteAt [.ref 120, .int (x1 + 1)] g t3_ (fun y4_ t4_ => GI E m_Mo_sign [.ref 120, .int x1, .int y1_, .int y4_] g t4_ (fun y5_ t5_ => AWP E m_Mo_cut 7 0 0 [(0, .ref 120), (1, .int (x1 + y5_))] [] (mk g t5_) Q))) ∧ (¬ y3_ = 0 → AWP E m_Mo_cut 208 0 0 [(0, .ref 120), (1, .int x1), (2, .int y1_), (3, .int 0), (4, .int 0)] [] (mk g t3_) Q)))) ∧ (¬ y2_ = 0 → AWP E m_Mo_cut 85 0 0 [(0, .ref 120), (1, .int x1), (2, .int y1_), (3, .int 0), (4, .long 0)] [] (mk g t2_) Q)))))))))))) ∧ (¬ x1 < (t1_.1 120 4) → GV E m_Mo_token [.ref 120, .int 0, .int (t1_.1 120 4), .int 0, .long 0] g t1_ (fun t6_ => Q none (mk g t6_)))))))) : AWP E m_Mo_cut 7 0 0 [(0, .ref 120), (1, .int x1)] [] (mk g s) Q := by
  refine aw_aload_n (q := 8) (j := 0) rfl rfl rfl (List.mem_of_getElem? (i := 0) rfl) ?_
  refine ag_getI (q := 11) rfl rfl fl_Mo_205 rfl (SX.o hS rfl) ?_
  refine aw_sipush (q := 14) (v := 400) rfl rfl (by decide) ?_
  refine aw_icmp_gt (q := 17) (tgt := 294) rfl rfl (by decide) ⟨fun cd_1 => ?_, fun cd_1 => ?_⟩
  · replace h := h.1 cd_1
    exact aw_return rfl rfl (by decide) (by decide) h
  · replace h := h.2 cd_1
    refine aw_aload_n (q := 18) (j := 0) rfl rfl rfl (List.mem_of_getElem? (i := 0) rfl) ?_
    refine aw_iload_n (q := 19) (j := 1) rfl rfl rfl (List.mem_of_getElem? (i := 1) rfl) ?_
    refine ag_cvI (z := m_Mo_byteAt) (ci := 11) (av := [.int _]) (st := []) (q := 22) (k' := 0) (n' := 0) rfl rfl cv_Mo_208 ⟨by decide, by decide⟩ rfl rfl (by decide) (by decide) (SX.o hS rfl) rfl rfl rfl (Nat.le_of_ble_eq_true rfl) ?_
    refine GI.mono h (fun y1_ t1_ h => ?_)
    refine aw_istore_n (q := 23) (j := 2) (ls' := [(2, .int _), (0, .ref _), (1, .int _)]) rfl rfl rfl (by decide) rfl ?_
    refine aw_iload_n (q := 24) (j := 1) rfl rfl rfl (List.mem_of_getElem? (i := 2) rfl) ?_
    refine aw_aload_n (q := 25) (j := 0) rfl rfl rfl (List.mem_of_getElem? (i := 1) rfl) ?_
    refine ag_getI (q := 28) rfl rfl fl_Mo_196 rfl (SX.o hS rfl) ?_
    refine aw_icmp_lt (q := 31) (tgt := 43) rfl rfl (by decide) ⟨fun cd_2 => ?_, fun cd_2 => ?_⟩
    · replace h := h.1 cd_2
      refine aw_iload_n (q := 44) (j := 2) rfl rfl rfl (List.mem_of_getElem? (i := 0) rfl) ?_
      refine aw_bipush (q := 46) (v := 9) rfl rfl (by decide) ?_
      refine aw_icmp_eq (q := 49) (tgt := 67) rfl rfl (by decide) ⟨fun cd_3 => ?_, fun cd_3 => ?_⟩
      · replace h := h.1 cd_3
        refine aw_iinc (q := 70) (v := _ + 1) (ls' := [(1, .int _), (2, .int _), (0, .ref _)]) rfl rfl (List.mem_of_getElem? (i := 2) rfl) rfl (by decide) rfl ?_
        refine aw_goto (tgt := 291) rfl (by decide) ?_
        refine aw_goto (tgt := 7) rfl (by decide) ?_
        refine aw_ls [2, 0] rfl ?_
        exact h
      · replace h := h.2 cd_3
        refine aw_iload_n (q := 50) (j := 2) rfl rfl rfl (List.mem_of_getElem? (i := 0) rfl) ?_
        refine aw_bipush (q := 52) (v := 10) rfl rfl (by decide) ?_
        refine aw_icmp_eq (q := 55) (tgt := 67) rfl rfl (by decide) ⟨fun cd_4 => ?_, fun cd_4 => ?_⟩
        · replace h := h.1 cd_4
          refine aw_iinc (q := 70) (v := _ + 1) (ls' := [(1, .int _), (2, .int _), (0, .ref _)]) rfl rfl (List.mem_of_getElem? (i := 2) rfl) rfl (by decide) rfl ?_
          refine aw_goto (tgt := 291) rfl (by decide) ?_
          refine aw_goto (tgt := 7) rfl (by decide) ?_
          refine aw_ls [2, 0] rfl ?_
          exact h
        · replace h := h.2 cd_4
          refine aw_iload_n (q := 56) (j := 2) rfl rfl rfl (List.mem_of_getElem? (i := 0) rfl) ?_
          refine aw_bipush (q := 58) (v := 13) rfl rfl (by decide) ?_
          refine aw_icmp_eq (q := 61) (tgt := 67) rfl rfl (by decide) ⟨fun cd_5 => ?_, fun cd_5 => ?_⟩
          · replace h := h.1 cd_5
            refine aw_iinc (q := 70) (v := _ + 1) (ls' := [(1, .int _), (2, .int _), (0, .ref _)]) rfl rfl (List.mem_of_getElem? (i := 2) rfl) rfl (by decide) rfl ?_
            refine aw_goto (tgt := 291) rfl (by decide) ?_
            refine aw_goto (tgt := 7) rfl (by decide) ?_
            refine aw_ls [2, 0] rfl ?_
            exact h
          · replace h := h.2 cd_5
            refine aw_iload_n (q := 62) (j := 2) rfl rfl rfl (List.mem_of_getElem? (i := 0) rfl) ?_
            refine aw_bipush (q := 64) (v := 32) rfl rfl (by decide) ?_
            refine aw_icmp_ne (q := 67) (tgt := 73) rfl rfl (by decide) ⟨fun cd_6 => ?_, fun cd_6 => ?_⟩
            · replace h := h.1 cd_6
              refine aw_iinc (q := 70) (v := _ + 1) (ls' := [(1, .int _), (2, .int _), (0, .ref _)]) rfl rfl (List.mem_of_getElem? (i := 2) rfl) rfl (by decide) rfl ?_
              refine aw_goto (tgt := 291) rfl (by decide) ?_
              refine aw_goto (tgt := 7) rfl (by decide) ?_
              refine aw_ls [2, 0] rfl ?_
              exact h
            · replace h := h.2 cd_6
              refine aw_iload_n (q := 74) (j := 2) rfl rfl rfl (List.mem_of_getElem? (i := 0) rfl) ?_
              refine ag_csI (z := m_Mo_isLetter) (av := [.int _]) (st := []) (q := 77) (k' := 0) (n' := 0) rfl rfl cs_Mo_216 ⟨by decide, by decide⟩ rfl rfl (by decide) (by decide) rfl rfl (Nat.le_of_ble_eq_true rfl) ?_
              refine GI.mono h (fun y2_ t2_ h => ?_)
              refine aw_if_eq (q := 80) (tgt := 196) rfl rfl (by decide) ⟨fun cd_7 => ?_, fun cd_7 => ?_⟩
              · replace h := h.1 cd_7
                refine aw_iload_n (q := 197) (j := 2) rfl rfl rfl (List.mem_of_getElem? (i := 0) rfl) ?_
                refine ag_csI (z := m_Mo_isDigit) (av := [.int _]) (st := []) (q := 200) (k' := 0) (n' := 0) rfl rfl cs_Mo_220 ⟨by decide, by decide⟩ rfl rfl (by decide) (by decide) rfl rfl (Nat.le_of_ble_eq_true rfl) ?_
                refine GI.mono h (fun y3_ t3_ h => ?_)
                refine aw_if_eq (q := 203) (tgt := 275) rfl rfl (by decide) ⟨fun cd_8 => ?_, fun cd_8 => ?_⟩
                · replace h := h.1 cd_8
                  refine aw_iload_n (q := 276) (j := 1) rfl rfl rfl (List.mem_of_getElem? (i := 2) rfl) ?_
                  refine aw_aload_n (q := 277) (j := 0) rfl rfl rfl (List.mem_of_getElem? (i := 1) rfl) ?_
                  refine aw_iload_n (q := 278) (j := 1) rfl rfl rfl (List.mem_of_getElem? (i := 2) rfl) ?_
                  refine aw_iload_n (q := 279) (j := 2) rfl rfl rfl (List.mem_of_getElem? (i := 0) rfl) ?_
                  refine aw_aload_n (q := 280) (j := 0) rfl rfl rfl (List.mem_of_getElem? (i := 1) rfl) ?_
                  refine aw_iload_n (q := 281) (j := 1) rfl rfl rfl (List.mem_of_getElem? (i := 2) rfl) ?_
                  refine aw_iconst (q := 282) (v := 1) rfl rfl (by decide) ?_
                  refine aw_iadd (q := 283) rfl rfl ?_
                  refine ag_cvI (z := m_Mo_byteAt) (ci := 11) (av := [.int _]) (st := [.int _, .int _, .ref _, .int _]) (q := 286) (k' := 0) (n' := 0) rfl rfl cv_Mo_208 ⟨by decide, by decide⟩ rfl rfl (by decide) (by decide) (SX.o hS rfl) rfl rfl rfl (Nat.le_of_ble_eq_true rfl) ?_
                  refine GI.mono h (fun y4_ t4_ h => ?_)
                  refine ag_cvI (z := m_Mo_sign) (ci := 11) (av := [.int _, .int _, .int _]) (st := [.int _]) (q := 289) (k' := 0) (n' := 0) rfl rfl cv_Mo_223 ⟨by decide, by decide⟩ rfl rfl (by decide) (by decide) (SX.o hS rfl) rfl rfl rfl (Nat.le_of_ble_eq_true rfl) ?_
                  refine GI.mono h (fun y5_ t5_ h => ?_)
                  refine aw_iadd (q := 290) rfl rfl ?_
                  refine aw_istore_n (q := 291) (j := 1) (ls' := [(1, .int _), (2, .int _), (0, .ref _)]) rfl rfl rfl (by decide) rfl ?_
                  refine aw_goto (tgt := 7) rfl (by decide) ?_
                  refine aw_ls [2, 0] rfl ?_
                  exact h
                · replace h := h.2 cd_8
                  refine aw_iconst (q := 204) (v := 0) rfl rfl (by decide) ?_
                  refine aw_istore_n (q := 205) (j := 3) (ls' := [(3, .int _), (2, .int _), (0, .ref _), (1, .int _)]) rfl rfl rfl (by decide) rfl ?_
                  refine aw_iconst (q := 206) (v := 0) rfl rfl (by decide) ?_
                  refine aw_istore (q := 208) (j := 4) (ls' := [(4, .int _), (3, .int _), (2, .int _), (0, .ref _), (1, .int _)]) rfl rfl (by decide) rfl ?_
                  refine aw_ls [3, 4, 2, 1, 0] rfl ?_
                  exact h
              · replace h := h.2 cd_7
                refine aw_iconst (q := 81) (v := 0) rfl rfl (by decide) ?_
                refine aw_istore_n (q := 82) (j := 3) (ls' := [(3, .int _), (2, .int _), (0, .ref _), (1, .int _)]) rfl rfl rfl (by decide) rfl ?_
                refine aw_lconst (q := 83) (v := 0) rfl rfl (by decide) ?_
                refine aw_lstore (q := 85) (j := 4) (ls' := [(4, .long _), (3, .int _), (2, .int _), (0, .ref _), (1, .int _)]) rfl rfl (by decide) rfl ?_
                refine aw_ls [3, 4, 2, 1, 0] rfl ?_
                exact h
    · replace h := h.2 cd_2
      refine aw_aload_n (q := 32) (j := 0) rfl rfl rfl (List.mem_of_getElem? (i := 1) rfl) ?_
      refine aw_iconst (q := 33) (v := 0) rfl rfl (by decide) ?_
      refine aw_aload_n (q := 34) (j := 0) rfl rfl rfl (List.mem_of_getElem? (i := 1) rfl) ?_
      refine ag_getI (q := 37) rfl rfl fl_Mo_196 rfl (SX.o hS rfl) ?_
      refine aw_iconst (q := 38) (v := 0) rfl rfl (by decide) ?_
      refine aw_lconst (q := 39) (v := 0) rfl rfl (by decide) ?_
      refine ag_cvV (z := m_Mo_token) (ci := 11) (av := [.int _, .int _, .int _, .long _]) (st := []) (q := 42) (k' := 0) (n' := 0) rfl rfl cv_Mo_212 ⟨by decide, by decide⟩ rfl rfl (by decide) (by decide) (SX.o hS rfl) rfl rfl rfl (Nat.le_of_ble_eq_true rfl) ?_
      refine GV.mono h (fun t6_ h => ?_)
      exact aw_return rfl rfl (by decide) (by decide) h
set_option maxRecDepth 20000 in
theorem v_Mo_cut_85 {E : EN} {g : GS} {s : MS} {Q : Option Value → SG → Prop} (x1 : Int32) (x2 : Int32) (x3 : Int32) (l4 : Int64) (hS : SX g) (h : GI E m_Mo_byteAt [.ref 120, .int (x1 + x3)] g s (fun y1_ t1_ => GI E m_Mo_isLetter [.int y1_] g t1_ (fun y2_ t2_ => ((y2_ = 0 → ((x3 ≤ 8 → ((7 < x3 → GV E m_Mo_token [.ref 120, .int 1, .int x1, .int 0, .long l4] g t2_ (fun t3_ => AWP E m_Mo_cut 7 0 0 [(0, .ref 120), (1, .int (x1 + x3))] [] (mk g t3_) Q)) ∧ (¬ 7 < x3 → AWP E m_Mo_cut 146 0 0 [(0, .ref 120), (1, .int x1), (2, .int x2), (3, .int x3), (4, .long l4), (6, .int 1), (7, .int 0)] [] (mk g t2_) Q))) ∧ (¬ x3 ≤ 8 → ((7 < x3 → GV E m_Mo_token [.ref 120, .int 3, .int x1, .int 0, .long l4] g t2_ (fun t4_ => AWP E m_Mo_cut 7 0 0 [(0, .ref 120), (1, .int (x1 + x3))] [] (mk g t4_) Q)) ∧ (¬ 7 < x3 → AWP E m_Mo_cut 146 0 0 [(0, .ref 120), (1, .int x1), (2, .int x2), (3, .int x3), (4, .long l4), (6, .int 3), (7, .int 0)] [] (mk g t2_) Q))))) ∧ (¬ y2_ = 0 → ((8 ≤ x3 → AWP E m_Mo_cut 85 0 0 [(0, .ref 120), (1, .int x1), (2, .int x2), (3, .int (x3 + 1)), (4, .long l4)] [] (mk g t2_) Q) ∧ (¬ 8 ≤ x3 → GI E m_Mo_byteAt [.ref 120, .int (x1 + x3)] g t2_ (fun y5_ t5_ => GL E m_Mo_appends [.long l4, .int y5_] g t5_ (fun y6_ t6_ => AWP E m_Mo_cut 85 0 0 [(0, .ref 120), (1, .int x1), (2, .int x2), (3, .int (x3 + 1)), (4, .long y6_)] [] (mk g t6_) Q))))))))) : AWP E m_Mo_cut 85 0 0 [(0, .ref 120), (1, .int x1), (2, .int x2), (3, .int x3), (4, .long l4)] [] (mk g s) Q := by
  refine aw_aload_n (q := 86) (j := 0) rfl rfl rfl (List.mem_of_getElem? (i := 0) rfl) ?_
  refine aw_iload_n (q := 87) (j := 1) rfl rfl rfl (List.mem_of_getElem? (i := 1) rfl) ?_
  refine aw_iload_n (q := 88) (j := 3) rfl rfl rfl (List.mem_of_getElem? (i := 3) rfl) ?_
  refine aw_iadd (q := 89) rfl rfl ?_
  refine ag_cvI (z := m_Mo_byteAt) (ci := 11) (av := [.int _]) (st := []) (q := 92) (k' := 0) (n' := 0) rfl rfl cv_Mo_208 ⟨by decide, by decide⟩ rfl rfl (by decide) (by decide) (SX.o hS rfl) rfl rfl rfl (Nat.le_of_ble_eq_true rfl) ?_
  refine GI.mono h (fun y1_ t1_ h => ?_)
  refine ag_csI (z := m_Mo_isLetter) (av := [.int _]) (st := []) (q := 95) (k' := 0) (n' := 0) rfl rfl cs_Mo_216 ⟨by decide, by decide⟩ rfl rfl (by decide) (by decide) rfl rfl (Nat.le_of_ble_eq_true rfl) ?_
  refine GI.mono h (fun y2_ t2_ h => ?_)
  refine aw_if_eq (q := 98) (tgt := 124) rfl rfl (by decide) ⟨fun cd_1 => ?_, fun cd_1 => ?_⟩
  · replace h := h.1 cd_1
    refine aw_iload_n (q := 125) (j := 3) rfl rfl rfl (List.mem_of_getElem? (i := 3) rfl) ?_
    refine aw_bipush (q := 127) (v := 8) rfl rfl (by decide) ?_
    refine aw_icmp_le (q := 130) (tgt := 134) rfl rfl (by decide) ⟨fun cd_2 => ?_, fun cd_2 => ?_⟩
    · replace h := h.1 cd_2
      refine aw_iconst (q := 135) (v := 1) rfl rfl (by decide) ?_
      refine aw_istore (q := 137) (j := 6) (ls' := [(6, .int _), (0, .ref _), (1, .int _), (2, .int _), (3, .int _), (4, .long _)]) rfl rfl (by decide) rfl ?_
      refine aw_iload_n (q := 138) (j := 3) rfl rfl rfl (List.mem_of_getElem? (i := 4) rfl) ?_
      refine aw_bipush (q := 140) (v := 7) rfl rfl (by decide) ?_
      refine aw_icmp_gt (q := 143) (tgt := 179) rfl rfl (by decide) ⟨fun cd_3 => ?_, fun cd_3 => ?_⟩
      · replace h := h.1 cd_3
        refine aw_aload_n (q := 180) (j := 0) rfl rfl rfl (List.mem_of_getElem? (i := 1) rfl) ?_
        refine aw_iload (q := 182) (j := 6) rfl rfl (List.mem_of_getElem? (i := 0) rfl) ?_
        refine aw_iload_n (q := 183) (j := 1) rfl rfl rfl (List.mem_of_getElem? (i := 2) rfl) ?_
        refine aw_iconst (q := 184) (v := 0) rfl rfl (by decide) ?_
        refine aw_lload (q := 186) (j := 4) rfl rfl (List.mem_of_getElem? (i := 5) rfl) ?_
        refine ag_cvV (z := m_Mo_token) (ci := 11) (av := [.int _, .int _, .int _, .long _]) (st := []) (q := 189) (k' := 0) (n' := 0) rfl rfl cv_Mo_212 ⟨by decide, by decide⟩ rfl rfl (by decide) (by decide) (SX.o hS rfl) rfl rfl rfl (Nat.le_of_ble_eq_true rfl) ?_
        refine GV.mono h (fun t3_ h => ?_)
        refine aw_iload_n (q := 190) (j := 1) rfl rfl rfl (List.mem_of_getElem? (i := 2) rfl) ?_
        refine aw_iload_n (q := 191) (j := 3) rfl rfl rfl (List.mem_of_getElem? (i := 4) rfl) ?_
        refine aw_iadd (q := 192) rfl rfl ?_
        refine aw_istore_n (q := 193) (j := 1) (ls' := [(1, .int _), (6, .int _), (0, .ref _), (2, .int _), (3, .int _), (4, .long _)]) rfl rfl rfl (by decide) rfl ?_
        refine aw_goto (tgt := 291) rfl (by decide) ?_
        refine aw_goto (tgt := 7) rfl (by decide) ?_
        refine aw_ls [2, 0] rfl ?_
        exact h
      · replace h := h.2 cd_3
        refine aw_iconst (q := 144) (v := 0) rfl rfl (by decide) ?_
        refine aw_istore (q := 146) (j := 7) (ls' := [(7, .int _), (6, .int _), (0, .ref _), (1, .int _), (2, .int _), (3, .int _), (4, .long _)]) rfl rfl (by decide) rfl ?_
        refine aw_ls [2, 3, 4, 5, 6, 1, 0] rfl ?_
        exact h
    · replace h := h.2 cd_2
      refine aw_iconst (q := 131) (v := 3) rfl rfl (by decide) ?_
      refine aw_goto (tgt := 135) rfl (by decide) ?_
      refine aw_istore (q := 137) (j := 6) (ls' := [(6, .int _), (0, .ref _), (1, .int _), (2, .int _), (3, .int _), (4, .long _)]) rfl rfl (by decide) rfl ?_
      refine aw_iload_n (q := 138) (j := 3) rfl rfl rfl (List.mem_of_getElem? (i := 4) rfl) ?_
      refine aw_bipush (q := 140) (v := 7) rfl rfl (by decide) ?_
      refine aw_icmp_gt (q := 143) (tgt := 179) rfl rfl (by decide) ⟨fun cd_4 => ?_, fun cd_4 => ?_⟩
      · replace h := h.1 cd_4
        refine aw_aload_n (q := 180) (j := 0) rfl rfl rfl (List.mem_of_getElem? (i := 1) rfl) ?_
        refine aw_iload (q := 182) (j := 6) rfl rfl (List.mem_of_getElem? (i := 0) rfl) ?_
        refine aw_iload_n (q := 183) (j := 1) rfl rfl rfl (List.mem_of_getElem? (i := 2) rfl) ?_
        refine aw_iconst (q := 184) (v := 0) rfl rfl (by decide) ?_
        refine aw_lload (q := 186) (j := 4) rfl rfl (List.mem_of_getElem? (i := 5) rfl) ?_
        refine ag_cvV (z := m_Mo_token) (ci := 11) (av := [.int _, .int _, .int _, .long _]) (st := []) (q := 189) (k' := 0) (n' := 0) rfl rfl cv_Mo_212 ⟨by decide, by decide⟩ rfl rfl (by decide) (by decide) (SX.o hS rfl) rfl rfl rfl (Nat.le_of_ble_eq_true rfl) ?_
        refine GV.mono h (fun t4_ h => ?_)
        refine aw_iload_n (q := 190) (j := 1) rfl rfl rfl (List.mem_of_getElem? (i := 2) rfl) ?_
        refine aw_iload_n (q := 191) (j := 3) rfl rfl rfl (List.mem_of_getElem? (i := 4) rfl) ?_
        refine aw_iadd (q := 192) rfl rfl ?_
        refine aw_istore_n (q := 193) (j := 1) (ls' := [(1, .int _), (6, .int _), (0, .ref _), (2, .int _), (3, .int _), (4, .long _)]) rfl rfl rfl (by decide) rfl ?_
        refine aw_goto (tgt := 291) rfl (by decide) ?_
        refine aw_goto (tgt := 7) rfl (by decide) ?_
        refine aw_ls [2, 0] rfl ?_
        exact h
      · replace h := h.2 cd_4
        refine aw_iconst (q := 144) (v := 0) rfl rfl (by decide) ?_
        refine aw_istore (q := 146) (j := 7) (ls' := [(7, .int _), (6, .int _), (0, .ref _), (1, .int _), (2, .int _), (3, .int _), (4, .long _)]) rfl rfl (by decide) rfl ?_
        refine aw_ls [2, 3, 4, 5, 6, 1, 0] rfl ?_
        exact h
  · replace h := h.2 cd_1
    refine aw_iload_n (q := 99) (j := 3) rfl rfl rfl (List.mem_of_getElem? (i := 3) rfl) ?_
    refine aw_bipush (q := 101) (v := 8) rfl rfl (by decide) ?_
    refine aw_icmp_ge (q := 104) (tgt := 118) rfl rfl (by decide) ⟨fun cd_5 => ?_, fun cd_5 => ?_⟩
    · replace h := h.1 cd_5
      refine aw_iinc (q := 121) (v := _ + 1) (ls' := [(3, .int _), (0, .ref _), (1, .int _), (2, .int _), (4, .long _)]) rfl rfl (List.mem_of_getElem? (i := 3) rfl) rfl (by decide) rfl ?_
      refine aw_goto (tgt := 85) rfl (by decide) ?_
      refine aw_ls [1, 2, 3, 0, 4] rfl ?_
      exact h
    · replace h := h.2 cd_5
      refine aw_lload (q := 106) (j := 4) rfl rfl (List.mem_of_getElem? (i := 4) rfl) ?_
      refine aw_aload_n (q := 107) (j := 0) rfl rfl rfl (List.mem_of_getElem? (i := 0) rfl) ?_
      refine aw_iload_n (q := 108) (j := 1) rfl rfl rfl (List.mem_of_getElem? (i := 1) rfl) ?_
      refine aw_iload_n (q := 109) (j := 3) rfl rfl rfl (List.mem_of_getElem? (i := 3) rfl) ?_
      refine aw_iadd (q := 110) rfl rfl ?_
      refine ag_cvI (z := m_Mo_byteAt) (ci := 11) (av := [.int _]) (st := [.long _]) (q := 113) (k' := 0) (n' := 0) rfl rfl cv_Mo_208 ⟨by decide, by decide⟩ rfl rfl (by decide) (by decide) (SX.o hS rfl) rfl rfl rfl (Nat.le_of_ble_eq_true rfl) ?_
      refine GI.mono h (fun y5_ t5_ h => ?_)
      refine ag_csL (z := m_Mo_appends) (av := [.long _, .int _]) (st := []) (q := 116) (k' := 0) (n' := 0) rfl rfl cs_Mo_201 ⟨by decide, by decide⟩ rfl rfl (by decide) (by decide) rfl rfl (Nat.le_of_ble_eq_true rfl) ?_
      refine GL.mono h (fun y6_ t6_ h => ?_)
      refine aw_lstore (q := 118) (j := 4) (ls' := [(4, .long _), (0, .ref _), (1, .int _), (2, .int _), (3, .int _)]) rfl rfl (by decide) rfl ?_
      refine aw_iinc (q := 121) (v := _ + 1) (ls' := [(3, .int _), (4, .long _), (0, .ref _), (1, .int _), (2, .int _)]) rfl rfl (List.mem_of_getElem? (i := 4) rfl) rfl (by decide) rfl ?_
      refine aw_goto (tgt := 85) rfl (by decide) ?_
      refine aw_ls [2, 3, 4, 0, 1] rfl ?_
      exact h
set_option maxRecDepth 20000 in
theorem v_Mo_cut_146 {E : EN} {g : GS} {s : MS} {Q : Option Value → SG → Prop} (x1 : Int32) (x2 : Int32) (x3 : Int32) (l4 : Int64) (x6 : Int32) (x7 : Int32) (hS : SX g) (h : ((20 ≤ x7 → GV E m_Mo_token [.ref 120, .int x6, .int x1, .int 0, .long l4] g s (fun t1_ => AWP E m_Mo_cut 7 0 0 [(0, .ref 120), (1, .int (x1 + x3))] [] (mk g t1_) Q)) ∧ (¬ 20 ≤ x7 → vp_in x7 20 ∧ (((lg_cmp (s.2 127 ((x7).toNatClampNeg)) l4) = 0 → AWP E m_Mo_cut 146 0 0 [(0, .ref 120), (1, .int x1), (2, .int x2), (3, .int x3), (4, .long l4), (6, .int (20 + x7)), (7, .int (x7 + 1))] [] (mk g s) Q) ∧ (¬ (lg_cmp (s.2 127 ((x7).toNatClampNeg)) l4) = 0 → AWP E m_Mo_cut 146 0 0 [(0, .ref 120), (1, .int x1), (2, .int x2), (3, .int x3), (4, .long l4), (6, .int x6), (7, .int (x7 + 1))] [] (mk g s) Q))))) : AWP E m_Mo_cut 146 0 0 [(0, .ref 120), (1, .int x1), (2, .int x2), (3, .int x3), (4, .long l4), (6, .int x6), (7, .int x7)] [] (mk g s) Q := by
  refine aw_iload (q := 148) (j := 7) rfl rfl (List.mem_of_getElem? (i := 6) rfl) ?_
  refine aw_bipush (q := 150) (v := 20) rfl rfl (by decide) ?_
  refine aw_icmp_ge (q := 153) (tgt := 179) rfl rfl (by decide) ⟨fun cd_1 => ?_, fun cd_1 => ?_⟩
  · replace h := h.1 cd_1
    refine aw_aload_n (q := 180) (j := 0) rfl rfl rfl (List.mem_of_getElem? (i := 0) rfl) ?_
    refine aw_iload (q := 182) (j := 6) rfl rfl (List.mem_of_getElem? (i := 5) rfl) ?_
    refine aw_iload_n (q := 183) (j := 1) rfl rfl rfl (List.mem_of_getElem? (i := 1) rfl) ?_
    refine aw_iconst (q := 184) (v := 0) rfl rfl (by decide) ?_
    refine aw_lload (q := 186) (j := 4) rfl rfl (List.mem_of_getElem? (i := 4) rfl) ?_
    refine ag_cvV (z := m_Mo_token) (ci := 11) (av := [.int _, .int _, .int _, .long _]) (st := []) (q := 189) (k' := 0) (n' := 0) rfl rfl cv_Mo_212 ⟨by decide, by decide⟩ rfl rfl (by decide) (by decide) (SX.o hS rfl) rfl rfl rfl (Nat.le_of_ble_eq_true rfl) ?_
    refine GV.mono h (fun t1_ h => ?_)
    refine aw_iload_n (q := 190) (j := 1) rfl rfl rfl (List.mem_of_getElem? (i := 1) rfl) ?_
    refine aw_iload_n (q := 191) (j := 3) rfl rfl rfl (List.mem_of_getElem? (i := 3) rfl) ?_
    refine aw_iadd (q := 192) rfl rfl ?_
    refine aw_istore_n (q := 193) (j := 1) (ls' := [(1, .int _), (0, .ref _), (2, .int _), (3, .int _), (4, .long _), (6, .int _), (7, .int _)]) rfl rfl rfl (by decide) rfl ?_
    refine aw_goto (tgt := 291) rfl (by decide) ?_
    refine aw_goto (tgt := 7) rfl (by decide) ?_
    refine aw_ls [1, 0] rfl ?_
    exact h
  · replace h := h.2 cd_1
    refine aw_aload_n (q := 154) (j := 0) rfl rfl rfl (List.mem_of_getElem? (i := 0) rfl) ?_
    refine ag_getR (q := 157) rfl rfl fl_Mo_34 rfl (SX.o hS rfl) (SX.r hS rfl) ?_
    refine aw_iload (q := 159) (j := 7) rfl rfl (List.mem_of_getElem? (i := 6) rfl) ?_
    obtain ⟨bd_2, h⟩ := h
    refine ag_laload (q := 160) (N := 20) rfl rfl (SX.a hS rfl) bd_2 ?_
    refine aw_lload (q := 162) (j := 4) rfl rfl (List.mem_of_getElem? (i := 4) rfl) ?_
    refine aw_lcmp (q := 163) rfl rfl ?_
    refine aw_if_ne (q := 166) (tgt := 173) rfl rfl (by decide) ⟨fun cd_3 => ?_, fun cd_3 => ?_⟩
    · replace h := h.1 cd_3
      refine aw_bipush (q := 168) (v := 20) rfl rfl (by decide) ?_
      refine aw_iload (q := 170) (j := 7) rfl rfl (List.mem_of_getElem? (i := 6) rfl) ?_
      refine aw_iadd (q := 171) rfl rfl ?_
      refine aw_istore (q := 173) (j := 6) (ls' := [(6, .int _), (0, .ref _), (1, .int _), (2, .int _), (3, .int _), (4, .long _), (7, .int _)]) rfl rfl (by decide) rfl ?_
      refine aw_iinc (q := 176) (v := _ + 1) (ls' := [(7, .int _), (6, .int _), (0, .ref _), (1, .int _), (2, .int _), (3, .int _), (4, .long _)]) rfl rfl (List.mem_of_getElem? (i := 6) rfl) rfl (by decide) rfl ?_
      refine aw_goto (tgt := 146) rfl (by decide) ?_
      refine aw_ls [2, 3, 4, 5, 6, 1, 0] rfl ?_
      exact h
    · replace h := h.2 cd_3
      refine aw_iinc (q := 176) (v := _ + 1) (ls' := [(7, .int _), (0, .ref _), (1, .int _), (2, .int _), (3, .int _), (4, .long _), (6, .int _)]) rfl rfl (List.mem_of_getElem? (i := 6) rfl) rfl (by decide) rfl ?_
      refine aw_goto (tgt := 146) rfl (by decide) ?_
      refine aw_ls [1, 2, 3, 4, 5, 6, 0] rfl ?_
      exact h
set_option maxRecDepth 20000 in
theorem v_Mo_cut_208 {E : EN} {g : GS} {s : MS} {Q : Option Value → SG → Prop} (x1 : Int32) (x2 : Int32) (x3 : Int32) (x4 : Int32) (hS : SX g) (h : GI E m_Mo_byteAt [.ref 120, .int (x1 + x3)] g s (fun y1_ t1_ => GI E m_Mo_isDigit [.int y1_] g t1_ (fun y2_ t2_ => ((y2_ = 0 → ((x3 ≤ 4 → GV E m_Mo_token [.ref 120, .int 2, .int x1, .int x4, .long 0] g t2_ (fun t3_ => AWP E m_Mo_cut 7 0 0 [(0, .ref 120), (1, .int (x1 + x3))] [] (mk g t3_) Q)) ∧ (¬ x3 ≤ 4 → GV E m_Mo_token [.ref 120, .int 3, .int x1, .int x4, .long 0] g t2_ (fun t4_ => AWP E m_Mo_cut 7 0 0 [(0, .ref 120), (1, .int (x1 + x3))] [] (mk g t4_) Q)))) ∧ (¬ y2_ = 0 → ((4 ≤ x3 → AWP E m_Mo_cut 208 0 0 [(0, .ref 120), (1, .int x1), (2, .int x2), (3, .int (x3 + 1)), (4, .int x4)] [] (mk g t2_) Q) ∧ (¬ 4 ≤ x3 → GI E m_Mo_byteAt [.ref 120, .int (x1 + x3)] g t2_ (fun y5_ t5_ => AWP E m_Mo_cut 208 0 0 [(0, .ref 120), (1, .int x1), (2, .int x2), (3, .int (x3 + 1)), (4, .int (((10 * x4) + y5_) - 48))] [] (mk g t5_) Q)))))))) : AWP E m_Mo_cut 208 0 0 [(0, .ref 120), (1, .int x1), (2, .int x2), (3, .int x3), (4, .int x4)] [] (mk g s) Q := by
  refine aw_aload_n (q := 209) (j := 0) rfl rfl rfl (List.mem_of_getElem? (i := 0) rfl) ?_
  refine aw_iload_n (q := 210) (j := 1) rfl rfl rfl (List.mem_of_getElem? (i := 1) rfl) ?_
  refine aw_iload_n (q := 211) (j := 3) rfl rfl rfl (List.mem_of_getElem? (i := 3) rfl) ?_
  refine aw_iadd (q := 212) rfl rfl ?_
  refine ag_cvI (z := m_Mo_byteAt) (ci := 11) (av := [.int _]) (st := []) (q := 215) (k' := 0) (n' := 0) rfl rfl cv_Mo_208 ⟨by decide, by decide⟩ rfl rfl (by decide) (by decide) (SX.o hS rfl) rfl rfl rfl (Nat.le_of_ble_eq_true rfl) ?_
  refine GI.mono h (fun y1_ t1_ h => ?_)
  refine ag_csI (z := m_Mo_isDigit) (av := [.int _]) (st := []) (q := 218) (k' := 0) (n' := 0) rfl rfl cs_Mo_220 ⟨by decide, by decide⟩ rfl rfl (by decide) (by decide) rfl rfl (Nat.le_of_ble_eq_true rfl) ?_
  refine GI.mono h (fun y2_ t2_ h => ?_)
  refine aw_if_eq (q := 221) (tgt := 250) rfl rfl (by decide) ⟨fun cd_1 => ?_, fun cd_1 => ?_⟩
  · replace h := h.1 cd_1
    refine aw_aload_n (q := 251) (j := 0) rfl rfl rfl (List.mem_of_getElem? (i := 0) rfl) ?_
    refine aw_iload_n (q := 252) (j := 3) rfl rfl rfl (List.mem_of_getElem? (i := 3) rfl) ?_
    refine aw_iconst (q := 253) (v := 4) rfl rfl (by decide) ?_
    refine aw_icmp_le (q := 256) (tgt := 260) rfl rfl (by decide) ⟨fun cd_2 => ?_, fun cd_2 => ?_⟩
    · replace h := h.1 cd_2
      refine aw_iconst (q := 261) (v := 2) rfl rfl (by decide) ?_
      refine aw_iload_n (q := 262) (j := 1) rfl rfl rfl (List.mem_of_getElem? (i := 1) rfl) ?_
      refine aw_iload (q := 264) (j := 4) rfl rfl (List.mem_of_getElem? (i := 4) rfl) ?_
      refine aw_lconst (q := 265) (v := 0) rfl rfl (by decide) ?_
      refine ag_cvV (z := m_Mo_token) (ci := 11) (av := [.int _, .int _, .int _, .long _]) (st := []) (q := 268) (k' := 0) (n' := 0) rfl rfl cv_Mo_212 ⟨by decide, by decide⟩ rfl rfl (by decide) (by decide) (SX.o hS rfl) rfl rfl rfl (Nat.le_of_ble_eq_true rfl) ?_
      refine GV.mono h (fun t3_ h => ?_)
      refine aw_iload_n (q := 269) (j := 1) rfl rfl rfl (List.mem_of_getElem? (i := 1) rfl) ?_
      refine aw_iload_n (q := 270) (j := 3) rfl rfl rfl (List.mem_of_getElem? (i := 3) rfl) ?_
      refine aw_iadd (q := 271) rfl rfl ?_
      refine aw_istore_n (q := 272) (j := 1) (ls' := [(1, .int _), (0, .ref _), (2, .int _), (3, .int _), (4, .int _)]) rfl rfl rfl (by decide) rfl ?_
      refine aw_goto (tgt := 291) rfl (by decide) ?_
      refine aw_goto (tgt := 7) rfl (by decide) ?_
      refine aw_ls [1, 0] rfl ?_
      exact h
    · replace h := h.2 cd_2
      refine aw_iconst (q := 257) (v := 3) rfl rfl (by decide) ?_
      refine aw_goto (tgt := 261) rfl (by decide) ?_
      refine aw_iload_n (q := 262) (j := 1) rfl rfl rfl (List.mem_of_getElem? (i := 1) rfl) ?_
      refine aw_iload (q := 264) (j := 4) rfl rfl (List.mem_of_getElem? (i := 4) rfl) ?_
      refine aw_lconst (q := 265) (v := 0) rfl rfl (by decide) ?_
      refine ag_cvV (z := m_Mo_token) (ci := 11) (av := [.int _, .int _, .int _, .long _]) (st := []) (q := 268) (k' := 0) (n' := 0) rfl rfl cv_Mo_212 ⟨by decide, by decide⟩ rfl rfl (by decide) (by decide) (SX.o hS rfl) rfl rfl rfl (Nat.le_of_ble_eq_true rfl) ?_
      refine GV.mono h (fun t4_ h => ?_)
      refine aw_iload_n (q := 269) (j := 1) rfl rfl rfl (List.mem_of_getElem? (i := 1) rfl) ?_
      refine aw_iload_n (q := 270) (j := 3) rfl rfl rfl (List.mem_of_getElem? (i := 3) rfl) ?_
      refine aw_iadd (q := 271) rfl rfl ?_
      refine aw_istore_n (q := 272) (j := 1) (ls' := [(1, .int _), (0, .ref _), (2, .int _), (3, .int _), (4, .int _)]) rfl rfl rfl (by decide) rfl ?_
      refine aw_goto (tgt := 291) rfl (by decide) ?_
      refine aw_goto (tgt := 7) rfl (by decide) ?_
      refine aw_ls [1, 0] rfl ?_
      exact h
  · replace h := h.2 cd_1
    refine aw_iload_n (q := 222) (j := 3) rfl rfl rfl (List.mem_of_getElem? (i := 3) rfl) ?_
    refine aw_iconst (q := 223) (v := 4) rfl rfl (by decide) ?_
    refine aw_icmp_ge (q := 226) (tgt := 244) rfl rfl (by decide) ⟨fun cd_3 => ?_, fun cd_3 => ?_⟩
    · replace h := h.1 cd_3
      refine aw_iinc (q := 247) (v := _ + 1) (ls' := [(3, .int _), (0, .ref _), (1, .int _), (2, .int _), (4, .int _)]) rfl rfl (List.mem_of_getElem? (i := 3) rfl) rfl (by decide) rfl ?_
      refine aw_goto (tgt := 208) rfl (by decide) ?_
      refine aw_ls [1, 2, 3, 0, 4] rfl ?_
      exact h
    · replace h := h.2 cd_3
      refine aw_bipush (q := 228) (v := 10) rfl rfl (by decide) ?_
      refine aw_iload (q := 230) (j := 4) rfl rfl (List.mem_of_getElem? (i := 4) rfl) ?_
      refine aw_imul (q := 231) rfl rfl ?_
      refine aw_aload_n (q := 232) (j := 0) rfl rfl rfl (List.mem_of_getElem? (i := 0) rfl) ?_
      refine aw_iload_n (q := 233) (j := 1) rfl rfl rfl (List.mem_of_getElem? (i := 1) rfl) ?_
      refine aw_iload_n (q := 234) (j := 3) rfl rfl rfl (List.mem_of_getElem? (i := 3) rfl) ?_
      refine aw_iadd (q := 235) rfl rfl ?_
      refine ag_cvI (z := m_Mo_byteAt) (ci := 11) (av := [.int _]) (st := [.int _]) (q := 238) (k' := 0) (n' := 0) rfl rfl cv_Mo_208 ⟨by decide, by decide⟩ rfl rfl (by decide) (by decide) (SX.o hS rfl) rfl rfl rfl (Nat.le_of_ble_eq_true rfl) ?_
      refine GI.mono h (fun y5_ t5_ h => ?_)
      refine aw_iadd (q := 239) rfl rfl ?_
      refine aw_bipush (q := 241) (v := 48) rfl rfl (by decide) ?_
      refine aw_isub (q := 242) rfl rfl ?_
      refine aw_istore (q := 244) (j := 4) (ls' := [(4, .int _), (0, .ref _), (1, .int _), (2, .int _), (3, .int _)]) rfl rfl (by decide) rfl ?_
      refine aw_iinc (q := 247) (v := _ + 1) (ls' := [(3, .int _), (4, .int _), (0, .ref _), (1, .int _), (2, .int _)]) rfl rfl (List.mem_of_getElem? (i := 4) rfl) rfl (by decide) rfl ?_
      refine aw_goto (tgt := 208) rfl (by decide) ?_
      refine aw_ls [2, 3, 4, 0, 1] rfl ?_
      exact h
set_option maxRecDepth 20000 in
theorem v_Mo_cut {E : EN} {g : GS} {s : MS} {Q : Option Value → SG → Prop}  (hS : SX g) (h : (∀ s1_, s1_ = wi s 120 10 0 → AWP E m_Mo_cut 7 0 0 [(0, .ref 120), (1, .int 0)] [] (mk g s1_) Q)) : AMet E m_Mo_cut [.ref 120] (mk g s) Q := by
  refine AMet.of (by decide) k_Mo_cut [(0, .ref 120)] (Nat.le_of_ble_eq_true rfl) rfl ?_
  refine aw_aload_n (q := 1) (j := 0) rfl rfl rfl (List.mem_of_getElem? (i := 0) rfl) ?_
  refine aw_iconst (q := 2) (v := 0) rfl rfl (by decide) ?_
  refine ag_putI (q := 5) rfl rfl fl_Mo_205 rfl rfl (SX.o hS rfl) ?_
  replace h := h _ rfl
  refine aw_iconst (q := 6) (v := 0) rfl rfl (by decide) ?_
  refine aw_istore_n (q := 7) (j := 1) (ls' := [(1, .int _), (0, .ref _)]) rfl rfl rfl (by decide) rfl ?_
  refine aw_ls [1, 0] rfl ?_
  exact h
set_option maxRecDepth 20000 in
theorem v_Mo_byteAt {E : EN} {g : GS} {s : MS} {Q : Option Value → SG → Prop} (x1 : Int32) (hS : SX g) (h : (((s.1 120 4) ≤ x1 → Q (some (.int 0)) (mk g s)) ∧ (¬ (s.1 120 4) ≤ x1 → vp_in x1 2000 ∧ Q (some (.int ((s.1 122 ((x1).toNatClampNeg)) &&& 255))) (mk g s)))) : AMet E m_Mo_byteAt [.ref 120, .int x1] (mk g s) Q := by
  refine AMet.of (by decide) k_Mo_byteAt [(0, .ref 120), (1, .int x1)] (Nat.le_of_ble_eq_true rfl) rfl ?_
  refine aw_iload_n (q := 1) (j := 1) rfl rfl rfl (List.mem_of_getElem? (i := 1) rfl) ?_
  refine aw_aload_n (q := 2) (j := 0) rfl rfl rfl (List.mem_of_getElem? (i := 0) rfl) ?_
  refine ag_getI (q := 5) rfl rfl fl_Mo_196 rfl (SX.o hS rfl) ?_
  refine aw_icmp_ge (q := 8) (tgt := 21) rfl rfl (by decide) ⟨fun cd_1 => ?_, fun cd_1 => ?_⟩
  · replace h := h.1 cd_1
    refine aw_iconst (q := 22) (v := 0) rfl rfl (by decide) ?_
    exact aw_ireturn (ty := .int) rfl rfl rfl (by decide) (by decide) h
  · replace h := h.2 cd_1
    refine aw_aload_n (q := 9) (j := 0) rfl rfl rfl (List.mem_of_getElem? (i := 0) rfl) ?_
    refine ag_getR (q := 12) rfl rfl fl_Mo_17 rfl (SX.o hS rfl) (SX.r hS rfl) ?_
    refine aw_iload_n (q := 13) (j := 1) rfl rfl rfl (List.mem_of_getElem? (i := 1) rfl) ?_
    obtain ⟨bd_2, h⟩ := h
    refine ag_baload (q := 14) (N := 2000) rfl rfl (SX.a hS rfl) bd_2 ?_
    refine aw_sipush (q := 17) (v := 255) rfl rfl (by decide) ?_
    refine aw_iand (q := 18) rfl rfl ?_
    refine aw_goto (tgt := 22) rfl (by decide) ?_
    exact aw_ireturn (ty := .int) rfl rfl rfl (by decide) (by decide) h
set_option maxRecDepth 20000 in
theorem v_Mo_token {E : EN} {g : GS} {s : MS} {Q : Option Value → SG → Prop} (x1 : Int32) (x2 : Int32) (x3 : Int32) (l4 : Int64) (hS : SX g) (h : vp_in (s.1 120 10) 403 ∧ (∀ s1_, s1_ = wi s 123 (((s.1 120 10)).toNatClampNeg) x1 → (∀ s2_, s2_ = wi s1_ 124 (((s.1 120 10)).toNatClampNeg) x2 → (∀ s3_, s3_ = wi s2_ 125 (((s.1 120 10)).toNatClampNeg) x3 → (∀ s4_, s4_ = wl s3_ 126 (((s.1 120 10)).toNatClampNeg) l4 → (∀ s5_, s5_ = wi s4_ 120 10 ((s.1 120 10) + 1) → Q none (mk g s5_))))))) : AMet E m_Mo_token [.ref 120, .int x1, .int x2, .int x3, .long l4] (mk g s) Q := by
  refine AMet.of (by decide) k_Mo_token [(0, .ref 120), (1, .int x1), (2, .int x2), (3, .int x3), (4, .long l4)] (Nat.le_of_ble_eq_true rfl) rfl ?_
  refine aw_aload_n (q := 1) (j := 0) rfl rfl rfl (List.mem_of_getElem? (i := 0) rfl) ?_
  refine ag_getR (q := 4) rfl rfl fl_Mo_20 rfl (SX.o hS rfl) (SX.r hS rfl) ?_
  refine aw_aload_n (q := 5) (j := 0) rfl rfl rfl (List.mem_of_getElem? (i := 0) rfl) ?_
  refine ag_getI (q := 8) rfl rfl fl_Mo_205 rfl (SX.o hS rfl) ?_
  refine aw_iload_n (q := 9) (j := 1) rfl rfl rfl (List.mem_of_getElem? (i := 1) rfl) ?_
  obtain ⟨bd_1, h⟩ := h
  refine ag_iastore (q := 10) (N := 403) rfl rfl (SX.a hS rfl) bd_1 ?_
  replace h := h _ rfl
  refine aw_aload_n (q := 11) (j := 0) rfl rfl rfl (List.mem_of_getElem? (i := 0) rfl) ?_
  refine ag_getR (q := 14) rfl rfl fl_Mo_24 rfl (SX.o hS rfl) (SX.r hS rfl) ?_
  refine aw_aload_n (q := 15) (j := 0) rfl rfl rfl (List.mem_of_getElem? (i := 0) rfl) ?_
  refine ag_getI (q := 18) rfl rfl fl_Mo_205 rfl (SX.o hS rfl) ?_
  refine aw_iload_n (q := 19) (j := 2) rfl rfl rfl (List.mem_of_getElem? (i := 2) rfl) ?_
  refine ag_iastore (q := 20) (N := 403) rfl rfl (SX.a hS rfl) bd_1 ?_
  replace h := h _ rfl
  refine aw_aload_n (q := 21) (j := 0) rfl rfl rfl (List.mem_of_getElem? (i := 0) rfl) ?_
  refine ag_getR (q := 24) rfl rfl fl_Mo_27 rfl (SX.o hS rfl) (SX.r hS rfl) ?_
  refine aw_aload_n (q := 25) (j := 0) rfl rfl rfl (List.mem_of_getElem? (i := 0) rfl) ?_
  refine ag_getI (q := 28) rfl rfl fl_Mo_205 rfl (SX.o hS rfl) ?_
  refine aw_iload_n (q := 29) (j := 3) rfl rfl rfl (List.mem_of_getElem? (i := 3) rfl) ?_
  refine ag_iastore (q := 30) (N := 403) rfl rfl (SX.a hS rfl) bd_1 ?_
  replace h := h _ rfl
  refine aw_aload_n (q := 31) (j := 0) rfl rfl rfl (List.mem_of_getElem? (i := 0) rfl) ?_
  refine ag_getR (q := 34) rfl rfl fl_Mo_30 rfl (SX.o hS rfl) (SX.r hS rfl) ?_
  refine aw_aload_n (q := 35) (j := 0) rfl rfl rfl (List.mem_of_getElem? (i := 0) rfl) ?_
  refine ag_getI (q := 38) rfl rfl fl_Mo_205 rfl (SX.o hS rfl) ?_
  refine aw_lload (q := 40) (j := 4) rfl rfl (List.mem_of_getElem? (i := 4) rfl) ?_
  refine ag_lastore (q := 41) (N := 403) rfl rfl (SX.a hS rfl) bd_1 ?_
  replace h := h _ rfl
  refine aw_aload_n (q := 42) (j := 0) rfl rfl rfl (List.mem_of_getElem? (i := 0) rfl) ?_
  refine aw_dup (q := 43) rfl rfl rfl ?_
  refine ag_getI (q := 46) rfl rfl fl_Mo_205 rfl (SX.o hS rfl) ?_
  refine aw_iconst (q := 47) (v := 1) rfl rfl (by decide) ?_
  refine aw_iadd (q := 48) rfl rfl ?_
  refine ag_putI (q := 51) rfl rfl fl_Mo_205 rfl rfl (SX.o hS rfl) ?_
  replace h := h _ rfl
  exact aw_return rfl rfl (by decide) (by decide) h
set_option maxRecDepth 20000 in
theorem v_Mo_isLetter {E : EN} {g : GS} {s : MS} {Q : Option Value → SG → Prop} (x0 : Int32) (h : ((x0 < 97 → Q (some (.int 0)) (mk g s)) ∧ (¬ x0 < 97 → ((122 < x0 → Q (some (.int 0)) (mk g s)) ∧ (¬ 122 < x0 → Q (some (.int 1)) (mk g s)))))) : AMet E m_Mo_isLetter [.int x0] (mk g s) Q := by
  refine AMet.of (by decide) k_Mo_isLetter [(0, .int x0)] (Nat.le_of_ble_eq_true rfl) rfl ?_
  refine aw_iload_n (q := 1) (j := 0) rfl rfl rfl (List.mem_of_getElem? (i := 0) rfl) ?_
  refine aw_bipush (q := 3) (v := 97) rfl rfl (by decide) ?_
  refine aw_icmp_lt (q := 6) (tgt := 16) rfl rfl (by decide) ⟨fun cd_1 => ?_, fun cd_1 => ?_⟩
  · replace h := h.1 cd_1
    refine aw_iconst (q := 17) (v := 0) rfl rfl (by decide) ?_
    exact aw_ireturn (ty := .boolean) rfl rfl rfl (by decide) (by decide) h
  · replace h := h.2 cd_1
    refine aw_iload_n (q := 7) (j := 0) rfl rfl rfl (List.mem_of_getElem? (i := 0) rfl) ?_
    refine aw_bipush (q := 9) (v := 122) rfl rfl (by decide) ?_
    refine aw_icmp_gt (q := 12) (tgt := 16) rfl rfl (by decide) ⟨fun cd_2 => ?_, fun cd_2 => ?_⟩
    · replace h := h.1 cd_2
      refine aw_iconst (q := 17) (v := 0) rfl rfl (by decide) ?_
      exact aw_ireturn (ty := .boolean) rfl rfl rfl (by decide) (by decide) h
    · replace h := h.2 cd_2
      refine aw_iconst (q := 13) (v := 1) rfl rfl (by decide) ?_
      refine aw_goto (tgt := 17) rfl (by decide) ?_
      exact aw_ireturn (ty := .boolean) rfl rfl rfl (by decide) (by decide) h
set_option maxRecDepth 20000 in
theorem v_Mo_isDigit {E : EN} {g : GS} {s : MS} {Q : Option Value → SG → Prop} (x0 : Int32) (h : ((x0 < 48 → Q (some (.int 0)) (mk g s)) ∧ (¬ x0 < 48 → ((57 < x0 → Q (some (.int 0)) (mk g s)) ∧ (¬ 57 < x0 → Q (some (.int 1)) (mk g s)))))) : AMet E m_Mo_isDigit [.int x0] (mk g s) Q := by
  refine AMet.of (by decide) k_Mo_isDigit [(0, .int x0)] (Nat.le_of_ble_eq_true rfl) rfl ?_
  refine aw_iload_n (q := 1) (j := 0) rfl rfl rfl (List.mem_of_getElem? (i := 0) rfl) ?_
  refine aw_bipush (q := 3) (v := 48) rfl rfl (by decide) ?_
  refine aw_icmp_lt (q := 6) (tgt := 16) rfl rfl (by decide) ⟨fun cd_1 => ?_, fun cd_1 => ?_⟩
  · replace h := h.1 cd_1
    refine aw_iconst (q := 17) (v := 0) rfl rfl (by decide) ?_
    exact aw_ireturn (ty := .boolean) rfl rfl rfl (by decide) (by decide) h
  · replace h := h.2 cd_1
    refine aw_iload_n (q := 7) (j := 0) rfl rfl rfl (List.mem_of_getElem? (i := 0) rfl) ?_
    refine aw_bipush (q := 9) (v := 57) rfl rfl (by decide) ?_
    refine aw_icmp_gt (q := 12) (tgt := 16) rfl rfl (by decide) ⟨fun cd_2 => ?_, fun cd_2 => ?_⟩
    · replace h := h.1 cd_2
      refine aw_iconst (q := 17) (v := 0) rfl rfl (by decide) ?_
      exact aw_ireturn (ty := .boolean) rfl rfl rfl (by decide) (by decide) h
    · replace h := h.2 cd_2
      refine aw_iconst (q := 13) (v := 1) rfl rfl (by decide) ?_
      refine aw_goto (tgt := 17) rfl (by decide) ?_
      exact aw_ireturn (ty := .boolean) rfl rfl rfl (by decide) (by decide) h
set_option maxRecDepth 20000 in
theorem v_Mo_sign_45 {E : EN} {g : GS} {s : MS} {Q : Option Value → SG → Prop} (x1 : Int32) (x2 : Int32) (x3 : Int32) (x4 : Int32) (h : ((x2 = 43 → AWP E m_Mo_sign 55 0 0 [(0, .ref 120), (1, .int x1), (2, .int x2), (3, .int x3), (4, .int 8)] [] (mk g s) Q) ∧ (¬ x2 = 43 → AWP E m_Mo_sign 55 0 0 [(0, .ref 120), (1, .int x1), (2, .int x2), (3, .int x3), (4, .int x4)] [] (mk g s) Q))) : AWP E m_Mo_sign 45 0 0 [(0, .ref 120), (1, .int x1), (2, .int x2), (3, .int x3), (4, .int x4)] [] (mk g s) Q := by
  refine aw_iload_n (q := 46) (j := 2) rfl rfl rfl (List.mem_of_getElem? (i := 2) rfl) ?_
  refine aw_bipush (q := 48) (v := 43) rfl rfl (by decide) ?_
  refine aw_icmp_ne (q := 51) (tgt := 55) rfl rfl (by decide) ⟨fun cd_1 => ?_, fun cd_1 => ?_⟩
  · replace h := h.1 cd_1
    refine aw_bipush (q := 53) (v := 8) rfl rfl (by decide) ?_
    refine aw_istore (q := 55) (j := 4) (ls' := [(4, .int _), (0, .ref _), (1, .int _), (2, .int _), (3, .int _)]) rfl rfl (by decide) rfl ?_
    refine aw_ls [1, 2, 3, 4, 0] rfl ?_
    exact h
  · replace h := h.2 cd_1
    refine aw_ls [0, 1, 2, 3, 4] rfl ?_
    exact h
set_option maxRecDepth 20000 in
theorem v_Mo_sign_55 {E : EN} {g : GS} {s : MS} {Q : Option Value → SG → Prop} (x1 : Int32) (x2 : Int32) (x3 : Int32) (x4 : Int32) (h : ((x2 = 45 → AWP E m_Mo_sign 65 0 0 [(0, .ref 120), (1, .int x1), (2, .int x2), (3, .int x3), (4, .int 9)] [] (mk g s) Q) ∧ (¬ x2 = 45 → AWP E m_Mo_sign 65 0 0 [(0, .ref 120), (1, .int x1), (2, .int x2), (3, .int x3), (4, .int x4)] [] (mk g s) Q))) : AWP E m_Mo_sign 55 0 0 [(0, .ref 120), (1, .int x1), (2, .int x2), (3, .int x3), (4, .int x4)] [] (mk g s) Q := by
  refine aw_iload_n (q := 56) (j := 2) rfl rfl rfl (List.mem_of_getElem? (i := 2) rfl) ?_
  refine aw_bipush (q := 58) (v := 45) rfl rfl (by decide) ?_
  refine aw_icmp_ne (q := 61) (tgt := 65) rfl rfl (by decide) ⟨fun cd_1 => ?_, fun cd_1 => ?_⟩
  · replace h := h.1 cd_1
    refine aw_bipush (q := 63) (v := 9) rfl rfl (by decide) ?_
    refine aw_istore (q := 65) (j := 4) (ls' := [(4, .int _), (0, .ref _), (1, .int _), (2, .int _), (3, .int _)]) rfl rfl (by decide) rfl ?_
    refine aw_ls [1, 2, 3, 4, 0] rfl ?_
    exact h
  · replace h := h.2 cd_1
    refine aw_ls [0, 1, 2, 3, 4] rfl ?_
    exact h
set_option maxRecDepth 20000 in
theorem v_Mo_sign_65 {E : EN} {g : GS} {s : MS} {Q : Option Value → SG → Prop} (x1 : Int32) (x2 : Int32) (x3 : Int32) (x4 : Int32) (h : ((x2 = 42 → AWP E m_Mo_sign 75 0 0 [(0, .ref 120), (1, .int x1), (2, .int x2), (3, .int x3), (4, .int 10)] [] (mk g s) Q) ∧ (¬ x2 = 42 → AWP E m_Mo_sign 75 0 0 [(0, .ref 120), (1, .int x1), (2, .int x2), (3, .int x3), (4, .int x4)] [] (mk g s) Q))) : AWP E m_Mo_sign 65 0 0 [(0, .ref 120), (1, .int x1), (2, .int x2), (3, .int x3), (4, .int x4)] [] (mk g s) Q := by
  refine aw_iload_n (q := 66) (j := 2) rfl rfl rfl (List.mem_of_getElem? (i := 2) rfl) ?_
  refine aw_bipush (q := 68) (v := 42) rfl rfl (by decide) ?_
  refine aw_icmp_ne (q := 71) (tgt := 75) rfl rfl (by decide) ⟨fun cd_1 => ?_, fun cd_1 => ?_⟩
  · replace h := h.1 cd_1
    refine aw_bipush (q := 73) (v := 10) rfl rfl (by decide) ?_
    refine aw_istore (q := 75) (j := 4) (ls' := [(4, .int _), (0, .ref _), (1, .int _), (2, .int _), (3, .int _)]) rfl rfl (by decide) rfl ?_
    refine aw_ls [1, 2, 3, 4, 0] rfl ?_
    exact h
  · replace h := h.2 cd_1
    refine aw_ls [0, 1, 2, 3, 4] rfl ?_
    exact h
set_option maxRecDepth 20000 in
theorem v_Mo_sign_75 {E : EN} {g : GS} {s : MS} {Q : Option Value → SG → Prop} (x1 : Int32) (x2 : Int32) (x3 : Int32) (x4 : Int32) (h : ((x2 = 47 → AWP E m_Mo_sign 85 0 0 [(0, .ref 120), (1, .int x1), (2, .int x2), (3, .int x3), (4, .int 15)] [] (mk g s) Q) ∧ (¬ x2 = 47 → AWP E m_Mo_sign 85 0 0 [(0, .ref 120), (1, .int x1), (2, .int x2), (3, .int x3), (4, .int x4)] [] (mk g s) Q))) : AWP E m_Mo_sign 75 0 0 [(0, .ref 120), (1, .int x1), (2, .int x2), (3, .int x3), (4, .int x4)] [] (mk g s) Q := by
  refine aw_iload_n (q := 76) (j := 2) rfl rfl rfl (List.mem_of_getElem? (i := 2) rfl) ?_
  refine aw_bipush (q := 78) (v := 47) rfl rfl (by decide) ?_
  refine aw_icmp_ne (q := 81) (tgt := 85) rfl rfl (by decide) ⟨fun cd_1 => ?_, fun cd_1 => ?_⟩
  · replace h := h.1 cd_1
    refine aw_bipush (q := 83) (v := 15) rfl rfl (by decide) ?_
    refine aw_istore (q := 85) (j := 4) (ls' := [(4, .int _), (0, .ref _), (1, .int _), (2, .int _), (3, .int _)]) rfl rfl (by decide) rfl ?_
    refine aw_ls [1, 2, 3, 4, 0] rfl ?_
    exact h
  · replace h := h.2 cd_1
    refine aw_ls [0, 1, 2, 3, 4] rfl ?_
    exact h
set_option maxRecDepth 20000 in
theorem v_Mo_sign_85 {E : EN} {g : GS} {s : MS} {Q : Option Value → SG → Prop} (x1 : Int32) (x2 : Int32) (x3 : Int32) (x4 : Int32) (h : ((x2 = 60 → AWP E m_Mo_sign 95 0 0 [(0, .ref 120), (1, .int x1), (2, .int x2), (3, .int x3), (4, .int 13)] [] (mk g s) Q) ∧ (¬ x2 = 60 → AWP E m_Mo_sign 95 0 0 [(0, .ref 120), (1, .int x1), (2, .int x2), (3, .int x3), (4, .int x4)] [] (mk g s) Q))) : AWP E m_Mo_sign 85 0 0 [(0, .ref 120), (1, .int x1), (2, .int x2), (3, .int x3), (4, .int x4)] [] (mk g s) Q := by
  refine aw_iload_n (q := 86) (j := 2) rfl rfl rfl (List.mem_of_getElem? (i := 2) rfl) ?_
  refine aw_bipush (q := 88) (v := 60) rfl rfl (by decide) ?_
  refine aw_icmp_ne (q := 91) (tgt := 95) rfl rfl (by decide) ⟨fun cd_1 => ?_, fun cd_1 => ?_⟩
  · replace h := h.1 cd_1
    refine aw_bipush (q := 93) (v := 13) rfl rfl (by decide) ?_
    refine aw_istore (q := 95) (j := 4) (ls' := [(4, .int _), (0, .ref _), (1, .int _), (2, .int _), (3, .int _)]) rfl rfl (by decide) rfl ?_
    refine aw_ls [1, 2, 3, 4, 0] rfl ?_
    exact h
  · replace h := h.2 cd_1
    refine aw_ls [0, 1, 2, 3, 4] rfl ?_
    exact h
set_option maxRecDepth 20000 in
theorem v_Mo_sign_95 {E : EN} {g : GS} {s : MS} {Q : Option Value → SG → Prop} (x1 : Int32) (x2 : Int32) (x3 : Int32) (x4 : Int32) (hS : SX g) (h : GV E m_Mo_token [.ref 120, .int x4, .int x1, .int 0, .long 0] g s (fun t1_ => Q (some (.int 1)) (mk g t1_))) : AWP E m_Mo_sign 95 0 0 [(0, .ref 120), (1, .int x1), (2, .int x2), (3, .int x3), (4, .int x4)] [] (mk g s) Q := by
  refine aw_aload_n (q := 96) (j := 0) rfl rfl rfl (List.mem_of_getElem? (i := 0) rfl) ?_
  refine aw_iload (q := 98) (j := 4) rfl rfl (List.mem_of_getElem? (i := 4) rfl) ?_
  refine aw_iload_n (q := 99) (j := 1) rfl rfl rfl (List.mem_of_getElem? (i := 1) rfl) ?_
  refine aw_iconst (q := 100) (v := 0) rfl rfl (by decide) ?_
  refine aw_lconst (q := 101) (v := 0) rfl rfl (by decide) ?_
  refine ag_cvV (z := m_Mo_token) (ci := 11) (av := [.int _, .int _, .int _, .long _]) (st := []) (q := 104) (k' := 0) (n' := 0) rfl rfl cv_Mo_212 ⟨by decide, by decide⟩ rfl rfl (by decide) (by decide) (SX.o hS rfl) rfl rfl rfl (Nat.le_of_ble_eq_true rfl) ?_
  refine GV.mono h (fun t1_ h => ?_)
  refine aw_iconst (q := 105) (v := 1) rfl rfl (by decide) ?_
  exact aw_ireturn (ty := .int) rfl rfl rfl (by decide) (by decide) h
set_option maxRecDepth 20000 in
theorem v_Mo_sign {E : EN} {g : GS} {s : MS} {Q : Option Value → SG → Prop} (x1 : Int32) (x2 : Int32) (x3 : Int32) (h : ((x2 = 59 → AWP E m_Mo_sign 45 0 0 [(0, .ref 120), (1, .int x1), (2, .int x2), (3, .int x3), (4, .int 4)] [] (mk g s) Q) ∧ (¬ x2 = 59 → ((x2 = 61 → AWP E m_Mo_sign 45 0 0 [(0, .ref 120), (1, .int x1), (2, .int x2), (3, .int x3), (4, .int 5)] [] (mk g s) Q) ∧ (¬ x2 = 61 → ((x2 = 40 → AWP E m_Mo_sign 45 0 0 [(0, .ref 120), (1, .int x1), (2, .int x2), (3, .int x3), (4, .int 6)] [] (mk g s) Q) ∧ (¬ x2 = 40 → ((x2 = 41 → AWP E m_Mo_sign 45 0 0 [(0, .ref 120), (1, .int x1), (2, .int x2), (3, .int x3), (4, .int 7)] [] (mk g s) Q) ∧ (¬ x2 = 41 → AWP E m_Mo_sign 45 0 0 [(0, .ref 120), (1, .int x1), (2, .int x2), (3, .int x3), (4, .int 3)] [] (mk g s) Q))))))))) : AMet E m_Mo_sign [.ref 120, .int x1, .int x2, .int x3] (mk g s) Q := by
  refine AMet.of (by decide) k_Mo_sign [(0, .ref 120), (1, .int x1), (2, .int x2), (3, .int x3)] (Nat.le_of_ble_eq_true rfl) rfl ?_
  refine aw_iload_n (q := 1) (j := 2) rfl rfl rfl (List.mem_of_getElem? (i := 2) rfl) ?_
  refine aw_bipush (q := 3) (v := 59) rfl rfl (by decide) ?_
  refine aw_icmp_ne (q := 6) (tgt := 10) rfl rfl (by decide) ⟨fun cd_1 => ?_, fun cd_1 => ?_⟩
  · replace h := h.1 cd_1
    refine aw_iconst (q := 7) (v := 4) rfl rfl (by decide) ?_
    refine aw_goto (tgt := 43) rfl (by decide) ?_
    refine aw_istore (q := 45) (j := 4) (ls' := [(4, .int _), (0, .ref _), (1, .int _), (2, .int _), (3, .int _)]) rfl rfl (by decide) rfl ?_
    refine aw_ls [1, 2, 3, 4, 0] rfl ?_
    exact h
  · replace h := h.2 cd_1
    refine aw_iload_n (q := 11) (j := 2) rfl rfl rfl (List.mem_of_getElem? (i := 2) rfl) ?_
    refine aw_bipush (q := 13) (v := 61) rfl rfl (by decide) ?_
    refine aw_icmp_ne (q := 16) (tgt := 20) rfl rfl (by decide) ⟨fun cd_2 => ?_, fun cd_2 => ?_⟩
    · replace h := h.1 cd_2
      refine aw_iconst (q := 17) (v := 5) rfl rfl (by decide) ?_
      refine aw_goto (tgt := 43) rfl (by decide) ?_
      refine aw_istore (q := 45) (j := 4) (ls' := [(4, .int _), (0, .ref _), (1, .int _), (2, .int _), (3, .int _)]) rfl rfl (by decide) rfl ?_
      refine aw_ls [1, 2, 3, 4, 0] rfl ?_
      exact h
    · replace h := h.2 cd_2
      refine aw_iload_n (q := 21) (j := 2) rfl rfl rfl (List.mem_of_getElem? (i := 2) rfl) ?_
      refine aw_bipush (q := 23) (v := 40) rfl rfl (by decide) ?_
      refine aw_icmp_ne (q := 26) (tgt := 31) rfl rfl (by decide) ⟨fun cd_3 => ?_, fun cd_3 => ?_⟩
      · replace h := h.1 cd_3
        refine aw_bipush (q := 28) (v := 6) rfl rfl (by decide) ?_
        refine aw_goto (tgt := 43) rfl (by decide) ?_
        refine aw_istore (q := 45) (j := 4) (ls' := [(4, .int _), (0, .ref _), (1, .int _), (2, .int _), (3, .int _)]) rfl rfl (by decide) rfl ?_
        refine aw_ls [1, 2, 3, 4, 0] rfl ?_
        exact h
      · replace h := h.2 cd_3
        refine aw_iload_n (q := 32) (j := 2) rfl rfl rfl (List.mem_of_getElem? (i := 2) rfl) ?_
        refine aw_bipush (q := 34) (v := 41) rfl rfl (by decide) ?_
        refine aw_icmp_ne (q := 37) (tgt := 42) rfl rfl (by decide) ⟨fun cd_4 => ?_, fun cd_4 => ?_⟩
        · replace h := h.1 cd_4
          refine aw_bipush (q := 39) (v := 7) rfl rfl (by decide) ?_
          refine aw_goto (tgt := 43) rfl (by decide) ?_
          refine aw_istore (q := 45) (j := 4) (ls' := [(4, .int _), (0, .ref _), (1, .int _), (2, .int _), (3, .int _)]) rfl rfl (by decide) rfl ?_
          refine aw_ls [1, 2, 3, 4, 0] rfl ?_
          exact h
        · replace h := h.2 cd_4
          refine aw_iconst (q := 43) (v := 3) rfl rfl (by decide) ?_
          refine aw_istore (q := 45) (j := 4) (ls' := [(4, .int _), (0, .ref _), (1, .int _), (2, .int _), (3, .int _)]) rfl rfl (by decide) rfl ?_
          refine aw_ls [1, 2, 3, 4, 0] rfl ?_
          exact h
set_option maxRecDepth 20000 in
theorem v_Mo_is {E : EN} {g : GS} {s : MS} {Q : Option Value → SG → Prop} (x1 : Int32) (hS : SX g) (h : (((s.1 120 13) = 0 → vp_in (s.1 120 11) 403 ∧ (((s.1 123 (((s.1 120 11)).toNatClampNeg)) = x1 → Q (some (.int 1)) (mk g s)) ∧ (¬ (s.1 123 (((s.1 120 11)).toNatClampNeg)) = x1 → Q (some (.int 0)) (mk g s)))) ∧ (¬ (s.1 120 13) = 0 → Q (some (.int 0)) (mk g s)))) : AMet E m_Mo_is [.ref 120, .int x1] (mk g s) Q := by
  refine AMet.of (by decide) k_Mo_is [(0, .ref 120), (1, .int x1)] (Nat.le_of_ble_eq_true rfl) rfl ?_
  refine aw_aload_n (q := 1) (j := 0) rfl rfl rfl (List.mem_of_getElem? (i := 0) rfl) ?_
  refine ag_getI (q := 4) rfl rfl fl_Mo_227 rfl (SX.o hS rfl) ?_
  refine aw_if_ne (q := 7) (tgt := 24) rfl rfl (by decide) ⟨fun cd_1 => ?_, fun cd_1 => ?_⟩
  · replace h := h.1 cd_1
    refine aw_aload_n (q := 8) (j := 0) rfl rfl rfl (List.mem_of_getElem? (i := 0) rfl) ?_
    refine ag_getR (q := 11) rfl rfl fl_Mo_20 rfl (SX.o hS rfl) (SX.r hS rfl) ?_
    refine aw_aload_n (q := 12) (j := 0) rfl rfl rfl (List.mem_of_getElem? (i := 0) rfl) ?_
    refine ag_getI (q := 15) rfl rfl fl_Mo_230 rfl (SX.o hS rfl) ?_
    obtain ⟨bd_2, h⟩ := h
    refine ag_iaload (q := 16) (N := 403) rfl rfl (SX.a hS rfl) bd_2 ?_
    refine aw_iload_n (q := 17) (j := 1) rfl rfl rfl (List.mem_of_getElem? (i := 1) rfl) ?_
    refine aw_icmp_ne (q := 20) (tgt := 24) rfl rfl (by decide) ⟨fun cd_3 => ?_, fun cd_3 => ?_⟩
    · replace h := h.1 cd_3
      refine aw_iconst (q := 21) (v := 1) rfl rfl (by decide) ?_
      refine aw_goto (tgt := 25) rfl (by decide) ?_
      exact aw_ireturn (ty := .boolean) rfl rfl rfl (by decide) (by decide) h
    · replace h := h.2 cd_3
      refine aw_iconst (q := 25) (v := 0) rfl rfl (by decide) ?_
      exact aw_ireturn (ty := .boolean) rfl rfl rfl (by decide) (by decide) h
  · replace h := h.2 cd_1
    refine aw_iconst (q := 25) (v := 0) rfl rfl (by decide) ?_
    exact aw_ireturn (ty := .boolean) rfl rfl rfl (by decide) (by decide) h
set_option maxRecDepth 20000 in
theorem v_Mo_tellOne_296 {E : EN} {g : GS} {s : MS} {Q : Option Value → SG → Prop} (x1 : Int32) (hS : SX g) (h : GV E m_Mo_fail [.ref 120, .int 1] g s (fun t1_ => AWP E m_Mo_tellOne 301 0 0 [(0, .ref 120), (1, .int x1)] [] (mk g t1_) Q)) : AWP E m_Mo_tellOne 296 0 0 [(0, .ref 120), (1, .int x1)] [] (mk g s) Q := by
  refine aw_aload_n (q := 297) (j := 0) rfl rfl rfl (List.mem_of_getElem? (i := 0) rfl) ?_
  refine aw_iconst (q := 298) (v := 1) rfl rfl (by decide) ?_
  refine ag_cvV (z := m_Mo_fail) (ci := 11) (av := [.int _]) (st := []) (q := 301) (k' := 0) (n' := 0) rfl rfl cv_Mo_242 ⟨by decide, by decide⟩ rfl rfl (by decide) (by decide) (SX.o hS rfl) rfl rfl rfl (Nat.le_of_ble_eq_true rfl) ?_
  refine GV.mono h (fun t1_ h => ?_)
  refine aw_ls [0, 1] rfl ?_
  exact h
set_option maxRecDepth 20000 in
theorem v_Mo_tellOne_301 {E : EN} {g : GS} {s : MS} {Q : Option Value → SG → Prop} (x1 : Int32) (hS : SX g) (h : (((s.1 120 13) ≤ 0 → GV E m_Mo_goesOn [.ref 120] g s (fun t1_ => GV E m_Mo_tellLaw [.ref 120, .int x1] g t1_ (fun t2_ => AWP E m_Mo_tellOne 318 0 0 [(0, .ref 120)] [] (mk g t2_) Q))) ∧ (¬ (s.1 120 13) ≤ 0 → Q none (mk g s)))) : AWP E m_Mo_tellOne 301 0 0 [(0, .ref 120), (1, .int x1)] [] (mk g s) Q := by
  refine aw_aload_n (q := 302) (j := 0) rfl rfl rfl (List.mem_of_getElem? (i := 0) rfl) ?_
  refine ag_getI (q := 305) rfl rfl fl_Mo_227 rfl (SX.o hS rfl) ?_
  refine aw_if_le (q := 308) (tgt := 309) rfl rfl (by decide) ⟨fun cd_1 => ?_, fun cd_1 => ?_⟩
  · replace h := h.1 cd_1
    refine aw_aload_n (q := 310) (j := 0) rfl rfl rfl (List.mem_of_getElem? (i := 0) rfl) ?_
    refine ag_cvV (z := m_Mo_goesOn) (ci := 11) (av := []) (st := []) (q := 313) (k' := 0) (n' := 0) rfl rfl cv_Mo_248 ⟨by decide, by decide⟩ rfl rfl (by decide) (by decide) (SX.o hS rfl) rfl rfl rfl (Nat.le_of_ble_eq_true rfl) ?_
    refine GV.mono h (fun t1_ h => ?_)
    refine aw_aload_n (q := 314) (j := 0) rfl rfl rfl (List.mem_of_getElem? (i := 0) rfl) ?_
    refine aw_iload_n (q := 315) (j := 1) rfl rfl rfl (List.mem_of_getElem? (i := 1) rfl) ?_
    refine ag_cvV (z := m_Mo_tellLaw) (ci := 11) (av := [.int _]) (st := []) (q := 318) (k' := 0) (n' := 0) rfl rfl cv_Mo_304 ⟨by decide, by decide⟩ rfl rfl (by decide) (by decide) (SX.o hS rfl) rfl rfl rfl (Nat.le_of_ble_eq_true rfl) ?_
    refine GV.mono h (fun t2_ h => ?_)
    refine aw_ls [0] rfl ?_
    exact h
  · replace h := h.2 cd_1
    exact aw_return rfl rfl (by decide) (by decide) h
set_option maxRecDepth 20000 in
theorem v_Mo_tellOne_318 {E : EN} {g : GS} {s : MS} {Q : Option Value → SG → Prop}  (h : Q none (mk g s)) : AWP E m_Mo_tellOne 318 0 0 [(0, .ref 120)] [] (mk g s) Q := by
  exact aw_return rfl rfl (by decide) (by decide) h
set_option maxRecDepth 20000 in
theorem v_Mo_tellOne {E : EN} {g : GS} {s : MS} {Q : Option Value → SG → Prop}  (hS : SX g) (h : vp_in (s.1 120 11) 403 ∧ (((s.1 123 (((s.1 120 11)).toNatClampNeg)) < 20 ∨ 29 < (s.1 123 (((s.1 120 11)).toNatClampNeg)) → ((((s.1 123 (((s.1 120 11)).toNatClampNeg)) - 23) < 0 → AWP E m_Mo_tellOne 296 0 0 [(0, .ref 120), (1, .int ((s.1 123 (((s.1 120 11)).toNatClampNeg)) - 23))] [] (mk g s) Q) ∧ (¬ ((s.1 123 (((s.1 120 11)).toNatClampNeg)) - 23) < 0 → (((s.1 123 (((s.1 120 11)).toNatClampNeg)) ≤ 25 → AWP E m_Mo_tellOne 301 0 0 [(0, .ref 120), (1, .int ((s.1 123 (((s.1 120 11)).toNatClampNeg)) - 23))] [] (mk g s) Q) ∧ (¬ (s.1 123 (((s.1 120 11)).toNatClampNeg)) ≤ 25 → AWP E m_Mo_tellOne 296 0 0 [(0, .ref 120), (1, .int ((s.1 123 (((s.1 120 11)).toNatClampNeg)) - 23))] [] (mk g s) Q))))) ∧ ((s.1 123 (((s.1 120 11)).toNatClampNeg)) = 20 → vp_in (s.1 120 19) 2 ∧ GV E m_Mo_roomFor [.ref 120, .int (s.1 131 (((s.1 120 19)).toNatClampNeg)), .int 6] g s (fun t1_ => (((t1_.1 120 13) = 0 → GV E m_Mo_tellGrain [.ref 120] g t1_ (fun t2_ => AWP E m_Mo_tellOne 318 0 0 [(0, .ref 120)] [] (mk g t2_) Q)) ∧ (¬ (t1_.1 120 13) = 0 → AWP E m_Mo_tellOne 318 0 0 [(0, .ref 120)] [] (mk g t1_) Q)))) ∧ ((s.1 123 (((s.1 120 11)).toNatClampNeg)) = 21 → vp_in (s.1 120 19) 2 ∧ GV E m_Mo_roomFor [.ref 120, .int (s.1 134 (((s.1 120 19)).toNatClampNeg)), .int 6] g s (fun t3_ => (((t3_.1 120 13) = 0 → GV E m_Mo_tellHole [.ref 120] g t3_ (fun t4_ => AWP E m_Mo_tellOne 318 0 0 [(0, .ref 120)] [] (mk g t4_) Q)) ∧ (¬ (t3_.1 120 13) = 0 → AWP E m_Mo_tellOne 318 0 0 [(0, .ref 120)] [] (mk g t3_) Q)))) ∧ ((s.1 123 (((s.1 120 11)).toNatClampNeg)) = 22 → vp_in (s.1 120 19) 2 ∧ GV E m_Mo_roomFor [.ref 120, .int (s.1 137 (((s.1 120 19)).toNatClampNeg)), .int 8] g s (fun t5_ => (((t5_.1 120 13) = 0 → GV E m_Mo_tellRat [.ref 120] g t5_ (fun t6_ => AWP E m_Mo_tellOne 318 0 0 [(0, .ref 120)] [] (mk g t6_) Q)) ∧ (¬ (t5_.1 120 13) = 0 → AWP E m_Mo_tellOne 318 0 0 [(0, .ref 120)] [] (mk g t5_) Q)))) ∧ ((s.1 123 (((s.1 120 11)).toNatClampNeg)) = 23 → ((((s.1 123 (((s.1 120 11)).toNatClampNeg)) - 23) < 0 → AWP E m_Mo_tellOne 296 0 0 [(0, .ref 120), (1, .int ((s.1 123 (((s.1 120 11)).toNatClampNeg)) - 23))] [] (mk g s) Q) ∧ (¬ ((s.1 123 (((s.1 120 11)).toNatClampNeg)) - 23) < 0 → (((s.1 123 (((s.1 120 11)).toNatClampNeg)) ≤ 25 → AWP E m_Mo_tellOne 301 0 0 [(0, .ref 120), (1, .int ((s.1 123 (((s.1 120 11)).toNatClampNeg)) - 23))] [] (mk g s) Q) ∧ (¬ (s.1 123 (((s.1 120 11)).toNatClampNeg)) ≤ 25 → AWP E m_Mo_tellOne 296 0 0 [(0, .ref 120), (1, .int ((s.1 123 (((s.1 120 11)).toNatClampNeg)) - 23))] [] (mk g s) Q))))) ∧ ((s.1 123 (((s.1 120 11)).toNatClampNeg)) = 24 → ((((s.1 123 (((s.1 120 11)).toNatClampNeg)) - 23) < 0 → AWP E m_Mo_tellOne 296 0 0 [(0, .ref 120), (1, .int ((s.1 123 (((s.1 120 11)).toNatClampNeg)) - 23))] [] (mk g s) Q) ∧ (¬ ((s.1 123 (((s.1 120 11)).toNatClampNeg)) - 23) < 0 → (((s.1 123 (((s.1 120 11)).toNatClampNeg)) ≤ 25 → AWP E m_Mo_tellOne 301 0 0 [(0, .ref 120), (1, .int ((s.1 123 (((s.1 120 11)).toNatClampNeg)) - 23))] [] (mk g s) Q) ∧ (¬ (s.1 123 (((s.1 120 11)).toNatClampNeg)) ≤ 25 → AWP E m_Mo_tellOne 296 0 0 [(0, .ref 120), (1, .int ((s.1 123 (((s.1 120 11)).toNatClampNeg)) - 23))] [] (mk g s) Q))))) ∧ ((s.1 123 (((s.1 120 11)).toNatClampNeg)) = 25 → ((((s.1 123 (((s.1 120 11)).toNatClampNeg)) - 23) < 0 → AWP E m_Mo_tellOne 296 0 0 [(0, .ref 120), (1, .int ((s.1 123 (((s.1 120 11)).toNatClampNeg)) - 23))] [] (mk g s) Q) ∧ (¬ ((s.1 123 (((s.1 120 11)).toNatClampNeg)) - 23) < 0 → (((s.1 123 (((s.1 120 11)).toNatClampNeg)) ≤ 25 → AWP E m_Mo_tellOne 301 0 0 [(0, .ref 120), (1, .int ((s.1 123 (((s.1 120 11)).toNatClampNeg)) - 23))] [] (mk g s) Q) ∧ (¬ (s.1 123 (((s.1 120 11)).toNatClampNeg)) ≤ 25 → AWP E m_Mo_tellOne 296 0 0 [(0, .ref 120), (1, .int ((s.1 123 (((s.1 120 11)).toNatClampNeg)) - 23))] [] (mk g s) Q))))) ∧ ((s.1 123 (((s.1 120 11)).toNatClampNeg)) = 26 → vp_in (s.1 120 19) 2 ∧ GV E m_Mo_roomFor [.ref 120, .int (s.1 142 (((s.1 120 19)).toNatClampNeg)), .int 5] g s (fun t7_ => (((t7_.1 120 13) = 0 → GV E m_Mo_tellWants [.ref 120] g t7_ (fun t8_ => AWP E m_Mo_tellOne 318 0 0 [(0, .ref 120)] [] (mk g t8_) Q)) ∧ (¬ (t7_.1 120 13) = 0 → AWP E m_Mo_tellOne 318 0 0 [(0, .ref 120)] [] (mk g t7_) Q)))) ∧ ((s.1 123 (((s.1 120 11)).toNatClampNeg)) = 27 → GV E m_Mo_goesOn [.ref 120] g s (fun t9_ => GI E m_Mo_bounded [.ref 120, .int 0, .int 9999] g t9_ (fun y10_ t10_ => vp_in (t9_.1 120 19) 2 ∧ (∀ s11_, s11_ = wi t10_ 147 (((t9_.1 120 19)).toNatClampNeg) y10_ → GV E m_Mo_must [.ref 120, .int 4] g s11_ (fun t12_ => AWP E m_Mo_tellOne 318 0 0 [(0, .ref 120)] [] (mk g t12_) Q))))) ∧ ((s.1 123 (((s.1 120 11)).toNatClampNeg)) = 28 → GV E m_Mo_goesOn [.ref 120] g s (fun t13_ => GI E m_Mo_bounded [.ref 120, .int 1, .int 99] g t13_ (fun y14_ t14_ => vp_in (t13_.1 120 19) 2 ∧ (∀ s15_, s15_ = wi t14_ 148 (((t13_.1 120 19)).toNatClampNeg) y14_ → GV E m_Mo_must [.ref 120, .int 4] g s15_ (fun t16_ => AWP E m_Mo_tellOne 318 0 0 [(0, .ref 120)] [] (mk g t16_) Q))))) ∧ ((s.1 123 (((s.1 120 11)).toNatClampNeg)) = 29 → GV E m_Mo_goesOn [.ref 120] g s (fun t17_ => GI E m_Mo_bounded [.ref 120, .int 0, .int 9999] g t17_ (fun y18_ t18_ => vp_in (t17_.1 120 19) 2 ∧ (∀ s19_, s19_ = wi t18_ 149 (((t17_.1 120 19)).toNatClampNeg) y18_ → GV E m_Mo_must [.ref 120, .int 4] g s19_ (fun t20_ => AWP E m_Mo_tellOne 318 0 0 [(0, .ref 120)] [] (mk g t20_) Q))))))) : AMet E m_Mo_tellOne [.ref 120] (mk g s) Q := by
  refine AMet.of (by decide) k_Mo_tellOne [(0, .ref 120)] (Nat.le_of_ble_eq_true rfl) rfl ?_
  refine aw_aload_n (q := 1) (j := 0) rfl rfl rfl (List.mem_of_getElem? (i := 0) rfl) ?_
  refine ag_getR (q := 4) rfl rfl fl_Mo_20 rfl (SX.o hS rfl) (SX.r hS rfl) ?_
  refine aw_aload_n (q := 5) (j := 0) rfl rfl rfl (List.mem_of_getElem? (i := 0) rfl) ?_
  refine ag_getI (q := 8) rfl rfl fl_Mo_230 rfl (SX.o hS rfl) ?_
  obtain ⟨bd_1, h⟩ := h
  refine ag_iaload (q := 9) (N := 403) rfl rfl (SX.a hS rfl) bd_1 ?_
  by_cases cd_2 : (s.1 123 (((s.1 120 11)).toNatClampNeg)) < 20 ∨ 29 < (s.1 123 (((s.1 120 11)).toNatClampNeg))
  · replace h := h.1 cd_2
    refine aw_tableLt (tgt := 265) rfl (a := 20) (b := 29) (by decide) (by decide) cd_2 (by decide) ?_
    refine aw_aload_n (q := 266) (j := 0) rfl rfl rfl (List.mem_of_getElem? (i := 0) rfl) ?_
    refine ag_getR (q := 269) rfl rfl fl_Mo_20 rfl (SX.o hS rfl) (SX.r hS rfl) ?_
    refine aw_aload_n (q := 270) (j := 0) rfl rfl rfl (List.mem_of_getElem? (i := 0) rfl) ?_
    refine ag_getI (q := 273) rfl rfl fl_Mo_230 rfl (SX.o hS rfl) ?_
    refine ag_iaload (q := 274) (N := 403) rfl rfl (SX.a hS rfl) bd_1 ?_
    refine aw_bipush (q := 276) (v := 23) rfl rfl (by decide) ?_
    refine aw_isub (q := 277) rfl rfl ?_
    refine aw_istore_n (q := 278) (j := 1) (ls' := [(1, .int _), (0, .ref _)]) rfl rfl rfl (by decide) rfl ?_
    refine aw_iload_n (q := 279) (j := 1) rfl rfl rfl (List.mem_of_getElem? (i := 0) rfl) ?_
    refine aw_if_lt (q := 282) (tgt := 296) rfl rfl (by decide) ⟨fun cd_3 => ?_, fun cd_3 => ?_⟩
    · replace h := h.1 cd_3
      refine aw_ls [1, 0] rfl ?_
      exact h
    · replace h := h.2 cd_3
      refine aw_aload_n (q := 283) (j := 0) rfl rfl rfl (List.mem_of_getElem? (i := 1) rfl) ?_
      refine ag_getR (q := 286) rfl rfl fl_Mo_20 rfl (SX.o hS rfl) (SX.r hS rfl) ?_
      refine aw_aload_n (q := 287) (j := 0) rfl rfl rfl (List.mem_of_getElem? (i := 1) rfl) ?_
      refine ag_getI (q := 290) rfl rfl fl_Mo_230 rfl (SX.o hS rfl) ?_
      refine ag_iaload (q := 291) (N := 403) rfl rfl (SX.a hS rfl) bd_1 ?_
      refine aw_bipush (q := 293) (v := 25) rfl rfl (by decide) ?_
      refine aw_icmp_le (q := 296) (tgt := 301) rfl rfl (by decide) ⟨fun cd_4 => ?_, fun cd_4 => ?_⟩
      · replace h := h.1 cd_4
        refine aw_ls [1, 0] rfl ?_
        exact h
      · replace h := h.2 cd_4
        refine aw_ls [1, 0] rfl ?_
        exact h
  · obtain ⟨jd_5, hjd_5, ejd_5⟩ := sw_cases 9 29 (fun q => cd_2 (Or.inl q)) (fun q => cd_2 (Or.inr q)) (by decide)
    replace h := h.2
    match jd_5, hjd_5, ejd_5 with
    | 0, _, e => 
      have e : (s.1 123 (((s.1 120 11)).toNatClampNeg)) = 20 := Int32.toInt_inj.mp (e.trans (by decide))
      replace h := h.1 e
      refine aw_tableEq (tgt := 64) rfl e (by decide) (by decide) rfl (by decide) ?_
      refine aw_aload_n (q := 65) (j := 0) rfl rfl rfl (List.mem_of_getElem? (i := 0) rfl) ?_
      refine aw_aload_n (q := 66) (j := 0) rfl rfl rfl (List.mem_of_getElem? (i := 0) rfl) ?_
      refine ag_getR (q := 69) rfl rfl fl_Mo_49 rfl (SX.o hS rfl) (SX.r hS rfl) ?_
      refine aw_aload_n (q := 70) (j := 0) rfl rfl rfl (List.mem_of_getElem? (i := 0) rfl) ?_
      refine ag_getI (q := 73) rfl rfl fl_Mo_260 rfl (SX.o hS rfl) ?_
      obtain ⟨bd_6, h⟩ := h
      refine ag_iaload (q := 74) (N := 2) rfl rfl (SX.a hS rfl) bd_6 ?_
      refine aw_bipush (q := 76) (v := 6) rfl rfl (by decide) ?_
      refine ag_cvV (z := m_Mo_roomFor) (ci := 11) (av := [.int _, .int _]) (st := []) (q := 79) (k' := 0) (n' := 0) rfl rfl cv_Mo_281 ⟨by decide, by decide⟩ rfl rfl (by decide) (by decide) (SX.o hS rfl) rfl rfl rfl (Nat.le_of_ble_eq_true rfl) ?_
      refine GV.mono h (fun t1_ h => ?_)
      refine aw_aload_n (q := 80) (j := 0) rfl rfl rfl (List.mem_of_getElem? (i := 0) rfl) ?_
      refine ag_getI (q := 83) rfl rfl fl_Mo_227 rfl (SX.o hS rfl) ?_
      refine aw_if_ne (q := 86) (tgt := 318) rfl rfl (by decide) ⟨fun cd_7 => ?_, fun cd_7 => ?_⟩
      · replace h := h.1 cd_7
        refine aw_aload_n (q := 87) (j := 0) rfl rfl rfl (List.mem_of_getElem? (i := 0) rfl) ?_
        refine ag_cvV (z := m_Mo_tellGrain) (ci := 11) (av := []) (st := []) (q := 90) (k' := 0) (n' := 0) rfl rfl cv_Mo_285 ⟨by decide, by decide⟩ rfl rfl (by decide) (by decide) (SX.o hS rfl) rfl rfl rfl (Nat.le_of_ble_eq_true rfl) ?_
        refine GV.mono h (fun t2_ h => ?_)
        refine aw_goto (tgt := 318) rfl (by decide) ?_
        refine aw_ls [0] rfl ?_
        exact h
      · replace h := h.2 cd_7
        refine aw_ls [0] rfl ?_
        exact h
    | 1, _, e => 
      have e : (s.1 123 (((s.1 120 11)).toNatClampNeg)) = 21 := Int32.toInt_inj.mp (e.trans (by decide))
      replace h := h.2.1 e
      refine aw_tableEq (tgt := 93) rfl e (by decide) (by decide) rfl (by decide) ?_
      refine aw_aload_n (q := 94) (j := 0) rfl rfl rfl (List.mem_of_getElem? (i := 0) rfl) ?_
      refine aw_aload_n (q := 95) (j := 0) rfl rfl rfl (List.mem_of_getElem? (i := 0) rfl) ?_
      refine ag_getR (q := 98) rfl rfl fl_Mo_58 rfl (SX.o hS rfl) (SX.r hS rfl) ?_
      refine aw_aload_n (q := 99) (j := 0) rfl rfl rfl (List.mem_of_getElem? (i := 0) rfl) ?_
      refine ag_getI (q := 102) rfl rfl fl_Mo_260 rfl (SX.o hS rfl) ?_
      obtain ⟨bd_8, h⟩ := h
      refine ag_iaload (q := 103) (N := 2) rfl rfl (SX.a hS rfl) bd_8 ?_
      refine aw_bipush (q := 105) (v := 6) rfl rfl (by decide) ?_
      refine ag_cvV (z := m_Mo_roomFor) (ci := 11) (av := [.int _, .int _]) (st := []) (q := 108) (k' := 0) (n' := 0) rfl rfl cv_Mo_281 ⟨by decide, by decide⟩ rfl rfl (by decide) (by decide) (SX.o hS rfl) rfl rfl rfl (Nat.le_of_ble_eq_true rfl) ?_
      refine GV.mono h (fun t3_ h => ?_)
      refine aw_aload_n (q := 109) (j := 0) rfl rfl rfl (List.mem_of_getElem? (i := 0) rfl) ?_
      refine ag_getI (q := 112) rfl rfl fl_Mo_227 rfl (SX.o hS rfl) ?_
      refine aw_if_ne (q := 115) (tgt := 318) rfl rfl (by decide) ⟨fun cd_9 => ?_, fun cd_9 => ?_⟩
      · replace h := h.1 cd_9
        refine aw_aload_n (q := 116) (j := 0) rfl rfl rfl (List.mem_of_getElem? (i := 0) rfl) ?_
        refine ag_cvV (z := m_Mo_tellHole) (ci := 11) (av := []) (st := []) (q := 119) (k' := 0) (n' := 0) rfl rfl cv_Mo_288 ⟨by decide, by decide⟩ rfl rfl (by decide) (by decide) (SX.o hS rfl) rfl rfl rfl (Nat.le_of_ble_eq_true rfl) ?_
        refine GV.mono h (fun t4_ h => ?_)
        refine aw_goto (tgt := 318) rfl (by decide) ?_
        refine aw_ls [0] rfl ?_
        exact h
      · replace h := h.2 cd_9
        refine aw_ls [0] rfl ?_
        exact h
    | 2, _, e => 
      have e : (s.1 123 (((s.1 120 11)).toNatClampNeg)) = 22 := Int32.toInt_inj.mp (e.trans (by decide))
      replace h := h.2.2.1 e
      refine aw_tableEq (tgt := 122) rfl e (by decide) (by decide) rfl (by decide) ?_
      refine aw_aload_n (q := 123) (j := 0) rfl rfl rfl (List.mem_of_getElem? (i := 0) rfl) ?_
      refine aw_aload_n (q := 124) (j := 0) rfl rfl rfl (List.mem_of_getElem? (i := 0) rfl) ?_
      refine ag_getR (q := 127) rfl rfl fl_Mo_67 rfl (SX.o hS rfl) (SX.r hS rfl) ?_
      refine aw_aload_n (q := 128) (j := 0) rfl rfl rfl (List.mem_of_getElem? (i := 0) rfl) ?_
      refine ag_getI (q := 131) rfl rfl fl_Mo_260 rfl (SX.o hS rfl) ?_
      obtain ⟨bd_10, h⟩ := h
      refine ag_iaload (q := 132) (N := 2) rfl rfl (SX.a hS rfl) bd_10 ?_
      refine aw_bipush (q := 134) (v := 8) rfl rfl (by decide) ?_
      refine ag_cvV (z := m_Mo_roomFor) (ci := 11) (av := [.int _, .int _]) (st := []) (q := 137) (k' := 0) (n' := 0) rfl rfl cv_Mo_281 ⟨by decide, by decide⟩ rfl rfl (by decide) (by decide) (SX.o hS rfl) rfl rfl rfl (Nat.le_of_ble_eq_true rfl) ?_
      refine GV.mono h (fun t5_ h => ?_)
      refine aw_aload_n (q := 138) (j := 0) rfl rfl rfl (List.mem_of_getElem? (i := 0) rfl) ?_
      refine ag_getI (q := 141) rfl rfl fl_Mo_227 rfl (SX.o hS rfl) ?_
      refine aw_if_ne (q := 144) (tgt := 318) rfl rfl (by decide) ⟨fun cd_11 => ?_, fun cd_11 => ?_⟩
      · replace h := h.1 cd_11
        refine aw_aload_n (q := 145) (j := 0) rfl rfl rfl (List.mem_of_getElem? (i := 0) rfl) ?_
        refine ag_cvV (z := m_Mo_tellRat) (ci := 11) (av := []) (st := []) (q := 148) (k' := 0) (n' := 0) rfl rfl cv_Mo_291 ⟨by decide, by decide⟩ rfl rfl (by decide) (by decide) (SX.o hS rfl) rfl rfl rfl (Nat.le_of_ble_eq_true rfl) ?_
        refine GV.mono h (fun t6_ h => ?_)
        refine aw_goto (tgt := 318) rfl (by decide) ?_
        refine aw_ls [0] rfl ?_
        exact h
      · replace h := h.2 cd_11
        refine aw_ls [0] rfl ?_
        exact h
    | 3, _, e => 
      have e : (s.1 123 (((s.1 120 11)).toNatClampNeg)) = 23 := Int32.toInt_inj.mp (e.trans (by decide))
      replace h := h.2.2.2.1 e
      refine aw_tableEq (tgt := 265) rfl e (by decide) (by decide) rfl (by decide) ?_
      refine aw_aload_n (q := 266) (j := 0) rfl rfl rfl (List.mem_of_getElem? (i := 0) rfl) ?_
      refine ag_getR (q := 269) rfl rfl fl_Mo_20 rfl (SX.o hS rfl) (SX.r hS rfl) ?_
      refine aw_aload_n (q := 270) (j := 0) rfl rfl rfl (List.mem_of_getElem? (i := 0) rfl) ?_
      refine ag_getI (q := 273) rfl rfl fl_Mo_230 rfl (SX.o hS rfl) ?_
      refine ag_iaload (q := 274) (N := 403) rfl rfl (SX.a hS rfl) bd_1 ?_
      refine aw_bipush (q := 276) (v := 23) rfl rfl (by decide) ?_
      refine aw_isub (q := 277) rfl rfl ?_
      refine aw_istore_n (q := 278) (j := 1) (ls' := [(1, .int _), (0, .ref _)]) rfl rfl rfl (by decide) rfl ?_
      refine aw_iload_n (q := 279) (j := 1) rfl rfl rfl (List.mem_of_getElem? (i := 0) rfl) ?_
      refine aw_if_lt (q := 282) (tgt := 296) rfl rfl (by decide) ⟨fun cd_12 => ?_, fun cd_12 => ?_⟩
      · replace h := h.1 cd_12
        refine aw_ls [1, 0] rfl ?_
        exact h
      · replace h := h.2 cd_12
        refine aw_aload_n (q := 283) (j := 0) rfl rfl rfl (List.mem_of_getElem? (i := 1) rfl) ?_
        refine ag_getR (q := 286) rfl rfl fl_Mo_20 rfl (SX.o hS rfl) (SX.r hS rfl) ?_
        refine aw_aload_n (q := 287) (j := 0) rfl rfl rfl (List.mem_of_getElem? (i := 1) rfl) ?_
        refine ag_getI (q := 290) rfl rfl fl_Mo_230 rfl (SX.o hS rfl) ?_
        refine ag_iaload (q := 291) (N := 403) rfl rfl (SX.a hS rfl) bd_1 ?_
        refine aw_bipush (q := 293) (v := 25) rfl rfl (by decide) ?_
        refine aw_icmp_le (q := 296) (tgt := 301) rfl rfl (by decide) ⟨fun cd_13 => ?_, fun cd_13 => ?_⟩
        · replace h := h.1 cd_13
          refine aw_ls [1, 0] rfl ?_
          exact h
        · replace h := h.2 cd_13
          refine aw_ls [1, 0] rfl ?_
          exact h
    | 4, _, e => 
      have e : (s.1 123 (((s.1 120 11)).toNatClampNeg)) = 24 := Int32.toInt_inj.mp (e.trans (by decide))
      replace h := h.2.2.2.2.1 e
      refine aw_tableEq (tgt := 265) rfl e (by decide) (by decide) rfl (by decide) ?_
      refine aw_aload_n (q := 266) (j := 0) rfl rfl rfl (List.mem_of_getElem? (i := 0) rfl) ?_
      refine ag_getR (q := 269) rfl rfl fl_Mo_20 rfl (SX.o hS rfl) (SX.r hS rfl) ?_
      refine aw_aload_n (q := 270) (j := 0) rfl rfl rfl (List.mem_of_getElem? (i := 0) rfl) ?_
      refine ag_getI (q := 273) rfl rfl fl_Mo_230 rfl (SX.o hS rfl) ?_
      refine ag_iaload (q := 274) (N := 403) rfl rfl (SX.a hS rfl) bd_1 ?_
      refine aw_bipush (q := 276) (v := 23) rfl rfl (by decide) ?_
      refine aw_isub (q := 277) rfl rfl ?_
      refine aw_istore_n (q := 278) (j := 1) (ls' := [(1, .int _), (0, .ref _)]) rfl rfl rfl (by decide) rfl ?_
      refine aw_iload_n (q := 279) (j := 1) rfl rfl rfl (List.mem_of_getElem? (i := 0) rfl) ?_
      refine aw_if_lt (q := 282) (tgt := 296) rfl rfl (by decide) ⟨fun cd_14 => ?_, fun cd_14 => ?_⟩
      · replace h := h.1 cd_14
        refine aw_ls [1, 0] rfl ?_
        exact h
      · replace h := h.2 cd_14
        refine aw_aload_n (q := 283) (j := 0) rfl rfl rfl (List.mem_of_getElem? (i := 1) rfl) ?_
        refine ag_getR (q := 286) rfl rfl fl_Mo_20 rfl (SX.o hS rfl) (SX.r hS rfl) ?_
        refine aw_aload_n (q := 287) (j := 0) rfl rfl rfl (List.mem_of_getElem? (i := 1) rfl) ?_
        refine ag_getI (q := 290) rfl rfl fl_Mo_230 rfl (SX.o hS rfl) ?_
        refine ag_iaload (q := 291) (N := 403) rfl rfl (SX.a hS rfl) bd_1 ?_
        refine aw_bipush (q := 293) (v := 25) rfl rfl (by decide) ?_
        refine aw_icmp_le (q := 296) (tgt := 301) rfl rfl (by decide) ⟨fun cd_15 => ?_, fun cd_15 => ?_⟩
        · replace h := h.1 cd_15
          refine aw_ls [1, 0] rfl ?_
          exact h
        · replace h := h.2 cd_15
          refine aw_ls [1, 0] rfl ?_
          exact h
    | 5, _, e => 
      have e : (s.1 123 (((s.1 120 11)).toNatClampNeg)) = 25 := Int32.toInt_inj.mp (e.trans (by decide))
      replace h := h.2.2.2.2.2.1 e
      refine aw_tableEq (tgt := 265) rfl e (by decide) (by decide) rfl (by decide) ?_
      refine aw_aload_n (q := 266) (j := 0) rfl rfl rfl (List.mem_of_getElem? (i := 0) rfl) ?_
      refine ag_getR (q := 269) rfl rfl fl_Mo_20 rfl (SX.o hS rfl) (SX.r hS rfl) ?_
      refine aw_aload_n (q := 270) (j := 0) rfl rfl rfl (List.mem_of_getElem? (i := 0) rfl) ?_
      refine ag_getI (q := 273) rfl rfl fl_Mo_230 rfl (SX.o hS rfl) ?_
      refine ag_iaload (q := 274) (N := 403) rfl rfl (SX.a hS rfl) bd_1 ?_
      refine aw_bipush (q := 276) (v := 23) rfl rfl (by decide) ?_
      refine aw_isub (q := 277) rfl rfl ?_
      refine aw_istore_n (q := 278) (j := 1) (ls' := [(1, .int _), (0, .ref _)]) rfl rfl rfl (by decide) rfl ?_
      refine aw_iload_n (q := 279) (j := 1) rfl rfl rfl (List.mem_of_getElem? (i := 0) rfl) ?_
      refine aw_if_lt (q := 282) (tgt := 296) rfl rfl (by decide) ⟨fun cd_16 => ?_, fun cd_16 => ?_⟩
      · replace h := h.1 cd_16
        refine aw_ls [1, 0] rfl ?_
        exact h
      · replace h := h.2 cd_16
        refine aw_aload_n (q := 283) (j := 0) rfl rfl rfl (List.mem_of_getElem? (i := 1) rfl) ?_
        refine ag_getR (q := 286) rfl rfl fl_Mo_20 rfl (SX.o hS rfl) (SX.r hS rfl) ?_
        refine aw_aload_n (q := 287) (j := 0) rfl rfl rfl (List.mem_of_getElem? (i := 1) rfl) ?_
        refine ag_getI (q := 290) rfl rfl fl_Mo_230 rfl (SX.o hS rfl) ?_
        refine ag_iaload (q := 291) (N := 403) rfl rfl (SX.a hS rfl) bd_1 ?_
        refine aw_bipush (q := 293) (v := 25) rfl rfl (by decide) ?_
        refine aw_icmp_le (q := 296) (tgt := 301) rfl rfl (by decide) ⟨fun cd_17 => ?_, fun cd_17 => ?_⟩
        · replace h := h.1 cd_17
          refine aw_ls [1, 0] rfl ?_
          exact h
        · replace h := h.2 cd_17
          refine aw_ls [1, 0] rfl ?_
          exact h
    | 6, _, e => 
      have e : (s.1 123 (((s.1 120 11)).toNatClampNeg)) = 26 := Int32.toInt_inj.mp (e.trans (by decide))
      replace h := h.2.2.2.2.2.2.1 e
      refine aw_tableEq (tgt := 151) rfl e (by decide) (by decide) rfl (by decide) ?_
      refine aw_aload_n (q := 152) (j := 0) rfl rfl rfl (List.mem_of_getElem? (i := 0) rfl) ?_
      refine aw_aload_n (q := 153) (j := 0) rfl rfl rfl (List.mem_of_getElem? (i := 0) rfl) ?_
      refine ag_getR (q := 156) rfl rfl fl_Mo_82 rfl (SX.o hS rfl) (SX.r hS rfl) ?_
      refine aw_aload_n (q := 157) (j := 0) rfl rfl rfl (List.mem_of_getElem? (i := 0) rfl) ?_
      refine ag_getI (q := 160) rfl rfl fl_Mo_260 rfl (SX.o hS rfl) ?_
      obtain ⟨bd_18, h⟩ := h
      refine ag_iaload (q := 161) (N := 2) rfl rfl (SX.a hS rfl) bd_18 ?_
      refine aw_iconst (q := 162) (v := 5) rfl rfl (by decide) ?_
      refine ag_cvV (z := m_Mo_roomFor) (ci := 11) (av := [.int _, .int _]) (st := []) (q := 165) (k' := 0) (n' := 0) rfl rfl cv_Mo_281 ⟨by decide, by decide⟩ rfl rfl (by decide) (by decide) (SX.o hS rfl) rfl rfl rfl (Nat.le_of_ble_eq_true rfl) ?_
      refine GV.mono h (fun t7_ h => ?_)
      refine aw_aload_n (q := 166) (j := 0) rfl rfl rfl (List.mem_of_getElem? (i := 0) rfl) ?_
      refine ag_getI (q := 169) rfl rfl fl_Mo_227 rfl (SX.o hS rfl) ?_
      refine aw_if_ne (q := 172) (tgt := 318) rfl rfl (by decide) ⟨fun cd_19 => ?_, fun cd_19 => ?_⟩
      · replace h := h.1 cd_19
        refine aw_aload_n (q := 173) (j := 0) rfl rfl rfl (List.mem_of_getElem? (i := 0) rfl) ?_
        refine ag_cvV (z := m_Mo_tellWants) (ci := 11) (av := []) (st := []) (q := 176) (k' := 0) (n' := 0) rfl rfl cv_Mo_294 ⟨by decide, by decide⟩ rfl rfl (by decide) (by decide) (SX.o hS rfl) rfl rfl rfl (Nat.le_of_ble_eq_true rfl) ?_
        refine GV.mono h (fun t8_ h => ?_)
        refine aw_goto (tgt := 318) rfl (by decide) ?_
        refine aw_ls [0] rfl ?_
        exact h
      · replace h := h.2 cd_19
        refine aw_ls [0] rfl ?_
        exact h
    | 7, _, e => 
      have e : (s.1 123 (((s.1 120 11)).toNatClampNeg)) = 27 := Int32.toInt_inj.mp (e.trans (by decide))
      replace h := h.2.2.2.2.2.2.2.1 e
      refine aw_tableEq (tgt := 179) rfl e (by decide) (by decide) rfl (by decide) ?_
      refine aw_aload_n (q := 180) (j := 0) rfl rfl rfl (List.mem_of_getElem? (i := 0) rfl) ?_
      refine ag_cvV (z := m_Mo_goesOn) (ci := 11) (av := []) (st := []) (q := 183) (k' := 0) (n' := 0) rfl rfl cv_Mo_248 ⟨by decide, by decide⟩ rfl rfl (by decide) (by decide) (SX.o hS rfl) rfl rfl rfl (Nat.le_of_ble_eq_true rfl) ?_
      refine GV.mono h (fun t9_ h => ?_)
      refine aw_aload_n (q := 184) (j := 0) rfl rfl rfl (List.mem_of_getElem? (i := 0) rfl) ?_
      refine ag_getR (q := 187) rfl rfl fl_Mo_97 rfl (SX.o hS rfl) (SX.r hS rfl) ?_
      refine aw_aload_n (q := 188) (j := 0) rfl rfl rfl (List.mem_of_getElem? (i := 0) rfl) ?_
      refine ag_getI (q := 191) rfl rfl fl_Mo_260 rfl (SX.o hS rfl) ?_
      refine aw_aload_n (q := 192) (j := 0) rfl rfl rfl (List.mem_of_getElem? (i := 0) rfl) ?_
      refine aw_iconst (q := 193) (v := 0) rfl rfl (by decide) ?_
      refine aw_sipush (q := 196) (v := 9999) rfl rfl (by decide) ?_
      refine ag_cvI (z := m_Mo_bounded) (ci := 11) (av := [.int _, .int _]) (st := [.int _, .ref _]) (q := 199) (k' := 0) (n' := 0) rfl rfl cv_Mo_297 ⟨by decide, by decide⟩ rfl rfl (by decide) (by decide) (SX.o hS rfl) rfl rfl rfl (Nat.le_of_ble_eq_true rfl) ?_
      refine GI.mono h (fun y10_ t10_ h => ?_)
      obtain ⟨bd_20, h⟩ := h
      refine ag_iastore (q := 200) (N := 2) rfl rfl (SX.a hS rfl) bd_20 ?_
      replace h := h _ rfl
      refine aw_aload_n (q := 201) (j := 0) rfl rfl rfl (List.mem_of_getElem? (i := 0) rfl) ?_
      refine aw_iconst (q := 202) (v := 4) rfl rfl (by decide) ?_
      refine ag_cvV (z := m_Mo_must) (ci := 11) (av := [.int _]) (st := []) (q := 205) (k' := 0) (n' := 0) rfl rfl cv_Mo_301 ⟨by decide, by decide⟩ rfl rfl (by decide) (by decide) (SX.o hS rfl) rfl rfl rfl (Nat.le_of_ble_eq_true rfl) ?_
      refine GV.mono h (fun t12_ h => ?_)
      refine aw_goto (tgt := 318) rfl (by decide) ?_
      refine aw_ls [0] rfl ?_
      exact h
    | 8, _, e => 
      have e : (s.1 123 (((s.1 120 11)).toNatClampNeg)) = 28 := Int32.toInt_inj.mp (e.trans (by decide))
      replace h := h.2.2.2.2.2.2.2.2.1 e
      refine aw_tableEq (tgt := 208) rfl e (by decide) (by decide) rfl (by decide) ?_
      refine aw_aload_n (q := 209) (j := 0) rfl rfl rfl (List.mem_of_getElem? (i := 0) rfl) ?_
      refine ag_cvV (z := m_Mo_goesOn) (ci := 11) (av := []) (st := []) (q := 212) (k' := 0) (n' := 0) rfl rfl cv_Mo_248 ⟨by decide, by decide⟩ rfl rfl (by decide) (by decide) (SX.o hS rfl) rfl rfl rfl (Nat.le_of_ble_eq_true rfl) ?_
      refine GV.mono h (fun t13_ h => ?_)
      refine aw_aload_n (q := 213) (j := 0) rfl rfl rfl (List.mem_of_getElem? (i := 0) rfl) ?_
      refine ag_getR (q := 216) rfl rfl fl_Mo_100 rfl (SX.o hS rfl) (SX.r hS rfl) ?_
      refine aw_aload_n (q := 217) (j := 0) rfl rfl rfl (List.mem_of_getElem? (i := 0) rfl) ?_
      refine ag_getI (q := 220) rfl rfl fl_Mo_260 rfl (SX.o hS rfl) ?_
      refine aw_aload_n (q := 221) (j := 0) rfl rfl rfl (List.mem_of_getElem? (i := 0) rfl) ?_
      refine aw_iconst (q := 222) (v := 1) rfl rfl (by decide) ?_
      refine aw_bipush (q := 224) (v := 99) rfl rfl (by decide) ?_
      refine ag_cvI (z := m_Mo_bounded) (ci := 11) (av := [.int _, .int _]) (st := [.int _, .ref _]) (q := 227) (k' := 0) (n' := 0) rfl rfl cv_Mo_297 ⟨by decide, by decide⟩ rfl rfl (by decide) (by decide) (SX.o hS rfl) rfl rfl rfl (Nat.le_of_ble_eq_true rfl) ?_
      refine GI.mono h (fun y14_ t14_ h => ?_)
      obtain ⟨bd_21, h⟩ := h
      refine ag_iastore (q := 228) (N := 2) rfl rfl (SX.a hS rfl) bd_21 ?_
      replace h := h _ rfl
      refine aw_aload_n (q := 229) (j := 0) rfl rfl rfl (List.mem_of_getElem? (i := 0) rfl) ?_
      refine aw_iconst (q := 230) (v := 4) rfl rfl (by decide) ?_
      refine ag_cvV (z := m_Mo_must) (ci := 11) (av := [.int _]) (st := []) (q := 233) (k' := 0) (n' := 0) rfl rfl cv_Mo_301 ⟨by decide, by decide⟩ rfl rfl (by decide) (by decide) (SX.o hS rfl) rfl rfl rfl (Nat.le_of_ble_eq_true rfl) ?_
      refine GV.mono h (fun t16_ h => ?_)
      refine aw_goto (tgt := 318) rfl (by decide) ?_
      refine aw_ls [0] rfl ?_
      exact h
    | 9, _, e => 
      have e : (s.1 123 (((s.1 120 11)).toNatClampNeg)) = 29 := Int32.toInt_inj.mp (e.trans (by decide))
      replace h := h.2.2.2.2.2.2.2.2.2 e
      refine aw_tableEq (tgt := 236) rfl e (by decide) (by decide) rfl (by decide) ?_
      refine aw_aload_n (q := 237) (j := 0) rfl rfl rfl (List.mem_of_getElem? (i := 0) rfl) ?_
      refine ag_cvV (z := m_Mo_goesOn) (ci := 11) (av := []) (st := []) (q := 240) (k' := 0) (n' := 0) rfl rfl cv_Mo_248 ⟨by decide, by decide⟩ rfl rfl (by decide) (by decide) (SX.o hS rfl) rfl rfl rfl (Nat.le_of_ble_eq_true rfl) ?_
      refine GV.mono h (fun t17_ h => ?_)
      refine aw_aload_n (q := 241) (j := 0) rfl rfl rfl (List.mem_of_getElem? (i := 0) rfl) ?_
      refine ag_getR (q := 244) rfl rfl fl_Mo_103 rfl (SX.o hS rfl) (SX.r hS rfl) ?_
      refine aw_aload_n (q := 245) (j := 0) rfl rfl rfl (List.mem_of_getElem? (i := 0) rfl) ?_
      refine ag_getI (q := 248) rfl rfl fl_Mo_260 rfl (SX.o hS rfl) ?_
      refine aw_aload_n (q := 249) (j := 0) rfl rfl rfl (List.mem_of_getElem? (i := 0) rfl) ?_
      refine aw_iconst (q := 250) (v := 0) rfl rfl (by decide) ?_
      refine aw_sipush (q := 253) (v := 9999) rfl rfl (by decide) ?_
      refine ag_cvI (z := m_Mo_bounded) (ci := 11) (av := [.int _, .int _]) (st := [.int _, .ref _]) (q := 256) (k' := 0) (n' := 0) rfl rfl cv_Mo_297 ⟨by decide, by decide⟩ rfl rfl (by decide) (by decide) (SX.o hS rfl) rfl rfl rfl (Nat.le_of_ble_eq_true rfl) ?_
      refine GI.mono h (fun y18_ t18_ h => ?_)
      obtain ⟨bd_22, h⟩ := h
      refine ag_iastore (q := 257) (N := 2) rfl rfl (SX.a hS rfl) bd_22 ?_
      replace h := h _ rfl
      refine aw_aload_n (q := 258) (j := 0) rfl rfl rfl (List.mem_of_getElem? (i := 0) rfl) ?_
      refine aw_iconst (q := 259) (v := 4) rfl rfl (by decide) ?_
      refine ag_cvV (z := m_Mo_must) (ci := 11) (av := [.int _]) (st := []) (q := 262) (k' := 0) (n' := 0) rfl rfl cv_Mo_301 ⟨by decide, by decide⟩ rfl rfl (by decide) (by decide) (SX.o hS rfl) rfl rfl rfl (Nat.le_of_ble_eq_true rfl) ?_
      refine GV.mono h (fun t20_ h => ?_)
      refine aw_goto (tgt := 318) rfl (by decide) ?_
      refine aw_ls [0] rfl ?_
      exact h
    | j + 10, hj, _ => exact absurd hj (by omega)
set_option maxRecDepth 20000 in
theorem v_Mo_roomFor {E : EN} {g : GS} {s : MS} {Q : Option Value → SG → Prop} (x1 : Int32) (x2 : Int32) (hS : SX g) (h : ((x1 = x2 → GV E m_Mo_fail [.ref 120, .int 2] g s (fun t1_ => (((t1_.1 120 13) = 0 → GV E m_Mo_goesOn [.ref 120] g t1_ (fun t2_ => Q none (mk g t2_))) ∧ (¬ (t1_.1 120 13) = 0 → Q none (mk g t1_))))) ∧ (¬ x1 = x2 → (((s.1 120 13) = 0 → GV E m_Mo_goesOn [.ref 120] g s (fun t3_ => Q none (mk g t3_))) ∧ (¬ (s.1 120 13) = 0 → Q none (mk g s)))))) : AMet E m_Mo_roomFor [.ref 120, .int x1, .int x2] (mk g s) Q := by
  refine AMet.of (by decide) k_Mo_roomFor [(0, .ref 120), (1, .int x1), (2, .int x2)] (Nat.le_of_ble_eq_true rfl) rfl ?_
  refine aw_iload_n (q := 1) (j := 1) rfl rfl rfl (List.mem_of_getElem? (i := 1) rfl) ?_
  refine aw_iload_n (q := 2) (j := 2) rfl rfl rfl (List.mem_of_getElem? (i := 2) rfl) ?_
  refine aw_icmp_ne (q := 5) (tgt := 10) rfl rfl (by decide) ⟨fun cd_1 => ?_, fun cd_1 => ?_⟩
  · replace h := h.1 cd_1
    refine aw_aload_n (q := 6) (j := 0) rfl rfl rfl (List.mem_of_getElem? (i := 0) rfl) ?_
    refine aw_iconst (q := 7) (v := 2) rfl rfl (by decide) ?_
    refine ag_cvV (z := m_Mo_fail) (ci := 11) (av := [.int _]) (st := []) (q := 10) (k' := 0) (n' := 0) rfl rfl cv_Mo_242 ⟨by decide, by decide⟩ rfl rfl (by decide) (by decide) (SX.o hS rfl) rfl rfl rfl (Nat.le_of_ble_eq_true rfl) ?_
    refine GV.mono h (fun t1_ h => ?_)
    refine aw_aload_n (q := 11) (j := 0) rfl rfl rfl (List.mem_of_getElem? (i := 0) rfl) ?_
    refine ag_getI (q := 14) rfl rfl fl_Mo_227 rfl (SX.o hS rfl) ?_
    refine aw_if_ne (q := 17) (tgt := 21) rfl rfl (by decide) ⟨fun cd_2 => ?_, fun cd_2 => ?_⟩
    · replace h := h.1 cd_2
      refine aw_aload_n (q := 18) (j := 0) rfl rfl rfl (List.mem_of_getElem? (i := 0) rfl) ?_
      refine ag_cvV (z := m_Mo_goesOn) (ci := 11) (av := []) (st := []) (q := 21) (k' := 0) (n' := 0) rfl rfl cv_Mo_248 ⟨by decide, by decide⟩ rfl rfl (by decide) (by decide) (SX.o hS rfl) rfl rfl rfl (Nat.le_of_ble_eq_true rfl) ?_
      refine GV.mono h (fun t2_ h => ?_)
      exact aw_return rfl rfl (by decide) (by decide) h
    · replace h := h.2 cd_2
      exact aw_return rfl rfl (by decide) (by decide) h
  · replace h := h.2 cd_1
    refine aw_aload_n (q := 11) (j := 0) rfl rfl rfl (List.mem_of_getElem? (i := 0) rfl) ?_
    refine ag_getI (q := 14) rfl rfl fl_Mo_227 rfl (SX.o hS rfl) ?_
    refine aw_if_ne (q := 17) (tgt := 21) rfl rfl (by decide) ⟨fun cd_3 => ?_, fun cd_3 => ?_⟩
    · replace h := h.1 cd_3
      refine aw_aload_n (q := 18) (j := 0) rfl rfl rfl (List.mem_of_getElem? (i := 0) rfl) ?_
      refine ag_cvV (z := m_Mo_goesOn) (ci := 11) (av := []) (st := []) (q := 21) (k' := 0) (n' := 0) rfl rfl cv_Mo_248 ⟨by decide, by decide⟩ rfl rfl (by decide) (by decide) (SX.o hS rfl) rfl rfl rfl (Nat.le_of_ble_eq_true rfl) ?_
      refine GV.mono h (fun t3_ h => ?_)
      exact aw_return rfl rfl (by decide) (by decide) h
    · replace h := h.2 cd_3
      exact aw_return rfl rfl (by decide) (by decide) h
set_option maxRecDepth 20000 in
theorem v_Mo_fail {E : EN} {g : GS} {s : MS} {Q : Option Value → SG → Prop} (x1 : Int32) (hS : SX g) (h : (((s.1 120 13) ≤ 0 → (∀ s1_, s1_ = wi s 120 13 x1 → vp_in (s.1 120 11) 403 ∧ (∀ s2_, s2_ = wi s1_ 120 14 (s.1 124 (((s.1 120 11)).toNatClampNeg)) → Q none (mk g s2_)))) ∧ (¬ (s.1 120 13) ≤ 0 → Q none (mk g s)))) : AMet E m_Mo_fail [.ref 120, .int x1] (mk g s) Q := by
  refine AMet.of (by decide) k_Mo_fail [(0, .ref 120), (1, .int x1)] (Nat.le_of_ble_eq_true rfl) rfl ?_
  refine aw_aload_n (q := 1) (j := 0) rfl rfl rfl (List.mem_of_getElem? (i := 0) rfl) ?_
  refine ag_getI (q := 4) rfl rfl fl_Mo_227 rfl (SX.o hS rfl) ?_
  refine aw_if_le (q := 7) (tgt := 8) rfl rfl (by decide) ⟨fun cd_1 => ?_, fun cd_1 => ?_⟩
  · replace h := h.1 cd_1
    refine aw_aload_n (q := 9) (j := 0) rfl rfl rfl (List.mem_of_getElem? (i := 0) rfl) ?_
    refine aw_iload_n (q := 10) (j := 1) rfl rfl rfl (List.mem_of_getElem? (i := 1) rfl) ?_
    refine ag_putI (q := 13) rfl rfl fl_Mo_227 rfl rfl (SX.o hS rfl) ?_
    replace h := h _ rfl
    refine aw_aload_n (q := 14) (j := 0) rfl rfl rfl (List.mem_of_getElem? (i := 0) rfl) ?_
    refine aw_aload_n (q := 15) (j := 0) rfl rfl rfl (List.mem_of_getElem? (i := 0) rfl) ?_
    refine ag_getR (q := 18) rfl rfl fl_Mo_24 rfl (SX.o hS rfl) (SX.r hS rfl) ?_
    refine aw_aload_n (q := 19) (j := 0) rfl rfl rfl (List.mem_of_getElem? (i := 0) rfl) ?_
    refine ag_getI (q := 22) rfl rfl fl_Mo_230 rfl (SX.o hS rfl) ?_
    obtain ⟨bd_2, h⟩ := h
    refine ag_iaload (q := 23) (N := 403) rfl rfl (SX.a hS rfl) bd_2 ?_
    refine ag_putI (q := 26) rfl rfl fl_Mo_233 rfl rfl (SX.o hS rfl) ?_
    replace h := h _ rfl
    exact aw_return rfl rfl (by decide) (by decide) h
  · replace h := h.2 cd_1
    exact aw_return rfl rfl (by decide) (by decide) h
set_option maxRecDepth 20000 in
theorem v_Mo_goesOn {E : EN} {g : GS} {s : MS} {Q : Option Value → SG → Prop}  (hS : SX g) (h : (((s.1 120 11) = 400 → GV E m_Mo_fail [.ref 120, .int 2] g s (fun t1_ => Q none (mk g t1_))) ∧ (¬ (s.1 120 11) = 400 → (∀ s2_, s2_ = wi s 120 11 ((s.1 120 11) + 1) → Q none (mk g s2_))))) : AMet E m_Mo_goesOn [.ref 120] (mk g s) Q := by
  refine AMet.of (by decide) k_Mo_goesOn [(0, .ref 120)] (Nat.le_of_ble_eq_true rfl) rfl ?_
  refine aw_aload_n (q := 1) (j := 0) rfl rfl rfl (List.mem_of_getElem? (i := 0) rfl) ?_
  refine ag_getI (q := 4) rfl rfl fl_Mo_230 rfl (SX.o hS rfl) ?_
  refine aw_sipush (q := 7) (v := 400) rfl rfl (by decide) ?_
  refine aw_icmp_ne (q := 10) (tgt := 18) rfl rfl (by decide) ⟨fun cd_1 => ?_, fun cd_1 => ?_⟩
  · replace h := h.1 cd_1
    refine aw_aload_n (q := 11) (j := 0) rfl rfl rfl (List.mem_of_getElem? (i := 0) rfl) ?_
    refine aw_iconst (q := 12) (v := 2) rfl rfl (by decide) ?_
    refine ag_cvV (z := m_Mo_fail) (ci := 11) (av := [.int _]) (st := []) (q := 15) (k' := 0) (n' := 0) rfl rfl cv_Mo_242 ⟨by decide, by decide⟩ rfl rfl (by decide) (by decide) (SX.o hS rfl) rfl rfl rfl (Nat.le_of_ble_eq_true rfl) ?_
    refine GV.mono h (fun t1_ h => ?_)
    refine aw_goto (tgt := 28) rfl (by decide) ?_
    exact aw_return rfl rfl (by decide) (by decide) h
  · replace h := h.2 cd_1
    refine aw_aload_n (q := 19) (j := 0) rfl rfl rfl (List.mem_of_getElem? (i := 0) rfl) ?_
    refine aw_dup (q := 20) rfl rfl rfl ?_
    refine ag_getI (q := 23) rfl rfl fl_Mo_230 rfl (SX.o hS rfl) ?_
    refine aw_iconst (q := 24) (v := 1) rfl rfl (by decide) ?_
    refine aw_iadd (q := 25) rfl rfl ?_
    refine ag_putI (q := 28) rfl rfl fl_Mo_230 rfl rfl (SX.o hS rfl) ?_
    replace h := h _ rfl
    exact aw_return rfl rfl (by decide) (by decide) h
set_option maxRecDepth 20000 in
theorem v_Mo_tellGrain {E : EN} {g : GS} {s : MS} {Q : Option Value → SG → Prop}  (hS : SX g) (h : vp_in (s.1 120 19) 2 ∧ GI E m_Mo_named [.ref 120] g s (fun y1_ t1_ => GI E m_Mo_bounded [.ref 120, .int 0, .int 9999] g t1_ (fun y2_ t2_ => vp_in ((6 * (s.1 120 19)) + (s.1 131 (((s.1 120 19)).toNatClampNeg))) 12 ∧ (∀ s3_, s3_ = wi t2_ 132 ((((6 * (s.1 120 19)) + (s.1 131 (((s.1 120 19)).toNatClampNeg)))).toNatClampNeg) y2_ → GI E m_Mo_bounded [.ref 120, .int 0, .int 99] g s3_ (fun y4_ t4_ => (∀ s5_, s5_ = wi t4_ 133 ((((6 * (s.1 120 19)) + (s.1 131 (((s.1 120 19)).toNatClampNeg)))).toNatClampNeg) y4_ → GV E m_Mo_must [.ref 120, .int 4] g s5_ (fun t6_ => (((t6_.1 120 13) ≤ 0 → vp_in (t6_.1 120 19) 2 ∧ GV E m_Mo_notes [.ref 120, .int y1_, .int 0, .int (t6_.1 131 (((t6_.1 120 19)).toNatClampNeg))] g t6_ (fun t7_ => vp_in (t7_.1 120 19) 2 ∧ (∀ s8_, s8_ = wi t7_ 131 (((t7_.1 120 19)).toNatClampNeg) ((t7_.1 131 (((t7_.1 120 19)).toNatClampNeg)) + 1) → Q none (mk g s8_)))) ∧ (¬ (t6_.1 120 13) ≤ 0 → Q none (mk g t6_)))))))))) : AMet E m_Mo_tellGrain [.ref 120] (mk g s) Q := by
  refine AMet.of (by decide) k_Mo_tellGrain [(0, .ref 120)] (Nat.le_of_ble_eq_true rfl) rfl ?_
  refine aw_bipush (q := 2) (v := 6) rfl rfl (by decide) ?_
  refine aw_aload_n (q := 3) (j := 0) rfl rfl rfl (List.mem_of_getElem? (i := 0) rfl) ?_
  refine ag_getI (q := 6) rfl rfl fl_Mo_260 rfl (SX.o hS rfl) ?_
  refine aw_imul (q := 7) rfl rfl ?_
  refine aw_aload_n (q := 8) (j := 0) rfl rfl rfl (List.mem_of_getElem? (i := 0) rfl) ?_
  refine ag_getR (q := 11) rfl rfl fl_Mo_49 rfl (SX.o hS rfl) (SX.r hS rfl) ?_
  refine aw_aload_n (q := 12) (j := 0) rfl rfl rfl (List.mem_of_getElem? (i := 0) rfl) ?_
  refine ag_getI (q := 15) rfl rfl fl_Mo_260 rfl (SX.o hS rfl) ?_
  obtain ⟨bd_1, h⟩ := h
  refine ag_iaload (q := 16) (N := 2) rfl rfl (SX.a hS rfl) bd_1 ?_
  refine aw_iadd (q := 17) rfl rfl ?_
  refine aw_istore_n (q := 18) (j := 1) (ls' := [(1, .int _), (0, .ref _)]) rfl rfl rfl (by decide) rfl ?_
  refine aw_aload_n (q := 19) (j := 0) rfl rfl rfl (List.mem_of_getElem? (i := 1) rfl) ?_
  refine ag_cvI (z := m_Mo_named) (ci := 11) (av := []) (st := []) (q := 22) (k' := 0) (n' := 0) rfl rfl cv_Mo_310 ⟨by decide, by decide⟩ rfl rfl (by decide) (by decide) (SX.o hS rfl) rfl rfl rfl (Nat.le_of_ble_eq_true rfl) ?_
  refine GI.mono h (fun y1_ t1_ h => ?_)
  refine aw_istore_n (q := 23) (j := 2) (ls' := [(2, .int _), (1, .int _), (0, .ref _)]) rfl rfl rfl (by decide) rfl ?_
  refine aw_aload_n (q := 24) (j := 0) rfl rfl rfl (List.mem_of_getElem? (i := 2) rfl) ?_
  refine ag_getR (q := 27) rfl rfl fl_Mo_52 rfl (SX.o hS rfl) (SX.r hS rfl) ?_
  refine aw_iload_n (q := 28) (j := 1) rfl rfl rfl (List.mem_of_getElem? (i := 1) rfl) ?_
  refine aw_aload_n (q := 29) (j := 0) rfl rfl rfl (List.mem_of_getElem? (i := 2) rfl) ?_
  refine aw_iconst (q := 30) (v := 0) rfl rfl (by decide) ?_
  refine aw_sipush (q := 33) (v := 9999) rfl rfl (by decide) ?_
  refine ag_cvI (z := m_Mo_bounded) (ci := 11) (av := [.int _, .int _]) (st := [.int _, .ref _]) (q := 36) (k' := 0) (n' := 0) rfl rfl cv_Mo_297 ⟨by decide, by decide⟩ rfl rfl (by decide) (by decide) (SX.o hS rfl) rfl rfl rfl (Nat.le_of_ble_eq_true rfl) ?_
  refine GI.mono h (fun y2_ t2_ h => ?_)
  obtain ⟨bd_2, h⟩ := h
  refine ag_iastore (q := 37) (N := 12) rfl rfl (SX.a hS rfl) bd_2 ?_
  replace h := h _ rfl
  refine aw_aload_n (q := 38) (j := 0) rfl rfl rfl (List.mem_of_getElem? (i := 2) rfl) ?_
  refine ag_getR (q := 41) rfl rfl fl_Mo_55 rfl (SX.o hS rfl) (SX.r hS rfl) ?_
  refine aw_iload_n (q := 42) (j := 1) rfl rfl rfl (List.mem_of_getElem? (i := 1) rfl) ?_
  refine aw_aload_n (q := 43) (j := 0) rfl rfl rfl (List.mem_of_getElem? (i := 2) rfl) ?_
  refine aw_iconst (q := 44) (v := 0) rfl rfl (by decide) ?_
  refine aw_bipush (q := 46) (v := 99) rfl rfl (by decide) ?_
  refine ag_cvI (z := m_Mo_bounded) (ci := 11) (av := [.int _, .int _]) (st := [.int _, .ref _]) (q := 49) (k' := 0) (n' := 0) rfl rfl cv_Mo_297 ⟨by decide, by decide⟩ rfl rfl (by decide) (by decide) (SX.o hS rfl) rfl rfl rfl (Nat.le_of_ble_eq_true rfl) ?_
  refine GI.mono h (fun y4_ t4_ h => ?_)
  refine ag_iastore (q := 50) (N := 12) rfl rfl (SX.a hS rfl) bd_2 ?_
  replace h := h _ rfl
  refine aw_aload_n (q := 51) (j := 0) rfl rfl rfl (List.mem_of_getElem? (i := 2) rfl) ?_
  refine aw_iconst (q := 52) (v := 4) rfl rfl (by decide) ?_
  refine ag_cvV (z := m_Mo_must) (ci := 11) (av := [.int _]) (st := []) (q := 55) (k' := 0) (n' := 0) rfl rfl cv_Mo_301 ⟨by decide, by decide⟩ rfl rfl (by decide) (by decide) (SX.o hS rfl) rfl rfl rfl (Nat.le_of_ble_eq_true rfl) ?_
  refine GV.mono h (fun t6_ h => ?_)
  refine aw_aload_n (q := 56) (j := 0) rfl rfl rfl (List.mem_of_getElem? (i := 2) rfl) ?_
  refine ag_getI (q := 59) rfl rfl fl_Mo_227 rfl (SX.o hS rfl) ?_
  refine aw_if_le (q := 62) (tgt := 63) rfl rfl (by decide) ⟨fun cd_3 => ?_, fun cd_3 => ?_⟩
  · replace h := h.1 cd_3
    refine aw_aload_n (q := 64) (j := 0) rfl rfl rfl (List.mem_of_getElem? (i := 2) rfl) ?_
    refine aw_iload_n (q := 65) (j := 2) rfl rfl rfl (List.mem_of_getElem? (i := 0) rfl) ?_
    refine aw_iconst (q := 66) (v := 0) rfl rfl (by decide) ?_
    refine aw_aload_n (q := 67) (j := 0) rfl rfl rfl (List.mem_of_getElem? (i := 2) rfl) ?_
    refine ag_getR (q := 70) rfl rfl fl_Mo_49 rfl (SX.o hS rfl) (SX.r hS rfl) ?_
    refine aw_aload_n (q := 71) (j := 0) rfl rfl rfl (List.mem_of_getElem? (i := 2) rfl) ?_
    refine ag_getI (q := 74) rfl rfl fl_Mo_260 rfl (SX.o hS rfl) ?_
    obtain ⟨bd_4, h⟩ := h
    refine ag_iaload (q := 75) (N := 2) rfl rfl (SX.a hS rfl) bd_4 ?_
    refine ag_cvV (z := m_Mo_notes) (ci := 11) (av := [.int _, .int _, .int _]) (st := []) (q := 78) (k' := 0) (n' := 0) rfl rfl cv_Mo_314 ⟨by decide, by decide⟩ rfl rfl (by decide) (by decide) (SX.o hS rfl) rfl rfl rfl (Nat.le_of_ble_eq_true rfl) ?_
    refine GV.mono h (fun t7_ h => ?_)
    refine aw_aload_n (q := 79) (j := 0) rfl rfl rfl (List.mem_of_getElem? (i := 2) rfl) ?_
    refine ag_getR (q := 82) rfl rfl fl_Mo_49 rfl (SX.o hS rfl) (SX.r hS rfl) ?_
    refine aw_aload_n (q := 83) (j := 0) rfl rfl rfl (List.mem_of_getElem? (i := 2) rfl) ?_
    refine ag_getI (q := 86) rfl rfl fl_Mo_260 rfl (SX.o hS rfl) ?_
    refine aw_dup2 (q := 87) rfl rfl rfl rfl ?_
    obtain ⟨bd_5, h⟩ := h
    refine ag_iaload (q := 88) (N := 2) rfl rfl (SX.a hS rfl) bd_5 ?_
    refine aw_iconst (q := 89) (v := 1) rfl rfl (by decide) ?_
    refine aw_iadd (q := 90) rfl rfl ?_
    refine ag_iastore (q := 91) (N := 2) rfl rfl (SX.a hS rfl) bd_5 ?_
    replace h := h _ rfl
    exact aw_return rfl rfl (by decide) (by decide) h
  · replace h := h.2 cd_3
    exact aw_return rfl rfl (by decide) (by decide) h
set_option maxRecDepth 20000 in
theorem v_Mo_named_12 {E : EN} {g : GS} {s : MS} {Q : Option Value → SG → Prop} (x1 : Int32) (x2 : Int32) (hS : SX g) (h : (((s.1 120 20) ≤ x2 → Q (some (.int x1)) (mk g s)) ∧ (¬ (s.1 120 20) ≤ x2 → (((s.1 120 13) = 0 → vp_in x2 20 ∧ vp_in x1 403 ∧ (((lg_cmp (s.2 128 ((x2).toNatClampNeg)) (s.2 126 ((x1).toNatClampNeg))) = 0 → GV E m_Mo_wrong [.ref 120, .int 3, .int x1] g s (fun t1_ => AWP E m_Mo_named 12 0 0 [(0, .ref 120), (1, .int x1), (2, .int (x2 + 1))] [] (mk g t1_) Q)) ∧ (¬ (lg_cmp (s.2 128 ((x2).toNatClampNeg)) (s.2 126 ((x1).toNatClampNeg))) = 0 → AWP E m_Mo_named 12 0 0 [(0, .ref 120), (1, .int x1), (2, .int (x2 + 1))] [] (mk g s) Q))) ∧ (¬ (s.1 120 13) = 0 → Q (some (.int x1)) (mk g s)))))) : AWP E m_Mo_named 12 0 0 [(0, .ref 120), (1, .int x1), (2, .int x2)] [] (mk g s) Q := by
  refine aw_iload_n (q := 13) (j := 2) rfl rfl rfl (List.mem_of_getElem? (i := 2) rfl) ?_
  refine aw_aload_n (q := 14) (j := 0) rfl rfl rfl (List.mem_of_getElem? (i := 0) rfl) ?_
  refine ag_getI (q := 17) rfl rfl fl_Mo_263 rfl (SX.o hS rfl) ?_
  refine aw_icmp_ge (q := 20) (tgt := 55) rfl rfl (by decide) ⟨fun cd_1 => ?_, fun cd_1 => ?_⟩
  · replace h := h.1 cd_1
    refine aw_iload_n (q := 56) (j := 1) rfl rfl rfl (List.mem_of_getElem? (i := 1) rfl) ?_
    exact aw_ireturn (ty := .int) rfl rfl rfl (by decide) (by decide) h
  · replace h := h.2 cd_1
    refine aw_aload_n (q := 21) (j := 0) rfl rfl rfl (List.mem_of_getElem? (i := 0) rfl) ?_
    refine ag_getI (q := 24) rfl rfl fl_Mo_227 rfl (SX.o hS rfl) ?_
    refine aw_if_ne (q := 27) (tgt := 55) rfl rfl (by decide) ⟨fun cd_2 => ?_, fun cd_2 => ?_⟩
    · replace h := h.1 cd_2
      refine aw_aload_n (q := 28) (j := 0) rfl rfl rfl (List.mem_of_getElem? (i := 0) rfl) ?_
      refine ag_getR (q := 31) rfl rfl fl_Mo_40 rfl (SX.o hS rfl) (SX.r hS rfl) ?_
      refine aw_iload_n (q := 32) (j := 2) rfl rfl rfl (List.mem_of_getElem? (i := 2) rfl) ?_
      obtain ⟨bd_3, h⟩ := h
      refine ag_laload (q := 33) (N := 20) rfl rfl (SX.a hS rfl) bd_3 ?_
      refine aw_aload_n (q := 34) (j := 0) rfl rfl rfl (List.mem_of_getElem? (i := 0) rfl) ?_
      refine ag_getR (q := 37) rfl rfl fl_Mo_30 rfl (SX.o hS rfl) (SX.r hS rfl) ?_
      refine aw_iload_n (q := 38) (j := 1) rfl rfl rfl (List.mem_of_getElem? (i := 1) rfl) ?_
      obtain ⟨bd_4, h⟩ := h
      refine ag_laload (q := 39) (N := 403) rfl rfl (SX.a hS rfl) bd_4 ?_
      refine aw_lcmp (q := 40) rfl rfl ?_
      refine aw_if_ne (q := 43) (tgt := 49) rfl rfl (by decide) ⟨fun cd_5 => ?_, fun cd_5 => ?_⟩
      · replace h := h.1 cd_5
        refine aw_aload_n (q := 44) (j := 0) rfl rfl rfl (List.mem_of_getElem? (i := 0) rfl) ?_
        refine aw_iconst (q := 45) (v := 3) rfl rfl (by decide) ?_
        refine aw_iload_n (q := 46) (j := 1) rfl rfl rfl (List.mem_of_getElem? (i := 1) rfl) ?_
        refine ag_cvV (z := m_Mo_wrong) (ci := 11) (av := [.int _, .int _]) (st := []) (q := 49) (k' := 0) (n' := 0) rfl rfl cv_Mo_307 ⟨by decide, by decide⟩ rfl rfl (by decide) (by decide) (SX.o hS rfl) rfl rfl rfl (Nat.le_of_ble_eq_true rfl) ?_
        refine GV.mono h (fun t1_ h => ?_)
        refine aw_iinc (q := 52) (v := _ + 1) (ls' := [(2, .int _), (0, .ref _), (1, .int _)]) rfl rfl (List.mem_of_getElem? (i := 2) rfl) rfl (by decide) rfl ?_
        refine aw_goto (tgt := 12) rfl (by decide) ?_
        refine aw_ls [1, 2, 0] rfl ?_
        exact h
      · replace h := h.2 cd_5
        refine aw_iinc (q := 52) (v := _ + 1) (ls' := [(2, .int _), (0, .ref _), (1, .int _)]) rfl rfl (List.mem_of_getElem? (i := 2) rfl) rfl (by decide) rfl ?_
        refine aw_goto (tgt := 12) rfl (by decide) ?_
        refine aw_ls [1, 2, 0] rfl ?_
        exact h
    · replace h := h.2 cd_2
      refine aw_iload_n (q := 56) (j := 1) rfl rfl rfl (List.mem_of_getElem? (i := 1) rfl) ?_
      exact aw_ireturn (ty := .int) rfl rfl rfl (by decide) (by decide) h
set_option maxRecDepth 20000 in
theorem v_Mo_named {E : EN} {g : GS} {s : MS} {Q : Option Value → SG → Prop}  (hS : SX g) (h : GV E m_Mo_must [.ref 120, .int 1] g s (fun t1_ => AWP E m_Mo_named 12 0 0 [(0, .ref 120), (1, .int (s.1 120 11)), (2, .int 0)] [] (mk g t1_) Q)) : AMet E m_Mo_named [.ref 120] (mk g s) Q := by
  refine AMet.of (by decide) k_Mo_named [(0, .ref 120)] (Nat.le_of_ble_eq_true rfl) rfl ?_
  refine aw_aload_n (q := 1) (j := 0) rfl rfl rfl (List.mem_of_getElem? (i := 0) rfl) ?_
  refine ag_getI (q := 4) rfl rfl fl_Mo_230 rfl (SX.o hS rfl) ?_
  refine aw_istore_n (q := 5) (j := 1) (ls' := [(1, .int _), (0, .ref _)]) rfl rfl rfl (by decide) rfl ?_
  refine aw_aload_n (q := 6) (j := 0) rfl rfl rfl (List.mem_of_getElem? (i := 1) rfl) ?_
  refine aw_iconst (q := 7) (v := 1) rfl rfl (by decide) ?_
  refine ag_cvV (z := m_Mo_must) (ci := 11) (av := [.int _]) (st := []) (q := 10) (k' := 0) (n' := 0) rfl rfl cv_Mo_301 ⟨by decide, by decide⟩ rfl rfl (by decide) (by decide) (SX.o hS rfl) rfl rfl rfl (Nat.le_of_ble_eq_true rfl) ?_
  refine GV.mono h (fun t1_ h => ?_)
  refine aw_iconst (q := 11) (v := 0) rfl rfl (by decide) ?_
  refine aw_istore_n (q := 12) (j := 2) (ls' := [(2, .int _), (1, .int _), (0, .ref _)]) rfl rfl rfl (by decide) rfl ?_
  refine aw_ls [2, 1, 0] rfl ?_
  exact h
set_option maxRecDepth 20000 in
theorem v_Mo_must {E : EN} {g : GS} {s : MS} {Q : Option Value → SG → Prop} (x1 : Int32) (hS : SX g) (h : GI E m_Mo_is [.ref 120, .int x1] g s (fun y1_ t1_ => ((y1_ = 0 → GV E m_Mo_fail [.ref 120, .int 1] g t1_ (fun t2_ => Q none (mk g t2_))) ∧ (¬ y1_ = 0 → GV E m_Mo_goesOn [.ref 120] g t1_ (fun t3_ => Q none (mk g t3_)))))) : AMet E m_Mo_must [.ref 120, .int x1] (mk g s) Q := by
  refine AMet.of (by decide) k_Mo_must [(0, .ref 120), (1, .int x1)] (Nat.le_of_ble_eq_true rfl) rfl ?_
  refine aw_aload_n (q := 1) (j := 0) rfl rfl rfl (List.mem_of_getElem? (i := 0) rfl) ?_
  refine aw_iload_n (q := 2) (j := 1) rfl rfl rfl (List.mem_of_getElem? (i := 1) rfl) ?_
  refine ag_cvI (z := m_Mo_is) (ci := 11) (av := [.int _]) (st := []) (q := 5) (k' := 0) (n' := 0) rfl rfl cv_Mo_245 ⟨by decide, by decide⟩ rfl rfl (by decide) (by decide) (SX.o hS rfl) rfl rfl rfl (Nat.le_of_ble_eq_true rfl) ?_
  refine GI.mono h (fun y1_ t1_ h => ?_)
  refine aw_if_eq (q := 8) (tgt := 15) rfl rfl (by decide) ⟨fun cd_1 => ?_, fun cd_1 => ?_⟩
  · replace h := h.1 cd_1
    refine aw_aload_n (q := 16) (j := 0) rfl rfl rfl (List.mem_of_getElem? (i := 0) rfl) ?_
    refine aw_iconst (q := 17) (v := 1) rfl rfl (by decide) ?_
    refine ag_cvV (z := m_Mo_fail) (ci := 11) (av := [.int _]) (st := []) (q := 20) (k' := 0) (n' := 0) rfl rfl cv_Mo_242 ⟨by decide, by decide⟩ rfl rfl (by decide) (by decide) (SX.o hS rfl) rfl rfl rfl (Nat.le_of_ble_eq_true rfl) ?_
    refine GV.mono h (fun t2_ h => ?_)
    exact aw_return rfl rfl (by decide) (by decide) h
  · replace h := h.2 cd_1
    refine aw_aload_n (q := 9) (j := 0) rfl rfl rfl (List.mem_of_getElem? (i := 0) rfl) ?_
    refine ag_cvV (z := m_Mo_goesOn) (ci := 11) (av := []) (st := []) (q := 12) (k' := 0) (n' := 0) rfl rfl cv_Mo_248 ⟨by decide, by decide⟩ rfl rfl (by decide) (by decide) (SX.o hS rfl) rfl rfl rfl (Nat.le_of_ble_eq_true rfl) ?_
    refine GV.mono h (fun t3_ h => ?_)
    refine aw_goto (tgt := 20) rfl (by decide) ?_
    exact aw_return rfl rfl (by decide) (by decide) h
set_option maxRecDepth 20000 in
theorem v_Mo_wrong {E : EN} {g : GS} {s : MS} {Q : Option Value → SG → Prop} (x1 : Int32) (x2 : Int32) (hS : SX g) (h : vp_in x2 403 ∧ (((0 : Int32) < (s.1 120 13) → Q none (mk g s)) ∧ (¬ (0 : Int32) < (s.1 120 13) → (((s.1 120 15) = 0 → (∀ s1_, s1_ = wi s 120 15 x1 → (∀ s2_, s2_ = wi s1_ 120 16 (s.1 124 ((x2).toNatClampNeg)) → Q none (mk g s2_)))) ∧ (¬ (s.1 120 15) = 0 → (((s.1 120 16) < (s.1 124 ((x2).toNatClampNeg)) → Q none (mk g s)) ∧ (¬ (s.1 120 16) < (s.1 124 ((x2).toNatClampNeg)) → (((s.1 124 ((x2).toNatClampNeg)) = (s.1 120 16) → ((x1 < (s.1 120 15) → (∀ s3_, s3_ = wi s 120 15 x1 → (∀ s4_, s4_ = wi s3_ 120 16 (s.1 124 ((x2).toNatClampNeg)) → Q none (mk g s4_)))) ∧ (¬ x1 < (s.1 120 15) → Q none (mk g s)))) ∧ (¬ (s.1 124 ((x2).toNatClampNeg)) = (s.1 120 16) → (∀ s5_, s5_ = wi s 120 15 x1 → (∀ s6_, s6_ = wi s5_ 120 16 (s.1 124 ((x2).toNatClampNeg)) → Q none (mk g s6_)))))))))))) : AMet E m_Mo_wrong [.ref 120, .int x1, .int x2] (mk g s) Q := by
  refine AMet.of (by decide) k_Mo_wrong [(0, .ref 120), (1, .int x1), (2, .int x2)] (Nat.le_of_ble_eq_true rfl) rfl ?_
  refine aw_aload_n (q := 1) (j := 0) rfl rfl rfl (List.mem_of_getElem? (i := 0) rfl) ?_
  refine ag_getR (q := 4) rfl rfl fl_Mo_24 rfl (SX.o hS rfl) (SX.r hS rfl) ?_
  refine aw_iload_n (q := 5) (j := 2) rfl rfl rfl (List.mem_of_getElem? (i := 2) rfl) ?_
  obtain ⟨bd_1, h⟩ := h
  refine ag_iaload (q := 6) (N := 403) rfl rfl (SX.a hS rfl) bd_1 ?_
  refine aw_istore_n (q := 7) (j := 3) (ls' := [(3, .int _), (0, .ref _), (1, .int _), (2, .int _)]) rfl rfl rfl (by decide) rfl ?_
  refine aw_aload_n (q := 8) (j := 0) rfl rfl rfl (List.mem_of_getElem? (i := 1) rfl) ?_
  refine ag_getI (q := 11) rfl rfl fl_Mo_227 rfl (SX.o hS rfl) ?_
  refine aw_if_gt (q := 14) (tgt := 45) rfl rfl (by decide) ⟨fun cd_2 => ?_, fun cd_2 => ?_⟩
  · replace h := h.1 cd_2
    exact aw_return rfl rfl (by decide) (by decide) h
  · replace h := h.2 cd_2
    refine aw_aload_n (q := 15) (j := 0) rfl rfl rfl (List.mem_of_getElem? (i := 1) rfl) ?_
    refine ag_getI (q := 18) rfl rfl fl_Mo_236 rfl (SX.o hS rfl) ?_
    refine aw_if_eq (q := 21) (tgt := 46) rfl rfl (by decide) ⟨fun cd_3 => ?_, fun cd_3 => ?_⟩
    · replace h := h.1 cd_3
      refine aw_aload_n (q := 47) (j := 0) rfl rfl rfl (List.mem_of_getElem? (i := 1) rfl) ?_
      refine aw_iload_n (q := 48) (j := 1) rfl rfl rfl (List.mem_of_getElem? (i := 2) rfl) ?_
      refine ag_putI (q := 51) rfl rfl fl_Mo_236 rfl rfl (SX.o hS rfl) ?_
      replace h := h _ rfl
      refine aw_aload_n (q := 52) (j := 0) rfl rfl rfl (List.mem_of_getElem? (i := 1) rfl) ?_
      refine aw_iload_n (q := 53) (j := 3) rfl rfl rfl (List.mem_of_getElem? (i := 0) rfl) ?_
      refine ag_putI (q := 56) rfl rfl fl_Mo_239 rfl rfl (SX.o hS rfl) ?_
      replace h := h _ rfl
      exact aw_return rfl rfl (by decide) (by decide) h
    · replace h := h.2 cd_3
      refine aw_iload_n (q := 22) (j := 3) rfl rfl rfl (List.mem_of_getElem? (i := 0) rfl) ?_
      refine aw_aload_n (q := 23) (j := 0) rfl rfl rfl (List.mem_of_getElem? (i := 1) rfl) ?_
      refine ag_getI (q := 26) rfl rfl fl_Mo_239 rfl (SX.o hS rfl) ?_
      refine aw_icmp_gt (q := 29) (tgt := 45) rfl rfl (by decide) ⟨fun cd_4 => ?_, fun cd_4 => ?_⟩
      · replace h := h.1 cd_4
        exact aw_return rfl rfl (by decide) (by decide) h
      · replace h := h.2 cd_4
        refine aw_iload_n (q := 30) (j := 3) rfl rfl rfl (List.mem_of_getElem? (i := 0) rfl) ?_
        refine aw_aload_n (q := 31) (j := 0) rfl rfl rfl (List.mem_of_getElem? (i := 1) rfl) ?_
        refine ag_getI (q := 34) rfl rfl fl_Mo_239 rfl (SX.o hS rfl) ?_
        refine aw_icmp_ne (q := 37) (tgt := 46) rfl rfl (by decide) ⟨fun cd_5 => ?_, fun cd_5 => ?_⟩
        · replace h := h.1 cd_5
          refine aw_iload_n (q := 38) (j := 1) rfl rfl rfl (List.mem_of_getElem? (i := 2) rfl) ?_
          refine aw_aload_n (q := 39) (j := 0) rfl rfl rfl (List.mem_of_getElem? (i := 1) rfl) ?_
          refine ag_getI (q := 42) rfl rfl fl_Mo_236 rfl (SX.o hS rfl) ?_
          refine aw_icmp_lt (q := 45) (tgt := 46) rfl rfl (by decide) ⟨fun cd_6 => ?_, fun cd_6 => ?_⟩
          · replace h := h.1 cd_6
            refine aw_aload_n (q := 47) (j := 0) rfl rfl rfl (List.mem_of_getElem? (i := 1) rfl) ?_
            refine aw_iload_n (q := 48) (j := 1) rfl rfl rfl (List.mem_of_getElem? (i := 2) rfl) ?_
            refine ag_putI (q := 51) rfl rfl fl_Mo_236 rfl rfl (SX.o hS rfl) ?_
            replace h := h _ rfl
            refine aw_aload_n (q := 52) (j := 0) rfl rfl rfl (List.mem_of_getElem? (i := 1) rfl) ?_
            refine aw_iload_n (q := 53) (j := 3) rfl rfl rfl (List.mem_of_getElem? (i := 0) rfl) ?_
            refine ag_putI (q := 56) rfl rfl fl_Mo_239 rfl rfl (SX.o hS rfl) ?_
            replace h := h _ rfl
            exact aw_return rfl rfl (by decide) (by decide) h
          · replace h := h.2 cd_6
            exact aw_return rfl rfl (by decide) (by decide) h
        · replace h := h.2 cd_5
          refine aw_aload_n (q := 47) (j := 0) rfl rfl rfl (List.mem_of_getElem? (i := 1) rfl) ?_
          refine aw_iload_n (q := 48) (j := 1) rfl rfl rfl (List.mem_of_getElem? (i := 2) rfl) ?_
          refine ag_putI (q := 51) rfl rfl fl_Mo_236 rfl rfl (SX.o hS rfl) ?_
          replace h := h _ rfl
          refine aw_aload_n (q := 52) (j := 0) rfl rfl rfl (List.mem_of_getElem? (i := 1) rfl) ?_
          refine aw_iload_n (q := 53) (j := 3) rfl rfl rfl (List.mem_of_getElem? (i := 0) rfl) ?_
          refine ag_putI (q := 56) rfl rfl fl_Mo_239 rfl rfl (SX.o hS rfl) ?_
          replace h := h _ rfl
          exact aw_return rfl rfl (by decide) (by decide) h
set_option maxRecDepth 20000 in
theorem v_Mo_bounded {E : EN} {g : GS} {s : MS} {Q : Option Value → SG → Prop} (x1 : Int32) (x2 : Int32) (hS : SX g) (h : (((0 : Int32) < (s.1 120 13) → GV E m_Mo_fail [.ref 120, .int 1] g s (fun t1_ => Q (some (.int x1)) (mk g t1_))) ∧ (¬ (0 : Int32) < (s.1 120 13) → GI E m_Mo_is [.ref 120, .int 2] g s (fun y2_ t2_ => ((y2_ = 0 → GV E m_Mo_fail [.ref 120, .int 1] g t2_ (fun t3_ => Q (some (.int x1)) (mk g t3_))) ∧ (¬ y2_ = 0 → vp_in (t2_.1 120 11) 403 ∧ (((t2_.1 125 (((t2_.1 120 11)).toNatClampNeg)) < x1 → GV E m_Mo_wrong [.ref 120, .int 5, .int (t2_.1 120 11)] g t2_ (fun t4_ => GV E m_Mo_goesOn [.ref 120] g t4_ (fun t5_ => Q (some (.int (t2_.1 125 (((t2_.1 120 11)).toNatClampNeg)))) (mk g t5_)))) ∧ (¬ (t2_.1 125 (((t2_.1 120 11)).toNatClampNeg)) < x1 → (((t2_.1 125 (((t2_.1 120 11)).toNatClampNeg)) ≤ x2 → GV E m_Mo_goesOn [.ref 120] g t2_ (fun t6_ => Q (some (.int (t2_.1 125 (((t2_.1 120 11)).toNatClampNeg)))) (mk g t6_))) ∧ (¬ (t2_.1 125 (((t2_.1 120 11)).toNatClampNeg)) ≤ x2 → GV E m_Mo_wrong [.ref 120, .int 5, .int (t2_.1 120 11)] g t2_ (fun t7_ => GV E m_Mo_goesOn [.ref 120] g t7_ (fun t8_ => Q (some (.int (t2_.1 125 (((t2_.1 120 11)).toNatClampNeg)))) (mk g t8_))))))))))))) : AMet E m_Mo_bounded [.ref 120, .int x1, .int x2] (mk g s) Q := by
  refine AMet.of (by decide) k_Mo_bounded [(0, .ref 120), (1, .int x1), (2, .int x2)] (Nat.le_of_ble_eq_true rfl) rfl ?_
  refine aw_aload_n (q := 1) (j := 0) rfl rfl rfl (List.mem_of_getElem? (i := 0) rfl) ?_
  refine ag_getI (q := 4) rfl rfl fl_Mo_227 rfl (SX.o hS rfl) ?_
  refine aw_if_gt (q := 7) (tgt := 15) rfl rfl (by decide) ⟨fun cd_1 => ?_, fun cd_1 => ?_⟩
  · replace h := h.1 cd_1
    refine aw_aload_n (q := 16) (j := 0) rfl rfl rfl (List.mem_of_getElem? (i := 0) rfl) ?_
    refine aw_iconst (q := 17) (v := 1) rfl rfl (by decide) ?_
    refine ag_cvV (z := m_Mo_fail) (ci := 11) (av := [.int _]) (st := []) (q := 20) (k' := 0) (n' := 0) rfl rfl cv_Mo_242 ⟨by decide, by decide⟩ rfl rfl (by decide) (by decide) (SX.o hS rfl) rfl rfl rfl (Nat.le_of_ble_eq_true rfl) ?_
    refine GV.mono h (fun t1_ h => ?_)
    refine aw_iload_n (q := 21) (j := 1) rfl rfl rfl (List.mem_of_getElem? (i := 1) rfl) ?_
    exact aw_ireturn (ty := .int) rfl rfl rfl (by decide) (by decide) h
  · replace h := h.2 cd_1
    refine aw_aload_n (q := 8) (j := 0) rfl rfl rfl (List.mem_of_getElem? (i := 0) rfl) ?_
    refine aw_iconst (q := 9) (v := 2) rfl rfl (by decide) ?_
    refine ag_cvI (z := m_Mo_is) (ci := 11) (av := [.int _]) (st := []) (q := 12) (k' := 0) (n' := 0) rfl rfl cv_Mo_245 ⟨by decide, by decide⟩ rfl rfl (by decide) (by decide) (SX.o hS rfl) rfl rfl rfl (Nat.le_of_ble_eq_true rfl) ?_
    refine GI.mono h (fun y2_ t2_ h => ?_)
    refine aw_if_ne (q := 15) (tgt := 22) rfl rfl (by decide) ⟨fun cd_2 => ?_, fun cd_2 => ?_⟩
    · replace h := h.1 cd_2
      refine aw_aload_n (q := 16) (j := 0) rfl rfl rfl (List.mem_of_getElem? (i := 0) rfl) ?_
      refine aw_iconst (q := 17) (v := 1) rfl rfl (by decide) ?_
      refine ag_cvV (z := m_Mo_fail) (ci := 11) (av := [.int _]) (st := []) (q := 20) (k' := 0) (n' := 0) rfl rfl cv_Mo_242 ⟨by decide, by decide⟩ rfl rfl (by decide) (by decide) (SX.o hS rfl) rfl rfl rfl (Nat.le_of_ble_eq_true rfl) ?_
      refine GV.mono h (fun t3_ h => ?_)
      refine aw_iload_n (q := 21) (j := 1) rfl rfl rfl (List.mem_of_getElem? (i := 1) rfl) ?_
      exact aw_ireturn (ty := .int) rfl rfl rfl (by decide) (by decide) h
    · replace h := h.2 cd_2
      refine aw_aload_n (q := 23) (j := 0) rfl rfl rfl (List.mem_of_getElem? (i := 0) rfl) ?_
      refine ag_getR (q := 26) rfl rfl fl_Mo_27 rfl (SX.o hS rfl) (SX.r hS rfl) ?_
      refine aw_aload_n (q := 27) (j := 0) rfl rfl rfl (List.mem_of_getElem? (i := 0) rfl) ?_
      refine ag_getI (q := 30) rfl rfl fl_Mo_230 rfl (SX.o hS rfl) ?_
      obtain ⟨bd_3, h⟩ := h
      refine ag_iaload (q := 31) (N := 403) rfl rfl (SX.a hS rfl) bd_3 ?_
      refine aw_istore_n (q := 32) (j := 3) (ls' := [(3, .int _), (0, .ref _), (1, .int _), (2, .int _)]) rfl rfl rfl (by decide) rfl ?_
      refine aw_iload_n (q := 33) (j := 3) rfl rfl rfl (List.mem_of_getElem? (i := 0) rfl) ?_
      refine aw_iload_n (q := 34) (j := 1) rfl rfl rfl (List.mem_of_getElem? (i := 2) rfl) ?_
      refine aw_icmp_lt (q := 37) (tgt := 42) rfl rfl (by decide) ⟨fun cd_4 => ?_, fun cd_4 => ?_⟩
      · replace h := h.1 cd_4
        refine aw_aload_n (q := 43) (j := 0) rfl rfl rfl (List.mem_of_getElem? (i := 1) rfl) ?_
        refine aw_iconst (q := 44) (v := 5) rfl rfl (by decide) ?_
        refine aw_aload_n (q := 45) (j := 0) rfl rfl rfl (List.mem_of_getElem? (i := 1) rfl) ?_
        refine ag_getI (q := 48) rfl rfl fl_Mo_230 rfl (SX.o hS rfl) ?_
        refine ag_cvV (z := m_Mo_wrong) (ci := 11) (av := [.int _, .int _]) (st := []) (q := 51) (k' := 0) (n' := 0) rfl rfl cv_Mo_307 ⟨by decide, by decide⟩ rfl rfl (by decide) (by decide) (SX.o hS rfl) rfl rfl rfl (Nat.le_of_ble_eq_true rfl) ?_
        refine GV.mono h (fun t4_ h => ?_)
        refine aw_aload_n (q := 52) (j := 0) rfl rfl rfl (List.mem_of_getElem? (i := 1) rfl) ?_
        refine ag_cvV (z := m_Mo_goesOn) (ci := 11) (av := []) (st := []) (q := 55) (k' := 0) (n' := 0) rfl rfl cv_Mo_248 ⟨by decide, by decide⟩ rfl rfl (by decide) (by decide) (SX.o hS rfl) rfl rfl rfl (Nat.le_of_ble_eq_true rfl) ?_
        refine GV.mono h (fun t5_ h => ?_)
        refine aw_iload_n (q := 56) (j := 3) rfl rfl rfl (List.mem_of_getElem? (i := 0) rfl) ?_
        exact aw_ireturn (ty := .int) rfl rfl rfl (by decide) (by decide) h
      · replace h := h.2 cd_4
        refine aw_iload_n (q := 38) (j := 3) rfl rfl rfl (List.mem_of_getElem? (i := 0) rfl) ?_
        refine aw_iload_n (q := 39) (j := 2) rfl rfl rfl (List.mem_of_getElem? (i := 3) rfl) ?_
        refine aw_icmp_le (q := 42) (tgt := 51) rfl rfl (by decide) ⟨fun cd_5 => ?_, fun cd_5 => ?_⟩
        · replace h := h.1 cd_5
          refine aw_aload_n (q := 52) (j := 0) rfl rfl rfl (List.mem_of_getElem? (i := 1) rfl) ?_
          refine ag_cvV (z := m_Mo_goesOn) (ci := 11) (av := []) (st := []) (q := 55) (k' := 0) (n' := 0) rfl rfl cv_Mo_248 ⟨by decide, by decide⟩ rfl rfl (by decide) (by decide) (SX.o hS rfl) rfl rfl rfl (Nat.le_of_ble_eq_true rfl) ?_
          refine GV.mono h (fun t6_ h => ?_)
          refine aw_iload_n (q := 56) (j := 3) rfl rfl rfl (List.mem_of_getElem? (i := 0) rfl) ?_
          exact aw_ireturn (ty := .int) rfl rfl rfl (by decide) (by decide) h
        · replace h := h.2 cd_5
          refine aw_aload_n (q := 43) (j := 0) rfl rfl rfl (List.mem_of_getElem? (i := 1) rfl) ?_
          refine aw_iconst (q := 44) (v := 5) rfl rfl (by decide) ?_
          refine aw_aload_n (q := 45) (j := 0) rfl rfl rfl (List.mem_of_getElem? (i := 1) rfl) ?_
          refine ag_getI (q := 48) rfl rfl fl_Mo_230 rfl (SX.o hS rfl) ?_
          refine ag_cvV (z := m_Mo_wrong) (ci := 11) (av := [.int _, .int _]) (st := []) (q := 51) (k' := 0) (n' := 0) rfl rfl cv_Mo_307 ⟨by decide, by decide⟩ rfl rfl (by decide) (by decide) (SX.o hS rfl) rfl rfl rfl (Nat.le_of_ble_eq_true rfl) ?_
          refine GV.mono h (fun t7_ h => ?_)
          refine aw_aload_n (q := 52) (j := 0) rfl rfl rfl (List.mem_of_getElem? (i := 1) rfl) ?_
          refine ag_cvV (z := m_Mo_goesOn) (ci := 11) (av := []) (st := []) (q := 55) (k' := 0) (n' := 0) rfl rfl cv_Mo_248 ⟨by decide, by decide⟩ rfl rfl (by decide) (by decide) (SX.o hS rfl) rfl rfl rfl (Nat.le_of_ble_eq_true rfl) ?_
          refine GV.mono h (fun t8_ h => ?_)
          refine aw_iload_n (q := 56) (j := 3) rfl rfl rfl (List.mem_of_getElem? (i := 0) rfl) ?_
          exact aw_ireturn (ty := .int) rfl rfl rfl (by decide) (by decide) h
