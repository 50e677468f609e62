/-! walks of the methods, by program (vcgen.py) -/
set_option maxRecDepth 20000 in
theorem v_Laws_addStep {E : EN} {g : GS} {s : MS} {Q : Option Value → SG → Prop} (w : Nat) (x1 : Int32) (h_w : LW g w) (h : ((400 ≤ (s.1 w 4) → Q none (mk g s)) ∧ (¬ 400 ≤ (s.1 w 4) → vp_in (s.1 w 4) 400 ∧ (∀ s1_, s1_ = wi s (w + 1) (((s.1 w 4)).toNatClampNeg) x1 → (∀ s2_, s2_ = wi s1_ w 4 ((s1_.1 w 4) + 1) → Q none (mk g s2_)))))) : AMet E m_Laws_addStep [.ref w, .int x1] (mk g s) Q := by
  refine AMet.of (by decide) k_Laws_addStep [(0, .ref w), (1, .int x1)] (Nat.le_of_ble_eq_true rfl) rfl ?_
  refine aw_aload_n (q := 1) (j := 0) rfl rfl rfl (List.mem_of_getElem? (i := 0) rfl) ?_
  refine ag_getI (q := 4) rfl rfl fl_Laws_24 rfl (LW.o h_w) ?_
  refine aw_sipush (q := 7) (v := 400) rfl rfl (by decide) ?_
  refine aw_icmp_ge (q := 10) (tgt := 30) rfl rfl (by decide) ⟨fun cd_1 => ?_, fun cd_1 => ?_⟩
  · replace h := h.1 cd_1
    exact aw_return rfl rfl (by decide) (by decide) h
  · replace h := h.2 cd_1
    refine aw_aload_n (q := 11) (j := 0) rfl rfl rfl (List.mem_of_getElem? (i := 0) rfl) ?_
    refine ag_getR (q := 14) rfl rfl fl_Laws_11 rfl (LW.o h_w) (LW.r0 h_w) ?_
    refine aw_aload_n (q := 15) (j := 0) rfl rfl rfl (List.mem_of_getElem? (i := 0) rfl) ?_
    refine ag_getI (q := 18) rfl rfl fl_Laws_24 rfl (LW.o h_w) ?_
    refine aw_iload_n (q := 19) (j := 1) rfl rfl rfl (List.mem_of_getElem? (i := 1) rfl) ?_
    obtain ⟨bd_2, h⟩ := h
    refine ag_iastore (q := 20) (N := 400) rfl rfl (LW.a0 h_w) bd_2 ?_
    replace h := h _ rfl
    refine aw_aload_n (q := 21) (j := 0) rfl rfl rfl (List.mem_of_getElem? (i := 0) rfl) ?_
    refine aw_dup (q := 22) rfl rfl rfl ?_
    refine ag_getI (q := 25) rfl rfl fl_Laws_24 rfl (LW.o h_w) ?_
    refine aw_iconst (q := 26) (v := 1) rfl rfl (by decide) ?_
    refine aw_iadd (q := 27) rfl rfl ?_
    refine ag_putI (q := 30) rfl rfl fl_Laws_24 rfl rfl (LW.o h_w) ?_
    replace h := h _ rfl
    exact aw_return rfl rfl (by decide) (by decide) h
set_option maxRecDepth 20000 in
theorem v_Laws_addWaiting {E : EN} {g : GS} {s : MS} {Q : Option Value → SG → Prop} (w : Nat) (x1 : Int32) (h_w : LW g w) (h : ((32 ≤ (s.1 w 5) → Q none (mk g s)) ∧ (¬ 32 ≤ (s.1 w 5) → vp_in (s.1 w 5) 32 ∧ (∀ s1_, s1_ = wi s (w + 3) (((s.1 w 5)).toNatClampNeg) x1 → (∀ s2_, s2_ = wi s1_ w 5 ((s1_.1 w 5) + 1) → Q none (mk g s2_)))))) : AMet E m_Laws_addWaiting [.ref w, .int x1] (mk g s) Q := by
  refine AMet.of (by decide) k_Laws_addWaiting [(0, .ref w), (1, .int x1)] (Nat.le_of_ble_eq_true rfl) rfl ?_
  refine aw_aload_n (q := 1) (j := 0) rfl rfl rfl (List.mem_of_getElem? (i := 0) rfl) ?_
  refine ag_getI (q := 4) rfl rfl fl_Laws_28 rfl (LW.o h_w) ?_
  refine aw_bipush (q := 6) (v := 32) rfl rfl (by decide) ?_
  refine aw_icmp_ge (q := 9) (tgt := 29) rfl rfl (by decide) ⟨fun cd_1 => ?_, fun cd_1 => ?_⟩
  · replace h := h.1 cd_1
    exact aw_return rfl rfl (by decide) (by decide) h
  · replace h := h.2 cd_1
    refine aw_aload_n (q := 10) (j := 0) rfl rfl rfl (List.mem_of_getElem? (i := 0) rfl) ?_
    refine ag_getR (q := 13) rfl rfl fl_Laws_18 rfl (LW.o h_w) (LW.r2 h_w) ?_
    refine aw_aload_n (q := 14) (j := 0) rfl rfl rfl (List.mem_of_getElem? (i := 0) rfl) ?_
    refine ag_getI (q := 17) rfl rfl fl_Laws_28 rfl (LW.o h_w) ?_
    refine aw_iload_n (q := 18) (j := 1) rfl rfl rfl (List.mem_of_getElem? (i := 1) rfl) ?_
    obtain ⟨bd_2, h⟩ := h
    refine ag_iastore (q := 19) (N := 32) rfl rfl (LW.a2 h_w) bd_2 ?_
    replace h := h _ rfl
    refine aw_aload_n (q := 20) (j := 0) rfl rfl rfl (List.mem_of_getElem? (i := 0) rfl) ?_
    refine aw_dup (q := 21) rfl rfl rfl ?_
    refine ag_getI (q := 24) rfl rfl fl_Laws_28 rfl (LW.o h_w) ?_
    refine aw_iconst (q := 25) (v := 1) rfl rfl (by decide) ?_
    refine aw_iadd (q := 26) rfl rfl ?_
    refine ag_putI (q := 29) rfl rfl fl_Laws_28 rfl rfl (LW.o h_w) ?_
    replace h := h _ rfl
    exact aw_return rfl rfl (by decide) (by decide) h
set_option maxRecDepth 20000 in
theorem v_Laws_writeWaiting_0 {E : EN} {g : GS} {s : MS} {Q : Option Value → SG → Prop} (w : Nat) (x1 : Int32) (h_w : LW g w) (h : (((s.1 w 5) ≤ 0 → Q none (mk g s)) ∧ (¬ (s.1 w 5) ≤ 0 → vp_in ((s.1 w 5) - 1) 32 ∧ (((s.1 (w + 3) ((((s.1 w 5) - 1)).toNatClampNeg)) = 31 → Q none (mk g s)) ∧ (¬ (s.1 (w + 3) ((((s.1 w 5) - 1)).toNatClampNeg)) = 31 → GI E m_Laws_rankOf [.int (s.1 (w + 3) ((((s.1 w 5) - 1)).toNatClampNeg))] g s (fun y1_ t1_ => ((y1_ < x1 → Q none (mk g t1_)) ∧ (¬ y1_ < x1 → (∀ s2_, s2_ = wi t1_ w 5 ((t1_.1 w 5) - 1) → vp_in (s2_.1 w 5) 32 ∧ GV E m_Laws_addStep [.ref w, .int (-(s2_.1 (w + 3) (((s2_.1 w 5)).toNatClampNeg)))] g s2_ (fun t3_ => AWP E m_Laws_writeWaiting 0 0 0 [(0, .ref w), (1, .int x1)] [] (mk g t3_) Q)))))))))) : AWP E m_Laws_writeWaiting 0 0 0 [(0, .ref w), (1, .int x1)] [] (mk g s) Q := by
  refine aw_aload_n (q := 1) (j := 0) rfl rfl rfl (List.mem_of_getElem? (i := 0) rfl) ?_
  refine ag_getI (q := 4) rfl rfl fl_Laws_28 rfl (LW.o h_w) ?_
  refine aw_if_le (q := 7) (tgt := 68) rfl rfl (by decide) ⟨fun cd_1 => ?_, fun cd_1 => ?_⟩
  · replace h := h.1 cd_1
    exact aw_return rfl rfl (by decide) (by decide) h
  · replace h := h.2 cd_1
    refine aw_aload_n (q := 8) (j := 0) rfl rfl rfl (List.mem_of_getElem? (i := 0) rfl) ?_
    refine ag_getR (q := 11) rfl rfl fl_Laws_18 rfl (LW.o h_w) (LW.r2 h_w) ?_
    refine aw_aload_n (q := 12) (j := 0) rfl rfl rfl (List.mem_of_getElem? (i := 0) rfl) ?_
    refine ag_getI (q := 15) rfl rfl fl_Laws_28 rfl (LW.o h_w) ?_
    refine aw_iconst (q := 16) (v := 1) rfl rfl (by decide) ?_
    refine aw_isub (q := 17) rfl rfl ?_
    obtain ⟨bd_2, h⟩ := h
    refine ag_iaload (q := 18) (N := 32) rfl rfl (LW.a2 h_w) bd_2 ?_
    refine aw_bipush (q := 20) (v := 31) rfl rfl (by decide) ?_
    refine aw_icmp_eq (q := 23) (tgt := 68) rfl rfl (by decide) ⟨fun cd_3 => ?_, fun cd_3 => ?_⟩
    · replace h := h.1 cd_3
      exact aw_return rfl rfl (by decide) (by decide) h
    · replace h := h.2 cd_3
      refine aw_aload_n (q := 24) (j := 0) rfl rfl rfl (List.mem_of_getElem? (i := 0) rfl) ?_
      refine ag_getR (q := 27) rfl rfl fl_Laws_18 rfl (LW.o h_w) (LW.r2 h_w) ?_
      refine aw_aload_n (q := 28) (j := 0) rfl rfl rfl (List.mem_of_getElem? (i := 0) rfl) ?_
      refine ag_getI (q := 31) rfl rfl fl_Laws_28 rfl (LW.o h_w) ?_
      refine aw_iconst (q := 32) (v := 1) rfl rfl (by decide) ?_
      refine aw_isub (q := 33) rfl rfl ?_
      refine ag_iaload (q := 34) (N := 32) rfl rfl (LW.a2 h_w) bd_2 ?_
      refine ag_csI (z := m_Laws_rankOf) (av := [.int _]) (st := []) (q := 37) (k' := 0) (n' := 0) rfl rfl cs_Laws_66 ⟨by decide, by decide⟩ rfl rfl (by decide) (by decide) rfl rfl (Nat.le_of_ble_eq_true rfl) ?_
      refine GI.mono h (fun y1_ t1_ h => ?_)
      refine aw_iload_n (q := 38) (j := 1) rfl rfl rfl (List.mem_of_getElem? (i := 1) rfl) ?_
      refine aw_icmp_lt (q := 41) (tgt := 68) rfl rfl (by decide) ⟨fun cd_4 => ?_, fun cd_4 => ?_⟩
      · replace h := h.1 cd_4
        exact aw_return rfl rfl (by decide) (by decide) h
      · replace h := h.2 cd_4
        refine aw_aload_n (q := 42) (j := 0) rfl rfl rfl (List.mem_of_getElem? (i := 0) rfl) ?_
        refine aw_dup (q := 43) rfl rfl rfl ?_
        refine ag_getI (q := 46) rfl rfl fl_Laws_28 rfl (LW.o h_w) ?_
        refine aw_iconst (q := 47) (v := 1) rfl rfl (by decide) ?_
        refine aw_isub (q := 48) rfl rfl ?_
        refine ag_putI (q := 51) rfl rfl fl_Laws_28 rfl rfl (LW.o h_w) ?_
        replace h := h _ rfl
        refine aw_aload_n (q := 52) (j := 0) rfl rfl rfl (List.mem_of_getElem? (i := 0) rfl) ?_
        refine aw_aload_n (q := 53) (j := 0) rfl rfl rfl (List.mem_of_getElem? (i := 0) rfl) ?_
        refine ag_getR (q := 56) rfl rfl fl_Laws_18 rfl (LW.o h_w) (LW.r2 h_w) ?_
        refine aw_aload_n (q := 57) (j := 0) rfl rfl rfl (List.mem_of_getElem? (i := 0) rfl) ?_
        refine ag_getI (q := 60) rfl rfl fl_Laws_28 rfl (LW.o h_w) ?_
        obtain ⟨bd_5, h⟩ := h
        refine ag_iaload (q := 61) (N := 32) rfl rfl (LW.a2 h_w) bd_5 ?_
        refine aw_ineg (q := 62) rfl rfl ?_
        refine ag_cvV (z := m_Laws_addStep) (ci := 3) (av := [.int _]) (st := []) (q := 65) (k' := 0) (n' := 0) rfl rfl cv_Laws_50 ⟨by decide, by decide⟩ rfl rfl (by decide) (by decide) (LW.o h_w) rfl rfl rfl (Nat.le_of_ble_eq_true rfl) ?_
        refine GV.mono h (fun t3_ h => ?_)
        refine aw_goto (tgt := 0) rfl (by decide) ?_
        refine aw_ls [0, 1] rfl ?_
        exact h
set_option maxRecDepth 20000 in
theorem v_Laws_writeWaiting {E : EN} {g : GS} {s : MS} {Q : Option Value → SG → Prop} (w : Nat) (x1 : Int32) (h_w : LW g w) (h : (((s.1 w 5) ≤ 0 → Q none (mk g s)) ∧ (¬ (s.1 w 5) ≤ 0 → vp_in ((s.1 w 5) - 1) 32 ∧ (((s.1 (w + 3) ((((s.1 w 5) - 1)).toNatClampNeg)) = 31 → Q none (mk g s)) ∧ (¬ (s.1 (w + 3) ((((s.1 w 5) - 1)).toNatClampNeg)) = 31 → GI E m_Laws_rankOf [.int (s.1 (w + 3) ((((s.1 w 5) - 1)).toNatClampNeg))] g s (fun y1_ t1_ => ((y1_ < x1 → Q none (mk g t1_)) ∧ (¬ y1_ < x1 → (∀ s2_, s2_ = wi t1_ w 5 ((t1_.1 w 5) - 1) → vp_in (s2_.1 w 5) 32 ∧ GV E m_Laws_addStep [.ref w, .int (-(s2_.1 (w + 3) (((s2_.1 w 5)).toNatClampNeg)))] g s2_ (fun t3_ => AWP E m_Laws_writeWaiting 0 0 0 [(0, .ref w), (1, .int x1)] [] (mk g t3_) Q)))))))))) : AMet E m_Laws_writeWaiting [.ref w, .int x1] (mk g s) Q := by
  refine AMet.of (by decide) k_Laws_writeWaiting [(0, .ref w), (1, .int x1)] (Nat.le_of_ble_eq_true rfl) rfl ?_
  refine aw_aload_n (q := 1) (j := 0) rfl rfl rfl (List.mem_of_getElem? (i := 0) rfl) ?_
  refine ag_getI (q := 4) rfl rfl fl_Laws_28 rfl (LW.o h_w) ?_
  refine aw_if_le (q := 7) (tgt := 68) rfl rfl (by decide) ⟨fun cd_1 => ?_, fun cd_1 => ?_⟩
  · replace h := h.1 cd_1
    exact aw_return rfl rfl (by decide) (by decide) h
  · replace h := h.2 cd_1
    refine aw_aload_n (q := 8) (j := 0) rfl rfl rfl (List.mem_of_getElem? (i := 0) rfl) ?_
    refine ag_getR (q := 11) rfl rfl fl_Laws_18 rfl (LW.o h_w) (LW.r2 h_w) ?_
    refine aw_aload_n (q := 12) (j := 0) rfl rfl rfl (List.mem_of_getElem? (i := 0) rfl) ?_
    refine ag_getI (q := 15) rfl rfl fl_Laws_28 rfl (LW.o h_w) ?_
    refine aw_iconst (q := 16) (v := 1) rfl rfl (by decide) ?_
    refine aw_isub (q := 17) rfl rfl ?_
    obtain ⟨bd_2, h⟩ := h
    refine ag_iaload (q := 18) (N := 32) rfl rfl (LW.a2 h_w) bd_2 ?_
    refine aw_bipush (q := 20) (v := 31) rfl rfl (by decide) ?_
    refine aw_icmp_eq (q := 23) (tgt := 68) rfl rfl (by decide) ⟨fun cd_3 => ?_, fun cd_3 => ?_⟩
    · replace h := h.1 cd_3
      exact aw_return rfl rfl (by decide) (by decide) h
    · replace h := h.2 cd_3
      refine aw_aload_n (q := 24) (j := 0) rfl rfl rfl (List.mem_of_getElem? (i := 0) rfl) ?_
      refine ag_getR (q := 27) rfl rfl fl_Laws_18 rfl (LW.o h_w) (LW.r2 h_w) ?_
      refine aw_aload_n (q := 28) (j := 0) rfl rfl rfl (List.mem_of_getElem? (i := 0) rfl) ?_
      refine ag_getI (q := 31) rfl rfl fl_Laws_28 rfl (LW.o h_w) ?_
      refine aw_iconst (q := 32) (v := 1) rfl rfl (by decide) ?_
      refine aw_isub (q := 33) rfl rfl ?_
      refine ag_iaload (q := 34) (N := 32) rfl rfl (LW.a2 h_w) bd_2 ?_
      refine ag_csI (z := m_Laws_rankOf) (av := [.int _]) (st := []) (q := 37) (k' := 0) (n' := 0) rfl rfl cs_Laws_66 ⟨by decide, by decide⟩ rfl rfl (by decide) (by decide) rfl rfl (Nat.le_of_ble_eq_true rfl) ?_
      refine GI.mono h (fun y1_ t1_ h => ?_)
      refine aw_iload_n (q := 38) (j := 1) rfl rfl rfl (List.mem_of_getElem? (i := 1) rfl) ?_
      refine aw_icmp_lt (q := 41) (tgt := 68) rfl rfl (by decide) ⟨fun cd_4 => ?_, fun cd_4 => ?_⟩
      · replace h := h.1 cd_4
        exact aw_return rfl rfl (by decide) (by decide) h
      · replace h := h.2 cd_4
        refine aw_aload_n (q := 42) (j := 0) rfl rfl rfl (List.mem_of_getElem? (i := 0) rfl) ?_
        refine aw_dup (q := 43) rfl rfl rfl ?_
        refine ag_getI (q := 46) rfl rfl fl_Laws_28 rfl (LW.o h_w) ?_
        refine aw_iconst (q := 47) (v := 1) rfl rfl (by decide) ?_
        refine aw_isub (q := 48) rfl rfl ?_
        refine ag_putI (q := 51) rfl rfl fl_Laws_28 rfl rfl (LW.o h_w) ?_
        replace h := h _ rfl
        refine aw_aload_n (q := 52) (j := 0) rfl rfl rfl (List.mem_of_getElem? (i := 0) rfl) ?_
        refine aw_aload_n (q := 53) (j := 0) rfl rfl rfl (List.mem_of_getElem? (i := 0) rfl) ?_
        refine ag_getR (q := 56) rfl rfl fl_Laws_18 rfl (LW.o h_w) (LW.r2 h_w) ?_
        refine aw_aload_n (q := 57) (j := 0) rfl rfl rfl (List.mem_of_getElem? (i := 0) rfl) ?_
        refine ag_getI (q := 60) rfl rfl fl_Laws_28 rfl (LW.o h_w) ?_
        obtain ⟨bd_5, h⟩ := h
        refine ag_iaload (q := 61) (N := 32) rfl rfl (LW.a2 h_w) bd_5 ?_
        refine aw_ineg (q := 62) rfl rfl ?_
        refine ag_cvV (z := m_Laws_addStep) (ci := 3) (av := [.int _]) (st := []) (q := 65) (k' := 0) (n' := 0) rfl rfl cv_Laws_50 ⟨by decide, by decide⟩ rfl rfl (by decide) (by decide) (LW.o h_w) rfl rfl rfl (Nat.le_of_ble_eq_true rfl) ?_
        refine GV.mono h (fun t3_ h => ?_)
        refine aw_goto (tgt := 0) rfl (by decide) ?_
        refine aw_ls [0, 1] rfl ?_
        exact h
set_option maxRecDepth 20000 in
theorem v_Laws_rankOf {E : EN} {g : GS} {s : MS} {Q : Option Value → SG → Prop} (x0 : Int32) (h : ((x0 = 28 → Q (some (.int 2)) (mk g s)) ∧ (¬ x0 = 28 → ((x0 = 29 → Q (some (.int 2)) (mk g s)) ∧ (¬ x0 = 29 → Q (some (.int 1)) (mk g s)))))) : AMet E m_Laws_rankOf [.int x0] (mk g s) Q := by
  refine AMet.of (by decide) k_Laws_rankOf [(0, .int x0)] (Nat.le_of_ble_eq_true rfl) rfl ?_
  refine aw_iload_n (q := 1) (j := 0) rfl rfl rfl (List.mem_of_getElem? (i := 0) rfl) ?_
  refine aw_bipush (q := 3) (v := 28) rfl rfl (by decide) ?_
  refine aw_icmp_eq (q := 6) (tgt := 12) rfl rfl (by decide) ⟨fun cd_1 => ?_, fun cd_1 => ?_⟩
  · replace h := h.1 cd_1
    refine aw_iconst (q := 13) (v := 2) rfl rfl (by decide) ?_
    refine aw_goto (tgt := 17) rfl (by decide) ?_
    exact aw_ireturn (ty := .int) rfl rfl rfl (by decide) (by decide) h
  · replace h := h.2 cd_1
    refine aw_iload_n (q := 7) (j := 0) rfl rfl rfl (List.mem_of_getElem? (i := 0) rfl) ?_
    refine aw_bipush (q := 9) (v := 29) rfl rfl (by decide) ?_
    refine aw_icmp_ne (q := 12) (tgt := 16) rfl rfl (by decide) ⟨fun cd_2 => ?_, fun cd_2 => ?_⟩
    · replace h := h.1 cd_2
      refine aw_iconst (q := 13) (v := 2) rfl rfl (by decide) ?_
      refine aw_goto (tgt := 17) rfl (by decide) ?_
      exact aw_ireturn (ty := .int) rfl rfl rfl (by decide) (by decide) h
    · replace h := h.2 cd_2
      refine aw_iconst (q := 17) (v := 1) rfl rfl (by decide) ?_
      exact aw_ireturn (ty := .int) rfl rfl rfl (by decide) (by decide) h
set_option maxRecDepth 20000 in
theorem v_Laws_valueOf_23 {E : EN} {g : GS} {s : MS} {Q : Option Value → SG → Prop} (w : Nat) (x1 : Int32) (x3 : Int32) (x4 : Int32) (x5 : Int32) (h_w : LW g w) (h : ((400 ≤ x5 → AWP E m_Laws_valueOf 261 0 0 [(0, .ref w), (1, .int x1), (2, .ref 30), (3, .int x3), (4, .int x4), (5, .int x5)] [] (mk g s) Q) ∧ (¬ 400 ≤ x5 → ((x3 < 0 → AWP E m_Laws_valueOf 261 0 0 [(0, .ref w), (1, .int x1), (2, .ref 30), (3, .int x3), (4, .int x4), (5, .int x5)] [] (mk g s) Q) ∧ (¬ x3 < 0 → (((s.1 w 4) ≤ x3 → AWP E m_Laws_valueOf 261 0 0 [(0, .ref w), (1, .int x1), (2, .ref 30), (3, .int x3), (4, .int x4), (5, .int x5)] [] (mk g s) Q) ∧ (¬ (s.1 w 4) ≤ x3 → vp_in x3 400 ∧ (((s.1 (w + 1) ((x3).toNatClampNeg)) = (-24) → ((x4 ≤ 0 → Q (some (.int 0)) (mk g s)) ∧ (¬ x4 ≤ 0 → vp_in (x4 - 1) 32 ∧ Q (some (.int (s.1 (w + 4) (((x4 - 1)).toNatClampNeg)))) (mk g s)))) ∧ (¬ (s.1 (w + 1) ((x3).toNatClampNeg)) = (-24) → (((-17) < (s.1 (w + 1) ((x3).toNatClampNeg)) → AWP E m_Laws_valueOf 98 0 0 [(0, .ref w), (1, .int x1), (2, .ref 30), (3, .int (x3 + 1)), (4, .int x4), (5, .int x5), (6, .int (s.1 (w + 1) ((x3).toNatClampNeg)))] [] (mk g s) Q) ∧ (¬ (-17) < (s.1 (w + 1) ((x3).toNatClampNeg)) → (((s.1 (w + 1) ((x3).toNatClampNeg)) < (-23) → AWP E m_Laws_valueOf 98 0 0 [(0, .ref w), (1, .int x1), (2, .ref 30), (3, .int (x3 + 1)), (4, .int x4), (5, .int x5), (6, .int (s.1 (w + 1) ((x3).toNatClampNeg)))] [] (mk g s) Q) ∧ (¬ (s.1 (w + 1) ((x3).toNatClampNeg)) < (-23) → AWP E m_Laws_valueOf 101 0 0 [(0, .ref w), (1, .int x1), (2, .ref 30), (3, .int (x3 + 1)), (4, .int x4), (5, .int x5), (6, .int (s.1 (w + 1) ((x3).toNatClampNeg))), (7, .int 1)] [] (mk g s) Q))))))))))))) : AWP E m_Laws_valueOf 23 0 0 [(0, .ref w), (1, .int x1), (2, .ref 30), (3, .int x3), (4, .int x4), (5, .int x5)] [] (mk g s) Q := by
  refine aw_iload (q := 25) (j := 5) rfl rfl (List.mem_of_getElem? (i := 5) rfl) ?_
  refine aw_sipush (q := 28) (v := 400) rfl rfl (by decide) ?_
  refine aw_icmp_ge (q := 31) (tgt := 261) rfl rfl (by decide) ⟨fun cd_1 => ?_, fun cd_1 => ?_⟩
  · replace h := h.1 cd_1
    refine aw_ls [0, 1, 2, 3, 4, 5] rfl ?_
    exact h
  · replace h := h.2 cd_1
    refine aw_iload_n (q := 32) (j := 3) rfl rfl rfl (List.mem_of_getElem? (i := 3) rfl) ?_
    refine aw_if_lt (q := 35) (tgt := 261) rfl rfl (by decide) ⟨fun cd_2 => ?_, fun cd_2 => ?_⟩
    · replace h := h.1 cd_2
      refine aw_ls [0, 1, 2, 3, 4, 5] rfl ?_
      exact h
    · replace h := h.2 cd_2
      refine aw_iload_n (q := 36) (j := 3) rfl rfl rfl (List.mem_of_getElem? (i := 3) rfl) ?_
      refine aw_aload_n (q := 37) (j := 0) rfl rfl rfl (List.mem_of_getElem? (i := 0) rfl) ?_
      refine ag_getI (q := 40) rfl rfl fl_Laws_24 rfl (LW.o h_w) ?_
      refine aw_icmp_ge (q := 43) (tgt := 261) rfl rfl (by decide) ⟨fun cd_3 => ?_, fun cd_3 => ?_⟩
      · replace h := h.1 cd_3
        refine aw_ls [0, 1, 2, 3, 4, 5] rfl ?_
        exact h
      · replace h := h.2 cd_3
        refine aw_aload_n (q := 44) (j := 0) rfl rfl rfl (List.mem_of_getElem? (i := 0) rfl) ?_
        refine ag_getR (q := 47) rfl rfl fl_Laws_11 rfl (LW.o h_w) (LW.r0 h_w) ?_
        refine aw_iload_n (q := 48) (j := 3) rfl rfl rfl (List.mem_of_getElem? (i := 3) rfl) ?_
        obtain ⟨bd_4, h⟩ := h
        refine ag_iaload (q := 49) (N := 400) rfl rfl (LW.a0 h_w) bd_4 ?_
        refine aw_istore (q := 51) (j := 6) (ls' := [(6, .int _), (0, .ref _), (1, .int _), (2, .ref _), (3, .int _), (4, .int _), (5, .int _)]) rfl rfl (by decide) rfl ?_
        refine aw_iinc (q := 54) (v := _ + 1) (ls' := [(3, .int _), (6, .int _), (0, .ref _), (1, .int _), (2, .ref _), (4, .int _), (5, .int _)]) rfl rfl (List.mem_of_getElem? (i := 4) rfl) rfl (by decide) rfl ?_
        refine aw_iload (q := 56) (j := 6) rfl rfl (List.mem_of_getElem? (i := 1) rfl) ?_
        refine aw_bipush (q := 58) (v := (-24)) rfl rfl (by decide) ?_
        refine aw_icmp_ne (q := 61) (tgt := 80) rfl rfl (by decide) ⟨fun cd_5 => ?_, fun cd_5 => ?_⟩
        · replace h := h.1 cd_5
          refine aw_iload (q := 63) (j := 4) rfl rfl (List.mem_of_getElem? (i := 5) rfl) ?_
          refine aw_if_le (q := 66) (tgt := 78) rfl rfl (by decide) ⟨fun cd_6 => ?_, fun cd_6 => ?_⟩
          · replace h := h.1 cd_6
            refine aw_iconst (q := 79) (v := 0) rfl rfl (by decide) ?_
            exact aw_ireturn (ty := .int) rfl rfl rfl (by decide) (by decide) h
          · replace h := h.2 cd_6
            refine aw_aload_n (q := 67) (j := 0) rfl rfl rfl (List.mem_of_getElem? (i := 2) rfl) ?_
            refine ag_getR (q := 70) rfl rfl fl_Laws_21 rfl (LW.o h_w) (LW.r3 h_w) ?_
            refine aw_iload (q := 72) (j := 4) rfl rfl (List.mem_of_getElem? (i := 5) rfl) ?_
            refine aw_iconst (q := 73) (v := 1) rfl rfl (by decide) ?_
            refine aw_isub (q := 74) rfl rfl ?_
            obtain ⟨bd_7, h⟩ := h
            refine ag_iaload (q := 75) (N := 32) rfl rfl (LW.a3 h_w) bd_7 ?_
            refine aw_goto (tgt := 79) rfl (by decide) ?_
            exact aw_ireturn (ty := .int) rfl rfl rfl (by decide) (by decide) h
        · replace h := h.2 cd_5
          refine aw_iload (q := 82) (j := 6) rfl rfl (List.mem_of_getElem? (i := 1) rfl) ?_
          refine aw_bipush (q := 84) (v := (-17)) rfl rfl (by decide) ?_
          refine aw_icmp_gt (q := 87) (tgt := 98) rfl rfl (by decide) ⟨fun cd_8 => ?_, fun cd_8 => ?_⟩
          · replace h := h.1 cd_8
            refine aw_ls [2, 3, 4, 0, 5, 6, 1] rfl ?_
            exact h
          · replace h := h.2 cd_8
            refine aw_iload (q := 89) (j := 6) rfl rfl (List.mem_of_getElem? (i := 1) rfl) ?_
            refine aw_bipush (q := 91) (v := (-23)) rfl rfl (by decide) ?_
            refine aw_icmp_lt (q := 94) (tgt := 98) rfl rfl (by decide) ⟨fun cd_9 => ?_, fun cd_9 => ?_⟩
            · replace h := h.1 cd_9
              refine aw_ls [2, 3, 4, 0, 5, 6, 1] rfl ?_
              exact h
            · replace h := h.2 cd_9
              refine aw_iconst (q := 95) (v := 1) rfl rfl (by decide) ?_
              refine aw_goto (tgt := 99) rfl (by decide) ?_
              refine aw_istore (q := 101) (j := 7) (ls' := [(7, .int _), (3, .int _), (6, .int _), (0, .ref _), (1, .int _), (2, .ref _), (4, .int _), (5, .int _)]) rfl rfl (by decide) rfl ?_
              refine aw_ls [3, 4, 5, 1, 6, 7, 2, 0] rfl ?_
              exact h
set_option maxRecDepth 20000 in
theorem v_Laws_valueOf_98 {E : EN} {g : GS} {s : MS} {Q : Option Value → SG → Prop} (w : Nat) (x1 : Int32) (x3 : Int32) (x4 : Int32) (x5 : Int32) (x6 : Int32) (h : AWP E m_Laws_valueOf 101 0 0 [(0, .ref w), (1, .int x1), (2, .ref 30), (3, .int x3), (4, .int x4), (5, .int x5), (6, .int x6), (7, .int 0)] [] (mk g s) Q) : AWP E m_Laws_valueOf 98 0 0 [(0, .ref w), (1, .int x1), (2, .ref 30), (3, .int x3), (4, .int x4), (5, .int x5), (6, .int x6)] [] (mk g s) Q := by
  refine aw_iconst (q := 99) (v := 0) rfl rfl (by decide) ?_
  refine aw_istore (q := 101) (j := 7) (ls' := [(7, .int _), (0, .ref _), (1, .int _), (2, .ref _), (3, .int _), (4, .int _), (5, .int _), (6, .int _)]) rfl rfl (by decide) rfl ?_
  refine aw_ls [1, 2, 3, 4, 5, 6, 7, 0] rfl ?_
  exact h
set_option maxRecDepth 20000 in
theorem v_Laws_valueOf_101 {E : EN} {g : GS} {s : MS} {Q : Option Value → SG → Prop} (w : Nat) (x1 : Int32) (x3 : Int32) (x4 : Int32) (x5 : Int32) (x6 : Int32) (x7 : Int32) (h_w : LW g w) (h : ((x7 = 0 → ((x6 < 0 → ((2 ≤ x4 → vp_in ((x4 + (-1)) - 1) 32 ∧ vp_in (x4 + (-1)) 32 ∧ ((x6 = (-15) → (((s.1 (w + 4) ((((x4 + (-1)) - 1)).toNatClampNeg)) < (s.1 (w + 4) ((x4 + (-1)).toNatClampNeg)) → AWP E m_Laws_valueOf 207 0 0 [(0, .ref w), (1, .int x1), (2, .ref 30), (3, .int x3), (4, .int (x4 + (-1) + (-1))), (5, .int x5), (6, .int x6), (7, .int x7), (8, .int (s.1 (w + 4) ((((x4 + (-1)) - 1)).toNatClampNeg))), (9, .int (s.1 (w + 4) ((x4 + (-1)).toNatClampNeg)))] [] (mk g s) Q) ∧ (¬ (s.1 (w + 4) ((((x4 + (-1)) - 1)).toNatClampNeg)) < (s.1 (w + 4) ((x4 + (-1)).toNatClampNeg)) → ((x3 < (s.1 w 4) → vp_in x3 400 ∧ AWP E m_Laws_valueOf 220 0 0 [(0, .ref w), (1, .int x1), (2, .ref 30), (3, .int (s.1 (w + 1) ((x3).toNatClampNeg))), (4, .int (x4 + (-1) + (-1))), (5, .int x5), (6, .int x6), (7, .int x7), (8, .int (s.1 (w + 4) ((((x4 + (-1)) - 1)).toNatClampNeg))), (9, .int (s.1 (w + 4) ((x4 + (-1)).toNatClampNeg)))] [] (mk g s) Q) ∧ (¬ x3 < (s.1 w 4) → AWP E m_Laws_valueOf 207 0 0 [(0, .ref w), (1, .int x1), (2, .ref 30), (3, .int x3), (4, .int (x4 + (-1) + (-1))), (5, .int x5), (6, .int x6), (7, .int x7), (8, .int (s.1 (w + 4) ((((x4 + (-1)) - 1)).toNatClampNeg))), (9, .int (s.1 (w + 4) ((x4 + (-1)).toNatClampNeg)))] [] (mk g s) Q))))) ∧ (¬ x6 = (-15) → ((x6 = (-29) → (((s.1 (w + 4) ((x4 + (-1)).toNatClampNeg)) = 0 → Q (some (.int 0)) (mk g s)) ∧ (¬ (s.1 (w + 4) ((x4 + (-1)).toNatClampNeg)) = 0 → AWP E m_Laws_valueOf 237 0 0 [(0, .ref w), (1, .int x1), (2, .ref 30), (3, .int x3), (4, .int (x4 + (-1))), (5, .int x5), (6, .int x6), (7, .int x7), (8, .int (s.1 (w + 4) ((((x4 + (-1)) - 1)).toNatClampNeg))), (9, .int (s.1 (w + 4) ((x4 + (-1)).toNatClampNeg)))] [] (mk g s) Q))) ∧ (¬ x6 = (-29) → AWP E m_Laws_valueOf 237 0 0 [(0, .ref w), (1, .int x1), (2, .ref 30), (3, .int x3), (4, .int (x4 + (-1))), (5, .int x5), (6, .int x6), (7, .int x7), (8, .int (s.1 (w + 4) ((((x4 + (-1)) - 1)).toNatClampNeg))), (9, .int (s.1 (w + 4) ((x4 + (-1)).toNatClampNeg)))] [] (mk g s) Q))))) ∧ (¬ 2 ≤ x4 → Q (some (.int 0)) (mk g s)))) ∧ (¬ x6 < 0 → AWP E m_Laws_valueOf 111 0 0 [(0, .ref w), (1, .int x1), (2, .ref 30), (3, .int x3), (4, .int x4), (5, .int x5), (6, .int x6), (7, .int x7)] [] (mk g s) Q))) ∧ (¬ x7 = 0 → AWP E m_Laws_valueOf 111 0 0 [(0, .ref w), (1, .int x1), (2, .ref 30), (3, .int x3), (4, .int x4), (5, .int x5), (6, .int x6), (7, .int x7)] [] (mk g s) Q))) : AWP E m_Laws_valueOf 101 0 0 [(0, .ref w), (1, .int x1), (2, .ref 30), (3, .int x3), (4, .int x4), (5, .int x5), (6, .int x6), (7, .int x7)] [] (mk g s) Q := by
  refine aw_iload (q := 103) (j := 7) rfl rfl (List.mem_of_getElem? (i := 7) rfl) ?_
  refine aw_if_ne (q := 106) (tgt := 111) rfl rfl (by decide) ⟨fun cd_1 => ?_, fun cd_1 => ?_⟩
  · replace h := h.1 cd_1
    refine aw_iload (q := 108) (j := 6) rfl rfl (List.mem_of_getElem? (i := 6) rfl) ?_
    refine aw_if_lt (q := 111) (tgt := 151) rfl rfl (by decide) ⟨fun cd_2 => ?_, fun cd_2 => ?_⟩
    · replace h := h.1 cd_2
      refine aw_iload (q := 153) (j := 4) rfl rfl (List.mem_of_getElem? (i := 4) rfl) ?_
      refine aw_iconst (q := 154) (v := 2) rfl rfl (by decide) ?_
      refine aw_icmp_ge (q := 157) (tgt := 159) rfl rfl (by decide) ⟨fun cd_3 => ?_, fun cd_3 => ?_⟩
      · replace h := h.1 cd_3
        refine aw_iinc (q := 162) (v := _ + (-1)) (ls' := [(4, .int _), (0, .ref _), (1, .int _), (2, .ref _), (3, .int _), (5, .int _), (6, .int _), (7, .int _)]) rfl rfl (List.mem_of_getElem? (i := 4) rfl) rfl (by decide) rfl ?_
        refine aw_aload_n (q := 163) (j := 0) rfl rfl rfl (List.mem_of_getElem? (i := 1) rfl) ?_
        refine ag_getR (q := 166) rfl rfl fl_Laws_21 rfl (LW.o h_w) (LW.r3 h_w) ?_
        refine aw_iload (q := 168) (j := 4) rfl rfl (List.mem_of_getElem? (i := 0) rfl) ?_
        refine aw_iconst (q := 169) (v := 1) rfl rfl (by decide) ?_
        refine aw_isub (q := 170) rfl rfl ?_
        obtain ⟨bd_4, h⟩ := h
        refine ag_iaload (q := 171) (N := 32) rfl rfl (LW.a3 h_w) bd_4 ?_
        refine aw_istore (q := 173) (j := 8) (ls' := [(8, .int _), (4, .int _), (0, .ref _), (1, .int _), (2, .ref _), (3, .int _), (5, .int _), (6, .int _), (7, .int _)]) rfl rfl (by decide) rfl ?_
        refine aw_aload_n (q := 174) (j := 0) rfl rfl rfl (List.mem_of_getElem? (i := 2) rfl) ?_
        refine ag_getR (q := 177) rfl rfl fl_Laws_21 rfl (LW.o h_w) (LW.r3 h_w) ?_
        refine aw_iload (q := 179) (j := 4) rfl rfl (List.mem_of_getElem? (i := 1) rfl) ?_
        obtain ⟨bd_5, h⟩ := h
        refine ag_iaload (q := 180) (N := 32) rfl rfl (LW.a3 h_w) bd_5 ?_
        refine aw_istore (q := 182) (j := 9) (ls' := [(9, .int _), (8, .int _), (4, .int _), (0, .ref _), (1, .int _), (2, .ref _), (3, .int _), (5, .int _), (6, .int _), (7, .int _)]) rfl rfl (by decide) rfl ?_
        refine aw_iload (q := 184) (j := 6) rfl rfl (List.mem_of_getElem? (i := 8) rfl) ?_
        refine aw_bipush (q := 186) (v := (-15)) rfl rfl (by decide) ?_
        refine aw_icmp_ne (q := 189) (tgt := 223) rfl rfl (by decide) ⟨fun cd_6 => ?_, fun cd_6 => ?_⟩
        · replace h := h.1 cd_6
          refine aw_iinc (q := 192) (v := _ + (-1)) (ls' := [(4, .int _), (9, .int _), (8, .int _), (0, .ref _), (1, .int _), (2, .ref _), (3, .int _), (5, .int _), (6, .int _), (7, .int _)]) rfl rfl (List.mem_of_getElem? (i := 2) rfl) rfl (by decide) rfl ?_
          refine aw_iload (q := 194) (j := 8) rfl rfl (List.mem_of_getElem? (i := 2) rfl) ?_
          refine aw_iload (q := 196) (j := 9) rfl rfl (List.mem_of_getElem? (i := 1) rfl) ?_
          refine aw_icmp_lt (q := 199) (tgt := 207) rfl rfl (by decide) ⟨fun cd_7 => ?_, fun cd_7 => ?_⟩
          · replace h := h.1 cd_7
            refine aw_ls [3, 4, 5, 6, 0, 7, 8, 9, 2, 1] rfl ?_
            exact h
          · replace h := h.2 cd_7
            refine aw_iload_n (q := 200) (j := 3) rfl rfl rfl (List.mem_of_getElem? (i := 6) rfl) ?_
            refine aw_aload_n (q := 201) (j := 0) rfl rfl rfl (List.mem_of_getElem? (i := 3) rfl) ?_
            refine ag_getI (q := 204) rfl rfl fl_Laws_24 rfl (LW.o h_w) ?_
            refine aw_icmp_lt (q := 207) (tgt := 213) rfl rfl (by decide) ⟨fun cd_8 => ?_, fun cd_8 => ?_⟩
            · replace h := h.1 cd_8
              refine aw_aload_n (q := 214) (j := 0) rfl rfl rfl (List.mem_of_getElem? (i := 3) rfl) ?_
              refine ag_getR (q := 217) rfl rfl fl_Laws_11 rfl (LW.o h_w) (LW.r0 h_w) ?_
              refine aw_iload_n (q := 218) (j := 3) rfl rfl rfl (List.mem_of_getElem? (i := 6) rfl) ?_
              obtain ⟨bd_9, h⟩ := h
              refine ag_iaload (q := 219) (N := 400) rfl rfl (LW.a0 h_w) bd_9 ?_
              refine aw_istore_n (q := 220) (j := 3) (ls' := [(3, .int _), (4, .int _), (9, .int _), (8, .int _), (0, .ref _), (1, .int _), (2, .ref _), (5, .int _), (6, .int _), (7, .int _)]) rfl rfl rfl (by decide) rfl ?_
              refine aw_ls [4, 5, 6, 0, 1, 7, 8, 9, 3, 2] rfl ?_
              exact h
            · replace h := h.2 cd_8
              refine aw_ls [3, 4, 5, 6, 0, 7, 8, 9, 2, 1] rfl ?_
              exact h
        · replace h := h.2 cd_6
          refine aw_iload (q := 225) (j := 6) rfl rfl (List.mem_of_getElem? (i := 8) rfl) ?_
          refine aw_bipush (q := 227) (v := (-29)) rfl rfl (by decide) ?_
          refine aw_icmp_ne (q := 230) (tgt := 237) rfl rfl (by decide) ⟨fun cd_10 => ?_, fun cd_10 => ?_⟩
          · replace h := h.1 cd_10
            refine aw_iload (q := 232) (j := 9) rfl rfl (List.mem_of_getElem? (i := 0) rfl) ?_
            refine aw_if_ne (q := 235) (tgt := 237) rfl rfl (by decide) ⟨fun cd_11 => ?_, fun cd_11 => ?_⟩
            · replace h := h.1 cd_11
              refine aw_iconst (q := 236) (v := 0) rfl rfl (by decide) ?_
              exact aw_ireturn (ty := .int) rfl rfl rfl (by decide) (by decide) h
            · replace h := h.2 cd_11
              refine aw_ls [3, 4, 5, 6, 2, 7, 8, 9, 1, 0] rfl ?_
              exact h
          · replace h := h.2 cd_10
            refine aw_ls [3, 4, 5, 6, 2, 7, 8, 9, 1, 0] rfl ?_
            exact h
      · replace h := h.2 cd_3
        refine aw_iconst (q := 158) (v := 0) rfl rfl (by decide) ?_
        exact aw_ireturn (ty := .int) rfl rfl rfl (by decide) (by decide) h
    · replace h := h.2 cd_2
      refine aw_ls [0, 1, 2, 3, 4, 5, 6, 7] rfl ?_
      exact h
  · replace h := h.2 cd_1
    refine aw_ls [0, 1, 2, 3, 4, 5, 6, 7] rfl ?_
    exact h
set_option maxRecDepth 20000 in
theorem v_Laws_valueOf_111 {E : EN} {g : GS} {s : MS} {Q : Option Value → SG → Prop} (w : Nat) (x1 : Int32) (x3 : Int32) (x4 : Int32) (x5 : Int32) (x6 : Int32) (x7 : Int32) (hS : SX g) (h_w : LW g w) (h : ((x4 < 32 → ((x7 = 0 → vp_in x4 32 ∧ (∀ s1_, s1_ = wi s (w + 4) ((x4).toNatClampNeg) x6 → AWP E m_Laws_valueOf 145 0 0 [(0, .ref w), (1, .int x1), (2, .ref 30), (3, .int x3), (4, .int x4), (5, .int x5), (6, .int x6), (7, .int x7)] [] (mk g s1_) Q)) ∧ (¬ x7 = 0 → vp_in ((-x6) - 17) 7 ∧ vp_in x4 32 ∧ (∀ s2_, s2_ = wi s (w + 4) ((x4).toNatClampNeg) (s.1 30 ((((-x6) - 17)).toNatClampNeg)) → AWP E m_Laws_valueOf 145 0 0 [(0, .ref w), (1, .int x1), (2, .ref 30), (3, .int x3), (4, .int x4), (5, .int x5), (6, .int x6), (7, .int x7)] [] (mk g s2_) Q)))) ∧ (¬ x4 < 32 → Q (some (.int 0)) (mk g s)))) : AWP E m_Laws_valueOf 111 0 0 [(0, .ref w), (1, .int x1), (2, .ref 30), (3, .int x3), (4, .int x4), (5, .int x5), (6, .int x6), (7, .int x7)] [] (mk g s) Q := by
  refine aw_iload (q := 113) (j := 4) rfl rfl (List.mem_of_getElem? (i := 4) rfl) ?_
  refine aw_bipush (q := 115) (v := 32) rfl rfl (by decide) ?_
  refine aw_icmp_lt (q := 118) (tgt := 120) rfl rfl (by decide) ⟨fun cd_1 => ?_, fun cd_1 => ?_⟩
  · replace h := h.1 cd_1
    refine aw_aload_n (q := 121) (j := 0) rfl rfl rfl (List.mem_of_getElem? (i := 0) rfl) ?_
    refine ag_getR (q := 124) rfl rfl fl_Laws_21 rfl (LW.o h_w) (LW.r3 h_w) ?_
    refine aw_iload (q := 126) (j := 4) rfl rfl (List.mem_of_getElem? (i := 4) rfl) ?_
    refine aw_iload (q := 128) (j := 7) rfl rfl (List.mem_of_getElem? (i := 7) rfl) ?_
    refine aw_if_eq (q := 131) (tgt := 142) rfl rfl (by decide) ⟨fun cd_2 => ?_, fun cd_2 => ?_⟩
    · replace h := h.1 cd_2
      refine aw_iload (q := 144) (j := 6) rfl rfl (List.mem_of_getElem? (i := 6) rfl) ?_
      obtain ⟨bd_3, h⟩ := h
      refine ag_iastore (q := 145) (N := 32) rfl rfl (LW.a3 h_w) bd_3 ?_
      replace h := h _ rfl
      refine aw_ls [0, 1, 2, 3, 4, 5, 6, 7] rfl ?_
      exact h
    · replace h := h.2 cd_2
      refine aw_aload_n (q := 132) (j := 2) rfl rfl rfl (List.mem_of_getElem? (i := 2) rfl) ?_
      refine aw_iload (q := 134) (j := 6) rfl rfl (List.mem_of_getElem? (i := 6) rfl) ?_
      refine aw_ineg (q := 135) rfl rfl ?_
      refine aw_bipush (q := 137) (v := 17) rfl rfl (by decide) ?_
      refine aw_isub (q := 138) rfl rfl ?_
      obtain ⟨bd_4, h⟩ := h
      refine ag_iaload (q := 139) (N := 7) rfl rfl (SX.a hS rfl) bd_4 ?_
      refine aw_goto (tgt := 144) rfl (by decide) ?_
      obtain ⟨bd_5, h⟩ := h
      refine ag_iastore (q := 145) (N := 32) rfl rfl (LW.a3 h_w) bd_5 ?_
      replace h := h _ rfl
      refine aw_ls [0, 1, 2, 3, 4, 5, 6, 7] rfl ?_
      exact h
  · replace h := h.2 cd_1
    refine aw_iconst (q := 119) (v := 0) rfl rfl (by decide) ?_
    exact aw_ireturn (ty := .int) rfl rfl rfl (by decide) (by decide) h
set_option maxRecDepth 20000 in
theorem v_Laws_valueOf_145 {E : EN} {g : GS} {s : MS} {Q : Option Value → SG → Prop} (w : Nat) (x1 : Int32) (x3 : Int32) (x4 : Int32) (x5 : Int32) (x6 : Int32) (x7 : Int32) (h : AWP E m_Laws_valueOf 255 0 0 [(0, .ref w), (1, .int x1), (2, .ref 30), (3, .int x3), (4, .int (x4 + 1)), (5, .int x5), (6, .int x6), (7, .int x7)] [] (mk g s) Q) : AWP E m_Laws_valueOf 145 0 0 [(0, .ref w), (1, .int x1), (2, .ref 30), (3, .int x3), (4, .int x4), (5, .int x5), (6, .int x6), (7, .int x7)] [] (mk g s) Q := by
  refine aw_iinc (q := 148) (v := _ + 1) (ls' := [(4, .int _), (0, .ref _), (1, .int _), (2, .ref _), (3, .int _), (5, .int _), (6, .int _), (7, .int _)]) rfl rfl (List.mem_of_getElem? (i := 4) rfl) rfl (by decide) rfl ?_
  refine aw_goto (tgt := 255) rfl (by decide) ?_
  refine aw_ls [1, 2, 3, 4, 0, 5, 6, 7] rfl ?_
  exact h
set_option maxRecDepth 20000 in
theorem v_Laws_valueOf_207 {E : EN} {g : GS} {s : MS} {Q : Option Value → SG → Prop} (w : Nat) (x1 : Int32) (x3 : Int32) (x4 : Int32) (x5 : Int32) (x6 : Int32) (x7 : Int32) (x8 : Int32) (x9 : Int32) (h : AWP E m_Laws_valueOf 220 0 0 [(0, .ref w), (1, .int x1), (2, .ref 30), (3, .int (x3 + 1)), (4, .int x4), (5, .int x5), (6, .int x6), (7, .int x7), (8, .int x8), (9, .int x9)] [] (mk g s) Q) : AWP E m_Laws_valueOf 207 0 0 [(0, .ref w), (1, .int x1), (2, .ref 30), (3, .int x3), (4, .int x4), (5, .int x5), (6, .int x6), (7, .int x7), (8, .int x8), (9, .int x9)] [] (mk g s) Q := by
  refine aw_iload_n (q := 208) (j := 3) rfl rfl rfl (List.mem_of_getElem? (i := 3) rfl) ?_
  refine aw_iconst (q := 209) (v := 1) rfl rfl (by decide) ?_
  refine aw_iadd (q := 210) rfl rfl ?_
  refine aw_goto (tgt := 219) rfl (by decide) ?_
  refine aw_istore_n (q := 220) (j := 3) (ls' := [(3, .int _), (0, .ref _), (1, .int _), (2, .ref _), (4, .int _), (5, .int _), (6, .int _), (7, .int _), (8, .int _), (9, .int _)]) rfl rfl rfl (by decide) rfl ?_
  refine aw_ls [1, 2, 3, 0, 4, 5, 6, 7, 8, 9] rfl ?_
  exact h
set_option maxRecDepth 20000 in
theorem v_Laws_valueOf_220 {E : EN} {g : GS} {s : MS} {Q : Option Value → SG → Prop} (w : Nat) (x1 : Int32) (x3 : Int32) (x4 : Int32) (x5 : Int32) (x6 : Int32) (x7 : Int32) (x8 : Int32) (x9 : Int32) (h : AWP E m_Laws_valueOf 255 0 0 [(0, .ref w), (1, .int x1), (2, .ref 30), (3, .int x3), (4, .int x4), (5, .int x5), (6, .int x6), (7, .int x7)] [] (mk g s) Q) : AWP E m_Laws_valueOf 220 0 0 [(0, .ref w), (1, .int x1), (2, .ref 30), (3, .int x3), (4, .int x4), (5, .int x5), (6, .int x6), (7, .int x7), (8, .int x8), (9, .int x9)] [] (mk g s) Q := by
  refine aw_goto (tgt := 255) rfl (by decide) ?_
  refine aw_ls [0, 1, 2, 3, 4, 5, 6, 7] rfl ?_
  exact h
set_option maxRecDepth 20000 in
theorem v_Laws_valueOf_237 {E : EN} {g : GS} {s : MS} {Q : Option Value → SG → Prop} (w : Nat) (x1 : Int32) (x3 : Int32) (x4 : Int32) (x5 : Int32) (x6 : Int32) (x7 : Int32) (x8 : Int32) (x9 : Int32) (h_w : LW g w) (h : GI E m_Laws_join [.int x6, .int x8, .int x9] g s (fun y1_ t1_ => vp_in (x4 - 1) 32 ∧ (∀ s2_, s2_ = wi t1_ (w + 4) (((x4 - 1)).toNatClampNeg) y1_ → AWP E m_Laws_valueOf 255 0 0 [(0, .ref w), (1, .int x1), (2, .ref 30), (3, .int x3), (4, .int x4), (5, .int x5), (6, .int x6), (7, .int x7)] [] (mk g s2_) Q))) : AWP E m_Laws_valueOf 237 0 0 [(0, .ref w), (1, .int x1), (2, .ref 30), (3, .int x3), (4, .int x4), (5, .int x5), (6, .int x6), (7, .int x7), (8, .int x8), (9, .int x9)] [] (mk g s) Q := by
  refine aw_aload_n (q := 238) (j := 0) rfl rfl rfl (List.mem_of_getElem? (i := 0) rfl) ?_
  refine ag_getR (q := 241) rfl rfl fl_Laws_21 rfl (LW.o h_w) (LW.r3 h_w) ?_
  refine aw_iload (q := 243) (j := 4) rfl rfl (List.mem_of_getElem? (i := 4) rfl) ?_
  refine aw_iconst (q := 244) (v := 1) rfl rfl (by decide) ?_
  refine aw_isub (q := 245) rfl rfl ?_
  refine aw_iload (q := 247) (j := 6) rfl rfl (List.mem_of_getElem? (i := 6) rfl) ?_
  refine aw_iload (q := 249) (j := 8) rfl rfl (List.mem_of_getElem? (i := 8) rfl) ?_
  refine aw_iload (q := 251) (j := 9) rfl rfl (List.mem_of_getElem? (i := 9) rfl) ?_
  refine ag_csI (z := m_Laws_join) (av := [.int _, .int _, .int _]) (st := [.int _, .ref _]) (q := 254) (k' := 0) (n' := 0) rfl rfl cs_Laws_73 ⟨by decide, by decide⟩ rfl rfl (by decide) (by decide) rfl rfl (Nat.le_of_ble_eq_true rfl) ?_
  refine GI.mono h (fun y1_ t1_ h => ?_)
  obtain ⟨bd_1, h⟩ := h
  refine ag_iastore (q := 255) (N := 32) rfl rfl (LW.a3 h_w) bd_1 ?_
  replace h := h _ rfl
  refine aw_ls [0, 1, 2, 3, 4, 5, 6, 7] rfl ?_
  exact h
set_option maxRecDepth 20000 in
theorem v_Laws_valueOf_255 {E : EN} {g : GS} {s : MS} {Q : Option Value → SG → Prop} (w : Nat) (x1 : Int32) (x3 : Int32) (x4 : Int32) (x5 : Int32) (x6 : Int32) (x7 : Int32) (h : AWP E m_Laws_valueOf 23 0 0 [(0, .ref w), (1, .int x1), (2, .ref 30), (3, .int x3), (4, .int x4), (5, .int (x5 + 1))] [] (mk g s) Q) : AWP E m_Laws_valueOf 255 0 0 [(0, .ref w), (1, .int x1), (2, .ref 30), (3, .int x3), (4, .int x4), (5, .int x5), (6, .int x6), (7, .int x7)] [] (mk g s) Q := by
  refine aw_iinc (q := 258) (v := _ + 1) (ls' := [(5, .int _), (0, .ref _), (1, .int _), (2, .ref _), (3, .int _), (4, .int _), (6, .int _), (7, .int _)]) rfl rfl (List.mem_of_getElem? (i := 5) rfl) rfl (by decide) rfl ?_
  refine aw_goto (tgt := 23) rfl (by decide) ?_
  refine aw_ls [1, 2, 3, 4, 5, 0] rfl ?_
  exact h
set_option maxRecDepth 20000 in
theorem v_Laws_valueOf_261 {E : EN} {g : GS} {s : MS} {Q : Option Value → SG → Prop} (w : Nat) (x1 : Int32) (x3 : Int32) (x4 : Int32) (x5 : Int32) (h : Q (some (.int 0)) (mk g s)) : AWP E m_Laws_valueOf 261 0 0 [(0, .ref w), (1, .int x1), (2, .ref 30), (3, .int x3), (4, .int x4), (5, .int x5)] [] (mk g s) Q := by
  refine aw_iconst (q := 262) (v := 0) rfl rfl (by decide) ?_
  exact aw_ireturn (ty := .int) rfl rfl rfl (by decide) (by decide) h
set_option maxRecDepth 20000 in
theorem v_Laws_valueOf {E : EN} {g : GS} {s : MS} {Q : Option Value → SG → Prop} (w : Nat) (x1 : Int32) (hS : SX g) (h_w : LW g w) (h : vp_in x1 3 ∧ (((0 : Int32) ≤ (s.1 (w + 2) ((x1).toNatClampNeg)) → AWP E m_Laws_valueOf 23 0 0 [(0, .ref w), (1, .int x1), (2, .ref 30), (3, .int (s.1 (w + 2) ((x1).toNatClampNeg))), (4, .int 0), (5, .int 0)] [] (mk g s) Q) ∧ (¬ (0 : Int32) ≤ (s.1 (w + 2) ((x1).toNatClampNeg)) → Q (some (.int (s.1 1 ((x1).toNatClampNeg)))) (mk g s)))) : AMet E m_Laws_valueOf [.ref w, .int x1, .ref 30] (mk g s) Q := by
  refine AMet.of (by decide) k_Laws_valueOf [(0, .ref w), (1, .int x1), (2, .ref 30)] (Nat.le_of_ble_eq_true rfl) rfl ?_
  refine aw_aload_n (q := 1) (j := 0) rfl rfl rfl (List.mem_of_getElem? (i := 0) rfl) ?_
  refine ag_getR (q := 4) rfl rfl fl_Laws_15 rfl (LW.o h_w) (LW.r1 h_w) ?_
  refine aw_iload_n (q := 5) (j := 1) rfl rfl rfl (List.mem_of_getElem? (i := 1) rfl) ?_
  obtain ⟨bd_1, h⟩ := h
  refine ag_iaload (q := 6) (N := 3) rfl rfl (LW.a1 h_w) bd_1 ?_
  refine aw_istore_n (q := 7) (j := 3) (ls' := [(3, .int _), (0, .ref _), (1, .int _), (2, .ref _)]) rfl rfl rfl (by decide) rfl ?_
  refine aw_iload_n (q := 8) (j := 3) rfl rfl rfl (List.mem_of_getElem? (i := 0) rfl) ?_
  refine aw_if_ge (q := 11) (tgt := 17) rfl rfl (by decide) ⟨fun cd_2 => ?_, fun cd_2 => ?_⟩
  · replace h := h.1 cd_2
    refine aw_iconst (q := 18) (v := 0) rfl rfl (by decide) ?_
    refine aw_istore (q := 20) (j := 4) (ls' := [(4, .int _), (3, .int _), (0, .ref _), (1, .int _), (2, .ref _)]) rfl rfl (by decide) rfl ?_
    refine aw_iconst (q := 21) (v := 0) rfl rfl (by decide) ?_
    refine aw_istore (q := 23) (j := 5) (ls' := [(5, .int _), (4, .int _), (3, .int _), (0, .ref _), (1, .int _), (2, .ref _)]) rfl rfl (by decide) rfl ?_
    refine aw_ls [3, 4, 5, 2, 1, 0] rfl ?_
    exact h
  · replace h := h.2 cd_2
    refine aw_untold (q := 14) rfl rfl (tb_c4 214 rfl rfl) ?_
    refine aw_iload_n (q := 15) (j := 1) rfl rfl rfl (List.mem_of_getElem? (i := 2) rfl) ?_
    refine ag_xiaload (q := 16) (N := 3) rfl rfl (by decide) (by rw [hS.2.2.2]) bd_1 ?_
    exact aw_ireturn (ty := .int) rfl rfl rfl (by decide) (by decide) h
set_option maxRecDepth 20000 in
theorem v_Laws_join {E : EN} {g : GS} {s : MS} {Q : Option Value → SG → Prop} (x0 : Int32) (x1 : Int32) (x2 : Int32) (h : ((x0 < (-28) ∨ (-26) < x0 → ((x2 = 0 → Q (some (.int 0)) (mk g s)) ∧ (¬ x2 = 0 → ¬ x2 = 0 ∧ Q (some (.int (x1 / x2))) (mk g s)))) ∧ (x0 = (-28) → Q (some (.int (x1 * x2))) (mk g s)) ∧ (x0 = (-27) → Q (some (.int (x1 - x2))) (mk g s)) ∧ (x0 = (-26) → Q (some (.int (x1 + x2))) (mk g s)))) : AMet E m_Laws_join [.int x0, .int x1, .int x2] (mk g s) Q := by
  refine AMet.of (by decide) k_Laws_join [(0, .int x0), (1, .int x1), (2, .int x2)] (Nat.le_of_ble_eq_true rfl) rfl ?_
  refine aw_iload_n (q := 1) (j := 0) rfl rfl rfl (List.mem_of_getElem? (i := 0) rfl) ?_
  by_cases cd_1 : x0 < (-28) ∨ (-26) < x0
  · replace h := h.1 cd_1
    refine aw_tableLt (tgt := 40) rfl (a := (-28)) (b := (-26)) (by decide) (by decide) cd_1 (by decide) ?_
    refine aw_iload_n (q := 41) (j := 2) rfl rfl rfl (List.mem_of_getElem? (i := 2) rfl) ?_
    refine aw_if_ne (q := 44) (tgt := 48) rfl rfl (by decide) ⟨fun cd_2 => ?_, fun cd_2 => ?_⟩
    · replace h := h.1 cd_2
      refine aw_iconst (q := 45) (v := 0) rfl rfl (by decide) ?_
      refine aw_goto (tgt := 51) rfl (by decide) ?_
      exact aw_ireturn (ty := .int) rfl rfl rfl (by decide) (by decide) h
    · replace h := h.2 cd_2
      refine aw_iload_n (q := 49) (j := 1) rfl rfl rfl (List.mem_of_getElem? (i := 1) rfl) ?_
      refine aw_iload_n (q := 50) (j := 2) rfl rfl rfl (List.mem_of_getElem? (i := 2) rfl) ?_
      obtain ⟨zd_3, h⟩ := h
      refine aw_idiv (q := 51) rfl rfl zd_3 ?_
      exact aw_ireturn (ty := .int) rfl rfl rfl (by decide) (by decide) h
  · obtain ⟨jd_4, hjd_4, ejd_4⟩ := sw_cases 2 (-26) (fun q => cd_1 (Or.inl q)) (fun q => cd_1 (Or.inr q)) (by decide)
    replace h := h.2
    match jd_4, hjd_4, ejd_4 with
    | 0, _, e => 
      have e : x0 = (-28) := Int32.toInt_inj.mp (e.trans (by decide))
      replace h := h.1 e
      refine aw_tableEq (tgt := 36) rfl e (by decide) (by decide) rfl (by decide) ?_
      refine aw_iload_n (q := 37) (j := 1) rfl rfl rfl (List.mem_of_getElem? (i := 1) rfl) ?_
      refine aw_iload_n (q := 38) (j := 2) rfl rfl rfl (List.mem_of_getElem? (i := 2) rfl) ?_
      refine aw_imul (q := 39) rfl rfl ?_
      exact aw_ireturn (ty := .int) rfl rfl rfl (by decide) (by decide) h
    | 1, _, e => 
      have e : x0 = (-27) := Int32.toInt_inj.mp (e.trans (by decide))
      replace h := h.2.1 e
      refine aw_tableEq (tgt := 32) rfl e (by decide) (by decide) rfl (by decide) ?_
      refine aw_iload_n (q := 33) (j := 1) rfl rfl rfl (List.mem_of_getElem? (i := 1) rfl) ?_
      refine aw_iload_n (q := 34) (j := 2) rfl rfl rfl (List.mem_of_getElem? (i := 2) rfl) ?_
      refine aw_isub (q := 35) rfl rfl ?_
      exact aw_ireturn (ty := .int) rfl rfl rfl (by decide) (by decide) h
    | 2, _, e => 
      have e : x0 = (-26) := Int32.toInt_inj.mp (e.trans (by decide))
      replace h := h.2.2 e
      refine aw_tableEq (tgt := 28) rfl e (by decide) (by decide) rfl (by decide) ?_
      refine aw_iload_n (q := 29) (j := 1) rfl rfl rfl (List.mem_of_getElem? (i := 1) rfl) ?_
      refine aw_iload_n (q := 30) (j := 2) rfl rfl rfl (List.mem_of_getElem? (i := 2) rfl) ?_
      refine aw_iadd (q := 31) rfl rfl ?_
      exact aw_ireturn (ty := .int) rfl rfl rfl (by decide) (by decide) h
    | j + 3, hj, _ => exact absurd hj (by omega)
set_option maxRecDepth 20000 in
theorem v_Text_clear_40 {E : EN} {g : GS} {s : MS} {Q : Option Value → SG → Prop} (t : Nat) (x1 : Int32) (hS : SX g) (et : t = 88 ∨ t = 104) (h : ((30 ≤ x1 → GV E m_Laws_clear [.ref (t + 11)] g s (fun t1_ => Q none (mk g t1_))) ∧ (¬ 30 ≤ x1 → vp_in x1 30 ∧ (∀ s2_, s2_ = wi s (t + 10) ((x1).toNatClampNeg) 0 → AWP E m_Text_clear 40 0 0 [(0, .ref t), (1, .int (x1 + 1))] [] (mk g s2_) Q)))) : AWP E m_Text_clear 40 0 0 [(0, .ref t), (1, .int x1)] [] (mk g s) Q := by
  refine aw_iload_n (q := 41) (j := 1) rfl rfl rfl (List.mem_of_getElem? (i := 1) rfl) ?_
  refine aw_aload_n (q := 42) (j := 0) rfl rfl rfl (List.mem_of_getElem? (i := 0) rfl) ?_
  refine ag_getR (q := 45) rfl rfl fl_Text_39 rfl (TS.o (TS.of hS et)) (TS.r9 (TS.of hS et)) ?_
  refine ag_alen (q := 46) (t := 0) (N := 30) (v := 30) rfl rfl (by decide) (TS.a9 (TS.of hS et)) (by decide) ?_
  refine aw_icmp_ge (q := 49) (tgt := 62) rfl rfl (by decide) ⟨fun cd_1 => ?_, fun cd_1 => ?_⟩
  · replace h := h.1 cd_1
    refine aw_aload_n (q := 63) (j := 0) rfl rfl rfl (List.mem_of_getElem? (i := 0) rfl) ?_
    refine ag_getR (q := 66) rfl rfl fl_Text_45 rfl (TS.o (TS.of hS et)) (TS.r10 (TS.of hS et)) ?_
    refine ag_cvV (z := m_Laws_clear) (ci := 3) (av := []) (st := []) (q := 69) (k' := 0) (n' := 0) rfl rfl cv_Text_71 ⟨by decide, by decide⟩ rfl rfl (by decide) (by decide) (LW.o (TS.l (TS.of hS et))) rfl rfl rfl (Nat.le_of_ble_eq_true rfl) ?_
    refine GV.mono h (fun t1_ h => ?_)
    exact aw_return rfl rfl (by decide) (by decide) h
  · replace h := h.2 cd_1
    refine aw_aload_n (q := 50) (j := 0) rfl rfl rfl (List.mem_of_getElem? (i := 0) rfl) ?_
    refine ag_getR (q := 53) rfl rfl fl_Text_39 rfl (TS.o (TS.of hS et)) (TS.r9 (TS.of hS et)) ?_
    refine aw_iload_n (q := 54) (j := 1) rfl rfl rfl (List.mem_of_getElem? (i := 1) rfl) ?_
    refine aw_iconst (q := 55) (v := 0) rfl rfl (by decide) ?_
    obtain ⟨bd_2, h⟩ := h
    refine ag_iastore (q := 56) (N := 30) rfl rfl (TS.a9 (TS.of hS et)) bd_2 ?_
    replace h := h _ rfl
    refine aw_iinc (q := 59) (v := _ + 1) (ls' := [(1, .int _), (0, .ref _)]) rfl rfl (List.mem_of_getElem? (i := 1) rfl) rfl (by decide) rfl ?_
    refine aw_goto (tgt := 40) rfl (by decide) ?_
    refine aw_ls [1, 0] rfl ?_
    exact h
set_option maxRecDepth 20000 in
theorem v_Text_clear {E : EN} {g : GS} {s : MS} {Q : Option Value → SG → Prop} (t : Nat) (hS : SX g) (et : t = 88 ∨ t = 104) (h : (∀ s1_, s1_ = wi s t 11 0 → (∀ s2_, s2_ = wi s1_ t 12 0 → (∀ s3_, s3_ = wi s2_ t 13 0 → (∀ s4_, s4_ = wi s3_ t 14 0 → (∀ s5_, s5_ = wi s4_ t 15 9999 → (∀ s6_, s6_ = wi s5_ t 16 50 → (∀ s7_, s7_ = wi s6_ t 17 0 → AWP E m_Text_clear 40 0 0 [(0, .ref t), (1, .int 0)] [] (mk g s7_) Q)))))))) : AMet E m_Text_clear [.ref t] (mk g s) Q := by
  refine AMet.of (by decide) k_Text_clear [(0, .ref t)] (Nat.le_of_ble_eq_true rfl) rfl ?_
  refine aw_aload_n (q := 1) (j := 0) rfl rfl rfl (List.mem_of_getElem? (i := 0) rfl) ?_
  refine aw_iconst (q := 2) (v := 0) rfl rfl (by decide) ?_
  refine ag_putI (q := 5) rfl rfl fl_Text_56 rfl rfl (TS.o (TS.of hS et)) ?_
  replace h := h _ rfl
  refine aw_aload_n (q := 6) (j := 0) rfl rfl rfl (List.mem_of_getElem? (i := 0) rfl) ?_
  refine aw_iconst (q := 7) (v := 0) rfl rfl (by decide) ?_
  refine ag_putI (q := 10) rfl rfl fl_Text_59 rfl rfl (TS.o (TS.of hS et)) ?_
  replace h := h _ rfl
  refine aw_aload_n (q := 11) (j := 0) rfl rfl rfl (List.mem_of_getElem? (i := 0) rfl) ?_
  refine aw_iconst (q := 12) (v := 0) rfl rfl (by decide) ?_
  refine ag_putI (q := 15) rfl rfl fl_Text_62 rfl rfl (TS.o (TS.of hS et)) ?_
  replace h := h _ rfl
  refine aw_aload_n (q := 16) (j := 0) rfl rfl rfl (List.mem_of_getElem? (i := 0) rfl) ?_
  refine aw_iconst (q := 17) (v := 0) rfl rfl (by decide) ?_
  refine ag_putI (q := 20) rfl rfl fl_Text_65 rfl rfl (TS.o (TS.of hS et)) ?_
  replace h := h _ rfl
  refine aw_aload_n (q := 21) (j := 0) rfl rfl rfl (List.mem_of_getElem? (i := 0) rfl) ?_
  refine aw_sipush (q := 24) (v := 9999) rfl rfl (by decide) ?_
  refine ag_putI (q := 27) rfl rfl fl_Text_49 rfl rfl (TS.o (TS.of hS et)) ?_
  replace h := h _ rfl
  refine aw_aload_n (q := 28) (j := 0) rfl rfl rfl (List.mem_of_getElem? (i := 0) rfl) ?_
  refine aw_bipush (q := 30) (v := 50) rfl rfl (by decide) ?_
  refine ag_putI (q := 33) rfl rfl fl_Text_53 rfl rfl (TS.o (TS.of hS et)) ?_
  replace h := h _ rfl
  refine aw_aload_n (q := 34) (j := 0) rfl rfl rfl (List.mem_of_getElem? (i := 0) rfl) ?_
  refine aw_iconst (q := 35) (v := 0) rfl rfl (by decide) ?_
  refine ag_putI (q := 38) rfl rfl fl_Text_68 rfl rfl (TS.o (TS.of hS et)) ?_
  replace h := h _ rfl
  refine aw_iconst (q := 39) (v := 0) rfl rfl (by decide) ?_
  refine aw_istore_n (q := 40) (j := 1) (ls' := [(1, .int _), (0, .ref _)]) rfl rfl rfl (by decide) rfl ?_
  refine aw_ls [1, 0] rfl ?_
  exact h
set_option maxRecDepth 20000 in
theorem v_Text_wantOf {E : EN} {g : GS} {s : MS} {Q : Option Value → SG → Prop} (t : Nat) (x1 : Int32) (x2 : Int32) (hS : SX g) (et : t = 88 ∨ t = 104) (h : vp_in ((x1 * 6) + x2) 30 ∧ Q (some (.int (s.1 (t + 10) ((((x1 * 6) + x2)).toNatClampNeg)))) (mk g s)) : AMet E m_Text_wantOf [.ref t, .int x1, .int x2] (mk g s) Q := by
  refine AMet.of (by decide) k_Text_wantOf [(0, .ref t), (1, .int x1), (2, .int x2)] (Nat.le_of_ble_eq_true rfl) rfl ?_
  refine aw_aload_n (q := 1) (j := 0) rfl rfl rfl (List.mem_of_getElem? (i := 0) rfl) ?_
  refine ag_getR (q := 4) rfl rfl fl_Text_39 rfl (TS.o (TS.of hS et)) (TS.r9 (TS.of hS et)) ?_
  refine aw_iload_n (q := 5) (j := 1) rfl rfl rfl (List.mem_of_getElem? (i := 1) rfl) ?_
  refine aw_bipush (q := 7) (v := 6) rfl rfl (by decide) ?_
  refine aw_imul (q := 8) rfl rfl ?_
  refine aw_iload_n (q := 9) (j := 2) rfl rfl rfl (List.mem_of_getElem? (i := 2) rfl) ?_
  refine aw_iadd (q := 10) rfl rfl ?_
  obtain ⟨bd_1, h⟩ := h
  refine ag_iaload (q := 11) (N := 30) rfl rfl (TS.a9 (TS.of hS et)) bd_1 ?_
  exact aw_ireturn (ty := .int) rfl rfl rfl (by decide) (by decide) h
set_option maxRecDepth 20000 in
theorem v_Teller_fill_29 {E : EN} {g : GS} {s : MS} {Q : Option Value → SG → Prop} (t : Nat) (x2 : Int32) (hS : SX g) (hy : g.2.2 24 4 = some 18) (h : ((400 ≤ x2 → Q (some (.int (s.1 24 7))) (mk g s)) ∧ (¬ 400 ≤ x2 → (((s.1 24 7) = 0 → (((s.1 18 3) ≤ (s.1 24 6) → Q (some (.int (s.1 24 7))) (mk g s)) ∧ (¬ (s.1 18 3) ≤ (s.1 24 6) → GV E m_Teller_fillTell [.ref 24] g s (fun t1_ => AWP E m_Teller_fill 29 0 0 [(0, .ref 24), (1, .ref t), (2, .int (x2 + 1))] [] (mk g t1_) Q)))) ∧ (¬ (s.1 24 7) = 0 → Q (some (.int (s.1 24 7))) (mk g s)))))) : AWP E m_Teller_fill 29 0 0 [(0, .ref 24), (1, .ref t), (2, .int x2)] [] (mk g s) Q := by
  refine aw_iload_n (q := 30) (j := 2) rfl rfl rfl (List.mem_of_getElem? (i := 2) rfl) ?_
  refine aw_sipush (q := 33) (v := 400) rfl rfl (by decide) ?_
  refine aw_icmp_ge (q := 36) (tgt := 67) rfl rfl (by decide) ⟨fun cd_1 => ?_, fun cd_1 => ?_⟩
  · replace h := h.1 cd_1
    refine aw_aload_n (q := 68) (j := 0) rfl rfl rfl (List.mem_of_getElem? (i := 0) rfl) ?_
    refine ag_getI (q := 71) rfl rfl fl_Teller_42 rfl (SX.o hS rfl) ?_
    exact aw_ireturn (ty := .int) rfl rfl rfl (by decide) (by decide) h
  · replace h := h.2 cd_1
    refine aw_aload_n (q := 37) (j := 0) rfl rfl rfl (List.mem_of_getElem? (i := 0) rfl) ?_
    refine ag_getI (q := 40) rfl rfl fl_Teller_42 rfl (SX.o hS rfl) ?_
    refine aw_if_ne (q := 43) (tgt := 67) rfl rfl (by decide) ⟨fun cd_2 => ?_, fun cd_2 => ?_⟩
    · replace h := h.1 cd_2
      refine aw_aload_n (q := 44) (j := 0) rfl rfl rfl (List.mem_of_getElem? (i := 0) rfl) ?_
      refine ag_getI (q := 47) rfl rfl fl_Teller_39 rfl (SX.o hS rfl) ?_
      refine aw_aload_n (q := 48) (j := 0) rfl rfl rfl (List.mem_of_getElem? (i := 0) rfl) ?_
      refine ag_getR (q := 51) rfl rfl fl_Teller_22 rfl (SX.o hS rfl) hy ?_
      refine ag_getI (q := 54) rfl rfl fl_Teller_45 rfl (SX.o hS rfl) ?_
      refine aw_icmp_ge (q := 57) (tgt := 67) rfl rfl (by decide) ⟨fun cd_3 => ?_, fun cd_3 => ?_⟩
      · replace h := h.1 cd_3
        refine aw_aload_n (q := 68) (j := 0) rfl rfl rfl (List.mem_of_getElem? (i := 0) rfl) ?_
        refine ag_getI (q := 71) rfl rfl fl_Teller_42 rfl (SX.o hS rfl) ?_
        exact aw_ireturn (ty := .int) rfl rfl rfl (by decide) (by decide) h
      · replace h := h.2 cd_3
        refine aw_aload_n (q := 58) (j := 0) rfl rfl rfl (List.mem_of_getElem? (i := 0) rfl) ?_
        refine ag_cvV (z := m_Teller_fillTell) (ci := 7) (av := []) (st := []) (q := 61) (k' := 0) (n' := 0) rfl rfl cv_Teller_50 ⟨by decide, by decide⟩ rfl rfl (by decide) (by decide) (SX.o hS rfl) rfl rfl rfl (Nat.le_of_ble_eq_true rfl) ?_
        refine GV.mono h (fun t1_ h => ?_)
        refine aw_iinc (q := 64) (v := _ + 1) (ls' := [(2, .int _), (0, .ref _), (1, .ref _)]) rfl rfl (List.mem_of_getElem? (i := 2) rfl) rfl (by decide) rfl ?_
        refine aw_goto (tgt := 29) rfl (by decide) ?_
        refine aw_ls [1, 2, 0] rfl ?_
        exact h
    · replace h := h.2 cd_2
      refine aw_aload_n (q := 68) (j := 0) rfl rfl rfl (List.mem_of_getElem? (i := 0) rfl) ?_
      refine ag_getI (q := 71) rfl rfl fl_Teller_42 rfl (SX.o hS rfl) ?_
      exact aw_ireturn (ty := .int) rfl rfl rfl (by decide) (by decide) h
set_option maxRecDepth 20000 in
theorem v_Teller_fill {E : EN} {g : GS} {s : MS} {Q : Option Value → SG → Prop} (t : Nat) (hS : SX g) (et : t = 88 ∨ t = 104) (h : GV E m_Text_clear [.ref t] (gr g 24 5 (some t)) s (fun t1_ => (∀ s2_, s2_ = wi t1_ 24 3 0 → (∀ s3_, s3_ = wi s2_ 24 6 0 → (∀ s4_, s4_ = wi s3_ 24 7 0 → AWP E m_Teller_fill 29 0 0 [(0, .ref 24), (1, .ref t), (2, .int 0)] [] (mk (gr g 24 5 (some t)) s4_) Q))))) : AMet E m_Teller_fill [.ref 24, .ref t] (mk g s) Q := by
  refine AMet.of (by decide) k_Teller_fill [(0, .ref 24), (1, .ref t)] (Nat.le_of_ble_eq_true rfl) rfl ?_
  refine aw_aload_n (q := 1) (j := 0) rfl rfl rfl (List.mem_of_getElem? (i := 0) rfl) ?_
  refine aw_aload_n (q := 2) (j := 1) rfl rfl rfl (List.mem_of_getElem? (i := 1) rfl) ?_
  refine ag_putR (q := 5) rfl rfl fl_Teller_26 rfl rfl (SX.o hS rfl) ?_
  refine aw_aload_n (q := 6) (j := 0) rfl rfl rfl (List.mem_of_getElem? (i := 0) rfl) ?_
  refine ag_getR (q := 9) rfl rfl fl_Teller_26 rfl (SX.o (SX.gro hS rfl) rfl) (gr_s _ _ _ _) ?_
  refine ag_cvV (z := m_Text_clear) (ci := 8) (av := []) (st := []) (q := 12) (k' := 0) (n' := 0) rfl rfl cv_Teller_30 ⟨by decide, by decide⟩ rfl rfl (by decide) (by decide) (TS.o (TS.of (SX.gro hS rfl) et)) rfl rfl rfl (Nat.le_of_ble_eq_true rfl) ?_
  refine GV.mono h (fun t1_ h => ?_)
  refine aw_aload_n (q := 13) (j := 0) rfl rfl rfl (List.mem_of_getElem? (i := 0) rfl) ?_
  refine aw_iconst (q := 14) (v := 0) rfl rfl (by decide) ?_
  refine ag_putI (q := 17) rfl rfl fl_Teller_35 rfl rfl (SX.o (SX.gro hS rfl) rfl) ?_
  replace h := h _ rfl
  refine aw_aload_n (q := 18) (j := 0) rfl rfl rfl (List.mem_of_getElem? (i := 0) rfl) ?_
  refine aw_iconst (q := 19) (v := 0) rfl rfl (by decide) ?_
  refine ag_putI (q := 22) rfl rfl fl_Teller_39 rfl rfl (SX.o (SX.gro hS rfl) rfl) ?_
  replace h := h _ rfl
  refine aw_aload_n (q := 23) (j := 0) rfl rfl rfl (List.mem_of_getElem? (i := 0) rfl) ?_
  refine aw_iconst (q := 24) (v := 0) rfl rfl (by decide) ?_
  refine ag_putI (q := 27) rfl rfl fl_Teller_42 rfl rfl (SX.o (SX.gro hS rfl) rfl) ?_
  replace h := h _ rfl
  refine aw_iconst (q := 28) (v := 0) rfl rfl (by decide) ?_
  refine aw_istore_n (q := 29) (j := 2) (ls' := [(2, .int _), (0, .ref _), (1, .ref _)]) rfl rfl rfl (by decide) rfl ?_
  refine aw_ls [1, 2, 0] rfl ?_
  exact h
set_option maxRecDepth 20000 in
theorem v_Teller_fillTell_183 {E : EN} {g : GS} {s : MS} {Q : Option Value → SG → Prop} (x1 : Int32) (hS : SX g) (h : (((s.1 24 7) = 0 → (∀ s1_, s1_ = wi s 24 6 ((s.1 24 6) + 1) → AWP E m_Teller_fillTell 200 0 0 [(0, .ref 24), (1, .int x1)] [] (mk g s1_) Q)) ∧ (¬ (s.1 24 7) = 0 → AWP E m_Teller_fillTell 200 0 0 [(0, .ref 24), (1, .int x1)] [] (mk g s) Q))) : AWP E m_Teller_fillTell 183 0 0 [(0, .ref 24), (1, .int x1)] [] (mk g s) Q := by
  refine aw_aload_n (q := 184) (j := 0) rfl rfl rfl (List.mem_of_getElem? (i := 0) rfl) ?_
  refine ag_getI (q := 187) rfl rfl fl_Teller_42 rfl (SX.o hS rfl) ?_
  refine aw_if_ne (q := 190) (tgt := 200) rfl rfl (by decide) ⟨fun cd_1 => ?_, fun cd_1 => ?_⟩
  · replace h := h.1 cd_1
    refine aw_aload_n (q := 191) (j := 0) rfl rfl rfl (List.mem_of_getElem? (i := 0) rfl) ?_
    refine aw_dup (q := 192) rfl rfl rfl ?_
    refine ag_getI (q := 195) rfl rfl fl_Teller_39 rfl (SX.o hS rfl) ?_
    refine aw_iconst (q := 196) (v := 1) rfl rfl (by decide) ?_
    refine aw_iadd (q := 197) rfl rfl ?_
    refine ag_putI (q := 200) rfl rfl fl_Teller_39 rfl rfl (SX.o hS rfl) ?_
    replace h := h _ rfl
    refine aw_ls [0, 1] rfl ?_
    exact h
  · replace h := h.2 cd_1
    refine aw_ls [0, 1] rfl ?_
    exact h
set_option maxRecDepth 20000 in
theorem v_Teller_fillTell_200 {E : EN} {g : GS} {s : MS} {Q : Option Value → SG → Prop} (x1 : Int32) (h : Q none (mk g s)) : AWP E m_Teller_fillTell 200 0 0 [(0, .ref 24), (1, .int x1)] [] (mk g s) Q := by
  exact aw_return rfl rfl (by decide) (by decide) h
set_option maxRecDepth 20000 in
theorem v_Teller_fillTell {E : EN} {g : GS} {s : MS} {Q : Option Value → SG → Prop} (t : Nat) (hS : SX g) (et : t = 88 ∨ t = 104) (hy : g.2.2 24 4 = some 18) (hx : g.2.2 24 5 = some t) (h : GI E m_Tokens_kindOf [.ref 18, .int (s.1 24 6)] g s (fun y1_ t1_ => (∀ s2_, s2_ = wi t1_ 24 6 ((t1_.1 24 6) + 1) → ((y1_ < 4 ∨ 13 < y1_ → GI E m_Laws_write [.ref (t + 11), .ref 18, .int ((t1_.1 24 6) + 1), .int (y1_ - 7)] g s2_ (fun y3_ t3_ => (∀ s4_, s4_ = wi t3_ 24 6 y3_ → AWP E m_Teller_fillTell 183 0 0 [(0, .ref 24), (1, .int y1_)] [] (mk g s4_) Q))) ∧ (y1_ = 4 → GV E m_Teller_fillGrain [.ref 24] g s2_ (fun t5_ => AWP E m_Teller_fillTell 183 0 0 [(0, .ref 24), (1, .int y1_)] [] (mk g t5_) Q)) ∧ (y1_ = 5 → GV E m_Teller_fillHole [.ref 24] g s2_ (fun t6_ => AWP E m_Teller_fillTell 183 0 0 [(0, .ref 24), (1, .int y1_)] [] (mk g t6_) Q)) ∧ (y1_ = 6 → GV E m_Teller_fillRat [.ref 24] g s2_ (fun t7_ => AWP E m_Teller_fillTell 183 0 0 [(0, .ref 24), (1, .int y1_)] [] (mk g t7_) Q)) ∧ (y1_ = 7 → GI E m_Laws_write [.ref (t + 11), .ref 18, .int ((t1_.1 24 6) + 1), .int (y1_ - 7)] g s2_ (fun y8_ t8_ => (∀ s9_, s9_ = wi t8_ 24 6 y8_ → AWP E m_Teller_fillTell 183 0 0 [(0, .ref 24), (1, .int y1_)] [] (mk g s9_) Q))) ∧ (y1_ = 8 → GI E m_Laws_write [.ref (t + 11), .ref 18, .int ((t1_.1 24 6) + 1), .int (y1_ - 7)] g s2_ (fun y10_ t10_ => (∀ s11_, s11_ = wi t10_ 24 6 y10_ → AWP E m_Teller_fillTell 183 0 0 [(0, .ref 24), (1, .int y1_)] [] (mk g s11_) Q))) ∧ (y1_ = 9 → GI E m_Laws_write [.ref (t + 11), .ref 18, .int ((t1_.1 24 6) + 1), .int (y1_ - 7)] g s2_ (fun y12_ t12_ => (∀ s13_, s13_ = wi t12_ 24 6 y12_ → AWP E m_Teller_fillTell 183 0 0 [(0, .ref 24), (1, .int y1_)] [] (mk g s13_) Q))) ∧ (y1_ = 10 → GV E m_Teller_fillMerchant [.ref 24] g s2_ (fun t14_ => AWP E m_Teller_fillTell 183 0 0 [(0, .ref 24), (1, .int y1_)] [] (mk g t14_) Q)) ∧ (y1_ = 11 → GI E m_Teller_takeNumber [.ref 24, .int 0, .int 9999] g s2_ (fun y15_ t15_ => (∀ s16_, s16_ = wi t15_ t 15 y15_ → AWP E m_Teller_fillTell 183 0 0 [(0, .ref 24), (1, .int y1_)] [] (mk g s16_) Q))) ∧ (y1_ = 12 → GI E m_Teller_takeNumber [.ref 24, .int 1, .int 99] g s2_ (fun y17_ t17_ => (∀ s18_, s18_ = wi t17_ t 16 y17_ → AWP E m_Teller_fillTell 183 0 0 [(0, .ref 24), (1, .int y1_)] [] (mk g s18_) Q))) ∧ (y1_ = 13 → GI E m_Teller_takeNumber [.ref 24, .int 0, .int 9999] g s2_ (fun y19_ t19_ => (∀ s20_, s20_ = wi t19_ t 17 y19_ → AWP E m_Teller_fillTell 183 0 0 [(0, .ref 24), (1, .int y1_)] [] (mk g s20_) Q))))))) : AMet E m_Teller_fillTell [.ref 24] (mk g s) Q := by
  refine AMet.of (by decide) k_Teller_fillTell [(0, .ref 24)] (Nat.le_of_ble_eq_true rfl) rfl ?_
  refine aw_aload_n (q := 1) (j := 0) rfl rfl rfl (List.mem_of_getElem? (i := 0) rfl) ?_
  refine ag_getR (q := 4) rfl rfl fl_Teller_22 rfl (SX.o hS rfl) hy ?_
  refine aw_aload_n (q := 5) (j := 0) rfl rfl rfl (List.mem_of_getElem? (i := 0) rfl) ?_
  refine ag_getI (q := 8) rfl rfl fl_Teller_39 rfl (SX.o hS rfl) ?_
  refine ag_cvI (z := m_Tokens_kindOf) (ci := 9) (av := [.int _]) (st := []) (q := 11) (k' := 0) (n' := 0) rfl rfl cv_Teller_53 ⟨by decide, by decide⟩ rfl rfl (by decide) (by decide) (SX.o hS rfl) rfl rfl rfl (Nat.le_of_ble_eq_true rfl) ?_
  refine GI.mono h (fun y1_ t1_ h => ?_)
  refine aw_istore_n (q := 12) (j := 1) (ls' := [(1, .int _), (0, .ref _)]) rfl rfl rfl (by decide) rfl ?_
  refine aw_aload_n (q := 13) (j := 0) rfl rfl rfl (List.mem_of_getElem? (i := 1) rfl) ?_
  refine aw_dup (q := 14) rfl rfl rfl ?_
  refine ag_getI (q := 17) rfl rfl fl_Teller_39 rfl (SX.o hS rfl) ?_
  refine aw_iconst (q := 18) (v := 1) rfl rfl (by decide) ?_
  refine aw_iadd (q := 19) rfl rfl ?_
  refine ag_putI (q := 22) rfl rfl fl_Teller_39 rfl rfl (SX.o hS rfl) ?_
  replace h := h _ rfl
  refine aw_iload_n (q := 23) (j := 1) rfl rfl rfl (List.mem_of_getElem? (i := 0) rfl) ?_
  by_cases cd_1 : y1_ < 4 ∨ 13 < y1_
  · replace h := h.1 cd_1
    refine aw_tableLt (tgt := 157) rfl (a := 4) (b := 13) (by decide) (by decide) cd_1 (by decide) ?_
    refine aw_aload_n (q := 158) (j := 0) rfl rfl rfl (List.mem_of_getElem? (i := 1) rfl) ?_
    refine aw_aload_n (q := 159) (j := 0) rfl rfl rfl (List.mem_of_getElem? (i := 1) rfl) ?_
    refine ag_getR (q := 162) rfl rfl fl_Teller_26 rfl (SX.o hS rfl) hx ?_
    refine ag_getR (q := 165) rfl rfl fl_Teller_82 rfl (TS.o (TS.of hS et)) (TS.r10 (TS.of hS et)) ?_
    refine aw_aload_n (q := 166) (j := 0) rfl rfl rfl (List.mem_of_getElem? (i := 1) rfl) ?_
    refine ag_getR (q := 169) rfl rfl fl_Teller_22 rfl (SX.o hS rfl) hy ?_
    refine aw_aload_n (q := 170) (j := 0) rfl rfl rfl (List.mem_of_getElem? (i := 1) rfl) ?_
    refine ag_getI (q := 173) rfl rfl fl_Teller_39 rfl (SX.o hS rfl) ?_
    refine aw_iload_n (q := 174) (j := 1) rfl rfl rfl (List.mem_of_getElem? (i := 0) rfl) ?_
    refine aw_bipush (q := 176) (v := 7) rfl rfl (by decide) ?_
    refine aw_isub (q := 177) rfl rfl ?_
    refine ag_cvI (z := m_Laws_write) (ci := 3) (av := [.ref _, .int _, .int _]) (st := [.ref _]) (q := 180) (k' := 0) (n' := 0) rfl rfl cv_Teller_86 ⟨by decide, by decide⟩ rfl rfl (by decide) (by decide) (LW.o (TS.l (TS.of hS et))) rfl rfl rfl (Nat.le_of_ble_eq_true rfl) ?_
    refine GI.mono h (fun y3_ t3_ h => ?_)
    refine ag_putI (q := 183) rfl rfl fl_Teller_39 rfl rfl (SX.o hS rfl) ?_
    replace h := h _ rfl
    refine aw_ls [1, 0] rfl ?_
    exact h
  · obtain ⟨jd_2, hjd_2, ejd_2⟩ := sw_cases 9 13 (fun q => cd_1 (Or.inl q)) (fun q => cd_1 (Or.inr q)) (by decide)
    replace h := h.2
    match jd_2, hjd_2, ejd_2 with
    | 0, _, e => 
      have e : y1_ = 4 := Int32.toInt_inj.mp (e.trans (by decide))
      replace h := h.1 e
      refine aw_tableEq (tgt := 76) rfl e (by decide) (by decide) rfl (by decide) ?_
      refine aw_aload_n (q := 77) (j := 0) rfl rfl rfl (List.mem_of_getElem? (i := 1) rfl) ?_
      refine ag_cvV (z := m_Teller_fillGrain) (ci := 7) (av := []) (st := []) (q := 80) (k' := 0) (n' := 0) rfl rfl cv_Teller_57 ⟨by decide, by decide⟩ rfl rfl (by decide) (by decide) (SX.o hS rfl) rfl rfl rfl (Nat.le_of_ble_eq_true rfl) ?_
      refine GV.mono h (fun t5_ h => ?_)
      refine aw_goto (tgt := 183) rfl (by decide) ?_
      refine aw_ls [1, 0] rfl ?_
      exact h
    | 1, _, e => 
      have e : y1_ = 5 := Int32.toInt_inj.mp (e.trans (by decide))
      replace h := h.2.1 e
      refine aw_tableEq (tgt := 83) rfl e (by decide) (by decide) rfl (by decide) ?_
      refine aw_aload_n (q := 84) (j := 0) rfl rfl rfl (List.mem_of_getElem? (i := 1) rfl) ?_
      refine ag_cvV (z := m_Teller_fillHole) (ci := 7) (av := []) (st := []) (q := 87) (k' := 0) (n' := 0) rfl rfl cv_Teller_60 ⟨by decide, by decide⟩ rfl rfl (by decide) (by decide) (SX.o hS rfl) rfl rfl rfl (Nat.le_of_ble_eq_true rfl) ?_
      refine GV.mono h (fun t6_ h => ?_)
      refine aw_goto (tgt := 183) rfl (by decide) ?_
      refine aw_ls [1, 0] rfl ?_
      exact h
    | 2, _, e => 
      have e : y1_ = 6 := Int32.toInt_inj.mp (e.trans (by decide))
      replace h := h.2.2.1 e
      refine aw_tableEq (tgt := 90) rfl e (by decide) (by decide) rfl (by decide) ?_
      refine aw_aload_n (q := 91) (j := 0) rfl rfl rfl (List.mem_of_getElem? (i := 1) rfl) ?_
      refine ag_cvV (z := m_Teller_fillRat) (ci := 7) (av := []) (st := []) (q := 94) (k' := 0) (n' := 0) rfl rfl cv_Teller_63 ⟨by decide, by decide⟩ rfl rfl (by decide) (by decide) (SX.o hS rfl) rfl rfl rfl (Nat.le_of_ble_eq_true rfl) ?_
      refine GV.mono h (fun t7_ h => ?_)
      refine aw_goto (tgt := 183) rfl (by decide) ?_
      refine aw_ls [1, 0] rfl ?_
      exact h
    | 3, _, e => 
      have e : y1_ = 7 := Int32.toInt_inj.mp (e.trans (by decide))
      replace h := h.2.2.2.1 e
      refine aw_tableEq (tgt := 157) rfl e (by decide) (by decide) rfl (by decide) ?_
      refine aw_aload_n (q := 158) (j := 0) rfl rfl rfl (List.mem_of_getElem? (i := 1) rfl) ?_
      refine aw_aload_n (q := 159) (j := 0) rfl rfl rfl (List.mem_of_getElem? (i := 1) rfl) ?_
      refine ag_getR (q := 162) rfl rfl fl_Teller_26 rfl (SX.o hS rfl) hx ?_
      refine ag_getR (q := 165) rfl rfl fl_Teller_82 rfl (TS.o (TS.of hS et)) (TS.r10 (TS.of hS et)) ?_
      refine aw_aload_n (q := 166) (j := 0) rfl rfl rfl (List.mem_of_getElem? (i := 1) rfl) ?_
      refine ag_getR (q := 169) rfl rfl fl_Teller_22 rfl (SX.o hS rfl) hy ?_
      refine aw_aload_n (q := 170) (j := 0) rfl rfl rfl (List.mem_of_getElem? (i := 1) rfl) ?_
      refine ag_getI (q := 173) rfl rfl fl_Teller_39 rfl (SX.o hS rfl) ?_
      refine aw_iload_n (q := 174) (j := 1) rfl rfl rfl (List.mem_of_getElem? (i := 0) rfl) ?_
      refine aw_bipush (q := 176) (v := 7) rfl rfl (by decide) ?_
      refine aw_isub (q := 177) rfl rfl ?_
      refine ag_cvI (z := m_Laws_write) (ci := 3) (av := [.ref _, .int _, .int _]) (st := [.ref _]) (q := 180) (k' := 0) (n' := 0) rfl rfl cv_Teller_86 ⟨by decide, by decide⟩ rfl rfl (by decide) (by decide) (LW.o (TS.l (TS.of hS et))) rfl rfl rfl (Nat.le_of_ble_eq_true rfl) ?_
      refine GI.mono h (fun y8_ t8_ h => ?_)
      refine ag_putI (q := 183) rfl rfl fl_Teller_39 rfl rfl (SX.o hS rfl) ?_
      replace h := h _ rfl
      refine aw_ls [1, 0] rfl ?_
      exact h
    | 4, _, e => 
      have e : y1_ = 8 := Int32.toInt_inj.mp (e.trans (by decide))
      replace h := h.2.2.2.2.1 e
      refine aw_tableEq (tgt := 157) rfl e (by decide) (by decide) rfl (by decide) ?_
      refine aw_aload_n (q := 158) (j := 0) rfl rfl rfl (List.mem_of_getElem? (i := 1) rfl) ?_
      refine aw_aload_n (q := 159) (j := 0) rfl rfl rfl (List.mem_of_getElem? (i := 1) rfl) ?_
      refine ag_getR (q := 162) rfl rfl fl_Teller_26 rfl (SX.o hS rfl) hx ?_
      refine ag_getR (q := 165) rfl rfl fl_Teller_82 rfl (TS.o (TS.of hS et)) (TS.r10 (TS.of hS et)) ?_
      refine aw_aload_n (q := 166) (j := 0) rfl rfl rfl (List.mem_of_getElem? (i := 1) rfl) ?_
      refine ag_getR (q := 169) rfl rfl fl_Teller_22 rfl (SX.o hS rfl) hy ?_
      refine aw_aload_n (q := 170) (j := 0) rfl rfl rfl (List.mem_of_getElem? (i := 1) rfl) ?_
      refine ag_getI (q := 173) rfl rfl fl_Teller_39 rfl (SX.o hS rfl) ?_
      refine aw_iload_n (q := 174) (j := 1) rfl rfl rfl (List.mem_of_getElem? (i := 0) rfl) ?_
      refine aw_bipush (q := 176) (v := 7) rfl rfl (by decide) ?_
      refine aw_isub (q := 177) rfl rfl ?_
      refine ag_cvI (z := m_Laws_write) (ci := 3) (av := [.ref _, .int _, .int _]) (st := [.ref _]) (q := 180) (k' := 0) (n' := 0) rfl rfl cv_Teller_86 ⟨by decide, by decide⟩ rfl rfl (by decide) (by decide) (LW.o (TS.l (TS.of hS et))) rfl rfl rfl (Nat.le_of_ble_eq_true rfl) ?_
      refine GI.mono h (fun y10_ t10_ h => ?_)
      refine ag_putI (q := 183) rfl rfl fl_Teller_39 rfl rfl (SX.o hS rfl) ?_
      replace h := h _ rfl
      refine aw_ls [1, 0] rfl ?_
      exact h
    | 5, _, e => 
      have e : y1_ = 9 := Int32.toInt_inj.mp (e.trans (by decide))
      replace h := h.2.2.2.2.2.1 e
      refine aw_tableEq (tgt := 157) rfl e (by decide) (by decide) rfl (by decide) ?_
      refine aw_aload_n (q := 158) (j := 0) rfl rfl rfl (List.mem_of_getElem? (i := 1) rfl) ?_
      refine aw_aload_n (q := 159) (j := 0) rfl rfl rfl (List.mem_of_getElem? (i := 1) rfl) ?_
      refine ag_getR (q := 162) rfl rfl fl_Teller_26 rfl (SX.o hS rfl) hx ?_
      refine ag_getR (q := 165) rfl rfl fl_Teller_82 rfl (TS.o (TS.of hS et)) (TS.r10 (TS.of hS et)) ?_
      refine aw_aload_n (q := 166) (j := 0) rfl rfl rfl (List.mem_of_getElem? (i := 1) rfl) ?_
      refine ag_getR (q := 169) rfl rfl fl_Teller_22 rfl (SX.o hS rfl) hy ?_
      refine aw_aload_n (q := 170) (j := 0) rfl rfl rfl (List.mem_of_getElem? (i := 1) rfl) ?_
      refine ag_getI (q := 173) rfl rfl fl_Teller_39 rfl (SX.o hS rfl) ?_
      refine aw_iload_n (q := 174) (j := 1) rfl rfl rfl (List.mem_of_getElem? (i := 0) rfl) ?_
      refine aw_bipush (q := 176) (v := 7) rfl rfl (by decide) ?_
      refine aw_isub (q := 177) rfl rfl ?_
      refine ag_cvI (z := m_Laws_write) (ci := 3) (av := [.ref _, .int _, .int _]) (st := [.ref _]) (q := 180) (k' := 0) (n' := 0) rfl rfl cv_Teller_86 ⟨by decide, by decide⟩ rfl rfl (by decide) (by decide) (LW.o (TS.l (TS.of hS et))) rfl rfl rfl (Nat.le_of_ble_eq_true rfl) ?_
      refine GI.mono h (fun y12_ t12_ h => ?_)
      refine ag_putI (q := 183) rfl rfl fl_Teller_39 rfl rfl (SX.o hS rfl) ?_
      replace h := h _ rfl
      refine aw_ls [1, 0] rfl ?_
      exact h
    | 6, _, e => 
      have e : y1_ = 10 := Int32.toInt_inj.mp (e.trans (by decide))
      replace h := h.2.2.2.2.2.2.1 e
      refine aw_tableEq (tgt := 97) rfl e (by decide) (by decide) rfl (by decide) ?_
      refine aw_aload_n (q := 98) (j := 0) rfl rfl rfl (List.mem_of_getElem? (i := 1) rfl) ?_
      refine ag_cvV (z := m_Teller_fillMerchant) (ci := 7) (av := []) (st := []) (q := 101) (k' := 0) (n' := 0) rfl rfl cv_Teller_66 ⟨by decide, by decide⟩ rfl rfl (by decide) (by decide) (SX.o hS rfl) rfl rfl rfl (Nat.le_of_ble_eq_true rfl) ?_
      refine GV.mono h (fun t14_ h => ?_)
      refine aw_goto (tgt := 183) rfl (by decide) ?_
      refine aw_ls [1, 0] rfl ?_
      exact h
    | 7, _, e => 
      have e : y1_ = 11 := Int32.toInt_inj.mp (e.trans (by decide))
      replace h := h.2.2.2.2.2.2.2.1 e
      refine aw_tableEq (tgt := 104) rfl e (by decide) (by decide) rfl (by decide) ?_
      refine aw_aload_n (q := 105) (j := 0) rfl rfl rfl (List.mem_of_getElem? (i := 1) rfl) ?_
      refine ag_getR (q := 108) rfl rfl fl_Teller_26 rfl (SX.o hS rfl) hx ?_
      refine aw_aload_n (q := 109) (j := 0) rfl rfl rfl (List.mem_of_getElem? (i := 1) rfl) ?_
      refine aw_iconst (q := 110) (v := 0) rfl rfl (by decide) ?_
      refine aw_sipush (q := 113) (v := 9999) rfl rfl (by decide) ?_
      refine ag_cvI (z := m_Teller_takeNumber) (ci := 7) (av := [.int _, .int _]) (st := [.ref _]) (q := 116) (k' := 0) (n' := 0) rfl rfl cv_Teller_69 ⟨by decide, by decide⟩ rfl rfl (by decide) (by decide) (SX.o hS rfl) rfl rfl rfl (Nat.le_of_ble_eq_true rfl) ?_
      refine GI.mono h (fun y15_ t15_ h => ?_)
      refine ag_putI (q := 119) rfl rfl fl_Teller_73 rfl rfl (TS.o (TS.of hS et)) ?_
      replace h := h _ rfl
      refine aw_goto (tgt := 183) rfl (by decide) ?_
      refine aw_ls [1, 0] rfl ?_
      exact h
    | 8, _, e => 
      have e : y1_ = 12 := Int32.toInt_inj.mp (e.trans (by decide))
      replace h := h.2.2.2.2.2.2.2.2.1 e
      refine aw_tableEq (tgt := 122) rfl e (by decide) (by decide) rfl (by decide) ?_
      refine aw_aload_n (q := 123) (j := 0) rfl rfl rfl (List.mem_of_getElem? (i := 1) rfl) ?_
      refine ag_getR (q := 126) rfl rfl fl_Teller_26 rfl (SX.o hS rfl) hx ?_
      refine aw_aload_n (q := 127) (j := 0) rfl rfl rfl (List.mem_of_getElem? (i := 1) rfl) ?_
      refine aw_iconst (q := 128) (v := 1) rfl rfl (by decide) ?_
      refine aw_bipush (q := 130) (v := 99) rfl rfl (by decide) ?_
      refine ag_cvI (z := m_Teller_takeNumber) (ci := 7) (av := [.int _, .int _]) (st := [.ref _]) (q := 133) (k' := 0) (n' := 0) rfl rfl cv_Teller_69 ⟨by decide, by decide⟩ rfl rfl (by decide) (by decide) (SX.o hS rfl) rfl rfl rfl (Nat.le_of_ble_eq_true rfl) ?_
      refine GI.mono h (fun y17_ t17_ h => ?_)
      refine ag_putI (q := 136) rfl rfl fl_Teller_76 rfl rfl (TS.o (TS.of hS et)) ?_
      replace h := h _ rfl
      refine aw_goto (tgt := 183) rfl (by decide) ?_
      refine aw_ls [1, 0] rfl ?_
      exact h
    | 9, _, e => 
      have e : y1_ = 13 := Int32.toInt_inj.mp (e.trans (by decide))
      replace h := h.2.2.2.2.2.2.2.2.2 e
      refine aw_tableEq (tgt := 139) rfl e (by decide) (by decide) rfl (by decide) ?_
      refine aw_aload_n (q := 140) (j := 0) rfl rfl rfl (List.mem_of_getElem? (i := 1) rfl) ?_
      refine ag_getR (q := 143) rfl rfl fl_Teller_26 rfl (SX.o hS rfl) hx ?_
      refine aw_aload_n (q := 144) (j := 0) rfl rfl rfl (List.mem_of_getElem? (i := 1) rfl) ?_
      refine aw_iconst (q := 145) (v := 0) rfl rfl (by decide) ?_
      refine aw_sipush (q := 148) (v := 9999) rfl rfl (by decide) ?_
      refine ag_cvI (z := m_Teller_takeNumber) (ci := 7) (av := [.int _, .int _]) (st := [.ref _]) (q := 151) (k' := 0) (n' := 0) rfl rfl cv_Teller_69 ⟨by decide, by decide⟩ rfl rfl (by decide) (by decide) (SX.o hS rfl) rfl rfl rfl (Nat.le_of_ble_eq_true rfl) ?_
      refine GI.mono h (fun y19_ t19_ h => ?_)
      refine ag_putI (q := 154) rfl rfl fl_Teller_79 rfl rfl (TS.o (TS.of hS et)) ?_
      replace h := h _ rfl
      refine aw_goto (tgt := 183) rfl (by decide) ?_
      refine aw_ls [1, 0] rfl ?_
      exact h
    | j + 10, hj, _ => exact absurd hj (by omega)
set_option maxRecDepth 20000 in
theorem v_Teller_fillGrain {E : EN} {g : GS} {s : MS} {Q : Option Value → SG → Prop} (t : Nat) (hS : SX g) (et : t = 88 ∨ t = 104) (hx : g.2.2 24 5 = some t) (h : (((s.1 t 11) < 6 → GV E m_Teller_takeNewName [.ref 24, .int 4, .int (s.1 t 11)] g s (fun t1_ => GI E m_Teller_takeNumber [.ref 24, .int 0, .int 9999] g t1_ (fun y2_ t2_ => vp_in (s.1 t 11) 6 ∧ (∀ s3_, s3_ = wi t2_ (t + 1) (((s.1 t 11)).toNatClampNeg) y2_ → GI E m_Teller_takeNumber [.ref 24, .int 0, .int 99] g s3_ (fun y4_ t4_ => (∀ s5_, s5_ = wi t4_ (t + 2) (((s.1 t 11)).toNatClampNeg) y4_ → (∀ s6_, s6_ = wi s5_ t 11 ((s5_.1 t 11) + 1) → Q none (mk g s6_)))))))) ∧ (¬ (s.1 t 11) < 6 → Q none (mk g s)))) : AMet E m_Teller_fillGrain [.ref 24] (mk g s) Q := by
  refine AMet.of (by decide) k_Teller_fillGrain [(0, .ref 24)] (Nat.le_of_ble_eq_true rfl) rfl ?_
  refine aw_aload_n (q := 1) (j := 0) rfl rfl rfl (List.mem_of_getElem? (i := 0) rfl) ?_
  refine ag_getR (q := 4) rfl rfl fl_Teller_26 rfl (SX.o hS rfl) hx ?_
  refine ag_getI (q := 7) rfl rfl fl_Teller_92 rfl (TS.o (TS.of hS et)) ?_
  refine aw_istore_n (q := 8) (j := 1) (ls' := [(1, .int _), (0, .ref _)]) rfl rfl rfl (by decide) rfl ?_
  refine aw_iload_n (q := 9) (j := 1) rfl rfl rfl (List.mem_of_getElem? (i := 0) rfl) ?_
  refine aw_bipush (q := 11) (v := 6) rfl rfl (by decide) ?_
  refine aw_icmp_lt (q := 14) (tgt := 15) rfl rfl (by decide) ⟨fun cd_1 => ?_, fun cd_1 => ?_⟩
  · replace h := h.1 cd_1
    refine aw_aload_n (q := 16) (j := 0) rfl rfl rfl (List.mem_of_getElem? (i := 1) rfl) ?_
    refine aw_iconst (q := 17) (v := 4) rfl rfl (by decide) ?_
    refine aw_iload_n (q := 18) (j := 1) rfl rfl rfl (List.mem_of_getElem? (i := 0) rfl) ?_
    refine ag_cvV (z := m_Teller_takeNewName) (ci := 7) (av := [.int _, .int _]) (st := []) (q := 21) (k' := 0) (n' := 0) rfl rfl cv_Teller_95 ⟨by decide, by decide⟩ rfl rfl (by decide) (by decide) (SX.o hS rfl) rfl rfl rfl (Nat.le_of_ble_eq_true rfl) ?_
    refine GV.mono h (fun t1_ h => ?_)
    refine aw_aload_n (q := 22) (j := 0) rfl rfl rfl (List.mem_of_getElem? (i := 1) rfl) ?_
    refine ag_getR (q := 25) rfl rfl fl_Teller_26 rfl (SX.o hS rfl) hx ?_
    refine ag_getR (q := 28) rfl rfl fl_Teller_99 rfl (TS.o (TS.of hS et)) (TS.r0 (TS.of hS et)) ?_
    refine aw_iload_n (q := 29) (j := 1) rfl rfl rfl (List.mem_of_getElem? (i := 0) rfl) ?_
    refine aw_aload_n (q := 30) (j := 0) rfl rfl rfl (List.mem_of_getElem? (i := 1) rfl) ?_
    refine aw_iconst (q := 31) (v := 0) rfl rfl (by decide) ?_
    refine aw_sipush (q := 34) (v := 9999) rfl rfl (by decide) ?_
    refine ag_cvI (z := m_Teller_takeNumber) (ci := 7) (av := [.int _, .int _]) (st := [.int _, .ref _]) (q := 37) (k' := 0) (n' := 0) rfl rfl cv_Teller_69 ⟨by decide, by decide⟩ rfl rfl (by decide) (by decide) (SX.o hS rfl) rfl rfl rfl (Nat.le_of_ble_eq_true rfl) ?_
    refine GI.mono h (fun y2_ t2_ h => ?_)
    obtain ⟨bd_2, h⟩ := h
    refine ag_iastore (q := 38) (N := 6) rfl rfl (TS.a0 (TS.of hS et)) bd_2 ?_
    replace h := h _ rfl
    refine aw_aload_n (q := 39) (j := 0) rfl rfl rfl (List.mem_of_getElem? (i := 1) rfl) ?_
    refine ag_getR (q := 42) rfl rfl fl_Teller_26 rfl (SX.o hS rfl) hx ?_
    refine ag_getR (q := 45) rfl rfl fl_Teller_102 rfl (TS.o (TS.of hS et)) (TS.r1 (TS.of hS et)) ?_
    refine aw_iload_n (q := 46) (j := 1) rfl rfl rfl (List.mem_of_getElem? (i := 0) rfl) ?_
    refine aw_aload_n (q := 47) (j := 0) rfl rfl rfl (List.mem_of_getElem? (i := 1) rfl) ?_
    refine aw_iconst (q := 48) (v := 0) rfl rfl (by decide) ?_
    refine aw_bipush (q := 50) (v := 99) rfl rfl (by decide) ?_
    refine ag_cvI (z := m_Teller_takeNumber) (ci := 7) (av := [.int _, .int _]) (st := [.int _, .ref _]) (q := 53) (k' := 0) (n' := 0) rfl rfl cv_Teller_69 ⟨by decide, by decide⟩ rfl rfl (by decide) (by decide) (SX.o hS rfl) rfl rfl rfl (Nat.le_of_ble_eq_true rfl) ?_
    refine GI.mono h (fun y4_ t4_ h => ?_)
    refine ag_iastore (q := 54) (N := 6) rfl rfl (TS.a1 (TS.of hS et)) bd_2 ?_
    replace h := h _ rfl
    refine aw_aload_n (q := 55) (j := 0) rfl rfl rfl (List.mem_of_getElem? (i := 1) rfl) ?_
    refine ag_getR (q := 58) rfl rfl fl_Teller_26 rfl (SX.o hS rfl) hx ?_
    refine aw_dup (q := 59) rfl rfl rfl ?_
    refine ag_getI (q := 62) rfl rfl fl_Teller_92 rfl (TS.o (TS.of hS et)) ?_
    refine aw_iconst (q := 63) (v := 1) rfl rfl (by decide) ?_
    refine aw_iadd (q := 64) rfl rfl ?_
    refine ag_putI (q := 67) rfl rfl fl_Teller_92 rfl rfl (TS.o (TS.of hS et)) ?_
    replace h := h _ rfl
    exact aw_return rfl rfl (by decide) (by decide) h
  · replace h := h.2 cd_1
    exact aw_return rfl rfl (by decide) (by decide) h
set_option maxRecDepth 20000 in
theorem v_Teller_takeNewName_33 {E : EN} {g : GS} {s : MS} {Q : Option Value → SG → Prop} (x1 : Int32) (x2 : Int32) (x3 : Int32) (hS : SX g) (hy : g.2.2 24 4 = some 18) (h : (((s.1 24 3) ≤ x3 → vp_in (s.1 24 6) 402 ∧ vp_in (s.1 24 3) 20 ∧ (∀ s1_, s1_ = wl s 25 (((s.1 24 3)).toNatClampNeg) (s.2 21 (((s.1 24 6)).toNatClampNeg)) → (∀ s2_, s2_ = wi s1_ 26 (((s.1 24 3)).toNatClampNeg) x1 → (∀ s3_, s3_ = wi s2_ 27 (((s.1 24 3)).toNatClampNeg) x2 → (∀ s4_, s4_ = wi s3_ 24 3 ((s.1 24 3) + 1) → (∀ s5_, s5_ = wi s4_ 24 6 ((s.1 24 6) + 1) → Q none (mk g s5_))))))) ∧ (¬ (s.1 24 3) ≤ x3 → vp_in x3 20 ∧ vp_in (s.1 24 6) 402 ∧ (((lg_cmp (s.2 25 ((x3).toNatClampNeg)) (s.2 21 (((s.1 24 6)).toNatClampNeg))) = 0 → (∀ s6_, s6_ = wi s 24 7 3 → Q none (mk g s6_))) ∧ (¬ (lg_cmp (s.2 25 ((x3).toNatClampNeg)) (s.2 21 (((s.1 24 6)).toNatClampNeg))) = 0 → AWP E m_Teller_takeNewName 33 0 0 [(0, .ref 24), (1, .int x1), (2, .int x2), (3, .int (x3 + 1))] [] (mk g s) Q))))) : AWP E m_Teller_takeNewName 33 0 0 [(0, .ref 24), (1, .int x1), (2, .int x2), (3, .int x3)] [] (mk g s) Q := by
  refine aw_iload_n (q := 34) (j := 3) rfl rfl rfl (List.mem_of_getElem? (i := 3) rfl) ?_
  refine aw_aload_n (q := 35) (j := 0) rfl rfl rfl (List.mem_of_getElem? (i := 0) rfl) ?_
  refine ag_getI (q := 38) rfl rfl fl_Teller_35 rfl (SX.o hS rfl) ?_
  refine aw_icmp_ge (q := 41) (tgt := 75) rfl rfl (by decide) ⟨fun cd_1 => ?_, fun cd_1 => ?_⟩
  · replace h := h.1 cd_1
    refine aw_aload_n (q := 76) (j := 0) rfl rfl rfl (List.mem_of_getElem? (i := 0) rfl) ?_
    refine ag_getR (q := 79) rfl rfl fl_Teller_11 rfl (SX.o hS rfl) (SX.r hS rfl) ?_
    refine aw_aload_n (q := 80) (j := 0) rfl rfl rfl (List.mem_of_getElem? (i := 0) rfl) ?_
    refine ag_getI (q := 83) rfl rfl fl_Teller_35 rfl (SX.o hS rfl) ?_
    refine aw_aload_n (q := 84) (j := 0) rfl rfl rfl (List.mem_of_getElem? (i := 0) rfl) ?_
    refine ag_getR (q := 87) rfl rfl fl_Teller_22 rfl (SX.o hS rfl) hy ?_
    refine ag_getR (q := 90) rfl rfl fl_Teller_144 rfl (SX.o hS rfl) (SX.r hS rfl) ?_
    refine aw_aload_n (q := 91) (j := 0) rfl rfl rfl (List.mem_of_getElem? (i := 0) rfl) ?_
    refine ag_getI (q := 94) rfl rfl fl_Teller_39 rfl (SX.o hS rfl) ?_
    obtain ⟨bd_2, h⟩ := h
    refine ag_laload (q := 95) (N := 402) rfl rfl (SX.a hS rfl) bd_2 ?_
    obtain ⟨bd_3, h⟩ := h
    refine ag_lastore (q := 96) (N := 20) rfl rfl (SX.a hS rfl) bd_3 ?_
    replace h := h _ rfl
    refine aw_aload_n (q := 97) (j := 0) rfl rfl rfl (List.mem_of_getElem? (i := 0) rfl) ?_
    refine ag_getR (q := 100) rfl rfl fl_Teller_15 rfl (SX.o hS rfl) (SX.r hS rfl) ?_
    refine aw_aload_n (q := 101) (j := 0) rfl rfl rfl (List.mem_of_getElem? (i := 0) rfl) ?_
    refine ag_getI (q := 104) rfl rfl fl_Teller_35 rfl (SX.o hS rfl) ?_
    refine aw_iload_n (q := 105) (j := 1) rfl rfl rfl (List.mem_of_getElem? (i := 1) rfl) ?_
    refine ag_iastore (q := 106) (N := 20) rfl rfl (SX.a hS rfl) bd_3 ?_
    replace h := h _ rfl
    refine aw_aload_n (q := 107) (j := 0) rfl rfl rfl (List.mem_of_getElem? (i := 0) rfl) ?_
    refine ag_getR (q := 110) rfl rfl fl_Teller_19 rfl (SX.o hS rfl) (SX.r hS rfl) ?_
    refine aw_aload_n (q := 111) (j := 0) rfl rfl rfl (List.mem_of_getElem? (i := 0) rfl) ?_
    refine ag_getI (q := 114) rfl rfl fl_Teller_35 rfl (SX.o hS rfl) ?_
    refine aw_iload_n (q := 115) (j := 2) rfl rfl rfl (List.mem_of_getElem? (i := 2) rfl) ?_
    refine ag_iastore (q := 116) (N := 20) rfl rfl (SX.a hS rfl) bd_3 ?_
    replace h := h _ rfl
    refine aw_aload_n (q := 117) (j := 0) rfl rfl rfl (List.mem_of_getElem? (i := 0) rfl) ?_
    refine aw_dup (q := 118) rfl rfl rfl ?_
    refine ag_getI (q := 121) rfl rfl fl_Teller_35 rfl (SX.o hS rfl) ?_
    refine aw_iconst (q := 122) (v := 1) rfl rfl (by decide) ?_
    refine aw_iadd (q := 123) rfl rfl ?_
    refine ag_putI (q := 126) rfl rfl fl_Teller_35 rfl rfl (SX.o hS rfl) ?_
    replace h := h _ rfl
    refine aw_aload_n (q := 127) (j := 0) rfl rfl rfl (List.mem_of_getElem? (i := 0) rfl) ?_
    refine aw_dup (q := 128) rfl rfl rfl ?_
    refine ag_getI (q := 131) rfl rfl fl_Teller_39 rfl (SX.o hS rfl) ?_
    refine aw_iconst (q := 132) (v := 1) rfl rfl (by decide) ?_
    refine aw_iadd (q := 133) rfl rfl ?_
    refine ag_putI (q := 136) rfl rfl fl_Teller_39 rfl rfl (SX.o hS rfl) ?_
    replace h := h _ rfl
    exact aw_return rfl rfl (by decide) (by decide) h
  · replace h := h.2 cd_1
    refine aw_aload_n (q := 42) (j := 0) rfl rfl rfl (List.mem_of_getElem? (i := 0) rfl) ?_
    refine ag_getR (q := 45) rfl rfl fl_Teller_11 rfl (SX.o hS rfl) (SX.r hS rfl) ?_
    refine aw_iload_n (q := 46) (j := 3) rfl rfl rfl (List.mem_of_getElem? (i := 3) rfl) ?_
    obtain ⟨bd_4, h⟩ := h
    refine ag_laload (q := 47) (N := 20) rfl rfl (SX.a hS rfl) bd_4 ?_
    refine aw_aload_n (q := 48) (j := 0) rfl rfl rfl (List.mem_of_getElem? (i := 0) rfl) ?_
    refine ag_getR (q := 51) rfl rfl fl_Teller_22 rfl (SX.o hS rfl) hy ?_
    refine ag_getR (q := 54) rfl rfl fl_Teller_144 rfl (SX.o hS rfl) (SX.r hS rfl) ?_
    refine aw_aload_n (q := 55) (j := 0) rfl rfl rfl (List.mem_of_getElem? (i := 0) rfl) ?_
    refine ag_getI (q := 58) rfl rfl fl_Teller_39 rfl (SX.o hS rfl) ?_
    obtain ⟨bd_5, h⟩ := h
    refine ag_laload (q := 59) (N := 402) rfl rfl (SX.a hS rfl) bd_5 ?_
    refine aw_lcmp (q := 60) rfl rfl ?_
    refine aw_if_ne (q := 63) (tgt := 69) rfl rfl (by decide) ⟨fun cd_6 => ?_, fun cd_6 => ?_⟩
    · replace h := h.1 cd_6
      refine aw_aload_n (q := 64) (j := 0) rfl rfl rfl (List.mem_of_getElem? (i := 0) rfl) ?_
      refine aw_iconst (q := 65) (v := 3) rfl rfl (by decide) ?_
      refine ag_putI (q := 68) rfl rfl fl_Teller_42 rfl rfl (SX.o hS rfl) ?_
      replace h := h _ rfl
      exact aw_return rfl rfl (by decide) (by decide) h
    · replace h := h.2 cd_6
      refine aw_iinc (q := 72) (v := _ + 1) (ls' := [(3, .int _), (0, .ref _), (1, .int _), (2, .int _)]) rfl rfl (List.mem_of_getElem? (i := 3) rfl) rfl (by decide) rfl ?_
      refine aw_goto (tgt := 33) rfl (by decide) ?_
      refine aw_ls [1, 2, 3, 0] rfl ?_
      exact h
set_option maxRecDepth 20000 in
theorem v_Teller_takeNewName {E : EN} {g : GS} {s : MS} {Q : Option Value → SG → Prop} (x1 : Int32) (x2 : Int32) (hS : SX g) (hy : g.2.2 24 4 = some 18) (h : (((s.1 24 7) = 0 → (((s.1 18 3) ≤ (s.1 24 6) → Q none (mk g s)) ∧ (¬ (s.1 18 3) ≤ (s.1 24 6) → (((s.1 24 3) < 20 → AWP E m_Teller_takeNewName 33 0 0 [(0, .ref 24), (1, .int x1), (2, .int x2), (3, .int 0)] [] (mk g s) Q) ∧ (¬ (s.1 24 3) < 20 → Q none (mk g s)))))) ∧ (¬ (s.1 24 7) = 0 → Q none (mk g s)))) : AMet E m_Teller_takeNewName [.ref 24, .int x1, .int x2] (mk g s) Q := by
  refine AMet.of (by decide) k_Teller_takeNewName [(0, .ref 24), (1, .int x1), (2, .int x2)] (Nat.le_of_ble_eq_true rfl) rfl ?_
  refine aw_aload_n (q := 1) (j := 0) rfl rfl rfl (List.mem_of_getElem? (i := 0) rfl) ?_
  refine ag_getI (q := 4) rfl rfl fl_Teller_42 rfl (SX.o hS rfl) ?_
  refine aw_if_ne (q := 7) (tgt := 30) rfl rfl (by decide) ⟨fun cd_1 => ?_, fun cd_1 => ?_⟩
  · replace h := h.1 cd_1
    refine aw_aload_n (q := 8) (j := 0) rfl rfl rfl (List.mem_of_getElem? (i := 0) rfl) ?_
    refine ag_getI (q := 11) rfl rfl fl_Teller_39 rfl (SX.o hS rfl) ?_
    refine aw_aload_n (q := 12) (j := 0) rfl rfl rfl (List.mem_of_getElem? (i := 0) rfl) ?_
    refine ag_getR (q := 15) rfl rfl fl_Teller_22 rfl (SX.o hS rfl) hy ?_
    refine ag_getI (q := 18) rfl rfl fl_Teller_45 rfl (SX.o hS rfl) ?_
    refine aw_icmp_ge (q := 21) (tgt := 30) rfl rfl (by decide) ⟨fun cd_2 => ?_, fun cd_2 => ?_⟩
    · replace h := h.1 cd_2
      exact aw_return rfl rfl (by decide) (by decide) h
    · replace h := h.2 cd_2
      refine aw_aload_n (q := 22) (j := 0) rfl rfl rfl (List.mem_of_getElem? (i := 0) rfl) ?_
      refine ag_getI (q := 25) rfl rfl fl_Teller_35 rfl (SX.o hS rfl) ?_
      refine aw_bipush (q := 27) (v := 20) rfl rfl (by decide) ?_
      refine aw_icmp_lt (q := 30) (tgt := 31) rfl rfl (by decide) ⟨fun cd_3 => ?_, fun cd_3 => ?_⟩
      · replace h := h.1 cd_3
        refine aw_iconst (q := 32) (v := 0) rfl rfl (by decide) ?_
        refine aw_istore_n (q := 33) (j := 3) (ls' := [(3, .int _), (0, .ref _), (1, .int _), (2, .int _)]) rfl rfl rfl (by decide) rfl ?_
        refine aw_ls [1, 2, 3, 0] rfl ?_
        exact h
      · replace h := h.2 cd_3
        exact aw_return rfl rfl (by decide) (by decide) h
  · replace h := h.2 cd_1
    exact aw_return rfl rfl (by decide) (by decide) h
set_option maxRecDepth 20000 in
theorem v_Teller_takeNumber {E : EN} {g : GS} {s : MS} {Q : Option Value → SG → Prop} (x1 : Int32) (x2 : Int32) (hS : SX g) (hy : g.2.2 24 4 = some 18) (h : (((s.1 24 7) = 0 → (((s.1 24 6) < (s.1 18 3) → vp_in (s.1 24 6) 402 ∧ (((Int64.toInt32 (s.2 21 (((s.1 24 6)).toNatClampNeg))) < x1 → (∀ s1_, s1_ = wi s 24 7 5 → Q (some (.int 0)) (mk g s1_))) ∧ (¬ (Int64.toInt32 (s.2 21 (((s.1 24 6)).toNatClampNeg))) < x1 → (((Int64.toInt32 (s.2 21 (((s.1 24 6)).toNatClampNeg))) ≤ x2 → (∀ s2_, s2_ = wi s 24 6 ((s.1 24 6) + 1) → Q (some (.int (Int64.toInt32 (s.2 21 (((s.1 24 6)).toNatClampNeg))))) (mk g s2_))) ∧ (¬ (Int64.toInt32 (s.2 21 (((s.1 24 6)).toNatClampNeg))) ≤ x2 → (∀ s3_, s3_ = wi s 24 7 5 → Q (some (.int 0)) (mk g s3_))))))) ∧ (¬ (s.1 24 6) < (s.1 18 3) → Q (some (.int 0)) (mk g s)))) ∧ (¬ (s.1 24 7) = 0 → Q (some (.int 0)) (mk g s)))) : AMet E m_Teller_takeNumber [.ref 24, .int x1, .int x2] (mk g s) Q := by
  refine AMet.of (by decide) k_Teller_takeNumber [(0, .ref 24), (1, .int x1), (2, .int x2)] (Nat.le_of_ble_eq_true rfl) rfl ?_
  refine aw_aload_n (q := 1) (j := 0) rfl rfl rfl (List.mem_of_getElem? (i := 0) rfl) ?_
  refine ag_getI (q := 4) rfl rfl fl_Teller_42 rfl (SX.o hS rfl) ?_
  refine aw_if_ne (q := 7) (tgt := 21) rfl rfl (by decide) ⟨fun cd_1 => ?_, fun cd_1 => ?_⟩
  · replace h := h.1 cd_1
    refine aw_aload_n (q := 8) (j := 0) rfl rfl rfl (List.mem_of_getElem? (i := 0) rfl) ?_
    refine ag_getI (q := 11) rfl rfl fl_Teller_39 rfl (SX.o hS rfl) ?_
    refine aw_aload_n (q := 12) (j := 0) rfl rfl rfl (List.mem_of_getElem? (i := 0) rfl) ?_
    refine ag_getR (q := 15) rfl rfl fl_Teller_22 rfl (SX.o hS rfl) hy ?_
    refine ag_getI (q := 18) rfl rfl fl_Teller_45 rfl (SX.o hS rfl) ?_
    refine aw_icmp_lt (q := 21) (tgt := 23) rfl rfl (by decide) ⟨fun cd_2 => ?_, fun cd_2 => ?_⟩
    · replace h := h.1 cd_2
      refine aw_aload_n (q := 24) (j := 0) rfl rfl rfl (List.mem_of_getElem? (i := 0) rfl) ?_
      refine ag_getR (q := 27) rfl rfl fl_Teller_22 rfl (SX.o hS rfl) hy ?_
      refine ag_getR (q := 30) rfl rfl fl_Teller_144 rfl (SX.o hS rfl) (SX.r hS rfl) ?_
      refine aw_aload_n (q := 31) (j := 0) rfl rfl rfl (List.mem_of_getElem? (i := 0) rfl) ?_
      refine ag_getI (q := 34) rfl rfl fl_Teller_39 rfl (SX.o hS rfl) ?_
      obtain ⟨bd_3, h⟩ := h
      refine ag_laload (q := 35) (N := 402) rfl rfl (SX.a hS rfl) bd_3 ?_
      refine aw_l2i (q := 36) rfl rfl ?_
      refine aw_istore_n (q := 37) (j := 3) (ls' := [(3, .int _), (0, .ref _), (1, .int _), (2, .int _)]) rfl rfl rfl (by decide) rfl ?_
      refine aw_iload_n (q := 38) (j := 3) rfl rfl rfl (List.mem_of_getElem? (i := 0) rfl) ?_
      refine aw_iload_n (q := 39) (j := 1) rfl rfl rfl (List.mem_of_getElem? (i := 2) rfl) ?_
      refine aw_icmp_lt (q := 42) (tgt := 47) rfl rfl (by decide) ⟨fun cd_4 => ?_, fun cd_4 => ?_⟩
      · replace h := h.1 cd_4
        refine aw_aload_n (q := 48) (j := 0) rfl rfl rfl (List.mem_of_getElem? (i := 1) rfl) ?_
        refine aw_iconst (q := 49) (v := 5) rfl rfl (by decide) ?_
        refine ag_putI (q := 52) rfl rfl fl_Teller_42 rfl rfl (SX.o hS rfl) ?_
        replace h := h _ rfl
        refine aw_iconst (q := 53) (v := 0) rfl rfl (by decide) ?_
        exact aw_ireturn (ty := .int) rfl rfl rfl (by decide) (by decide) h
      · replace h := h.2 cd_4
        refine aw_iload_n (q := 43) (j := 3) rfl rfl rfl (List.mem_of_getElem? (i := 0) rfl) ?_
        refine aw_iload_n (q := 44) (j := 2) rfl rfl rfl (List.mem_of_getElem? (i := 3) rfl) ?_
        refine aw_icmp_le (q := 47) (tgt := 54) rfl rfl (by decide) ⟨fun cd_5 => ?_, fun cd_5 => ?_⟩
        · replace h := h.1 cd_5
          refine aw_aload_n (q := 55) (j := 0) rfl rfl rfl (List.mem_of_getElem? (i := 1) rfl) ?_
          refine aw_dup (q := 56) rfl rfl rfl ?_
          refine ag_getI (q := 59) rfl rfl fl_Teller_39 rfl (SX.o hS rfl) ?_
          refine aw_iconst (q := 60) (v := 1) rfl rfl (by decide) ?_
          refine aw_iadd (q := 61) rfl rfl ?_
          refine ag_putI (q := 64) rfl rfl fl_Teller_39 rfl rfl (SX.o hS rfl) ?_
          replace h := h _ rfl
          refine aw_iload_n (q := 65) (j := 3) rfl rfl rfl (List.mem_of_getElem? (i := 0) rfl) ?_
          exact aw_ireturn (ty := .int) rfl rfl rfl (by decide) (by decide) h
        · replace h := h.2 cd_5
          refine aw_aload_n (q := 48) (j := 0) rfl rfl rfl (List.mem_of_getElem? (i := 1) rfl) ?_
          refine aw_iconst (q := 49) (v := 5) rfl rfl (by decide) ?_
          refine ag_putI (q := 52) rfl rfl fl_Teller_42 rfl rfl (SX.o hS rfl) ?_
          replace h := h _ rfl
          refine aw_iconst (q := 53) (v := 0) rfl rfl (by decide) ?_
          exact aw_ireturn (ty := .int) rfl rfl rfl (by decide) (by decide) h
    · replace h := h.2 cd_2
      refine aw_iconst (q := 22) (v := 0) rfl rfl (by decide) ?_
      exact aw_ireturn (ty := .int) rfl rfl rfl (by decide) (by decide) h
  · replace h := h.2 cd_1
    refine aw_iconst (q := 22) (v := 0) rfl rfl (by decide) ?_
    exact aw_ireturn (ty := .int) rfl rfl rfl (by decide) (by decide) h
set_option maxRecDepth 20000 in
theorem v_Teller_fillHole {E : EN} {g : GS} {s : MS} {Q : Option Value → SG → Prop} (t : Nat) (hS : SX g) (et : t = 88 ∨ t = 104) (hx : g.2.2 24 5 = some t) (h : (((s.1 t 12) < 6 → GV E m_Teller_takeNewName [.ref 24, .int 5, .int (s.1 t 12)] g s (fun t1_ => GI E m_Teller_takeNumber [.ref 24, .int 1, .int 30] g t1_ (fun y2_ t2_ => vp_in (s.1 t 12) 6 ∧ (∀ s3_, s3_ = wi t2_ (t + 3) (((s.1 t 12)).toNatClampNeg) y2_ → GI E m_Teller_takeName [.ref 24, .int 4] g s3_ (fun y4_ t4_ => (∀ s5_, s5_ = wi t4_ (t + 4) (((s.1 t 12)).toNatClampNeg) y4_ → (∀ s6_, s6_ = wi s5_ t 12 ((s5_.1 t 12) + 1) → Q none (mk g s6_)))))))) ∧ (¬ (s.1 t 12) < 6 → Q none (mk g s)))) : AMet E m_Teller_fillHole [.ref 24] (mk g s) Q := by
  refine AMet.of (by decide) k_Teller_fillHole [(0, .ref 24)] (Nat.le_of_ble_eq_true rfl) rfl ?_
  refine aw_aload_n (q := 1) (j := 0) rfl rfl rfl (List.mem_of_getElem? (i := 0) rfl) ?_
  refine ag_getR (q := 4) rfl rfl fl_Teller_26 rfl (SX.o hS rfl) hx ?_
  refine ag_getI (q := 7) rfl rfl fl_Teller_105 rfl (TS.o (TS.of hS et)) ?_
  refine aw_istore_n (q := 8) (j := 1) (ls' := [(1, .int _), (0, .ref _)]) rfl rfl rfl (by decide) rfl ?_
  refine aw_iload_n (q := 9) (j := 1) rfl rfl rfl (List.mem_of_getElem? (i := 0) rfl) ?_
  refine aw_bipush (q := 11) (v := 6) rfl rfl (by decide) ?_
  refine aw_icmp_lt (q := 14) (tgt := 15) rfl rfl (by decide) ⟨fun cd_1 => ?_, fun cd_1 => ?_⟩
  · replace h := h.1 cd_1
    refine aw_aload_n (q := 16) (j := 0) rfl rfl rfl (List.mem_of_getElem? (i := 1) rfl) ?_
    refine aw_iconst (q := 17) (v := 5) rfl rfl (by decide) ?_
    refine aw_iload_n (q := 18) (j := 1) rfl rfl rfl (List.mem_of_getElem? (i := 0) rfl) ?_
    refine ag_cvV (z := m_Teller_takeNewName) (ci := 7) (av := [.int _, .int _]) (st := []) (q := 21) (k' := 0) (n' := 0) rfl rfl cv_Teller_95 ⟨by decide, by decide⟩ rfl rfl (by decide) (by decide) (SX.o hS rfl) rfl rfl rfl (Nat.le_of_ble_eq_true rfl) ?_
    refine GV.mono h (fun t1_ h => ?_)
    refine aw_aload_n (q := 22) (j := 0) rfl rfl rfl (List.mem_of_getElem? (i := 1) rfl) ?_
    refine ag_getR (q := 25) rfl rfl fl_Teller_26 rfl (SX.o hS rfl) hx ?_
    refine ag_getR (q := 28) rfl rfl fl_Teller_108 rfl (TS.o (TS.of hS et)) (TS.r2 (TS.of hS et)) ?_
    refine aw_iload_n (q := 29) (j := 1) rfl rfl rfl (List.mem_of_getElem? (i := 0) rfl) ?_
    refine aw_aload_n (q := 30) (j := 0) rfl rfl rfl (List.mem_of_getElem? (i := 1) rfl) ?_
    refine aw_iconst (q := 31) (v := 1) rfl rfl (by decide) ?_
    refine aw_bipush (q := 33) (v := 30) rfl rfl (by decide) ?_
    refine ag_cvI (z := m_Teller_takeNumber) (ci := 7) (av := [.int _, .int _]) (st := [.int _, .ref _]) (q := 36) (k' := 0) (n' := 0) rfl rfl cv_Teller_69 ⟨by decide, by decide⟩ rfl rfl (by decide) (by decide) (SX.o hS rfl) rfl rfl rfl (Nat.le_of_ble_eq_true rfl) ?_
    refine GI.mono h (fun y2_ t2_ h => ?_)
    obtain ⟨bd_2, h⟩ := h
    refine ag_iastore (q := 37) (N := 6) rfl rfl (TS.a2 (TS.of hS et)) bd_2 ?_
    replace h := h _ rfl
    refine aw_aload_n (q := 38) (j := 0) rfl rfl rfl (List.mem_of_getElem? (i := 1) rfl) ?_
    refine ag_getR (q := 41) rfl rfl fl_Teller_26 rfl (SX.o hS rfl) hx ?_
    refine ag_getR (q := 44) rfl rfl fl_Teller_111 rfl (TS.o (TS.of hS et)) (TS.r3 (TS.of hS et)) ?_
    refine aw_iload_n (q := 45) (j := 1) rfl rfl rfl (List.mem_of_getElem? (i := 0) rfl) ?_
    refine aw_aload_n (q := 46) (j := 0) rfl rfl rfl (List.mem_of_getElem? (i := 1) rfl) ?_
    refine aw_iconst (q := 47) (v := 4) rfl rfl (by decide) ?_
    refine ag_cvI (z := m_Teller_takeName) (ci := 7) (av := [.int _]) (st := [.int _, .ref _]) (q := 50) (k' := 0) (n' := 0) rfl rfl cv_Teller_114 ⟨by decide, by decide⟩ rfl rfl (by decide) (by decide) (SX.o hS rfl) rfl rfl rfl (Nat.le_of_ble_eq_true rfl) ?_
    refine GI.mono h (fun y4_ t4_ h => ?_)
    refine ag_iastore (q := 51) (N := 6) rfl rfl (TS.a3 (TS.of hS et)) bd_2 ?_
    replace h := h _ rfl
    refine aw_aload_n (q := 52) (j := 0) rfl rfl rfl (List.mem_of_getElem? (i := 1) rfl) ?_
    refine ag_getR (q := 55) rfl rfl fl_Teller_26 rfl (SX.o hS rfl) hx ?_
    refine aw_dup (q := 56) rfl rfl rfl ?_
    refine ag_getI (q := 59) rfl rfl fl_Teller_105 rfl (TS.o (TS.of hS et)) ?_
    refine aw_iconst (q := 60) (v := 1) rfl rfl (by decide) ?_
    refine aw_iadd (q := 61) rfl rfl ?_
    refine ag_putI (q := 64) rfl rfl fl_Teller_105 rfl rfl (TS.o (TS.of hS et)) ?_
    replace h := h _ rfl
    exact aw_return rfl rfl (by decide) (by decide) h
  · replace h := h.2 cd_1
    exact aw_return rfl rfl (by decide) (by decide) h
set_option maxRecDepth 20000 in
theorem v_Teller_takeName_25 {E : EN} {g : GS} {s : MS} {Q : Option Value → SG → Prop} (x1 : Int32) (x2 : Int32) (hS : SX g) (hy : g.2.2 24 4 = some 18) (h : (((s.1 24 3) ≤ x2 → (∀ s1_, s1_ = wi s 24 7 4 → Q (some (.int 0)) (mk g s1_))) ∧ (¬ (s.1 24 3) ≤ x2 → vp_in x2 20 ∧ vp_in (s.1 24 6) 402 ∧ (((lg_cmp (s.2 25 ((x2).toNatClampNeg)) (s.2 21 (((s.1 24 6)).toNatClampNeg))) = 0 → (((s.1 26 ((x2).toNatClampNeg)) = x1 → (∀ s2_, s2_ = wi s 24 6 ((s.1 24 6) + 1) → Q (some (.int (s.1 27 ((x2).toNatClampNeg)))) (mk g s2_))) ∧ (¬ (s.1 26 ((x2).toNatClampNeg)) = x1 → AWP E m_Teller_takeName 25 0 0 [(0, .ref 24), (1, .int x1), (2, .int (x2 + 1))] [] (mk g s) Q))) ∧ (¬ (lg_cmp (s.2 25 ((x2).toNatClampNeg)) (s.2 21 (((s.1 24 6)).toNatClampNeg))) = 0 → AWP E m_Teller_takeName 25 0 0 [(0, .ref 24), (1, .int x1), (2, .int (x2 + 1))] [] (mk g s) Q))))) : AWP E m_Teller_takeName 25 0 0 [(0, .ref 24), (1, .int x1), (2, .int x2)] [] (mk g s) Q := by
  refine aw_iload_n (q := 26) (j := 2) rfl rfl rfl (List.mem_of_getElem? (i := 2) rfl) ?_
  refine aw_aload_n (q := 27) (j := 0) rfl rfl rfl (List.mem_of_getElem? (i := 0) rfl) ?_
  refine ag_getI (q := 30) rfl rfl fl_Teller_35 rfl (SX.o hS rfl) ?_
  refine aw_icmp_ge (q := 33) (tgt := 88) rfl rfl (by decide) ⟨fun cd_1 => ?_, fun cd_1 => ?_⟩
  · replace h := h.1 cd_1
    refine aw_aload_n (q := 89) (j := 0) rfl rfl rfl (List.mem_of_getElem? (i := 0) rfl) ?_
    refine aw_iconst (q := 90) (v := 4) rfl rfl (by decide) ?_
    refine ag_putI (q := 93) rfl rfl fl_Teller_42 rfl rfl (SX.o hS rfl) ?_
    replace h := h _ rfl
    refine aw_iconst (q := 94) (v := 0) rfl rfl (by decide) ?_
    exact aw_ireturn (ty := .int) rfl rfl rfl (by decide) (by decide) h
  · replace h := h.2 cd_1
    refine aw_aload_n (q := 34) (j := 0) rfl rfl rfl (List.mem_of_getElem? (i := 0) rfl) ?_
    refine ag_getR (q := 37) rfl rfl fl_Teller_11 rfl (SX.o hS rfl) (SX.r hS rfl) ?_
    refine aw_iload_n (q := 38) (j := 2) rfl rfl rfl (List.mem_of_getElem? (i := 2) rfl) ?_
    obtain ⟨bd_2, h⟩ := h
    refine ag_laload (q := 39) (N := 20) rfl rfl (SX.a hS rfl) bd_2 ?_
    refine aw_aload_n (q := 40) (j := 0) rfl rfl rfl (List.mem_of_getElem? (i := 0) rfl) ?_
    refine ag_getR (q := 43) rfl rfl fl_Teller_22 rfl (SX.o hS rfl) hy ?_
    refine ag_getR (q := 46) rfl rfl fl_Teller_144 rfl (SX.o hS rfl) (SX.r hS rfl) ?_
    refine aw_aload_n (q := 47) (j := 0) rfl rfl rfl (List.mem_of_getElem? (i := 0) rfl) ?_
    refine ag_getI (q := 50) rfl rfl fl_Teller_39 rfl (SX.o hS rfl) ?_
    obtain ⟨bd_3, h⟩ := h
    refine ag_laload (q := 51) (N := 402) rfl rfl (SX.a hS rfl) bd_3 ?_
    refine aw_lcmp (q := 52) rfl rfl ?_
    refine aw_if_ne (q := 55) (tgt := 82) rfl rfl (by decide) ⟨fun cd_4 => ?_, fun cd_4 => ?_⟩
    · replace h := h.1 cd_4
      refine aw_aload_n (q := 56) (j := 0) rfl rfl rfl (List.mem_of_getElem? (i := 0) rfl) ?_
      refine ag_getR (q := 59) rfl rfl fl_Teller_15 rfl (SX.o hS rfl) (SX.r hS rfl) ?_
      refine aw_iload_n (q := 60) (j := 2) rfl rfl rfl (List.mem_of_getElem? (i := 2) rfl) ?_
      refine ag_iaload (q := 61) (N := 20) rfl rfl (SX.a hS rfl) bd_2 ?_
      refine aw_iload_n (q := 62) (j := 1) rfl rfl rfl (List.mem_of_getElem? (i := 1) rfl) ?_
      refine aw_icmp_ne (q := 65) (tgt := 82) rfl rfl (by decide) ⟨fun cd_5 => ?_, fun cd_5 => ?_⟩
      · replace h := h.1 cd_5
        refine aw_aload_n (q := 66) (j := 0) rfl rfl rfl (List.mem_of_getElem? (i := 0) rfl) ?_
        refine aw_dup (q := 67) rfl rfl rfl ?_
        refine ag_getI (q := 70) rfl rfl fl_Teller_39 rfl (SX.o hS rfl) ?_
        refine aw_iconst (q := 71) (v := 1) rfl rfl (by decide) ?_
        refine aw_iadd (q := 72) rfl rfl ?_
        refine ag_putI (q := 75) rfl rfl fl_Teller_39 rfl rfl (SX.o hS rfl) ?_
        replace h := h _ rfl
        refine aw_aload_n (q := 76) (j := 0) rfl rfl rfl (List.mem_of_getElem? (i := 0) rfl) ?_
        refine ag_getR (q := 79) rfl rfl fl_Teller_19 rfl (SX.o hS rfl) (SX.r hS rfl) ?_
        refine aw_iload_n (q := 80) (j := 2) rfl rfl rfl (List.mem_of_getElem? (i := 2) rfl) ?_
        refine ag_iaload (q := 81) (N := 20) rfl rfl (SX.a hS rfl) bd_2 ?_
        exact aw_ireturn (ty := .int) rfl rfl rfl (by decide) (by decide) h
      · replace h := h.2 cd_5
        refine aw_iinc (q := 85) (v := _ + 1) (ls' := [(2, .int _), (0, .ref _), (1, .int _)]) rfl rfl (List.mem_of_getElem? (i := 2) rfl) rfl (by decide) rfl ?_
        refine aw_goto (tgt := 25) rfl (by decide) ?_
        refine aw_ls [1, 2, 0] rfl ?_
        exact h
    · replace h := h.2 cd_4
      refine aw_iinc (q := 85) (v := _ + 1) (ls' := [(2, .int _), (0, .ref _), (1, .int _)]) rfl rfl (List.mem_of_getElem? (i := 2) rfl) rfl (by decide) rfl ?_
      refine aw_goto (tgt := 25) rfl (by decide) ?_
      refine aw_ls [1, 2, 0] rfl ?_
      exact h
set_option maxRecDepth 20000 in
theorem v_Teller_takeName {E : EN} {g : GS} {s : MS} {Q : Option Value → SG → Prop} (x1 : Int32) (hS : SX g) (hy : g.2.2 24 4 = some 18) (h : (((s.1 24 7) = 0 → (((s.1 24 6) < (s.1 18 3) → AWP E m_Teller_takeName 25 0 0 [(0, .ref 24), (1, .int x1), (2, .int 0)] [] (mk g s) Q) ∧ (¬ (s.1 24 6) < (s.1 18 3) → Q (some (.int 0)) (mk g s)))) ∧ (¬ (s.1 24 7) = 0 → Q (some (.int 0)) (mk g s)))) : AMet E m_Teller_takeName [.ref 24, .int x1] (mk g s) Q := by
  refine AMet.of (by decide) k_Teller_takeName [(0, .ref 24), (1, .int x1)] (Nat.le_of_ble_eq_true rfl) rfl ?_
  refine aw_aload_n (q := 1) (j := 0) rfl rfl rfl (List.mem_of_getElem? (i := 0) rfl) ?_
  refine ag_getI (q := 4) rfl rfl fl_Teller_42 rfl (SX.o hS rfl) ?_
  refine aw_if_ne (q := 7) (tgt := 21) rfl rfl (by decide) ⟨fun cd_1 => ?_, fun cd_1 => ?_⟩
  · replace h := h.1 cd_1
    refine aw_aload_n (q := 8) (j := 0) rfl rfl rfl (List.mem_of_getElem? (i := 0) rfl) ?_
    refine ag_getI (q := 11) rfl rfl fl_Teller_39 rfl (SX.o hS rfl) ?_
    refine aw_aload_n (q := 12) (j := 0) rfl rfl rfl (List.mem_of_getElem? (i := 0) rfl) ?_
    refine ag_getR (q := 15) rfl rfl fl_Teller_22 rfl (SX.o hS rfl) hy ?_
    refine ag_getI (q := 18) rfl rfl fl_Teller_45 rfl (SX.o hS rfl) ?_
    refine aw_icmp_lt (q := 21) (tgt := 23) rfl rfl (by decide) ⟨fun cd_2 => ?_, fun cd_2 => ?_⟩
    · replace h := h.1 cd_2
      refine aw_iconst (q := 24) (v := 0) rfl rfl (by decide) ?_
      refine aw_istore_n (q := 25) (j := 2) (ls' := [(2, .int _), (0, .ref _), (1, .int _)]) rfl rfl rfl (by decide) rfl ?_
      refine aw_ls [1, 2, 0] rfl ?_
      exact h
    · replace h := h.2 cd_2
      refine aw_iconst (q := 22) (v := 0) rfl rfl (by decide) ?_
      exact aw_ireturn (ty := .int) rfl rfl rfl (by decide) (by decide) h
  · replace h := h.2 cd_1
    refine aw_iconst (q := 22) (v := 0) rfl rfl (by decide) ?_
    exact aw_ireturn (ty := .int) rfl rfl rfl (by decide) (by decide) h
set_option maxRecDepth 20000 in
theorem v_Teller_fillRat {E : EN} {g : GS} {s : MS} {Q : Option Value → SG → Prop} (t : Nat) (hS : SX g) (et : t = 88 ∨ t = 104) (hx : g.2.2 24 5 = some t) (h : (((s.1 t 13) < 8 → GV E m_Teller_takeNewName [.ref 24, .int 6, .int (s.1 t 13)] g s (fun t1_ => GI E m_Teller_takeName [.ref 24, .int 4] g t1_ (fun y2_ t2_ => vp_in (s.1 t 13) 8 ∧ (∀ s3_, s3_ = wi t2_ (t + 5) (((s.1 t 13)).toNatClampNeg) y2_ → GI E m_Teller_takeName [.ref 24, .int 5] g s3_ (fun y4_ t4_ => (∀ s5_, s5_ = wi t4_ (t + 6) (((s.1 t 13)).toNatClampNeg) y4_ → GI E m_Teller_takeNumber [.ref 24, .int 0, .int 9] g s5_ (fun y6_ t6_ => (∀ s7_, s7_ = wi t6_ (t + 7) (((s.1 t 13)).toNatClampNeg) y6_ → GI E m_Teller_takeNumber [.ref 24, .int 0, .int 99] g s7_ (fun y8_ t8_ => (∀ s9_, s9_ = wi t8_ (t + 8) (((s.1 t 13)).toNatClampNeg) y8_ → (∀ s10_, s10_ = wi s9_ t 13 ((s9_.1 t 13) + 1) → Q none (mk g s10_)))))))))))) ∧ (¬ (s.1 t 13) < 8 → Q none (mk g s)))) : AMet E m_Teller_fillRat [.ref 24] (mk g s) Q := by
  refine AMet.of (by decide) k_Teller_fillRat [(0, .ref 24)] (Nat.le_of_ble_eq_true rfl) rfl ?_
  refine aw_aload_n (q := 1) (j := 0) rfl rfl rfl (List.mem_of_getElem? (i := 0) rfl) ?_
  refine ag_getR (q := 4) rfl rfl fl_Teller_26 rfl (SX.o hS rfl) hx ?_
  refine ag_getI (q := 7) rfl rfl fl_Teller_117 rfl (TS.o (TS.of hS et)) ?_
  refine aw_istore_n (q := 8) (j := 1) (ls' := [(1, .int _), (0, .ref _)]) rfl rfl rfl (by decide) rfl ?_
  refine aw_iload_n (q := 9) (j := 1) rfl rfl rfl (List.mem_of_getElem? (i := 0) rfl) ?_
  refine aw_bipush (q := 11) (v := 8) rfl rfl (by decide) ?_
  refine aw_icmp_lt (q := 14) (tgt := 15) rfl rfl (by decide) ⟨fun cd_1 => ?_, fun cd_1 => ?_⟩
  · replace h := h.1 cd_1
    refine aw_aload_n (q := 16) (j := 0) rfl rfl rfl (List.mem_of_getElem? (i := 1) rfl) ?_
    refine aw_bipush (q := 18) (v := 6) rfl rfl (by decide) ?_
    refine aw_iload_n (q := 19) (j := 1) rfl rfl rfl (List.mem_of_getElem? (i := 0) rfl) ?_
    refine ag_cvV (z := m_Teller_takeNewName) (ci := 7) (av := [.int _, .int _]) (st := []) (q := 22) (k' := 0) (n' := 0) rfl rfl cv_Teller_95 ⟨by decide, by decide⟩ rfl rfl (by decide) (by decide) (SX.o hS rfl) rfl rfl rfl (Nat.le_of_ble_eq_true rfl) ?_
    refine GV.mono h (fun t1_ h => ?_)
    refine aw_aload_n (q := 23) (j := 0) rfl rfl rfl (List.mem_of_getElem? (i := 1) rfl) ?_
    refine ag_getR (q := 26) rfl rfl fl_Teller_26 rfl (SX.o hS rfl) hx ?_
    refine ag_getR (q := 29) rfl rfl fl_Teller_120 rfl (TS.o (TS.of hS et)) (TS.r4 (TS.of hS et)) ?_
    refine aw_iload_n (q := 30) (j := 1) rfl rfl rfl (List.mem_of_getElem? (i := 0) rfl) ?_
    refine aw_aload_n (q := 31) (j := 0) rfl rfl rfl (List.mem_of_getElem? (i := 1) rfl) ?_
    refine aw_iconst (q := 32) (v := 4) rfl rfl (by decide) ?_
    refine ag_cvI (z := m_Teller_takeName) (ci := 7) (av := [.int _]) (st := [.int _, .ref _]) (q := 35) (k' := 0) (n' := 0) rfl rfl cv_Teller_114 ⟨by decide, by decide⟩ rfl rfl (by decide) (by decide) (SX.o hS rfl) rfl rfl rfl (Nat.le_of_ble_eq_true rfl) ?_
    refine GI.mono h (fun y2_ t2_ h => ?_)
    obtain ⟨bd_2, h⟩ := h
    refine ag_iastore (q := 36) (N := 8) rfl rfl (TS.a4 (TS.of hS et)) bd_2 ?_
    replace h := h _ rfl
    refine aw_aload_n (q := 37) (j := 0) rfl rfl rfl (List.mem_of_getElem? (i := 1) rfl) ?_
    refine ag_getR (q := 40) rfl rfl fl_Teller_26 rfl (SX.o hS rfl) hx ?_
    refine ag_getR (q := 43) rfl rfl fl_Teller_123 rfl (TS.o (TS.of hS et)) (TS.r5 (TS.of hS et)) ?_
    refine aw_iload_n (q := 44) (j := 1) rfl rfl rfl (List.mem_of_getElem? (i := 0) rfl) ?_
    refine aw_aload_n (q := 45) (j := 0) rfl rfl rfl (List.mem_of_getElem? (i := 1) rfl) ?_
    refine aw_iconst (q := 46) (v := 5) rfl rfl (by decide) ?_
    refine ag_cvI (z := m_Teller_takeName) (ci := 7) (av := [.int _]) (st := [.int _, .ref _]) (q := 49) (k' := 0) (n' := 0) rfl rfl cv_Teller_114 ⟨by decide, by decide⟩ rfl rfl (by decide) (by decide) (SX.o hS rfl) rfl rfl rfl (Nat.le_of_ble_eq_true rfl) ?_
    refine GI.mono h (fun y4_ t4_ h => ?_)
    refine ag_iastore (q := 50) (N := 8) rfl rfl (TS.a5 (TS.of hS et)) bd_2 ?_
    replace h := h _ rfl
    refine aw_aload_n (q := 51) (j := 0) rfl rfl rfl (List.mem_of_getElem? (i := 1) rfl) ?_
    refine ag_getR (q := 54) rfl rfl fl_Teller_26 rfl (SX.o hS rfl) hx ?_
    refine ag_getR (q := 57) rfl rfl fl_Teller_126 rfl (TS.o (TS.of hS et)) (TS.r6 (TS.of hS et)) ?_
    refine aw_iload_n (q := 58) (j := 1) rfl rfl rfl (List.mem_of_getElem? (i := 0) rfl) ?_
    refine aw_aload_n (q := 59) (j := 0) rfl rfl rfl (List.mem_of_getElem? (i := 1) rfl) ?_
    refine aw_iconst (q := 60) (v := 0) rfl rfl (by decide) ?_
    refine aw_bipush (q := 62) (v := 9) rfl rfl (by decide) ?_
    refine ag_cvI (z := m_Teller_takeNumber) (ci := 7) (av := [.int _, .int _]) (st := [.int _, .ref _]) (q := 65) (k' := 0) (n' := 0) rfl rfl cv_Teller_69 ⟨by decide, by decide⟩ rfl rfl (by decide) (by decide) (SX.o hS rfl) rfl rfl rfl (Nat.le_of_ble_eq_true rfl) ?_
    refine GI.mono h (fun y6_ t6_ h => ?_)
    refine ag_iastore (q := 66) (N := 8) rfl rfl (TS.a6 (TS.of hS et)) bd_2 ?_
    replace h := h _ rfl
    refine aw_aload_n (q := 67) (j := 0) rfl rfl rfl (List.mem_of_getElem? (i := 1) rfl) ?_
    refine ag_getR (q := 70) rfl rfl fl_Teller_26 rfl (SX.o hS rfl) hx ?_
    refine ag_getR (q := 73) rfl rfl fl_Teller_129 rfl (TS.o (TS.of hS et)) (TS.r7 (TS.of hS et)) ?_
    refine aw_iload_n (q := 74) (j := 1) rfl rfl rfl (List.mem_of_getElem? (i := 0) rfl) ?_
    refine aw_aload_n (q := 75) (j := 0) rfl rfl rfl (List.mem_of_getElem? (i := 1) rfl) ?_
    refine aw_iconst (q := 76) (v := 0) rfl rfl (by decide) ?_
    refine aw_bipush (q := 78) (v := 99) rfl rfl (by decide) ?_
    refine ag_cvI (z := m_Teller_takeNumber) (ci := 7) (av := [.int _, .int _]) (st := [.int _, .ref _]) (q := 81) (k' := 0) (n' := 0) rfl rfl cv_Teller_69 ⟨by decide, by decide⟩ rfl rfl (by decide) (by decide) (SX.o hS rfl) rfl rfl rfl (Nat.le_of_ble_eq_true rfl) ?_
    refine GI.mono h (fun y8_ t8_ h => ?_)
    refine ag_iastore (q := 82) (N := 8) rfl rfl (TS.a7 (TS.of hS et)) bd_2 ?_
    replace h := h _ rfl
    refine aw_aload_n (q := 83) (j := 0) rfl rfl rfl (List.mem_of_getElem? (i := 1) rfl) ?_
    refine ag_getR (q := 86) rfl rfl fl_Teller_26 rfl (SX.o hS rfl) hx ?_
    refine aw_dup (q := 87) rfl rfl rfl ?_
    refine ag_getI (q := 90) rfl rfl fl_Teller_117 rfl (TS.o (TS.of hS et)) ?_
    refine aw_iconst (q := 91) (v := 1) rfl rfl (by decide) ?_
    refine aw_iadd (q := 92) rfl rfl ?_
    refine ag_putI (q := 95) rfl rfl fl_Teller_117 rfl rfl (TS.o (TS.of hS et)) ?_
    replace h := h _ rfl
    exact aw_return rfl rfl (by decide) (by decide) h
  · replace h := h.2 cd_1
    exact aw_return rfl rfl (by decide) (by decide) h
set_option maxRecDepth 20000 in
theorem v_Teller_fillMerchant_33 {E : EN} {g : GS} {s : MS} {Q : Option Value → SG → Prop} (x1 : Int32) (x2 : Int32) (t : Nat) (hS : SX g) (et : t = 88 ∨ t = 104) (hx : g.2.2 24 5 = some t) (hy : g.2.2 24 4 = some 18) (h : ((4 ≤ x2 → (∀ s1_, s1_ = wi s t 14 ((s.1 t 14) + 1) → Q none (mk g s1_))) ∧ (¬ 4 ≤ x2 → (((s.1 24 7) = 0 → GI E m_Tokens_kindOf [.ref 18, .int (s.1 24 6)] g s (fun y2_ t2_ => ((y2_ = 2 → GI E m_Teller_takeName [.ref 24, .int 4] g t2_ (fun y3_ t3_ => (((t3_.1 24 7) = 0 → GI E m_Text_wantOf [.ref t, .int x1, .int y3_] g t3_ (fun y4_ t4_ => ((y4_ ≤ 0 → GI E m_Teller_takeNumber [.ref 24, .int 1, .int 9999] g t4_ (fun y5_ t5_ => vp_in ((x1 * 6) + y3_) 30 ∧ (∀ s6_, s6_ = wi t5_ (t + 10) ((((x1 * 6) + y3_)).toNatClampNeg) y5_ → AWP E m_Teller_fillMerchant 33 0 0 [(0, .ref 24), (1, .int x1), (2, .int (x2 + 1))] [] (mk g s6_) Q))) ∧ (¬ y4_ ≤ 0 → (∀ s7_, s7_ = wi t4_ 24 6 (t2_.1 24 6) → (∀ s8_, s8_ = wi s7_ 24 7 3 → GI E m_Teller_takeNumber [.ref 24, .int 1, .int 9999] g s8_ (fun y9_ t9_ => vp_in ((x1 * 6) + y3_) 30 ∧ (∀ s10_, s10_ = wi t9_ (t + 10) ((((x1 * 6) + y3_)).toNatClampNeg) y9_ → AWP E m_Teller_fillMerchant 33 0 0 [(0, .ref 24), (1, .int x1), (2, .int (x2 + 1))] [] (mk g s10_) Q)))))))) ∧ (¬ (t3_.1 24 7) = 0 → GI E m_Teller_takeNumber [.ref 24, .int 1, .int 9999] g t3_ (fun y11_ t11_ => vp_in ((x1 * 6) + y3_) 30 ∧ (∀ s12_, s12_ = wi t11_ (t + 10) ((((x1 * 6) + y3_)).toNatClampNeg) y11_ → AWP E m_Teller_fillMerchant 33 0 0 [(0, .ref 24), (1, .int x1), (2, .int (x2 + 1))] [] (mk g s12_) Q)))))) ∧ (¬ y2_ = 2 → (∀ s13_, s13_ = wi t2_ t 14 ((t2_.1 t 14) + 1) → Q none (mk g s13_)))))) ∧ (¬ (s.1 24 7) = 0 → (∀ s14_, s14_ = wi s t 14 ((s.1 t 14) + 1) → Q none (mk g s14_))))))) : AWP E m_Teller_fillMerchant 33 0 0 [(0, .ref 24), (1, .int x1), (2, .int x2)] [] (mk g s) Q := by
  refine aw_iload_n (q := 34) (j := 2) rfl rfl rfl (List.mem_of_getElem? (i := 2) rfl) ?_
  refine aw_iconst (q := 35) (v := 4) rfl rfl (by decide) ?_
  refine aw_icmp_ge (q := 38) (tgt := 131) rfl rfl (by decide) ⟨fun cd_1 => ?_, fun cd_1 => ?_⟩
  · replace h := h.1 cd_1
    refine aw_aload_n (q := 132) (j := 0) rfl rfl rfl (List.mem_of_getElem? (i := 0) rfl) ?_
    refine ag_getR (q := 135) rfl rfl fl_Teller_26 rfl (SX.o hS rfl) hx ?_
    refine aw_dup (q := 136) rfl rfl rfl ?_
    refine ag_getI (q := 139) rfl rfl fl_Teller_132 rfl (TS.o (TS.of hS et)) ?_
    refine aw_iconst (q := 140) (v := 1) rfl rfl (by decide) ?_
    refine aw_iadd (q := 141) rfl rfl ?_
    refine ag_putI (q := 144) rfl rfl fl_Teller_132 rfl rfl (TS.o (TS.of hS et)) ?_
    replace h := h _ rfl
    exact aw_return rfl rfl (by decide) (by decide) h
  · replace h := h.2 cd_1
    refine aw_aload_n (q := 39) (j := 0) rfl rfl rfl (List.mem_of_getElem? (i := 0) rfl) ?_
    refine ag_getI (q := 42) rfl rfl fl_Teller_42 rfl (SX.o hS rfl) ?_
    refine aw_if_ne (q := 45) (tgt := 131) rfl rfl (by decide) ⟨fun cd_2 => ?_, fun cd_2 => ?_⟩
    · replace h := h.1 cd_2
      refine aw_aload_n (q := 46) (j := 0) rfl rfl rfl (List.mem_of_getElem? (i := 0) rfl) ?_
      refine ag_getR (q := 49) rfl rfl fl_Teller_22 rfl (SX.o hS rfl) hy ?_
      refine aw_aload_n (q := 50) (j := 0) rfl rfl rfl (List.mem_of_getElem? (i := 0) rfl) ?_
      refine ag_getI (q := 53) rfl rfl fl_Teller_39 rfl (SX.o hS rfl) ?_
      refine ag_cvI (z := m_Tokens_kindOf) (ci := 9) (av := [.int _]) (st := []) (q := 56) (k' := 0) (n' := 0) rfl rfl cv_Teller_53 ⟨by decide, by decide⟩ rfl rfl (by decide) (by decide) (SX.o hS rfl) rfl rfl rfl (Nat.le_of_ble_eq_true rfl) ?_
      refine GI.mono h (fun y2_ t2_ h => ?_)
      refine aw_iconst (q := 57) (v := 2) rfl rfl (by decide) ?_
      refine aw_icmp_ne (q := 60) (tgt := 131) rfl rfl (by decide) ⟨fun cd_3 => ?_, fun cd_3 => ?_⟩
      · replace h := h.1 cd_3
        refine aw_aload_n (q := 61) (j := 0) rfl rfl rfl (List.mem_of_getElem? (i := 0) rfl) ?_
        refine ag_getI (q := 64) rfl rfl fl_Teller_39 rfl (SX.o hS rfl) ?_
        refine aw_istore_n (q := 65) (j := 3) (ls' := [(3, .int _), (0, .ref _), (1, .int _), (2, .int _)]) rfl rfl rfl (by decide) rfl ?_
        refine aw_aload_n (q := 66) (j := 0) rfl rfl rfl (List.mem_of_getElem? (i := 1) rfl) ?_
        refine aw_iconst (q := 67) (v := 4) rfl rfl (by decide) ?_
        refine ag_cvI (z := m_Teller_takeName) (ci := 7) (av := [.int _]) (st := []) (q := 70) (k' := 0) (n' := 0) rfl rfl cv_Teller_114 ⟨by decide, by decide⟩ rfl rfl (by decide) (by decide) (SX.o hS rfl) rfl rfl rfl (Nat.le_of_ble_eq_true rfl) ?_
        refine GI.mono h (fun y3_ t3_ h => ?_)
        refine aw_istore (q := 72) (j := 4) (ls' := [(4, .int _), (3, .int _), (0, .ref _), (1, .int _), (2, .int _)]) rfl rfl (by decide) rfl ?_
        refine aw_aload_n (q := 73) (j := 0) rfl rfl rfl (List.mem_of_getElem? (i := 2) rfl) ?_
        refine ag_getI (q := 76) rfl rfl fl_Teller_42 rfl (SX.o hS rfl) ?_
        refine aw_if_ne (q := 79) (tgt := 102) rfl rfl (by decide) ⟨fun cd_4 => ?_, fun cd_4 => ?_⟩
        · replace h := h.1 cd_4
          refine aw_aload_n (q := 80) (j := 0) rfl rfl rfl (List.mem_of_getElem? (i := 2) rfl) ?_
          refine ag_getR (q := 83) rfl rfl fl_Teller_26 rfl (SX.o hS rfl) hx ?_
          refine aw_iload_n (q := 84) (j := 1) rfl rfl rfl (List.mem_of_getElem? (i := 3) rfl) ?_
          refine aw_iload (q := 86) (j := 4) rfl rfl (List.mem_of_getElem? (i := 0) rfl) ?_
          refine ag_cvI (z := m_Text_wantOf) (ci := 8) (av := [.int _, .int _]) (st := []) (q := 89) (k' := 0) (n' := 0) rfl rfl cv_Teller_138 ⟨by decide, by decide⟩ rfl rfl (by decide) (by decide) (TS.o (TS.of hS et)) rfl rfl rfl (Nat.le_of_ble_eq_true rfl) ?_
          refine GI.mono h (fun y4_ t4_ h => ?_)
          refine aw_if_le (q := 92) (tgt := 102) rfl rfl (by decide) ⟨fun cd_5 => ?_, fun cd_5 => ?_⟩
          · replace h := h.1 cd_5
            refine aw_aload_n (q := 103) (j := 0) rfl rfl rfl (List.mem_of_getElem? (i := 2) rfl) ?_
            refine ag_getR (q := 106) rfl rfl fl_Teller_26 rfl (SX.o hS rfl) hx ?_
            refine ag_getR (q := 109) rfl rfl fl_Teller_141 rfl (TS.o (TS.of hS et)) (TS.r9 (TS.of hS et)) ?_
            refine aw_iload_n (q := 110) (j := 1) rfl rfl rfl (List.mem_of_getElem? (i := 3) rfl) ?_
            refine aw_bipush (q := 112) (v := 6) rfl rfl (by decide) ?_
            refine aw_imul (q := 113) rfl rfl ?_
            refine aw_iload (q := 115) (j := 4) rfl rfl (List.mem_of_getElem? (i := 0) rfl) ?_
            refine aw_iadd (q := 116) rfl rfl ?_
            refine aw_aload_n (q := 117) (j := 0) rfl rfl rfl (List.mem_of_getElem? (i := 2) rfl) ?_
            refine aw_iconst (q := 118) (v := 1) rfl rfl (by decide) ?_
            refine aw_sipush (q := 121) (v := 9999) rfl rfl (by decide) ?_
            refine ag_cvI (z := m_Teller_takeNumber) (ci := 7) (av := [.int _, .int _]) (st := [.int _, .ref _]) (q := 124) (k' := 0) (n' := 0) rfl rfl cv_Teller_69 ⟨by decide, by decide⟩ rfl rfl (by decide) (by decide) (SX.o hS rfl) rfl rfl rfl (Nat.le_of_ble_eq_true rfl) ?_
            refine GI.mono h (fun y5_ t5_ h => ?_)
            obtain ⟨bd_6, h⟩ := h
            refine ag_iastore (q := 125) (N := 30) rfl rfl (TS.a9 (TS.of hS et)) bd_6 ?_
            replace h := h _ rfl
            refine aw_iinc (q := 128) (v := _ + 1) (ls' := [(2, .int _), (4, .int _), (3, .int _), (0, .ref _), (1, .int _)]) rfl rfl (List.mem_of_getElem? (i := 4) rfl) rfl (by decide) rfl ?_
            refine aw_goto (tgt := 33) rfl (by decide) ?_
            refine aw_ls [3, 4, 0] rfl ?_
            exact h
          · replace h := h.2 cd_5
            refine aw_aload_n (q := 93) (j := 0) rfl rfl rfl (List.mem_of_getElem? (i := 2) rfl) ?_
            refine aw_iload_n (q := 94) (j := 3) rfl rfl rfl (List.mem_of_getElem? (i := 1) rfl) ?_
            refine ag_putI (q := 97) rfl rfl fl_Teller_39 rfl rfl (SX.o hS rfl) ?_
            replace h := h _ rfl
            refine aw_aload_n (q := 98) (j := 0) rfl rfl rfl (List.mem_of_getElem? (i := 2) rfl) ?_
            refine aw_iconst (q := 99) (v := 3) rfl rfl (by decide) ?_
            refine ag_putI (q := 102) rfl rfl fl_Teller_42 rfl rfl (SX.o hS rfl) ?_
            replace h := h _ rfl
            refine aw_aload_n (q := 103) (j := 0) rfl rfl rfl (List.mem_of_getElem? (i := 2) rfl) ?_
            refine ag_getR (q := 106) rfl rfl fl_Teller_26 rfl (SX.o hS rfl) hx ?_
            refine ag_getR (q := 109) rfl rfl fl_Teller_141 rfl (TS.o (TS.of hS et)) (TS.r9 (TS.of hS et)) ?_
            refine aw_iload_n (q := 110) (j := 1) rfl rfl rfl (List.mem_of_getElem? (i := 3) rfl) ?_
            refine aw_bipush (q := 112) (v := 6) rfl rfl (by decide) ?_
            refine aw_imul (q := 113) rfl rfl ?_
            refine aw_iload (q := 115) (j := 4) rfl rfl (List.mem_of_getElem? (i := 0) rfl) ?_
            refine aw_iadd (q := 116) rfl rfl ?_
            refine aw_aload_n (q := 117) (j := 0) rfl rfl rfl (List.mem_of_getElem? (i := 2) rfl) ?_
            refine aw_iconst (q := 118) (v := 1) rfl rfl (by decide) ?_
            refine aw_sipush (q := 121) (v := 9999) rfl rfl (by decide) ?_
            refine ag_cvI (z := m_Teller_takeNumber) (ci := 7) (av := [.int _, .int _]) (st := [.int _, .ref _]) (q := 124) (k' := 0) (n' := 0) rfl rfl cv_Teller_69 ⟨by decide, by decide⟩ rfl rfl (by decide) (by decide) (SX.o hS rfl) rfl rfl rfl (Nat.le_of_ble_eq_true rfl) ?_
            refine GI.mono h (fun y9_ t9_ h => ?_)
            obtain ⟨bd_7, h⟩ := h
            refine ag_iastore (q := 125) (N := 30) rfl rfl (TS.a9 (TS.of hS et)) bd_7 ?_
            replace h := h _ rfl
            refine aw_iinc (q := 128) (v := _ + 1) (ls' := [(2, .int _), (4, .int _), (3, .int _), (0, .ref _), (1, .int _)]) rfl rfl (List.mem_of_getElem? (i := 4) rfl) rfl (by decide) rfl ?_
            refine aw_goto (tgt := 33) rfl (by decide) ?_
            refine aw_ls [3, 4, 0] rfl ?_
            exact h
        · replace h := h.2 cd_4
          refine aw_aload_n (q := 103) (j := 0) rfl rfl rfl (List.mem_of_getElem? (i := 2) rfl) ?_
          refine ag_getR (q := 106) rfl rfl fl_Teller_26 rfl (SX.o hS rfl) hx ?_
          refine ag_getR (q := 109) rfl rfl fl_Teller_141 rfl (TS.o (TS.of hS et)) (TS.r9 (TS.of hS et)) ?_
          refine aw_iload_n (q := 110) (j := 1) rfl rfl rfl (List.mem_of_getElem? (i := 3) rfl) ?_
          refine aw_bipush (q := 112) (v := 6) rfl rfl (by decide) ?_
          refine aw_imul (q := 113) rfl rfl ?_
          refine aw_iload (q := 115) (j := 4) rfl rfl (List.mem_of_getElem? (i := 0) rfl) ?_
          refine aw_iadd (q := 116) rfl rfl ?_
          refine aw_aload_n (q := 117) (j := 0) rfl rfl rfl (List.mem_of_getElem? (i := 2) rfl) ?_
          refine aw_iconst (q := 118) (v := 1) rfl rfl (by decide) ?_
          refine aw_sipush (q := 121) (v := 9999) rfl rfl (by decide) ?_
          refine ag_cvI (z := m_Teller_takeNumber) (ci := 7) (av := [.int _, .int _]) (st := [.int _, .ref _]) (q := 124) (k' := 0) (n' := 0) rfl rfl cv_Teller_69 ⟨by decide, by decide⟩ rfl rfl (by decide) (by decide) (SX.o hS rfl) rfl rfl rfl (Nat.le_of_ble_eq_true rfl) ?_
          refine GI.mono h (fun y11_ t11_ h => ?_)
          obtain ⟨bd_8, h⟩ := h
          refine ag_iastore (q := 125) (N := 30) rfl rfl (TS.a9 (TS.of hS et)) bd_8 ?_
          replace h := h _ rfl
          refine aw_iinc (q := 128) (v := _ + 1) (ls' := [(2, .int _), (4, .int _), (3, .int _), (0, .ref _), (1, .int _)]) rfl rfl (List.mem_of_getElem? (i := 4) rfl) rfl (by decide) rfl ?_
          refine aw_goto (tgt := 33) rfl (by decide) ?_
          refine aw_ls [3, 4, 0] rfl ?_
          exact h
      · replace h := h.2 cd_3
        refine aw_aload_n (q := 132) (j := 0) rfl rfl rfl (List.mem_of_getElem? (i := 0) rfl) ?_
        refine ag_getR (q := 135) rfl rfl fl_Teller_26 rfl (SX.o hS rfl) hx ?_
        refine aw_dup (q := 136) rfl rfl rfl ?_
        refine ag_getI (q := 139) rfl rfl fl_Teller_132 rfl (TS.o (TS.of hS et)) ?_
        refine aw_iconst (q := 140) (v := 1) rfl rfl (by decide) ?_
        refine aw_iadd (q := 141) rfl rfl ?_
        refine ag_putI (q := 144) rfl rfl fl_Teller_132 rfl rfl (TS.o (TS.of hS et)) ?_
        replace h := h _ rfl
        exact aw_return rfl rfl (by decide) (by decide) h
    · replace h := h.2 cd_2
      refine aw_aload_n (q := 132) (j := 0) rfl rfl rfl (List.mem_of_getElem? (i := 0) rfl) ?_
      refine ag_getR (q := 135) rfl rfl fl_Teller_26 rfl (SX.o hS rfl) hx ?_
      refine aw_dup (q := 136) rfl rfl rfl ?_
      refine ag_getI (q := 139) rfl rfl fl_Teller_132 rfl (TS.o (TS.of hS et)) ?_
      refine aw_iconst (q := 140) (v := 1) rfl rfl (by decide) ?_
      refine aw_iadd (q := 141) rfl rfl ?_
      refine ag_putI (q := 144) rfl rfl fl_Teller_132 rfl rfl (TS.o (TS.of hS et)) ?_
      replace h := h _ rfl
      exact aw_return rfl rfl (by decide) (by decide) h
set_option maxRecDepth 20000 in
theorem v_Teller_fillMerchant {E : EN} {g : GS} {s : MS} {Q : Option Value → SG → Prop} (t : Nat) (hS : SX g) (et : t = 88 ∨ t = 104) (hx : g.2.2 24 5 = some t) (h : (((s.1 t 14) < 5 → GI E m_Teller_takeNumber [.ref 24, .int 0, .int 9999] g s (fun y1_ t1_ => vp_in (s.1 t 14) 5 ∧ (∀ s2_, s2_ = wi t1_ (t + 9) (((s.1 t 14)).toNatClampNeg) y1_ → AWP E m_Teller_fillMerchant 33 0 0 [(0, .ref 24), (1, .int (s.1 t 14)), (2, .int 0)] [] (mk g s2_) Q))) ∧ (¬ (s.1 t 14) < 5 → Q none (mk g s)))) : AMet E m_Teller_fillMerchant [.ref 24] (mk g s) Q := by
  refine AMet.of (by decide) k_Teller_fillMerchant [(0, .ref 24)] (Nat.le_of_ble_eq_true rfl) rfl ?_
  refine aw_aload_n (q := 1) (j := 0) rfl rfl rfl (List.mem_of_getElem? (i := 0) rfl) ?_
  refine ag_getR (q := 4) rfl rfl fl_Teller_26 rfl (SX.o hS rfl) hx ?_
  refine ag_getI (q := 7) rfl rfl fl_Teller_132 rfl (TS.o (TS.of hS et)) ?_
  refine aw_istore_n (q := 8) (j := 1) (ls' := [(1, .int _), (0, .ref _)]) rfl rfl rfl (by decide) rfl ?_
  refine aw_iload_n (q := 9) (j := 1) rfl rfl rfl (List.mem_of_getElem? (i := 0) rfl) ?_
  refine aw_iconst (q := 10) (v := 5) rfl rfl (by decide) ?_
  refine aw_icmp_lt (q := 13) (tgt := 14) rfl rfl (by decide) ⟨fun cd_1 => ?_, fun cd_1 => ?_⟩
  · replace h := h.1 cd_1
    refine aw_aload_n (q := 15) (j := 0) rfl rfl rfl (List.mem_of_getElem? (i := 1) rfl) ?_
    refine ag_getR (q := 18) rfl rfl fl_Teller_26 rfl (SX.o hS rfl) hx ?_
    refine ag_getR (q := 21) rfl rfl fl_Teller_135 rfl (TS.o (TS.of hS et)) (TS.r8 (TS.of hS et)) ?_
    refine aw_iload_n (q := 22) (j := 1) rfl rfl rfl (List.mem_of_getElem? (i := 0) rfl) ?_
    refine aw_aload_n (q := 23) (j := 0) rfl rfl rfl (List.mem_of_getElem? (i := 1) rfl) ?_
    refine aw_iconst (q := 24) (v := 0) rfl rfl (by decide) ?_
    refine aw_sipush (q := 27) (v := 9999) rfl rfl (by decide) ?_
    refine ag_cvI (z := m_Teller_takeNumber) (ci := 7) (av := [.int _, .int _]) (st := [.int _, .ref _]) (q := 30) (k' := 0) (n' := 0) rfl rfl cv_Teller_69 ⟨by decide, by decide⟩ rfl rfl (by decide) (by decide) (SX.o hS rfl) rfl rfl rfl (Nat.le_of_ble_eq_true rfl) ?_
    refine GI.mono h (fun y1_ t1_ h => ?_)
    obtain ⟨bd_2, h⟩ := h
    refine ag_iastore (q := 31) (N := 5) rfl rfl (TS.a8 (TS.of hS et)) bd_2 ?_
    replace h := h _ rfl
    refine aw_iconst (q := 32) (v := 0) rfl rfl (by decide) ?_
    refine aw_istore_n (q := 33) (j := 2) (ls' := [(2, .int _), (1, .int _), (0, .ref _)]) rfl rfl rfl (by decide) rfl ?_
    refine aw_ls [2, 1, 0] rfl ?_
    exact h
  · replace h := h.2 cd_1
    exact aw_return rfl rfl (by decide) (by decide) h
set_option maxRecDepth 20000 in
theorem v_House_begin_2 {E : EN} {g : GS} {s : MS} {Q : Option Value → SG → Prop} (b : Nat) (t : Nat) (x2 : Int32) (hS : SX g) (h_b : HS g b) (et : t = 88 ∨ t = 104) (h : ((6 ≤ x2 → AWP E m_House_begin 40 0 0 [(0, .ref b), (1, .ref t), (2, .int 0)] [] (mk g s) Q) ∧ (¬ 6 ≤ x2 → (((s.1 t 11) ≤ x2 → vp_in x2 6 ∧ (∀ s1_, s1_ = wi s (b + 1) ((x2).toNatClampNeg) 0 → AWP E m_House_begin 2 0 0 [(0, .ref b), (1, .ref t), (2, .int (x2 + 1))] [] (mk g s1_) Q)) ∧ (¬ (s.1 t 11) ≤ x2 → vp_in x2 6 ∧ (∀ s2_, s2_ = wi s (b + 1) ((x2).toNatClampNeg) (s.1 (t + 1) ((x2).toNatClampNeg)) → AWP E m_House_begin 2 0 0 [(0, .ref b), (1, .ref t), (2, .int (x2 + 1))] [] (mk g s2_) Q)))))) : AWP E m_House_begin 2 0 0 [(0, .ref b), (1, .ref t), (2, .int x2)] [] (mk g s) Q := by
  refine aw_iload_n (q := 3) (j := 2) rfl rfl rfl (List.mem_of_getElem? (i := 2) rfl) ?_
  refine aw_bipush (q := 5) (v := 6) rfl rfl (by decide) ?_
  refine aw_icmp_ge (q := 8) (tgt := 38) rfl rfl (by decide) ⟨fun cd_1 => ?_, fun cd_1 => ?_⟩
  · replace h := h.1 cd_1
    refine aw_iconst (q := 39) (v := 0) rfl rfl (by decide) ?_
    refine aw_istore_n (q := 40) (j := 2) (ls' := [(2, .int _), (0, .ref _), (1, .ref _)]) rfl rfl rfl (by decide) rfl ?_
    refine aw_ls [1, 2, 0] rfl ?_
    exact h
  · replace h := h.2 cd_1
    refine aw_aload_n (q := 9) (j := 0) rfl rfl rfl (List.mem_of_getElem? (i := 0) rfl) ?_
    refine ag_getR (q := 12) rfl rfl fl_House_9 rfl (HS.o h_b) (HS.r0 h_b) ?_
    refine aw_iload_n (q := 13) (j := 2) rfl rfl rfl (List.mem_of_getElem? (i := 2) rfl) ?_
    refine aw_iload_n (q := 14) (j := 2) rfl rfl rfl (List.mem_of_getElem? (i := 2) rfl) ?_
    refine aw_aload_n (q := 15) (j := 1) rfl rfl rfl (List.mem_of_getElem? (i := 1) rfl) ?_
    refine ag_getI (q := 18) rfl rfl fl_House_25 rfl (TS.o (TS.of hS et)) ?_
    refine aw_icmp_ge (q := 21) (tgt := 30) rfl rfl (by decide) ⟨fun cd_2 => ?_, fun cd_2 => ?_⟩
    · replace h := h.1 cd_2
      refine aw_iconst (q := 31) (v := 0) rfl rfl (by decide) ?_
      obtain ⟨bd_3, h⟩ := h
      refine ag_iastore (q := 32) (N := 6) rfl rfl (HS.a0 h_b) bd_3 ?_
      replace h := h _ rfl
      refine aw_iinc (q := 35) (v := _ + 1) (ls' := [(2, .int _), (0, .ref _), (1, .ref _)]) rfl rfl (List.mem_of_getElem? (i := 2) rfl) rfl (by decide) rfl ?_
      refine aw_goto (tgt := 2) rfl (by decide) ?_
      refine aw_ls [1, 2, 0] rfl ?_
      exact h
    · replace h := h.2 cd_2
      refine aw_aload_n (q := 22) (j := 1) rfl rfl rfl (List.mem_of_getElem? (i := 1) rfl) ?_
      refine ag_getR (q := 25) rfl rfl fl_House_31 rfl (TS.o (TS.of hS et)) (TS.r0 (TS.of hS et)) ?_
      refine aw_iload_n (q := 26) (j := 2) rfl rfl rfl (List.mem_of_getElem? (i := 2) rfl) ?_
      obtain ⟨bd_4, h⟩ := h
      refine ag_iaload (q := 27) (N := 6) rfl rfl (TS.a0 (TS.of hS et)) bd_4 ?_
      refine aw_goto (tgt := 31) rfl (by decide) ?_
      refine ag_iastore (q := 32) (N := 6) rfl rfl (HS.a0 h_b) bd_4 ?_
      replace h := h _ rfl
      refine aw_iinc (q := 35) (v := _ + 1) (ls' := [(2, .int _), (0, .ref _), (1, .ref _)]) rfl rfl (List.mem_of_getElem? (i := 2) rfl) rfl (by decide) rfl ?_
      refine aw_goto (tgt := 2) rfl (by decide) ?_
      refine aw_ls [1, 2, 0] rfl ?_
      exact h
set_option maxRecDepth 20000 in
theorem v_House_begin_40 {E : EN} {g : GS} {s : MS} {Q : Option Value → SG → Prop} (b : Nat) (t : Nat) (x2 : Int32) (h_b : HS g b) (h : ((36 ≤ x2 → AWP E m_House_begin 64 0 0 [(0, .ref b), (1, .ref t), (2, .int 0)] [] (mk g s) Q) ∧ (¬ 36 ≤ x2 → vp_in x2 36 ∧ (∀ s1_, s1_ = wi s (b + 2) ((x2).toNatClampNeg) 0 → AWP E m_House_begin 40 0 0 [(0, .ref b), (1, .ref t), (2, .int (x2 + 1))] [] (mk g s1_) Q)))) : AWP E m_House_begin 40 0 0 [(0, .ref b), (1, .ref t), (2, .int x2)] [] (mk g s) Q := by
  refine aw_iload_n (q := 41) (j := 2) rfl rfl rfl (List.mem_of_getElem? (i := 2) rfl) ?_
  refine aw_aload_n (q := 42) (j := 0) rfl rfl rfl (List.mem_of_getElem? (i := 0) rfl) ?_
  refine ag_getR (q := 45) rfl rfl fl_House_15 rfl (HS.o h_b) (HS.r1 h_b) ?_
  refine ag_alen (q := 46) (t := 0) (N := 36) (v := 36) rfl rfl (by decide) (HS.a1 h_b) (by decide) ?_
  refine aw_icmp_ge (q := 49) (tgt := 62) rfl rfl (by decide) ⟨fun cd_1 => ?_, fun cd_1 => ?_⟩
  · replace h := h.1 cd_1
    refine aw_iconst (q := 63) (v := 0) rfl rfl (by decide) ?_
    refine aw_istore_n (q := 64) (j := 2) (ls' := [(2, .int _), (0, .ref _), (1, .ref _)]) rfl rfl rfl (by decide) rfl ?_
    refine aw_ls [1, 2, 0] rfl ?_
    exact h
  · replace h := h.2 cd_1
    refine aw_aload_n (q := 50) (j := 0) rfl rfl rfl (List.mem_of_getElem? (i := 0) rfl) ?_
    refine ag_getR (q := 53) rfl rfl fl_House_15 rfl (HS.o h_b) (HS.r1 h_b) ?_
    refine aw_iload_n (q := 54) (j := 2) rfl rfl rfl (List.mem_of_getElem? (i := 2) rfl) ?_
    refine aw_iconst (q := 55) (v := 0) rfl rfl (by decide) ?_
    obtain ⟨bd_2, h⟩ := h
    refine ag_iastore (q := 56) (N := 36) rfl rfl (HS.a1 h_b) bd_2 ?_
    replace h := h _ rfl
    refine aw_iinc (q := 59) (v := _ + 1) (ls' := [(2, .int _), (0, .ref _), (1, .ref _)]) rfl rfl (List.mem_of_getElem? (i := 2) rfl) rfl (by decide) rfl ?_
    refine aw_goto (tgt := 40) rfl (by decide) ?_
    refine aw_ls [1, 2, 0] rfl ?_
    exact h
set_option maxRecDepth 20000 in
theorem v_House_begin_64 {E : EN} {g : GS} {s : MS} {Q : Option Value → SG → Prop} (b : Nat) (t : Nat) (x2 : Int32) (hS : SX g) (h_b : HS g b) (et : t = 88 ∨ t = 104) (h : (((s.1 t 13) ≤ x2 → (∀ s1_, s1_ = wi s b 3 0 → (∀ s2_, s2_ = wi s1_ b 4 0 → (∀ s3_, s3_ = wi s2_ b 5 0 → (∀ s4_, s4_ = wi s3_ b 6 0 → (∀ s5_, s5_ = wi s4_ b 7 0 → (∀ s6_, s6_ = wi s5_ b 8 0 → Q none (mk g s6_)))))))) ∧ (¬ (s.1 t 13) ≤ x2 → vp_in x2 8 ∧ GV E m_Rat_begin [.ref (b + 4 + (x2).toNatClampNeg), .int (s.1 (t + 5) ((x2).toNatClampNeg)), .int (s.1 (t + 7) ((x2).toNatClampNeg))] g s (fun t7_ => AWP E m_House_begin 64 0 0 [(0, .ref b), (1, .ref t), (2, .int (x2 + 1))] [] (mk g t7_) Q)))) : AWP E m_House_begin 64 0 0 [(0, .ref b), (1, .ref t), (2, .int x2)] [] (mk g s) Q := by
  refine aw_iload_n (q := 65) (j := 2) rfl rfl rfl (List.mem_of_getElem? (i := 2) rfl) ?_
  refine aw_aload_n (q := 66) (j := 1) rfl rfl rfl (List.mem_of_getElem? (i := 1) rfl) ?_
  refine ag_getI (q := 69) rfl rfl fl_House_34 rfl (TS.o (TS.of hS et)) ?_
  refine aw_icmp_ge (q := 72) (tgt := 99) rfl rfl (by decide) ⟨fun cd_1 => ?_, fun cd_1 => ?_⟩
  · replace h := h.1 cd_1
    refine aw_aload_n (q := 100) (j := 0) rfl rfl rfl (List.mem_of_getElem? (i := 0) rfl) ?_
    refine aw_iconst (q := 101) (v := 0) rfl rfl (by decide) ?_
    refine ag_putI (q := 104) rfl rfl fl_House_46 rfl rfl (HS.o h_b) ?_
    replace h := h _ rfl
    refine aw_aload_n (q := 105) (j := 0) rfl rfl rfl (List.mem_of_getElem? (i := 0) rfl) ?_
    refine aw_iconst (q := 106) (v := 0) rfl rfl (by decide) ?_
    refine ag_putI (q := 109) rfl rfl fl_House_49 rfl rfl (HS.o h_b) ?_
    replace h := h _ rfl
    refine aw_aload_n (q := 110) (j := 0) rfl rfl rfl (List.mem_of_getElem? (i := 0) rfl) ?_
    refine aw_iconst (q := 111) (v := 0) rfl rfl (by decide) ?_
    refine ag_putI (q := 114) rfl rfl fl_House_52 rfl rfl (HS.o h_b) ?_
    replace h := h _ rfl
    refine aw_aload_n (q := 115) (j := 0) rfl rfl rfl (List.mem_of_getElem? (i := 0) rfl) ?_
    refine aw_iconst (q := 116) (v := 0) rfl rfl (by decide) ?_
    refine ag_putI (q := 119) rfl rfl fl_House_55 rfl rfl (HS.o h_b) ?_
    replace h := h _ rfl
    refine aw_aload_n (q := 120) (j := 0) rfl rfl rfl (List.mem_of_getElem? (i := 0) rfl) ?_
    refine aw_iconst (q := 121) (v := 0) rfl rfl (by decide) ?_
    refine ag_putI (q := 124) rfl rfl fl_House_58 rfl rfl (HS.o h_b) ?_
    replace h := h _ rfl
    refine aw_aload_n (q := 125) (j := 0) rfl rfl rfl (List.mem_of_getElem? (i := 0) rfl) ?_
    refine aw_iconst (q := 126) (v := 0) rfl rfl (by decide) ?_
    refine ag_putI (q := 129) rfl rfl fl_House_61 rfl rfl (HS.o h_b) ?_
    replace h := h _ rfl
    exact aw_return rfl rfl (by decide) (by decide) h
  · replace h := h.2 cd_1
    refine aw_aload_n (q := 73) (j := 0) rfl rfl rfl (List.mem_of_getElem? (i := 0) rfl) ?_
    refine ag_getR (q := 76) rfl rfl fl_House_20 rfl (HS.o h_b) (HS.r2 h_b) ?_
    refine aw_iload_n (q := 77) (j := 2) rfl rfl rfl (List.mem_of_getElem? (i := 2) rfl) ?_
    obtain ⟨bd_2, h⟩ := h
    refine ag_aaload (q := 78) rfl rfl (Or.inr rfl) (HS.a2 h_b) bd_2 (HS.rr h_b bd_2) ?_
    refine aw_aload_n (q := 79) (j := 1) rfl rfl rfl (List.mem_of_getElem? (i := 1) rfl) ?_
    refine ag_getR (q := 82) rfl rfl fl_House_36 rfl (TS.o (TS.of hS et)) (TS.r4 (TS.of hS et)) ?_
    refine aw_iload_n (q := 83) (j := 2) rfl rfl rfl (List.mem_of_getElem? (i := 2) rfl) ?_
    refine ag_iaload (q := 84) (N := 8) rfl rfl (TS.a4 (TS.of hS et)) bd_2 ?_
    refine aw_aload_n (q := 85) (j := 1) rfl rfl rfl (List.mem_of_getElem? (i := 1) rfl) ?_
    refine ag_getR (q := 88) rfl rfl fl_House_39 rfl (TS.o (TS.of hS et)) (TS.r6 (TS.of hS et)) ?_
    refine aw_iload_n (q := 89) (j := 2) rfl rfl rfl (List.mem_of_getElem? (i := 2) rfl) ?_
    refine ag_iaload (q := 90) (N := 8) rfl rfl (TS.a6 (TS.of hS et)) bd_2 ?_
    refine ag_cvV (z := m_Rat_begin) (ci := 6) (av := [.int _, .int _]) (st := []) (q := 93) (k' := 0) (n' := 0) rfl rfl cv_House_42 ⟨by decide, by decide⟩ rfl rfl (by decide) (by decide) (HS.ro h_b bd_2) rfl rfl rfl (Nat.le_of_ble_eq_true rfl) ?_
    refine GV.mono h (fun t7_ h => ?_)
    refine aw_iinc (q := 96) (v := _ + 1) (ls' := [(2, .int _), (0, .ref _), (1, .ref _)]) rfl rfl (List.mem_of_getElem? (i := 2) rfl) rfl (by decide) rfl ?_
    refine aw_goto (tgt := 64) rfl (by decide) ?_
    refine aw_ls [1, 2, 0] rfl ?_
    exact h
set_option maxRecDepth 20000 in
theorem v_House_begin {E : EN} {g : GS} {s : MS} {Q : Option Value → SG → Prop} (b : Nat) (t : Nat) (h : AWP E m_House_begin 2 0 0 [(0, .ref b), (1, .ref t), (2, .int 0)] [] (mk g s) Q) : AMet E m_House_begin [.ref b, .ref t] (mk g s) Q := by
  refine AMet.of (by decide) k_House_begin [(0, .ref b), (1, .ref t)] (Nat.le_of_ble_eq_true rfl) rfl ?_
  refine aw_iconst (q := 1) (v := 0) rfl rfl (by decide) ?_
  refine aw_istore_n (q := 2) (j := 2) (ls' := [(2, .int _), (0, .ref _), (1, .ref _)]) rfl rfl rfl (by decide) rfl ?_
  refine aw_ls [1, 2, 0] rfl ?_
  exact h
set_option maxRecDepth 20000 in
theorem v_House_inHole {E : EN} {g : GS} {s : MS} {Q : Option Value → SG → Prop} (b : Nat) (x1 : Int32) (x2 : Int32) (h_b : HS g b) (h : vp_in ((x1 * 6) + x2) 36 ∧ Q (some (.int (s.1 (b + 2) ((((x1 * 6) + x2)).toNatClampNeg)))) (mk g s)) : AMet E m_House_inHole [.ref b, .int x1, .int x2] (mk g s) Q := by
  refine AMet.of (by decide) k_House_inHole [(0, .ref b), (1, .int x1), (2, .int x2)] (Nat.le_of_ble_eq_true rfl) rfl ?_
  refine aw_aload_n (q := 1) (j := 0) rfl rfl rfl (List.mem_of_getElem? (i := 0) rfl) ?_
  refine ag_getR (q := 4) rfl rfl fl_House_15 rfl (HS.o h_b) (HS.r1 h_b) ?_
  refine aw_iload_n (q := 5) (j := 1) rfl rfl rfl (List.mem_of_getElem? (i := 1) rfl) ?_
  refine aw_bipush (q := 7) (v := 6) rfl rfl (by decide) ?_
  refine aw_imul (q := 8) rfl rfl ?_
  refine aw_iload_n (q := 9) (j := 2) rfl rfl rfl (List.mem_of_getElem? (i := 2) rfl) ?_
  refine aw_iadd (q := 10) rfl rfl ?_
  obtain ⟨bd_1, h⟩ := h
  refine ag_iaload (q := 11) (N := 36) rfl rfl (HS.a1 h_b) bd_1 ?_
  exact aw_ireturn (ty := .int) rfl rfl rfl (by decide) (by decide) h
set_option maxRecDepth 20000 in
theorem v_House_worthOf {E : EN} {g : GS} {s : MS} {Q : Option Value → SG → Prop} (b : Nat) (t : Nat) (x2 : Int32) (hS : SX g) (h_b : HS g b) (et : t = 88 ∨ t = 104) (h : vp_in x2 6 ∧ GI E m_House_inHole [.ref b, .int x2, .int (s.1 (t + 4) ((x2).toNatClampNeg))] g s (fun y1_ t1_ => GI E m_House_allInHole [.ref b, .int x2] g t1_ (fun y2_ t2_ => vp_in (t2_.1 (t + 4) ((x2).toNatClampNeg)) 6 ∧ Q (some (.int (if 0 < ((t2_.1 (t + 2) (((t2_.1 (t + 4) ((x2).toNatClampNeg))).toNatClampNeg)) * (y1_ - (2 * (y2_ - y1_)))) then ((t2_.1 (t + 2) (((t2_.1 (t + 4) ((x2).toNatClampNeg))).toNatClampNeg)) * (y1_ - (2 * (y2_ - y1_)))) else 0))) (mk g t2_)))) : AMet E m_House_worthOf [.ref b, .ref t, .int x2] (mk g s) Q := by
  refine AMet.of (by decide) k_House_worthOf [(0, .ref b), (1, .ref t), (2, .int x2)] (Nat.le_of_ble_eq_true rfl) rfl ?_
  refine aw_aload_n (q := 1) (j := 0) rfl rfl rfl (List.mem_of_getElem? (i := 0) rfl) ?_
  refine aw_iload_n (q := 2) (j := 2) rfl rfl rfl (List.mem_of_getElem? (i := 2) rfl) ?_
  refine aw_aload_n (q := 3) (j := 1) rfl rfl rfl (List.mem_of_getElem? (i := 1) rfl) ?_
  refine ag_getR (q := 6) rfl rfl fl_House_87 rfl (TS.o (TS.of hS et)) (TS.r3 (TS.of hS et)) ?_
  refine aw_iload_n (q := 7) (j := 2) rfl rfl rfl (List.mem_of_getElem? (i := 2) rfl) ?_
  obtain ⟨bd_1, h⟩ := h
  refine ag_iaload (q := 8) (N := 6) rfl rfl (TS.a3 (TS.of hS et)) bd_1 ?_
  refine ag_cvI (z := m_House_inHole) (ci := 2) (av := [.int _, .int _]) (st := []) (q := 11) (k' := 0) (n' := 0) rfl rfl cv_House_74 ⟨by decide, by decide⟩ rfl rfl (by decide) (by decide) (HS.o h_b) rfl rfl rfl (Nat.le_of_ble_eq_true rfl) ?_
  refine GI.mono h (fun y1_ t1_ h => ?_)
  refine aw_istore_n (q := 12) (j := 3) (ls' := [(3, .int _), (0, .ref _), (1, .ref _), (2, .int _)]) rfl rfl rfl (by decide) rfl ?_
  refine aw_aload_n (q := 13) (j := 0) rfl rfl rfl (List.mem_of_getElem? (i := 1) rfl) ?_
  refine aw_iload_n (q := 14) (j := 2) rfl rfl rfl (List.mem_of_getElem? (i := 3) rfl) ?_
  refine ag_cvI (z := m_House_allInHole) (ci := 2) (av := [.int _]) (st := []) (q := 17) (k' := 0) (n' := 0) rfl rfl cv_House_78 ⟨by decide, by decide⟩ rfl rfl (by decide) (by decide) (HS.o h_b) rfl rfl rfl (Nat.le_of_ble_eq_true rfl) ?_
  refine GI.mono h (fun y2_ t2_ h => ?_)
  refine aw_iload_n (q := 18) (j := 3) rfl rfl rfl (List.mem_of_getElem? (i := 0) rfl) ?_
  refine aw_isub (q := 19) rfl rfl ?_
  refine aw_istore (q := 21) (j := 4) (ls' := [(4, .int _), (3, .int _), (0, .ref _), (1, .ref _), (2, .int _)]) rfl rfl (by decide) rfl ?_
  refine aw_iconst (q := 22) (v := 0) rfl rfl (by decide) ?_
  refine aw_aload_n (q := 23) (j := 1) rfl rfl rfl (List.mem_of_getElem? (i := 3) rfl) ?_
  refine ag_getR (q := 26) rfl rfl fl_House_90 rfl (TS.o (TS.of hS et)) (TS.r1 (TS.of hS et)) ?_
  refine aw_aload_n (q := 27) (j := 1) rfl rfl rfl (List.mem_of_getElem? (i := 3) rfl) ?_
  refine ag_getR (q := 30) rfl rfl fl_House_87 rfl (TS.o (TS.of hS et)) (TS.r3 (TS.of hS et)) ?_
  refine aw_iload_n (q := 31) (j := 2) rfl rfl rfl (List.mem_of_getElem? (i := 4) rfl) ?_
  refine ag_iaload (q := 32) (N := 6) rfl rfl (TS.a3 (TS.of hS et)) bd_1 ?_
  obtain ⟨bd_2, h⟩ := h
  refine ag_iaload (q := 33) (N := 6) rfl rfl (TS.a1 (TS.of hS et)) bd_2 ?_
  refine aw_iload_n (q := 34) (j := 3) rfl rfl rfl (List.mem_of_getElem? (i := 1) rfl) ?_
  refine aw_iconst (q := 35) (v := 2) rfl rfl (by decide) ?_
  refine aw_iload (q := 37) (j := 4) rfl rfl (List.mem_of_getElem? (i := 0) rfl) ?_
  refine aw_imul (q := 38) rfl rfl ?_
  refine aw_isub (q := 39) rfl rfl ?_
  refine aw_imul (q := 40) rfl rfl ?_
  refine aw_mmax (q := 43) rfl rfl (tb_c4 140 rfl rfl) (tb_c3 176 rfl rfl) (tb_c1 18 rfl rfl) (tb_c3 177 rfl rfl) (by decide) (by decide) (by decide) (by decide) (Nat.le_of_ble_eq_true rfl) ?_
  exact aw_ireturn (ty := .int) rfl rfl rfl (by decide) (by decide) h
set_option maxRecDepth 20000 in
theorem v_House_allInHole_4 {E : EN} {g : GS} {s : MS} {Q : Option Value → SG → Prop} (b : Nat) (x1 : Int32) (x2 : Int32) (x3 : Int32) (h_b : HS g b) (h : ((6 ≤ x3 → Q (some (.int x2)) (mk g s)) ∧ (¬ 6 ≤ x3 → GI E m_House_inHole [.ref b, .int x1, .int x3] g s (fun y1_ t1_ => AWP E m_House_allInHole 4 0 0 [(0, .ref b), (1, .int x1), (2, .int (x2 + y1_)), (3, .int (x3 + 1))] [] (mk g t1_) Q)))) : AWP E m_House_allInHole 4 0 0 [(0, .ref b), (1, .int x1), (2, .int x2), (3, .int x3)] [] (mk g s) Q := by
  refine aw_iload_n (q := 5) (j := 3) rfl rfl rfl (List.mem_of_getElem? (i := 3) rfl) ?_
  refine aw_bipush (q := 7) (v := 6) rfl rfl (by decide) ?_
  refine aw_icmp_ge (q := 10) (tgt := 25) rfl rfl (by decide) ⟨fun cd_1 => ?_, fun cd_1 => ?_⟩
  · replace h := h.1 cd_1
    refine aw_iload_n (q := 26) (j := 2) rfl rfl rfl (List.mem_of_getElem? (i := 2) rfl) ?_
    exact aw_ireturn (ty := .int) rfl rfl rfl (by decide) (by decide) h
  · replace h := h.2 cd_1
    refine aw_iload_n (q := 11) (j := 2) rfl rfl rfl (List.mem_of_getElem? (i := 2) rfl) ?_
    refine aw_aload_n (q := 12) (j := 0) rfl rfl rfl (List.mem_of_getElem? (i := 0) rfl) ?_
    refine aw_iload_n (q := 13) (j := 1) rfl rfl rfl (List.mem_of_getElem? (i := 1) rfl) ?_
    refine aw_iload_n (q := 14) (j := 3) rfl rfl rfl (List.mem_of_getElem? (i := 3) rfl) ?_
    refine ag_cvI (z := m_House_inHole) (ci := 2) (av := [.int _, .int _]) (st := [.int _]) (q := 17) (k' := 0) (n' := 0) rfl rfl cv_House_74 ⟨by decide, by decide⟩ rfl rfl (by decide) (by decide) (HS.o h_b) rfl rfl rfl (Nat.le_of_ble_eq_true rfl) ?_
    refine GI.mono h (fun y1_ t1_ h => ?_)
    refine aw_iadd (q := 18) rfl rfl ?_
    refine aw_istore_n (q := 19) (j := 2) (ls' := [(2, .int _), (0, .ref _), (1, .int _), (3, .int _)]) rfl rfl rfl (by decide) rfl ?_
    refine aw_iinc (q := 22) (v := _ + 1) (ls' := [(3, .int _), (2, .int _), (0, .ref _), (1, .int _)]) rfl rfl (List.mem_of_getElem? (i := 3) rfl) rfl (by decide) rfl ?_
    refine aw_goto (tgt := 4) rfl (by decide) ?_
    refine aw_ls [2, 3, 1, 0] rfl ?_
    exact h
set_option maxRecDepth 20000 in
theorem v_House_allInHole {E : EN} {g : GS} {s : MS} {Q : Option Value → SG → Prop} (b : Nat) (x1 : Int32) (h : AWP E m_House_allInHole 4 0 0 [(0, .ref b), (1, .int x1), (2, .int 0), (3, .int 0)] [] (mk g s) Q) : AMet E m_House_allInHole [.ref b, .int x1] (mk g s) Q := by
  refine AMet.of (by decide) k_House_allInHole [(0, .ref b), (1, .int x1)] (Nat.le_of_ble_eq_true rfl) rfl ?_
  refine aw_iconst (q := 1) (v := 0) rfl rfl (by decide) ?_
  refine aw_istore_n (q := 2) (j := 2) (ls' := [(2, .int _), (0, .ref _), (1, .int _)]) rfl rfl rfl (by decide) rfl ?_
  refine aw_iconst (q := 3) (v := 0) rfl rfl (by decide) ?_
  refine aw_istore_n (q := 4) (j := 3) (ls' := [(3, .int _), (2, .int _), (0, .ref _), (1, .int _)]) rfl rfl rfl (by decide) rfl ?_
  refine aw_ls [2, 3, 1, 0] rfl ?_
  exact h
set_option maxRecDepth 20000 in
theorem v_House_take_38 {E : EN} {g : GS} {s : MS} {Q : Option Value → SG → Prop} (b : Nat) (b2 : Nat) (x2 : Int32) (h_b : HS g b) (h_b2 : HS g b2) (h : ((8 ≤ x2 → (∀ s1_, s1_ = wi s b 3 (s.1 b2 3) → (∀ s2_, s2_ = wi s1_ b 4 (s1_.1 b2 4) → (∀ s3_, s3_ = wi s2_ b 5 (s2_.1 b2 5) → (∀ s4_, s4_ = wi s3_ b 6 (s3_.1 b2 6) → (∀ s5_, s5_ = wi s4_ b 7 (s4_.1 b2 7) → (∀ s6_, s6_ = wi s5_ b 8 (s5_.1 b2 8) → Q none (mk g s6_)))))))) ∧ (¬ 8 ≤ x2 → vp_in x2 8 ∧ GV E m_Rat_take [.ref (b + 4 + (x2).toNatClampNeg), .ref (b2 + 4 + (x2).toNatClampNeg)] g s (fun t7_ => AWP E m_House_take 38 0 0 [(0, .ref b), (1, .ref b2), (2, .int (x2 + 1))] [] (mk g t7_) Q)))) : AWP E m_House_take 38 0 0 [(0, .ref b), (1, .ref b2), (2, .int x2)] [] (mk g s) Q := by
  refine aw_iload_n (q := 39) (j := 2) rfl rfl rfl (List.mem_of_getElem? (i := 2) rfl) ?_
  refine aw_bipush (q := 41) (v := 8) rfl rfl (by decide) ?_
  refine aw_icmp_ge (q := 44) (tgt := 65) rfl rfl (by decide) ⟨fun cd_1 => ?_, fun cd_1 => ?_⟩
  · replace h := h.1 cd_1
    refine aw_aload_n (q := 66) (j := 0) rfl rfl rfl (List.mem_of_getElem? (i := 0) rfl) ?_
    refine aw_aload_n (q := 67) (j := 1) rfl rfl rfl (List.mem_of_getElem? (i := 1) rfl) ?_
    refine ag_getI (q := 70) rfl rfl fl_House_46 rfl (HS.o h_b2) ?_
    refine ag_putI (q := 73) rfl rfl fl_House_46 rfl rfl (HS.o h_b) ?_
    replace h := h _ rfl
    refine aw_aload_n (q := 74) (j := 0) rfl rfl rfl (List.mem_of_getElem? (i := 0) rfl) ?_
    refine aw_aload_n (q := 75) (j := 1) rfl rfl rfl (List.mem_of_getElem? (i := 1) rfl) ?_
    refine ag_getI (q := 78) rfl rfl fl_House_49 rfl (HS.o h_b2) ?_
    refine ag_putI (q := 81) rfl rfl fl_House_49 rfl rfl (HS.o h_b) ?_
    replace h := h _ rfl
    refine aw_aload_n (q := 82) (j := 0) rfl rfl rfl (List.mem_of_getElem? (i := 0) rfl) ?_
    refine aw_aload_n (q := 83) (j := 1) rfl rfl rfl (List.mem_of_getElem? (i := 1) rfl) ?_
    refine ag_getI (q := 86) rfl rfl fl_House_52 rfl (HS.o h_b2) ?_
    refine ag_putI (q := 89) rfl rfl fl_House_52 rfl rfl (HS.o h_b) ?_
    replace h := h _ rfl
    refine aw_aload_n (q := 90) (j := 0) rfl rfl rfl (List.mem_of_getElem? (i := 0) rfl) ?_
    refine aw_aload_n (q := 91) (j := 1) rfl rfl rfl (List.mem_of_getElem? (i := 1) rfl) ?_
    refine ag_getI (q := 94) rfl rfl fl_House_55 rfl (HS.o h_b2) ?_
    refine ag_putI (q := 97) rfl rfl fl_House_55 rfl rfl (HS.o h_b) ?_
    replace h := h _ rfl
    refine aw_aload_n (q := 98) (j := 0) rfl rfl rfl (List.mem_of_getElem? (i := 0) rfl) ?_
    refine aw_aload_n (q := 99) (j := 1) rfl rfl rfl (List.mem_of_getElem? (i := 1) rfl) ?_
    refine ag_getI (q := 102) rfl rfl fl_House_58 rfl (HS.o h_b2) ?_
    refine ag_putI (q := 105) rfl rfl fl_House_58 rfl rfl (HS.o h_b) ?_
    replace h := h _ rfl
    refine aw_aload_n (q := 106) (j := 0) rfl rfl rfl (List.mem_of_getElem? (i := 0) rfl) ?_
    refine aw_aload_n (q := 107) (j := 1) rfl rfl rfl (List.mem_of_getElem? (i := 1) rfl) ?_
    refine ag_getI (q := 110) rfl rfl fl_House_61 rfl (HS.o h_b2) ?_
    refine ag_putI (q := 113) rfl rfl fl_House_61 rfl rfl (HS.o h_b) ?_
    replace h := h _ rfl
    exact aw_return rfl rfl (by decide) (by decide) h
  · replace h := h.2 cd_1
    refine aw_aload_n (q := 45) (j := 0) rfl rfl rfl (List.mem_of_getElem? (i := 0) rfl) ?_
    refine ag_getR (q := 48) rfl rfl fl_House_20 rfl (HS.o h_b) (HS.r2 h_b) ?_
    refine aw_iload_n (q := 49) (j := 2) rfl rfl rfl (List.mem_of_getElem? (i := 2) rfl) ?_
    obtain ⟨bd_2, h⟩ := h
    refine ag_aaload (q := 50) rfl rfl (Or.inr rfl) (HS.a2 h_b) bd_2 (HS.rr h_b bd_2) ?_
    refine aw_aload_n (q := 51) (j := 1) rfl rfl rfl (List.mem_of_getElem? (i := 1) rfl) ?_
    refine ag_getR (q := 54) rfl rfl fl_House_20 rfl (HS.o h_b2) (HS.r2 h_b2) ?_
    refine aw_iload_n (q := 55) (j := 2) rfl rfl rfl (List.mem_of_getElem? (i := 2) rfl) ?_
    refine ag_aaload (q := 56) rfl rfl (Or.inr rfl) (HS.a2 h_b2) bd_2 (HS.rr h_b2 bd_2) ?_
    refine ag_cvV (z := m_Rat_take) (ci := 6) (av := [.ref _]) (st := []) (q := 59) (k' := 0) (n' := 0) rfl rfl cv_House_70 ⟨by decide, by decide⟩ rfl rfl (by decide) (by decide) (HS.ro h_b bd_2) rfl rfl rfl (Nat.le_of_ble_eq_true rfl) ?_
    refine GV.mono h (fun t7_ h => ?_)
    refine aw_iinc (q := 62) (v := _ + 1) (ls' := [(2, .int _), (0, .ref _), (1, .ref _)]) rfl rfl (List.mem_of_getElem? (i := 2) rfl) rfl (by decide) rfl ?_
    refine aw_goto (tgt := 38) rfl (by decide) ?_
    refine aw_ls [1, 2, 0] rfl ?_
    exact h
set_option maxRecDepth 20000 in
theorem v_House_take {E : EN} {g : GS} {s : MS} {Q : Option Value → SG → Prop} (b : Nat) (b2 : Nat) (h_b : HS g b) (h_b2 : HS g b2) (h : (∀ s1_, s1_ = si s (b + 1) (va_cpy (s.1 (b2 + 1)) (s.1 (b + 1)) 0 0 6) → (∀ s2_, s2_ = si s1_ (b + 2) (va_cpy (s1_.1 (b2 + 2)) (s1_.1 (b + 2)) 0 0 36) → AWP E m_House_take 38 0 0 [(0, .ref b), (1, .ref b2), (2, .int 0)] [] (mk g s2_) Q))) : AMet E m_House_take [.ref b, .ref b2] (mk g s) Q := by
  refine AMet.of (by decide) k_House_take [(0, .ref b), (1, .ref b2)] (Nat.le_of_ble_eq_true rfl) rfl ?_
  refine aw_aload_n (q := 1) (j := 1) rfl rfl rfl (List.mem_of_getElem? (i := 1) rfl) ?_
  refine ag_getR (q := 4) rfl rfl fl_House_9 rfl (HS.o h_b2) (HS.r0 h_b2) ?_
  refine aw_iconst (q := 5) (v := 0) rfl rfl (by decide) ?_
  refine aw_aload_n (q := 6) (j := 0) rfl rfl rfl (List.mem_of_getElem? (i := 0) rfl) ?_
  refine ag_getR (q := 9) rfl rfl fl_House_9 rfl (HS.o h_b) (HS.r0 h_b) ?_
  refine aw_iconst (q := 10) (v := 0) rfl rfl (by decide) ?_
  refine aw_aload_n (q := 11) (j := 0) rfl rfl rfl (List.mem_of_getElem? (i := 0) rfl) ?_
  refine ag_getR (q := 14) rfl rfl fl_House_9 rfl (HS.o h_b) (HS.r0 h_b) ?_
  refine ag_alen (q := 15) (t := 0) (N := 6) (v := 6) rfl rfl (by decide) (HS.a0 h_b) (by decide) ?_
  refine ag_copy (q := 18) (n0 := 6) (n1 := 6) rfl rfl (tb_c4 162 rfl rfl) (tb_c2 226 rfl rfl) (tb_c2 225 rfl rfl) (tb_c1 12 rfl rfl) (by decide) (by decide) (Nat.le_of_ble_eq_true rfl) (HS.a0 h_b2) (HS.a0 h_b) (by decide) (by decide) (by decide) (by decide) (by decide) ?_
  replace h := h _ rfl
  refine aw_aload_n (q := 19) (j := 1) rfl rfl rfl (List.mem_of_getElem? (i := 1) rfl) ?_
  refine ag_getR (q := 22) rfl rfl fl_House_15 rfl (HS.o h_b2) (HS.r1 h_b2) ?_
  refine aw_iconst (q := 23) (v := 0) rfl rfl (by decide) ?_
  refine aw_aload_n (q := 24) (j := 0) rfl rfl rfl (List.mem_of_getElem? (i := 0) rfl) ?_
  refine ag_getR (q := 27) rfl rfl fl_House_15 rfl (HS.o h_b) (HS.r1 h_b) ?_
  refine aw_iconst (q := 28) (v := 0) rfl rfl (by decide) ?_
  refine aw_aload_n (q := 29) (j := 0) rfl rfl rfl (List.mem_of_getElem? (i := 0) rfl) ?_
  refine ag_getR (q := 32) rfl rfl fl_House_15 rfl (HS.o h_b) (HS.r1 h_b) ?_
  refine ag_alen (q := 33) (t := 0) (N := 36) (v := 36) rfl rfl (by decide) (HS.a1 h_b) (by decide) ?_
  refine ag_copy (q := 36) (n0 := 36) (n1 := 36) rfl rfl (tb_c4 162 rfl rfl) (tb_c2 226 rfl rfl) (tb_c2 225 rfl rfl) (tb_c1 12 rfl rfl) (by decide) (by decide) (Nat.le_of_ble_eq_true rfl) (HS.a1 h_b2) (HS.a1 h_b) (by decide) (by decide) (by decide) (by decide) (by decide) ?_
  replace h := h _ rfl
  refine aw_iconst (q := 37) (v := 0) rfl rfl (by decide) ?_
  refine aw_istore_n (q := 38) (j := 2) (ls' := [(2, .int _), (0, .ref _), (1, .ref _)]) rfl rfl rfl (by decide) rfl ?_
  refine aw_ls [1, 2, 0] rfl ?_
  exact h
set_option maxRecDepth 20000 in
theorem v_House_allInHeap_4 {E : EN} {g : GS} {s : MS} {Q : Option Value → SG → Prop} (b : Nat) (x1 : Int32) (x2 : Int32) (h_b : HS g b) (h : ((6 ≤ x2 → Q (some (.int x1)) (mk g s)) ∧ (¬ 6 ≤ x2 → vp_in x2 6 ∧ AWP E m_House_allInHeap 4 0 0 [(0, .ref b), (1, .int (x1 + (s.1 (b + 1) ((x2).toNatClampNeg)))), (2, .int (x2 + 1))] [] (mk g s) Q))) : AWP E m_House_allInHeap 4 0 0 [(0, .ref b), (1, .int x1), (2, .int x2)] [] (mk g s) Q := by
  refine aw_iload_n (q := 5) (j := 2) rfl rfl rfl (List.mem_of_getElem? (i := 2) rfl) ?_
  refine aw_bipush (q := 7) (v := 6) rfl rfl (by decide) ?_
  refine aw_icmp_ge (q := 10) (tgt := 25) rfl rfl (by decide) ⟨fun cd_1 => ?_, fun cd_1 => ?_⟩
  · replace h := h.1 cd_1
    refine aw_iload_n (q := 26) (j := 1) rfl rfl rfl (List.mem_of_getElem? (i := 1) rfl) ?_
    exact aw_ireturn (ty := .int) rfl rfl rfl (by decide) (by decide) h
  · replace h := h.2 cd_1
    refine aw_iload_n (q := 11) (j := 1) rfl rfl rfl (List.mem_of_getElem? (i := 1) rfl) ?_
    refine aw_aload_n (q := 12) (j := 0) rfl rfl rfl (List.mem_of_getElem? (i := 0) rfl) ?_
    refine ag_getR (q := 15) rfl rfl fl_House_9 rfl (HS.o h_b) (HS.r0 h_b) ?_
    refine aw_iload_n (q := 16) (j := 2) rfl rfl rfl (List.mem_of_getElem? (i := 2) rfl) ?_
    obtain ⟨bd_2, h⟩ := h
    refine ag_iaload (q := 17) (N := 6) rfl rfl (HS.a0 h_b) bd_2 ?_
    refine aw_iadd (q := 18) rfl rfl ?_
    refine aw_istore_n (q := 19) (j := 1) (ls' := [(1, .int _), (0, .ref _), (2, .int _)]) rfl rfl rfl (by decide) rfl ?_
    refine aw_iinc (q := 22) (v := _ + 1) (ls' := [(2, .int _), (1, .int _), (0, .ref _)]) rfl rfl (List.mem_of_getElem? (i := 2) rfl) rfl (by decide) rfl ?_
    refine aw_goto (tgt := 4) rfl (by decide) ?_
    refine aw_ls [2, 1, 0] rfl ?_
    exact h
set_option maxRecDepth 20000 in
theorem v_House_allInHeap {E : EN} {g : GS} {s : MS} {Q : Option Value → SG → Prop} (b : Nat) (h : AWP E m_House_allInHeap 4 0 0 [(0, .ref b), (1, .int 0), (2, .int 0)] [] (mk g s) Q) : AMet E m_House_allInHeap [.ref b] (mk g s) Q := by
  refine AMet.of (by decide) k_House_allInHeap [(0, .ref b)] (Nat.le_of_ble_eq_true rfl) rfl ?_
  refine aw_iconst (q := 1) (v := 0) rfl rfl (by decide) ?_
  refine aw_istore_n (q := 2) (j := 1) (ls' := [(1, .int _), (0, .ref _)]) rfl rfl rfl (by decide) rfl ?_
  refine aw_iconst (q := 3) (v := 0) rfl rfl (by decide) ?_
  refine aw_istore_n (q := 4) (j := 2) (ls' := [(2, .int _), (1, .int _), (0, .ref _)]) rfl rfl rfl (by decide) rfl ?_
  refine aw_ls [2, 1, 0] rfl ?_
  exact h
set_option maxRecDepth 20000 in
theorem v_House_exchange_2 {E : EN} {g : GS} {s : MS} {Q : Option Value → SG → Prop} (b : Nat) (x1 : Int32) (x2 : Int32) (x3 : Int32) (h_b : HS g b) (h : ((6 ≤ x3 → Q none (mk g s)) ∧ (¬ 6 ≤ x3 → GI E m_House_inHole [.ref b, .int x1, .int x3] g s (fun y1_ t1_ => GI E m_House_inHole [.ref b, .int x2, .int x3] g t1_ (fun y2_ t2_ => vp_in ((x1 * 6) + x3) 36 ∧ (∀ s3_, s3_ = wi t2_ (b + 2) ((((x1 * 6) + x3)).toNatClampNeg) y2_ → vp_in ((x2 * 6) + x3) 36 ∧ (∀ s4_, s4_ = wi s3_ (b + 2) ((((x2 * 6) + x3)).toNatClampNeg) y1_ → AWP E m_House_exchange 2 0 0 [(0, .ref b), (1, .int x1), (2, .int x2), (3, .int (x3 + 1))] [] (mk g s4_) Q))))))) : AWP E m_House_exchange 2 0 0 [(0, .ref b), (1, .int x1), (2, .int x2), (3, .int x3)] [] (mk g s) Q := by
  refine aw_iload_n (q := 3) (j := 3) rfl rfl rfl (List.mem_of_getElem? (i := 3) rfl) ?_
  refine aw_bipush (q := 5) (v := 6) rfl rfl (by decide) ?_
  refine aw_icmp_ge (q := 8) (tgt := 52) rfl rfl (by decide) ⟨fun cd_1 => ?_, fun cd_1 => ?_⟩
  · replace h := h.1 cd_1
    exact aw_return rfl rfl (by decide) (by decide) h
  · replace h := h.2 cd_1
    refine aw_aload_n (q := 9) (j := 0) rfl rfl rfl (List.mem_of_getElem? (i := 0) rfl) ?_
    refine aw_iload_n (q := 10) (j := 1) rfl rfl rfl (List.mem_of_getElem? (i := 1) rfl) ?_
    refine aw_iload_n (q := 11) (j := 3) rfl rfl rfl (List.mem_of_getElem? (i := 3) rfl) ?_
    refine ag_cvI (z := m_House_inHole) (ci := 2) (av := [.int _, .int _]) (st := []) (q := 14) (k' := 0) (n' := 0) rfl rfl cv_House_74 ⟨by decide, by decide⟩ rfl rfl (by decide) (by decide) (HS.o h_b) rfl rfl rfl (Nat.le_of_ble_eq_true rfl) ?_
    refine GI.mono h (fun y1_ t1_ h => ?_)
    refine aw_istore (q := 16) (j := 4) (ls' := [(4, .int _), (0, .ref _), (1, .int _), (2, .int _), (3, .int _)]) rfl rfl (by decide) rfl ?_
    refine aw_aload_n (q := 17) (j := 0) rfl rfl rfl (List.mem_of_getElem? (i := 1) rfl) ?_
    refine ag_getR (q := 20) rfl rfl fl_House_15 rfl (HS.o h_b) (HS.r1 h_b) ?_
    refine aw_iload_n (q := 21) (j := 1) rfl rfl rfl (List.mem_of_getElem? (i := 2) rfl) ?_
    refine aw_bipush (q := 23) (v := 6) rfl rfl (by decide) ?_
    refine aw_imul (q := 24) rfl rfl ?_
    refine aw_iload_n (q := 25) (j := 3) rfl rfl rfl (List.mem_of_getElem? (i := 4) rfl) ?_
    refine aw_iadd (q := 26) rfl rfl ?_
    refine aw_aload_n (q := 27) (j := 0) rfl rfl rfl (List.mem_of_getElem? (i := 1) rfl) ?_
    refine aw_iload_n (q := 28) (j := 2) rfl rfl rfl (List.mem_of_getElem? (i := 3) rfl) ?_
    refine aw_iload_n (q := 29) (j := 3) rfl rfl rfl (List.mem_of_getElem? (i := 4) rfl) ?_
    refine ag_cvI (z := m_House_inHole) (ci := 2) (av := [.int _, .int _]) (st := [.int _, .ref _]) (q := 32) (k' := 0) (n' := 0) rfl rfl cv_House_74 ⟨by decide, by decide⟩ rfl rfl (by decide) (by decide) (HS.o h_b) rfl rfl rfl (Nat.le_of_ble_eq_true rfl) ?_
    refine GI.mono h (fun y2_ t2_ h => ?_)
    obtain ⟨bd_2, h⟩ := h
    refine ag_iastore (q := 33) (N := 36) rfl rfl (HS.a1 h_b) bd_2 ?_
    replace h := h _ rfl
    refine aw_aload_n (q := 34) (j := 0) rfl rfl rfl (List.mem_of_getElem? (i := 1) rfl) ?_
    refine ag_getR (q := 37) rfl rfl fl_House_15 rfl (HS.o h_b) (HS.r1 h_b) ?_
    refine aw_iload_n (q := 38) (j := 2) rfl rfl rfl (List.mem_of_getElem? (i := 3) rfl) ?_
    refine aw_bipush (q := 40) (v := 6) rfl rfl (by decide) ?_
    refine aw_imul (q := 41) rfl rfl ?_
    refine aw_iload_n (q := 42) (j := 3) rfl rfl rfl (List.mem_of_getElem? (i := 4) rfl) ?_
    refine aw_iadd (q := 43) rfl rfl ?_
    refine aw_iload (q := 45) (j := 4) rfl rfl (List.mem_of_getElem? (i := 0) rfl) ?_
    obtain ⟨bd_3, h⟩ := h
    refine ag_iastore (q := 46) (N := 36) rfl rfl (HS.a1 h_b) bd_3 ?_
    replace h := h _ rfl
    refine aw_iinc (q := 49) (v := _ + 1) (ls' := [(3, .int _), (4, .int _), (0, .ref _), (1, .int _), (2, .int _)]) rfl rfl (List.mem_of_getElem? (i := 4) rfl) rfl (by decide) rfl ?_
    refine aw_goto (tgt := 2) rfl (by decide) ?_
    refine aw_ls [2, 3, 4, 0] rfl ?_
    exact h
set_option maxRecDepth 20000 in
theorem v_House_exchange {E : EN} {g : GS} {s : MS} {Q : Option Value → SG → Prop} (b : Nat) (x1 : Int32) (x2 : Int32) (h : AWP E m_House_exchange 2 0 0 [(0, .ref b), (1, .int x1), (2, .int x2), (3, .int 0)] [] (mk g s) Q) : AMet E m_House_exchange [.ref b, .int x1, .int x2] (mk g s) Q := by
  refine AMet.of (by decide) k_House_exchange [(0, .ref b), (1, .int x1), (2, .int x2)] (Nat.le_of_ble_eq_true rfl) rfl ?_
  refine aw_iconst (q := 1) (v := 0) rfl rfl (by decide) ?_
  refine aw_istore_n (q := 2) (j := 3) (ls' := [(3, .int _), (0, .ref _), (1, .int _), (2, .int _)]) rfl rfl rfl (by decide) rfl ?_
  refine aw_ls [1, 2, 3, 0] rfl ?_
  exact h
set_option maxRecDepth 20000 in
theorem v_House_sendHome {E : EN} {g : GS} {s : MS} {Q : Option Value → SG → Prop} (b : Nat) (x1 : Int32) (h_b : HS g b) (h : vp_in x1 8 ∧ vp_in (s.1 (b + 4 + (x1).toNatClampNeg) 3) 6 ∧ (∀ s1_, s1_ = wi s (b + 1) (((s.1 (b + 4 + (x1).toNatClampNeg) 3)).toNatClampNeg) ((s.1 (b + 1) (((s.1 (b + 4 + (x1).toNatClampNeg) 3)).toNatClampNeg)) + (s.1 (b + 4 + (x1).toNatClampNeg) 2)) → (∀ s2_, s2_ = wi s1_ (b + 4 + (x1).toNatClampNeg) 2 0 → (∀ s3_, s3_ = wi s2_ (b + 4 + (x1).toNatClampNeg) 1 0 → (∀ s4_, s4_ = wi s3_ (b + 4 + (x1).toNatClampNeg) 0 3 → Q none (mk g s4_)))))) : AMet E m_House_sendHome [.ref b, .int x1] (mk g s) Q := by
  refine AMet.of (by decide) k_House_sendHome [(0, .ref b), (1, .int x1)] (Nat.le_of_ble_eq_true rfl) rfl ?_
  refine aw_aload_n (q := 1) (j := 0) rfl rfl rfl (List.mem_of_getElem? (i := 0) rfl) ?_
  refine ag_getR (q := 4) rfl rfl fl_House_20 rfl (HS.o h_b) (HS.r2 h_b) ?_
  refine aw_iload_n (q := 5) (j := 1) rfl rfl rfl (List.mem_of_getElem? (i := 1) rfl) ?_
  obtain ⟨bd_1, h⟩ := h
  refine ag_aaload (q := 6) rfl rfl (Or.inr rfl) (HS.a2 h_b) bd_1 (HS.rr h_b bd_1) ?_
  refine aw_astore_n (q := 7) (j := 2) (ls' := [(2, .ref _), (0, .ref _), (1, .int _)]) rfl rfl rfl (by decide) rfl ?_
  refine aw_aload_n (q := 8) (j := 0) rfl rfl rfl (List.mem_of_getElem? (i := 1) rfl) ?_
  refine ag_getR (q := 11) rfl rfl fl_House_9 rfl (HS.o h_b) (HS.r0 h_b) ?_
  refine aw_aload_n (q := 12) (j := 2) rfl rfl rfl (List.mem_of_getElem? (i := 0) rfl) ?_
  refine ag_getI (q := 15) rfl rfl fl_House_114 rfl (HS.ro h_b bd_1) ?_
  refine aw_dup2 (q := 16) rfl rfl rfl rfl ?_
  obtain ⟨bd_2, h⟩ := h
  refine ag_iaload (q := 17) (N := 6) rfl rfl (HS.a0 h_b) bd_2 ?_
  refine aw_aload_n (q := 18) (j := 2) rfl rfl rfl (List.mem_of_getElem? (i := 0) rfl) ?_
  refine ag_getI (q := 21) rfl rfl fl_House_82 rfl (HS.ro h_b bd_1) ?_
  refine aw_iadd (q := 22) rfl rfl ?_
  refine ag_iastore (q := 23) (N := 6) rfl rfl (HS.a0 h_b) bd_2 ?_
  replace h := h _ rfl
  refine aw_aload_n (q := 24) (j := 2) rfl rfl rfl (List.mem_of_getElem? (i := 0) rfl) ?_
  refine aw_iconst (q := 25) (v := 0) rfl rfl (by decide) ?_
  refine ag_putI (q := 28) rfl rfl fl_House_82 rfl rfl (HS.ro h_b bd_1) ?_
  replace h := h _ rfl
  refine aw_aload_n (q := 29) (j := 2) rfl rfl rfl (List.mem_of_getElem? (i := 0) rfl) ?_
  refine aw_iconst (q := 30) (v := 0) rfl rfl (by decide) ?_
  refine ag_putI (q := 33) rfl rfl fl_House_117 rfl rfl (HS.ro h_b bd_1) ?_
  replace h := h _ rfl
  refine aw_aload_n (q := 34) (j := 2) rfl rfl rfl (List.mem_of_getElem? (i := 0) rfl) ?_
  refine aw_iconst (q := 35) (v := 3) rfl rfl (by decide) ?_
  refine ag_putI (q := 38) rfl rfl fl_House_102 rfl rfl (HS.ro h_b bd_1) ?_
  replace h := h _ rfl
  exact aw_return rfl rfl (by decide) (by decide) h
set_option maxRecDepth 20000 in
theorem v_House_callBack {E : EN} {g : GS} {s : MS} {Q : Option Value → SG → Prop} (b : Nat) (x1 : Int32) (h_b : HS g b) (h : vp_in x1 8 ∧ (∀ s1_, s1_ = wi s (b + 4 + (x1).toNatClampNeg) 0 0 → Q none (mk g s1_))) : AMet E m_House_callBack [.ref b, .int x1] (mk g s) Q := by
  refine AMet.of (by decide) k_House_callBack [(0, .ref b), (1, .int x1)] (Nat.le_of_ble_eq_true rfl) rfl ?_
  refine aw_aload_n (q := 1) (j := 0) rfl rfl rfl (List.mem_of_getElem? (i := 0) rfl) ?_
  refine ag_getR (q := 4) rfl rfl fl_House_20 rfl (HS.o h_b) (HS.r2 h_b) ?_
  refine aw_iload_n (q := 5) (j := 1) rfl rfl rfl (List.mem_of_getElem? (i := 1) rfl) ?_
  obtain ⟨bd_1, h⟩ := h
  refine ag_aaload (q := 6) rfl rfl (Or.inr rfl) (HS.a2 h_b) bd_1 (HS.rr h_b bd_1) ?_
  refine aw_iconst (q := 7) (v := 0) rfl rfl (by decide) ?_
  refine ag_putI (q := 10) rfl rfl fl_House_102 rfl rfl (HS.ro h_b bd_1) ?_
  replace h := h _ rfl
  exact aw_return rfl rfl (by decide) (by decide) h
set_option maxRecDepth 20000 in
theorem v_House_hasFor_2 {E : EN} {g : GS} {s : MS} {Q : Option Value → SG → Prop} (b : Nat) (t : Nat) (x2 : Int32) (x3 : Int32) (hS : SX g) (et : t = 88 ∨ t = 104) (h : (((s.1 t 11) ≤ x3 → Q (some (.int 1)) (mk g s)) ∧ (¬ (s.1 t 11) ≤ x3 → AWP E m_House_hasFor 16 0 0 [(0, .ref b), (1, .ref t), (2, .int x2), (3, .int x3), (4, .int 0), (5, .int 0)] [] (mk g s) Q))) : AWP E m_House_hasFor 2 0 0 [(0, .ref b), (1, .ref t), (2, .int x2), (3, .int x3)] [] (mk g s) Q := by
  refine aw_iload_n (q := 3) (j := 3) rfl rfl rfl (List.mem_of_getElem? (i := 3) rfl) ?_
  refine aw_aload_n (q := 4) (j := 1) rfl rfl rfl (List.mem_of_getElem? (i := 1) rfl) ?_
  refine ag_getI (q := 7) rfl rfl fl_House_25 rfl (TS.o (TS.of hS et)) ?_
  refine aw_icmp_ge (q := 10) (tgt := 119) rfl rfl (by decide) ⟨fun cd_1 => ?_, fun cd_1 => ?_⟩
  · replace h := h.1 cd_1
    refine aw_iconst (q := 120) (v := 1) rfl rfl (by decide) ?_
    exact aw_ireturn (ty := .boolean) rfl rfl rfl (by decide) (by decide) h
  · replace h := h.2 cd_1
    refine aw_iconst (q := 11) (v := 0) rfl rfl (by decide) ?_
    refine aw_istore (q := 13) (j := 4) (ls' := [(4, .int _), (0, .ref _), (1, .ref _), (2, .int _), (3, .int _)]) rfl rfl (by decide) rfl ?_
    refine aw_iconst (q := 14) (v := 0) rfl rfl (by decide) ?_
    refine aw_istore (q := 16) (j := 5) (ls' := [(5, .int _), (4, .int _), (0, .ref _), (1, .ref _), (2, .int _), (3, .int _)]) rfl rfl (by decide) rfl ?_
    refine aw_ls [2, 3, 4, 5, 1, 0] rfl ?_
    exact h
set_option maxRecDepth 20000 in
theorem v_House_hasFor_16 {E : EN} {g : GS} {s : MS} {Q : Option Value → SG → Prop} (b : Nat) (t : Nat) (x2 : Int32) (x3 : Int32) (x4 : Int32) (x5 : Int32) (hS : SX g) (et : t = 88 ∨ t = 104) (h : (((s.1 t 14) ≤ x5 → AWP E m_House_hasFor 62 0 0 [(0, .ref b), (1, .ref t), (2, .int x2), (3, .int x3), (4, .int x4), (5, .int 0), (6, .int 0)] [] (mk g s) Q) ∧ (¬ (s.1 t 14) ≤ x5 → (((x2 &&& (1 <<< (x5 &&& 31))) = 0 → AWP E m_House_hasFor 16 0 0 [(0, .ref b), (1, .ref t), (2, .int x2), (3, .int x3), (4, .int (x4 + 0)), (5, .int (x5 + 1))] [] (mk g s) Q) ∧ (¬ (x2 &&& (1 <<< (x5 &&& 31))) = 0 → GI E m_Text_wantOf [.ref t, .int x5, .int x3] g s (fun y1_ t1_ => AWP E m_House_hasFor 16 0 0 [(0, .ref b), (1, .ref t), (2, .int x2), (3, .int x3), (4, .int (x4 + y1_)), (5, .int (x5 + 1))] [] (mk g t1_) Q)))))) : AWP E m_House_hasFor 16 0 0 [(0, .ref b), (1, .ref t), (2, .int x2), (3, .int x3), (4, .int x4), (5, .int x5)] [] (mk g s) Q := by
  refine aw_iload (q := 18) (j := 5) rfl rfl (List.mem_of_getElem? (i := 5) rfl) ?_
  refine aw_aload_n (q := 19) (j := 1) rfl rfl rfl (List.mem_of_getElem? (i := 1) rfl) ?_
  refine ag_getI (q := 22) rfl rfl fl_House_120 rfl (TS.o (TS.of hS et)) ?_
  refine aw_icmp_ge (q := 25) (tgt := 56) rfl rfl (by decide) ⟨fun cd_1 => ?_, fun cd_1 => ?_⟩
  · replace h := h.1 cd_1
    refine aw_iconst (q := 57) (v := 0) rfl rfl (by decide) ?_
    refine aw_istore (q := 59) (j := 5) (ls' := [(5, .int _), (0, .ref _), (1, .ref _), (2, .int _), (3, .int _), (4, .int _)]) rfl rfl (by decide) rfl ?_
    refine aw_iconst (q := 60) (v := 0) rfl rfl (by decide) ?_
    refine aw_istore (q := 62) (j := 6) (ls' := [(6, .int _), (5, .int _), (0, .ref _), (1, .ref _), (2, .int _), (3, .int _), (4, .int _)]) rfl rfl (by decide) rfl ?_
    refine aw_ls [2, 3, 4, 5, 6, 1, 0] rfl ?_
    exact h
  · replace h := h.2 cd_1
    refine aw_iload (q := 27) (j := 4) rfl rfl (List.mem_of_getElem? (i := 4) rfl) ?_
    refine aw_iload_n (q := 28) (j := 2) rfl rfl rfl (List.mem_of_getElem? (i := 2) rfl) ?_
    refine aw_iconst (q := 29) (v := 1) rfl rfl (by decide) ?_
    refine aw_iload (q := 31) (j := 5) rfl rfl (List.mem_of_getElem? (i := 5) rfl) ?_
    refine aw_ishl (q := 32) rfl rfl ?_
    refine aw_iand (q := 33) rfl rfl ?_
    refine aw_if_eq (q := 36) (tgt := 46) rfl rfl (by decide) ⟨fun cd_2 => ?_, fun cd_2 => ?_⟩
    · replace h := h.1 cd_2
      refine aw_iconst (q := 47) (v := 0) rfl rfl (by decide) ?_
      refine aw_iadd (q := 48) rfl rfl ?_
      refine aw_istore (q := 50) (j := 4) (ls' := [(4, .int _), (0, .ref _), (1, .ref _), (2, .int _), (3, .int _), (5, .int _)]) rfl rfl (by decide) rfl ?_
      refine aw_iinc (q := 53) (v := _ + 1) (ls' := [(5, .int _), (4, .int _), (0, .ref _), (1, .ref _), (2, .int _), (3, .int _)]) rfl rfl (List.mem_of_getElem? (i := 5) rfl) rfl (by decide) rfl ?_
      refine aw_goto (tgt := 16) rfl (by decide) ?_
      refine aw_ls [2, 3, 4, 5, 1, 0] rfl ?_
      exact h
    · replace h := h.2 cd_2
      refine aw_aload_n (q := 37) (j := 1) rfl rfl rfl (List.mem_of_getElem? (i := 1) rfl) ?_
      refine aw_iload (q := 39) (j := 5) rfl rfl (List.mem_of_getElem? (i := 5) rfl) ?_
      refine aw_iload_n (q := 40) (j := 3) rfl rfl rfl (List.mem_of_getElem? (i := 3) rfl) ?_
      refine ag_cvI (z := m_Text_wantOf) (ci := 8) (av := [.int _, .int _]) (st := [.int _]) (q := 43) (k' := 0) (n' := 0) rfl rfl cv_House_123 ⟨by decide, by decide⟩ rfl rfl (by decide) (by decide) (TS.o (TS.of hS et)) rfl rfl rfl (Nat.le_of_ble_eq_true rfl) ?_
      refine GI.mono h (fun y1_ t1_ h => ?_)
      refine aw_goto (tgt := 47) rfl (by decide) ?_
      refine aw_iadd (q := 48) rfl rfl ?_
      refine aw_istore (q := 50) (j := 4) (ls' := [(4, .int _), (0, .ref _), (1, .ref _), (2, .int _), (3, .int _), (5, .int _)]) rfl rfl (by decide) rfl ?_
      refine aw_iinc (q := 53) (v := _ + 1) (ls' := [(5, .int _), (4, .int _), (0, .ref _), (1, .ref _), (2, .int _), (3, .int _)]) rfl rfl (List.mem_of_getElem? (i := 5) rfl) rfl (by decide) rfl ?_
      refine aw_goto (tgt := 16) rfl (by decide) ?_
      refine aw_ls [2, 3, 4, 5, 1, 0] rfl ?_
      exact h
set_option maxRecDepth 20000 in
theorem v_House_hasFor_62 {E : EN} {g : GS} {s : MS} {Q : Option Value → SG → Prop} (b : Nat) (t : Nat) (x2 : Int32) (x3 : Int32) (x4 : Int32) (x5 : Int32) (x6 : Int32) (hS : SX g) (h_b : HS g b) (et : t = 88 ∨ t = 104) (h : (((s.1 t 12) ≤ x6 → ((x4 ≤ x5 → AWP E m_House_hasFor 2 0 0 [(0, .ref b), (1, .ref t), (2, .int x2), (3, .int (x3 + 1))] [] (mk g s) Q) ∧ (¬ x4 ≤ x5 → Q (some (.int 0)) (mk g s)))) ∧ (¬ (s.1 t 12) ≤ x6 → vp_in x6 6 ∧ (((s.1 (t + 4) ((x6).toNatClampNeg)) = x3 → GI E m_House_inHole [.ref b, .int x6, .int x3] g s (fun y1_ t1_ => AWP E m_House_hasFor 62 0 0 [(0, .ref b), (1, .ref t), (2, .int x2), (3, .int x3), (4, .int x4), (5, .int (x5 + y1_)), (6, .int (x6 + 1))] [] (mk g t1_) Q)) ∧ (¬ (s.1 (t + 4) ((x6).toNatClampNeg)) = x3 → AWP E m_House_hasFor 62 0 0 [(0, .ref b), (1, .ref t), (2, .int x2), (3, .int x3), (4, .int x4), (5, .int (x5 + 0)), (6, .int (x6 + 1))] [] (mk g s) Q))))) : AWP E m_House_hasFor 62 0 0 [(0, .ref b), (1, .ref t), (2, .int x2), (3, .int x3), (4, .int x4), (5, .int x5), (6, .int x6)] [] (mk g s) Q := by
  refine aw_iload (q := 64) (j := 6) rfl rfl (List.mem_of_getElem? (i := 6) rfl) ?_
  refine aw_aload_n (q := 65) (j := 1) rfl rfl rfl (List.mem_of_getElem? (i := 1) rfl) ?_
  refine ag_getI (q := 68) rfl rfl fl_House_85 rfl (TS.o (TS.of hS et)) ?_
  refine aw_icmp_ge (q := 71) (tgt := 104) rfl rfl (by decide) ⟨fun cd_1 => ?_, fun cd_1 => ?_⟩
  · replace h := h.1 cd_1
    refine aw_iload (q := 106) (j := 4) rfl rfl (List.mem_of_getElem? (i := 4) rfl) ?_
    refine aw_iload (q := 108) (j := 5) rfl rfl (List.mem_of_getElem? (i := 5) rfl) ?_
    refine aw_icmp_le (q := 111) (tgt := 113) rfl rfl (by decide) ⟨fun cd_2 => ?_, fun cd_2 => ?_⟩
    · replace h := h.1 cd_2
      refine aw_iinc (q := 116) (v := _ + 1) (ls' := [(3, .int _), (0, .ref _), (1, .ref _), (2, .int _), (4, .int _), (5, .int _), (6, .int _)]) rfl rfl (List.mem_of_getElem? (i := 3) rfl) rfl (by decide) rfl ?_
      refine aw_goto (tgt := 2) rfl (by decide) ?_
      refine aw_ls [1, 2, 3, 0] rfl ?_
      exact h
    · replace h := h.2 cd_2
      refine aw_iconst (q := 112) (v := 0) rfl rfl (by decide) ?_
      exact aw_ireturn (ty := .boolean) rfl rfl rfl (by decide) (by decide) h
  · replace h := h.2 cd_1
    refine aw_iload (q := 73) (j := 5) rfl rfl (List.mem_of_getElem? (i := 5) rfl) ?_
    refine aw_aload_n (q := 74) (j := 1) rfl rfl rfl (List.mem_of_getElem? (i := 1) rfl) ?_
    refine ag_getR (q := 77) rfl rfl fl_House_87 rfl (TS.o (TS.of hS et)) (TS.r3 (TS.of hS et)) ?_
    refine aw_iload (q := 79) (j := 6) rfl rfl (List.mem_of_getElem? (i := 6) rfl) ?_
    obtain ⟨bd_3, h⟩ := h
    refine ag_iaload (q := 80) (N := 6) rfl rfl (TS.a3 (TS.of hS et)) bd_3 ?_
    refine aw_iload_n (q := 81) (j := 3) rfl rfl rfl (List.mem_of_getElem? (i := 3) rfl) ?_
    refine aw_icmp_ne (q := 84) (tgt := 94) rfl rfl (by decide) ⟨fun cd_4 => ?_, fun cd_4 => ?_⟩
    · replace h := h.1 cd_4
      refine aw_aload_n (q := 85) (j := 0) rfl rfl rfl (List.mem_of_getElem? (i := 0) rfl) ?_
      refine aw_iload (q := 87) (j := 6) rfl rfl (List.mem_of_getElem? (i := 6) rfl) ?_
      refine aw_iload_n (q := 88) (j := 3) rfl rfl rfl (List.mem_of_getElem? (i := 3) rfl) ?_
      refine ag_cvI (z := m_House_inHole) (ci := 2) (av := [.int _, .int _]) (st := [.int _]) (q := 91) (k' := 0) (n' := 0) rfl rfl cv_House_74 ⟨by decide, by decide⟩ rfl rfl (by decide) (by decide) (HS.o h_b) rfl rfl rfl (Nat.le_of_ble_eq_true rfl) ?_
      refine GI.mono h (fun y1_ t1_ h => ?_)
      refine aw_goto (tgt := 95) rfl (by decide) ?_
      refine aw_iadd (q := 96) rfl rfl ?_
      refine aw_istore (q := 98) (j := 5) (ls' := [(5, .int _), (0, .ref _), (1, .ref _), (2, .int _), (3, .int _), (4, .int _), (6, .int _)]) rfl rfl (by decide) rfl ?_
      refine aw_iinc (q := 101) (v := _ + 1) (ls' := [(6, .int _), (5, .int _), (0, .ref _), (1, .ref _), (2, .int _), (3, .int _), (4, .int _)]) rfl rfl (List.mem_of_getElem? (i := 6) rfl) rfl (by decide) rfl ?_
      refine aw_goto (tgt := 62) rfl (by decide) ?_
      refine aw_ls [2, 3, 4, 5, 6, 1, 0] rfl ?_
      exact h
    · replace h := h.2 cd_4
      refine aw_iconst (q := 95) (v := 0) rfl rfl (by decide) ?_
      refine aw_iadd (q := 96) rfl rfl ?_
      refine aw_istore (q := 98) (j := 5) (ls' := [(5, .int _), (0, .ref _), (1, .ref _), (2, .int _), (3, .int _), (4, .int _), (6, .int _)]) rfl rfl (by decide) rfl ?_
      refine aw_iinc (q := 101) (v := _ + 1) (ls' := [(6, .int _), (5, .int _), (0, .ref _), (1, .ref _), (2, .int _), (3, .int _), (4, .int _)]) rfl rfl (List.mem_of_getElem? (i := 6) rfl) rfl (by decide) rfl ?_
      refine aw_goto (tgt := 62) rfl (by decide) ?_
      refine aw_ls [2, 3, 4, 5, 6, 1, 0] rfl ?_
      exact h
set_option maxRecDepth 20000 in
theorem v_House_hasFor {E : EN} {g : GS} {s : MS} {Q : Option Value → SG → Prop} (b : Nat) (t : Nat) (x2 : Int32) (h : AWP E m_House_hasFor 2 0 0 [(0, .ref b), (1, .ref t), (2, .int x2), (3, .int 0)] [] (mk g s) Q) : AMet E m_House_hasFor [.ref b, .ref t, .int x2] (mk g s) Q := by
  refine AMet.of (by decide) k_House_hasFor [(0, .ref b), (1, .ref t), (2, .int x2)] (Nat.le_of_ble_eq_true rfl) rfl ?_
  refine aw_iconst (q := 1) (v := 0) rfl rfl (by decide) ?_
  refine aw_istore_n (q := 2) (j := 3) (ls' := [(3, .int _), (0, .ref _), (1, .ref _), (2, .int _)]) rfl rfl rfl (by decide) rfl ?_
  refine aw_ls [1, 2, 3, 0] rfl ?_
  exact h
set_option maxRecDepth 20000 in
theorem v_House_handOver_2 {E : EN} {g : GS} {s : MS} {Q : Option Value → SG → Prop} (b : Nat) (t : Nat) (x2 : Int32) (x3 : Int32) (hS : SX g) (h_b : HS g b) (et : t = 88 ∨ t = 104) (h : (((s.1 t 11) ≤ x3 → vp_in x2 5 ∧ (∀ s1_, s1_ = wi s b 6 ((s.1 b 6) + (s.1 (t + 9) ((x2).toNatClampNeg))) → (∀ s2_, s2_ = wi s1_ b 7 ((s1_.1 b 7) ||| (1 <<< (x2 &&& 31))) → Q none (mk g s2_)))) ∧ (¬ (s.1 t 11) ≤ x3 → GI E m_Text_wantOf [.ref t, .int x2, .int x3] g s (fun y3_ t3_ => AWP E m_House_handOver 21 0 0 [(0, .ref b), (1, .ref t), (2, .int x2), (3, .int x3), (4, .int y3_), (5, .int 0)] [] (mk g t3_) Q)))) : AWP E m_House_handOver 2 0 0 [(0, .ref b), (1, .ref t), (2, .int x2), (3, .int x3)] [] (mk g s) Q := by
  refine aw_iload_n (q := 3) (j := 3) rfl rfl rfl (List.mem_of_getElem? (i := 3) rfl) ?_
  refine aw_aload_n (q := 4) (j := 1) rfl rfl rfl (List.mem_of_getElem? (i := 1) rfl) ?_
  refine ag_getI (q := 7) rfl rfl fl_House_25 rfl (TS.o (TS.of hS et)) ?_
  refine aw_icmp_ge (q := 10) (tgt := 95) rfl rfl (by decide) ⟨fun cd_1 => ?_, fun cd_1 => ?_⟩
  · replace h := h.1 cd_1
    refine aw_aload_n (q := 96) (j := 0) rfl rfl rfl (List.mem_of_getElem? (i := 0) rfl) ?_
    refine aw_dup (q := 97) rfl rfl rfl ?_
    refine ag_getI (q := 100) rfl rfl fl_House_55 rfl (HS.o h_b) ?_
    refine aw_aload_n (q := 101) (j := 1) rfl rfl rfl (List.mem_of_getElem? (i := 1) rfl) ?_
    refine ag_getR (q := 104) rfl rfl fl_House_129 rfl (TS.o (TS.of hS et)) (TS.r8 (TS.of hS et)) ?_
    refine aw_iload_n (q := 105) (j := 2) rfl rfl rfl (List.mem_of_getElem? (i := 2) rfl) ?_
    obtain ⟨bd_2, h⟩ := h
    refine ag_iaload (q := 106) (N := 5) rfl rfl (TS.a8 (TS.of hS et)) bd_2 ?_
    refine aw_iadd (q := 107) rfl rfl ?_
    refine ag_putI (q := 110) rfl rfl fl_House_55 rfl rfl (HS.o h_b) ?_
    replace h := h _ rfl
    refine aw_aload_n (q := 111) (j := 0) rfl rfl rfl (List.mem_of_getElem? (i := 0) rfl) ?_
    refine aw_dup (q := 112) rfl rfl rfl ?_
    refine ag_getI (q := 115) rfl rfl fl_House_58 rfl (HS.o h_b) ?_
    refine aw_iconst (q := 116) (v := 1) rfl rfl (by decide) ?_
    refine aw_iload_n (q := 117) (j := 2) rfl rfl rfl (List.mem_of_getElem? (i := 2) rfl) ?_
    refine aw_ishl (q := 118) rfl rfl ?_
    refine aw_ior (q := 119) rfl rfl ?_
    refine ag_putI (q := 122) rfl rfl fl_House_58 rfl rfl (HS.o h_b) ?_
    replace h := h _ rfl
    exact aw_return rfl rfl (by decide) (by decide) h
  · replace h := h.2 cd_1
    refine aw_aload_n (q := 11) (j := 1) rfl rfl rfl (List.mem_of_getElem? (i := 1) rfl) ?_
    refine aw_iload_n (q := 12) (j := 2) rfl rfl rfl (List.mem_of_getElem? (i := 2) rfl) ?_
    refine aw_iload_n (q := 13) (j := 3) rfl rfl rfl (List.mem_of_getElem? (i := 3) rfl) ?_
    refine ag_cvI (z := m_Text_wantOf) (ci := 8) (av := [.int _, .int _]) (st := []) (q := 16) (k' := 0) (n' := 0) rfl rfl cv_House_123 ⟨by decide, by decide⟩ rfl rfl (by decide) (by decide) (TS.o (TS.of hS et)) rfl rfl rfl (Nat.le_of_ble_eq_true rfl) ?_
    refine GI.mono h (fun y3_ t3_ h => ?_)
    refine aw_istore (q := 18) (j := 4) (ls' := [(4, .int _), (0, .ref _), (1, .ref _), (2, .int _), (3, .int _)]) rfl rfl (by decide) rfl ?_
    refine aw_iconst (q := 19) (v := 0) rfl rfl (by decide) ?_
    refine aw_istore (q := 21) (j := 5) (ls' := [(5, .int _), (4, .int _), (0, .ref _), (1, .ref _), (2, .int _), (3, .int _)]) rfl rfl (by decide) rfl ?_
    refine aw_ls [2, 3, 4, 5, 1, 0] rfl ?_
    exact h
set_option maxRecDepth 20000 in
theorem v_House_handOver_21 {E : EN} {g : GS} {s : MS} {Q : Option Value → SG → Prop} (b : Nat) (t : Nat) (x2 : Int32) (x3 : Int32) (x4 : Int32) (x5 : Int32) (hS : SX g) (h_b : HS g b) (et : t = 88 ∨ t = 104) (h : (((s.1 t 12) ≤ x5 → AWP E m_House_handOver 2 0 0 [(0, .ref b), (1, .ref t), (2, .int x2), (3, .int (x3 + 1))] [] (mk g s) Q) ∧ (¬ (s.1 t 12) ≤ x5 → vp_in x5 6 ∧ (((s.1 (t + 4) ((x5).toNatClampNeg)) = x3 → GI E m_House_inHole [.ref b, .int x5, .int x3] g s (fun y1_ t1_ => vp_in ((x5 * 6) + x3) 36 ∧ (∀ s2_, s2_ = wi t1_ (b + 2) ((((x5 * 6) + x3)).toNatClampNeg) ((t1_.1 (b + 2) ((((x5 * 6) + x3)).toNatClampNeg)) - (if y1_ < x4 then y1_ else x4)) → AWP E m_House_handOver 21 0 0 [(0, .ref b), (1, .ref t), (2, .int x2), (3, .int x3), (4, .int (x4 - (if y1_ < x4 then y1_ else x4))), (5, .int (x5 + 1))] [] (mk g s2_) Q))) ∧ (¬ (s.1 (t + 4) ((x5).toNatClampNeg)) = x3 → vp_in ((x5 * 6) + x3) 36 ∧ (∀ s3_, s3_ = wi s (b + 2) ((((x5 * 6) + x3)).toNatClampNeg) ((s.1 (b + 2) ((((x5 * 6) + x3)).toNatClampNeg)) - 0) → AWP E m_House_handOver 21 0 0 [(0, .ref b), (1, .ref t), (2, .int x2), (3, .int x3), (4, .int (x4 - 0)), (5, .int (x5 + 1))] [] (mk g s3_) Q)))))) : AWP E m_House_handOver 21 0 0 [(0, .ref b), (1, .ref t), (2, .int x2), (3, .int x3), (4, .int x4), (5, .int x5)] [] (mk g s) Q := by
  refine aw_iload (q := 23) (j := 5) rfl rfl (List.mem_of_getElem? (i := 5) rfl) ?_
  refine aw_aload_n (q := 24) (j := 1) rfl rfl rfl (List.mem_of_getElem? (i := 1) rfl) ?_
  refine ag_getI (q := 27) rfl rfl fl_House_85 rfl (TS.o (TS.of hS et)) ?_
  refine aw_icmp_ge (q := 30) (tgt := 89) rfl rfl (by decide) ⟨fun cd_1 => ?_, fun cd_1 => ?_⟩
  · replace h := h.1 cd_1
    refine aw_iinc (q := 92) (v := _ + 1) (ls' := [(3, .int _), (0, .ref _), (1, .ref _), (2, .int _), (4, .int _), (5, .int _)]) rfl rfl (List.mem_of_getElem? (i := 3) rfl) rfl (by decide) rfl ?_
    refine aw_goto (tgt := 2) rfl (by decide) ?_
    refine aw_ls [1, 2, 3, 0] rfl ?_
    exact h
  · replace h := h.2 cd_1
    refine aw_aload_n (q := 31) (j := 1) rfl rfl rfl (List.mem_of_getElem? (i := 1) rfl) ?_
    refine ag_getR (q := 34) rfl rfl fl_House_87 rfl (TS.o (TS.of hS et)) (TS.r3 (TS.of hS et)) ?_
    refine aw_iload (q := 36) (j := 5) rfl rfl (List.mem_of_getElem? (i := 5) rfl) ?_
    obtain ⟨bd_2, h⟩ := h
    refine ag_iaload (q := 37) (N := 6) rfl rfl (TS.a3 (TS.of hS et)) bd_2 ?_
    refine aw_iload_n (q := 38) (j := 3) rfl rfl rfl (List.mem_of_getElem? (i := 3) rfl) ?_
    refine aw_icmp_ne (q := 41) (tgt := 56) rfl rfl (by decide) ⟨fun cd_3 => ?_, fun cd_3 => ?_⟩
    · replace h := h.1 cd_3
      refine aw_iload (q := 43) (j := 4) rfl rfl (List.mem_of_getElem? (i := 4) rfl) ?_
      refine aw_aload_n (q := 44) (j := 0) rfl rfl rfl (List.mem_of_getElem? (i := 0) rfl) ?_
      refine aw_iload (q := 46) (j := 5) rfl rfl (List.mem_of_getElem? (i := 5) rfl) ?_
      refine aw_iload_n (q := 47) (j := 3) rfl rfl rfl (List.mem_of_getElem? (i := 3) rfl) ?_
      refine ag_cvI (z := m_House_inHole) (ci := 2) (av := [.int _, .int _]) (st := [.int _]) (q := 50) (k' := 0) (n' := 0) rfl rfl cv_House_74 ⟨by decide, by decide⟩ rfl rfl (by decide) (by decide) (HS.o h_b) rfl rfl rfl (Nat.le_of_ble_eq_true rfl) ?_
      refine GI.mono h (fun y1_ t1_ h => ?_)
      refine aw_mmin (q := 53) rfl rfl (tb_c5 39 rfl rfl) (tb_c3 142 rfl rfl) (tb_c1 18 rfl rfl) (tb_c3 143 rfl rfl) (by decide) (by decide) (by decide) (by decide) (Nat.le_of_ble_eq_true rfl) ?_
      refine aw_goto (tgt := 57) rfl (by decide) ?_
      refine aw_istore (q := 59) (j := 6) (ls' := [(6, .int _), (0, .ref _), (1, .ref _), (2, .int _), (3, .int _), (4, .int _), (5, .int _)]) rfl rfl (by decide) rfl ?_
      refine aw_aload_n (q := 60) (j := 0) rfl rfl rfl (List.mem_of_getElem? (i := 1) rfl) ?_
      refine ag_getR (q := 63) rfl rfl fl_House_15 rfl (HS.o h_b) (HS.r1 h_b) ?_
      refine aw_iload (q := 65) (j := 5) rfl rfl (List.mem_of_getElem? (i := 6) rfl) ?_
      refine aw_bipush (q := 67) (v := 6) rfl rfl (by decide) ?_
      refine aw_imul (q := 68) rfl rfl ?_
      refine aw_iload_n (q := 69) (j := 3) rfl rfl rfl (List.mem_of_getElem? (i := 4) rfl) ?_
      refine aw_iadd (q := 70) rfl rfl ?_
      refine aw_dup2 (q := 71) rfl rfl rfl rfl ?_
      obtain ⟨bd_4, h⟩ := h
      refine ag_iaload (q := 72) (N := 36) rfl rfl (HS.a1 h_b) bd_4 ?_
      refine aw_iload (q := 74) (j := 6) rfl rfl (List.mem_of_getElem? (i := 0) rfl) ?_
      refine aw_isub (q := 75) rfl rfl ?_
      refine ag_iastore (q := 76) (N := 36) rfl rfl (HS.a1 h_b) bd_4 ?_
      replace h := h _ rfl
      refine aw_iload (q := 78) (j := 4) rfl rfl (List.mem_of_getElem? (i := 5) rfl) ?_
      refine aw_iload (q := 80) (j := 6) rfl rfl (List.mem_of_getElem? (i := 0) rfl) ?_
      refine aw_isub (q := 81) rfl rfl ?_
      refine aw_istore (q := 83) (j := 4) (ls' := [(4, .int _), (6, .int _), (0, .ref _), (1, .ref _), (2, .int _), (3, .int _), (5, .int _)]) rfl rfl (by decide) rfl ?_
      refine aw_iinc (q := 86) (v := _ + 1) (ls' := [(5, .int _), (4, .int _), (6, .int _), (0, .ref _), (1, .ref _), (2, .int _), (3, .int _)]) rfl rfl (List.mem_of_getElem? (i := 6) rfl) rfl (by decide) rfl ?_
      refine aw_goto (tgt := 21) rfl (by decide) ?_
      refine aw_ls [3, 4, 5, 6, 1, 0] rfl ?_
      exact h
    · replace h := h.2 cd_3
      refine aw_iconst (q := 57) (v := 0) rfl rfl (by decide) ?_
      refine aw_istore (q := 59) (j := 6) (ls' := [(6, .int _), (0, .ref _), (1, .ref _), (2, .int _), (3, .int _), (4, .int _), (5, .int _)]) rfl rfl (by decide) rfl ?_
      refine aw_aload_n (q := 60) (j := 0) rfl rfl rfl (List.mem_of_getElem? (i := 1) rfl) ?_
      refine ag_getR (q := 63) rfl rfl fl_House_15 rfl (HS.o h_b) (HS.r1 h_b) ?_
      refine aw_iload (q := 65) (j := 5) rfl rfl (List.mem_of_getElem? (i := 6) rfl) ?_
      refine aw_bipush (q := 67) (v := 6) rfl rfl (by decide) ?_
      refine aw_imul (q := 68) rfl rfl ?_
      refine aw_iload_n (q := 69) (j := 3) rfl rfl rfl (List.mem_of_getElem? (i := 4) rfl) ?_
      refine aw_iadd (q := 70) rfl rfl ?_
      refine aw_dup2 (q := 71) rfl rfl rfl rfl ?_
      obtain ⟨bd_5, h⟩ := h
      refine ag_iaload (q := 72) (N := 36) rfl rfl (HS.a1 h_b) bd_5 ?_
      refine aw_iload (q := 74) (j := 6) rfl rfl (List.mem_of_getElem? (i := 0) rfl) ?_
      refine aw_isub (q := 75) rfl rfl ?_
      refine ag_iastore (q := 76) (N := 36) rfl rfl (HS.a1 h_b) bd_5 ?_
      replace h := h _ rfl
      refine aw_iload (q := 78) (j := 4) rfl rfl (List.mem_of_getElem? (i := 5) rfl) ?_
      refine aw_iload (q := 80) (j := 6) rfl rfl (List.mem_of_getElem? (i := 0) rfl) ?_
      refine aw_isub (q := 81) rfl rfl ?_
      refine aw_istore (q := 83) (j := 4) (ls' := [(4, .int _), (6, .int _), (0, .ref _), (1, .ref _), (2, .int _), (3, .int _), (5, .int _)]) rfl rfl (by decide) rfl ?_
      refine aw_iinc (q := 86) (v := _ + 1) (ls' := [(5, .int _), (4, .int _), (6, .int _), (0, .ref _), (1, .ref _), (2, .int _), (3, .int _)]) rfl rfl (List.mem_of_getElem? (i := 6) rfl) rfl (by decide) rfl ?_
      refine aw_goto (tgt := 21) rfl (by decide) ?_
      refine aw_ls [3, 4, 5, 6, 1, 0] rfl ?_
      exact h
set_option maxRecDepth 20000 in
theorem v_House_handOver {E : EN} {g : GS} {s : MS} {Q : Option Value → SG → Prop} (b : Nat) (t : Nat) (x2 : Int32) (h : AWP E m_House_handOver 2 0 0 [(0, .ref b), (1, .ref t), (2, .int x2), (3, .int 0)] [] (mk g s) Q) : AMet E m_House_handOver [.ref b, .ref t, .int x2] (mk g s) Q := by
  refine AMet.of (by decide) k_House_handOver [(0, .ref b), (1, .ref t), (2, .int x2)] (Nat.le_of_ble_eq_true rfl) rfl ?_
  refine aw_iconst (q := 1) (v := 0) rfl rfl (by decide) ?_
  refine aw_istore_n (q := 2) (j := 3) (ls' := [(3, .int _), (0, .ref _), (1, .ref _), (2, .int _)]) rfl rfl rfl (by decide) rfl ?_
  refine aw_ls [1, 2, 3, 0] rfl ?_
  exact h
set_option maxRecDepth 20000 in
theorem v_House_isSorted {E : EN} {g : GS} {s : MS} {Q : Option Value → SG → Prop} (b : Nat) (t : Nat) (h_b : HS g b) (h : GI E m_House_ratsThatAre [.ref b, .ref t, .int 3] g s (fun y1_ t1_ => GI E m_House_isSortedFor [.ref b, .ref t, .int (y1_ ^^^ (-1))] g t1_ (fun y2_ t2_ => (y2_ = 0 ∨ y2_ = 1) ∧ Q (some (.int y2_)) (mk g t2_)))) : AMet E m_House_isSorted [.ref b, .ref t] (mk g s) Q := by
  refine AMet.of (by decide) k_House_isSorted [(0, .ref b), (1, .ref t)] (Nat.le_of_ble_eq_true rfl) rfl ?_
  refine aw_aload_n (q := 1) (j := 0) rfl rfl rfl (List.mem_of_getElem? (i := 0) rfl) ?_
  refine aw_aload_n (q := 2) (j := 1) rfl rfl rfl (List.mem_of_getElem? (i := 1) rfl) ?_
  refine aw_aload_n (q := 3) (j := 0) rfl rfl rfl (List.mem_of_getElem? (i := 0) rfl) ?_
  refine aw_aload_n (q := 4) (j := 1) rfl rfl rfl (List.mem_of_getElem? (i := 1) rfl) ?_
  refine aw_iconst (q := 5) (v := 3) rfl rfl (by decide) ?_
  refine ag_cvI (z := m_House_ratsThatAre) (ci := 2) (av := [.ref _, .int _]) (st := [.ref _, .ref _]) (q := 8) (k' := 0) (n' := 0) rfl rfl cv_House_105 ⟨by decide, by decide⟩ rfl rfl (by decide) (by decide) (HS.o h_b) rfl rfl rfl (Nat.le_of_ble_eq_true rfl) ?_
  refine GI.mono h (fun y1_ t1_ h => ?_)
  refine aw_iconst (q := 9) (v := (-1)) rfl rfl (by decide) ?_
  refine aw_ixor (q := 10) rfl rfl ?_
  refine ag_cvI (z := m_House_isSortedFor) (ci := 2) (av := [.ref _, .int _]) (st := []) (q := 13) (k' := 0) (n' := 0) rfl rfl cv_House_108 ⟨by decide, by decide⟩ rfl rfl (by decide) (by decide) (HS.o h_b) rfl rfl rfl (Nat.le_of_ble_eq_true rfl) ?_
  refine GI.mono h (fun y2_ t2_ h => ?_)
  obtain ⟨bd_1, h⟩ := h
  exact aw_ireturn (ty := .boolean) rfl rfl (nar_z bd_1) (by decide) (by decide) h
set_option maxRecDepth 20000 in
theorem v_House_ratsThatAre_5 {E : EN} {g : GS} {s : MS} {Q : Option Value → SG → Prop} (b : Nat) (t : Nat) (x2 : Int32) (x3 : Int32) (x4 : Int32) (hS : SX g) (h_b : HS g b) (et : t = 88 ∨ t = 104) (h : (((s.1 t 13) ≤ x4 → Q (some (.int x3)) (mk g s)) ∧ (¬ (s.1 t 13) ≤ x4 → vp_in x4 8 ∧ (((s.1 (b + 4 + (x4).toNatClampNeg) 0) = x2 → AWP E m_House_ratsThatAre 5 0 0 [(0, .ref b), (1, .ref t), (2, .int x2), (3, .int (x3 ||| (1 <<< (x4 &&& 31)))), (4, .int (x4 + 1))] [] (mk g s) Q) ∧ (¬ (s.1 (b + 4 + (x4).toNatClampNeg) 0) = x2 → AWP E m_House_ratsThatAre 5 0 0 [(0, .ref b), (1, .ref t), (2, .int x2), (3, .int x3), (4, .int (x4 + 1))] [] (mk g s) Q))))) : AWP E m_House_ratsThatAre 5 0 0 [(0, .ref b), (1, .ref t), (2, .int x2), (3, .int x3), (4, .int x4)] [] (mk g s) Q := by
  refine aw_iload (q := 7) (j := 4) rfl rfl (List.mem_of_getElem? (i := 4) rfl) ?_
  refine aw_aload_n (q := 8) (j := 1) rfl rfl rfl (List.mem_of_getElem? (i := 1) rfl) ?_
  refine ag_getI (q := 11) rfl rfl fl_House_34 rfl (TS.o (TS.of hS et)) ?_
  refine aw_icmp_ge (q := 14) (tgt := 41) rfl rfl (by decide) ⟨fun cd_1 => ?_, fun cd_1 => ?_⟩
  · replace h := h.1 cd_1
    refine aw_iload_n (q := 42) (j := 3) rfl rfl rfl (List.mem_of_getElem? (i := 3) rfl) ?_
    exact aw_ireturn (ty := .int) rfl rfl rfl (by decide) (by decide) h
  · replace h := h.2 cd_1
    refine aw_aload_n (q := 15) (j := 0) rfl rfl rfl (List.mem_of_getElem? (i := 0) rfl) ?_
    refine ag_getR (q := 18) rfl rfl fl_House_20 rfl (HS.o h_b) (HS.r2 h_b) ?_
    refine aw_iload (q := 20) (j := 4) rfl rfl (List.mem_of_getElem? (i := 4) rfl) ?_
    obtain ⟨bd_2, h⟩ := h
    refine ag_aaload (q := 21) rfl rfl (Or.inr rfl) (HS.a2 h_b) bd_2 (HS.rr h_b bd_2) ?_
    refine ag_getI (q := 24) rfl rfl fl_House_102 rfl (HS.ro h_b bd_2) ?_
    refine aw_iload_n (q := 25) (j := 2) rfl rfl rfl (List.mem_of_getElem? (i := 2) rfl) ?_
    refine aw_icmp_ne (q := 28) (tgt := 35) rfl rfl (by decide) ⟨fun cd_3 => ?_, fun cd_3 => ?_⟩
    · replace h := h.1 cd_3
      refine aw_iload_n (q := 29) (j := 3) rfl rfl rfl (List.mem_of_getElem? (i := 3) rfl) ?_
      refine aw_iconst (q := 30) (v := 1) rfl rfl (by decide) ?_
      refine aw_iload (q := 32) (j := 4) rfl rfl (List.mem_of_getElem? (i := 4) rfl) ?_
      refine aw_ishl (q := 33) rfl rfl ?_
      refine aw_ior (q := 34) rfl rfl ?_
      refine aw_istore_n (q := 35) (j := 3) (ls' := [(3, .int _), (0, .ref _), (1, .ref _), (2, .int _), (4, .int _)]) rfl rfl rfl (by decide) rfl ?_
      refine aw_iinc (q := 38) (v := _ + 1) (ls' := [(4, .int _), (3, .int _), (0, .ref _), (1, .ref _), (2, .int _)]) rfl rfl (List.mem_of_getElem? (i := 4) rfl) rfl (by decide) rfl ?_
      refine aw_goto (tgt := 5) rfl (by decide) ?_
      refine aw_ls [2, 3, 4, 1, 0] rfl ?_
      exact h
    · replace h := h.2 cd_3
      refine aw_iinc (q := 38) (v := _ + 1) (ls' := [(4, .int _), (0, .ref _), (1, .ref _), (2, .int _), (3, .int _)]) rfl rfl (List.mem_of_getElem? (i := 4) rfl) rfl (by decide) rfl ?_
      refine aw_goto (tgt := 5) rfl (by decide) ?_
      refine aw_ls [1, 2, 3, 4, 0] rfl ?_
      exact h
set_option maxRecDepth 20000 in
theorem v_House_ratsThatAre {E : EN} {g : GS} {s : MS} {Q : Option Value → SG → Prop} (b : Nat) (t : Nat) (x2 : Int32) (h : AWP E m_House_ratsThatAre 5 0 0 [(0, .ref b), (1, .ref t), (2, .int x2), (3, .int 0), (4, .int 0)] [] (mk g s) Q) : AMet E m_House_ratsThatAre [.ref b, .ref t, .int x2] (mk g s) Q := by
  refine AMet.of (by decide) k_House_ratsThatAre [(0, .ref b), (1, .ref t), (2, .int x2)] (Nat.le_of_ble_eq_true rfl) rfl ?_
  refine aw_iconst (q := 1) (v := 0) rfl rfl (by decide) ?_
  refine aw_istore_n (q := 2) (j := 3) (ls' := [(3, .int _), (0, .ref _), (1, .ref _), (2, .int _)]) rfl rfl rfl (by decide) rfl ?_
  refine aw_iconst (q := 3) (v := 0) rfl rfl (by decide) ?_
  refine aw_istore (q := 5) (j := 4) (ls' := [(4, .int _), (3, .int _), (0, .ref _), (1, .ref _), (2, .int _)]) rfl rfl (by decide) rfl ?_
  refine aw_ls [2, 3, 4, 1, 0] rfl ?_
  exact h
set_option maxRecDepth 20000 in
theorem v_House_isSortedFor_2 {E : EN} {g : GS} {s : MS} {Q : Option Value → SG → Prop} (b : Nat) (t : Nat) (x2 : Int32) (x3 : Int32) (hS : SX g) (h_b : HS g b) (et : t = 88 ∨ t = 104) (h : (((s.1 t 13) ≤ x3 → Q (some (.int 1)) (mk g s)) ∧ (¬ (s.1 t 13) ≤ x3 → (((x2 &&& (1 <<< (x3 &&& 31))) = 0 → vp_in x3 8 ∧ (((s.1 (b + 4 + (x3).toNatClampNeg) 0) = 1 → Q (some (.int 0)) (mk g s)) ∧ (¬ (s.1 (b + 4 + (x3).toNatClampNeg) 0) = 1 → AWP E m_House_isSortedFor 2 0 0 [(0, .ref b), (1, .ref t), (2, .int x2), (3, .int (x3 + 1))] [] (mk g s) Q))) ∧ (¬ (x2 &&& (1 <<< (x3 &&& 31))) = 0 → vp_in x3 8 ∧ (((s.1 (b + 4 + (x3).toNatClampNeg) 0) = 1 → Q (some (.int 0)) (mk g s)) ∧ (¬ (s.1 (b + 4 + (x3).toNatClampNeg) 0) = 1 → vp_in (s.1 (b + 4 + (x3).toNatClampNeg) 6) 6 ∧ (((s.1 (b + 1) (((s.1 (b + 4 + (x3).toNatClampNeg) 6)).toNatClampNeg)) ≤ 0 → AWP E m_House_isSortedFor 2 0 0 [(0, .ref b), (1, .ref t), (2, .int x2), (3, .int (x3 + 1))] [] (mk g s) Q) ∧ (¬ (s.1 (b + 1) (((s.1 (b + 4 + (x3).toNatClampNeg) 6)).toNatClampNeg)) ≤ 0 → Q (some (.int 0)) (mk g s)))))))))) : AWP E m_House_isSortedFor 2 0 0 [(0, .ref b), (1, .ref t), (2, .int x2), (3, .int x3)] [] (mk g s) Q := by
  refine aw_iload_n (q := 3) (j := 3) rfl rfl rfl (List.mem_of_getElem? (i := 3) rfl) ?_
  refine aw_aload_n (q := 4) (j := 1) rfl rfl rfl (List.mem_of_getElem? (i := 1) rfl) ?_
  refine ag_getI (q := 7) rfl rfl fl_House_34 rfl (TS.o (TS.of hS et)) ?_
  refine aw_icmp_ge (q := 10) (tgt := 68) rfl rfl (by decide) ⟨fun cd_1 => ?_, fun cd_1 => ?_⟩
  · replace h := h.1 cd_1
    refine aw_iconst (q := 69) (v := 1) rfl rfl (by decide) ?_
    exact aw_ireturn (ty := .boolean) rfl rfl rfl (by decide) (by decide) h
  · replace h := h.2 cd_1
    refine aw_iload_n (q := 11) (j := 2) rfl rfl rfl (List.mem_of_getElem? (i := 2) rfl) ?_
    refine aw_iconst (q := 12) (v := 1) rfl rfl (by decide) ?_
    refine aw_iload_n (q := 13) (j := 3) rfl rfl rfl (List.mem_of_getElem? (i := 3) rfl) ?_
    refine aw_ishl (q := 14) rfl rfl ?_
    refine aw_iand (q := 15) rfl rfl ?_
    refine aw_if_eq (q := 18) (tgt := 22) rfl rfl (by decide) ⟨fun cd_2 => ?_, fun cd_2 => ?_⟩
    · replace h := h.1 cd_2
      refine aw_iconst (q := 23) (v := 0) rfl rfl (by decide) ?_
      refine aw_istore (q := 25) (j := 4) (ls' := [(4, .int _), (0, .ref _), (1, .ref _), (2, .int _), (3, .int _)]) rfl rfl (by decide) rfl ?_
      refine aw_aload_n (q := 26) (j := 0) rfl rfl rfl (List.mem_of_getElem? (i := 1) rfl) ?_
      refine ag_getR (q := 29) rfl rfl fl_House_20 rfl (HS.o h_b) (HS.r2 h_b) ?_
      refine aw_iload_n (q := 30) (j := 3) rfl rfl rfl (List.mem_of_getElem? (i := 4) rfl) ?_
      obtain ⟨bd_3, h⟩ := h
      refine ag_aaload (q := 31) rfl rfl (Or.inr rfl) (HS.a2 h_b) bd_3 (HS.rr h_b bd_3) ?_
      refine ag_getI (q := 34) rfl rfl fl_House_102 rfl (HS.ro h_b bd_3) ?_
      refine aw_iconst (q := 35) (v := 1) rfl rfl (by decide) ?_
      refine aw_icmp_eq (q := 38) (tgt := 60) rfl rfl (by decide) ⟨fun cd_4 => ?_, fun cd_4 => ?_⟩
      · replace h := h.1 cd_4
        refine aw_iconst (q := 61) (v := 0) rfl rfl (by decide) ?_
        exact aw_ireturn (ty := .boolean) rfl rfl rfl (by decide) (by decide) h
      · replace h := h.2 cd_4
        refine aw_iload (q := 40) (j := 4) rfl rfl (List.mem_of_getElem? (i := 0) rfl) ?_
        refine aw_if_eq (q := 43) (tgt := 62) rfl rfl (by decide) ⟨fun _ => ?_, fun c => absurd (by decide) c⟩
        refine aw_iinc (q := 65) (v := _ + 1) (ls' := [(3, .int _), (4, .int _), (0, .ref _), (1, .ref _), (2, .int _)]) rfl rfl (List.mem_of_getElem? (i := 4) rfl) rfl (by decide) rfl ?_
        refine aw_goto (tgt := 2) rfl (by decide) ?_
        refine aw_ls [2, 3, 4, 0] rfl ?_
        exact h
    · replace h := h.2 cd_2
      refine aw_iconst (q := 19) (v := 1) rfl rfl (by decide) ?_
      refine aw_goto (tgt := 23) rfl (by decide) ?_
      refine aw_istore (q := 25) (j := 4) (ls' := [(4, .int _), (0, .ref _), (1, .ref _), (2, .int _), (3, .int _)]) rfl rfl (by decide) rfl ?_
      refine aw_aload_n (q := 26) (j := 0) rfl rfl rfl (List.mem_of_getElem? (i := 1) rfl) ?_
      refine ag_getR (q := 29) rfl rfl fl_House_20 rfl (HS.o h_b) (HS.r2 h_b) ?_
      refine aw_iload_n (q := 30) (j := 3) rfl rfl rfl (List.mem_of_getElem? (i := 4) rfl) ?_
      obtain ⟨bd_5, h⟩ := h
      refine ag_aaload (q := 31) rfl rfl (Or.inr rfl) (HS.a2 h_b) bd_5 (HS.rr h_b bd_5) ?_
      refine ag_getI (q := 34) rfl rfl fl_House_102 rfl (HS.ro h_b bd_5) ?_
      refine aw_iconst (q := 35) (v := 1) rfl rfl (by decide) ?_
      refine aw_icmp_eq (q := 38) (tgt := 60) rfl rfl (by decide) ⟨fun cd_6 => ?_, fun cd_6 => ?_⟩
      · replace h := h.1 cd_6
        refine aw_iconst (q := 61) (v := 0) rfl rfl (by decide) ?_
        exact aw_ireturn (ty := .boolean) rfl rfl rfl (by decide) (by decide) h
      · replace h := h.2 cd_6
        refine aw_iload (q := 40) (j := 4) rfl rfl (List.mem_of_getElem? (i := 0) rfl) ?_
        refine aw_if_eq (q := 43) (tgt := 62) rfl rfl (by decide) ⟨fun c => absurd c (by decide), fun _ => ?_⟩
        refine aw_aload_n (q := 44) (j := 0) rfl rfl rfl (List.mem_of_getElem? (i := 1) rfl) ?_
        refine ag_getR (q := 47) rfl rfl fl_House_9 rfl (HS.o h_b) (HS.r0 h_b) ?_
        refine aw_aload_n (q := 48) (j := 0) rfl rfl rfl (List.mem_of_getElem? (i := 1) rfl) ?_
        refine ag_getR (q := 51) rfl rfl fl_House_20 rfl (HS.o h_b) (HS.r2 h_b) ?_
        refine aw_iload_n (q := 52) (j := 3) rfl rfl rfl (List.mem_of_getElem? (i := 4) rfl) ?_
        refine ag_aaload (q := 53) rfl rfl (Or.inr rfl) (HS.a2 h_b) bd_5 (HS.rr h_b bd_5) ?_
        refine ag_getI (q := 56) rfl rfl fl_House_112 rfl (HS.ro h_b bd_5) ?_
        obtain ⟨bd_7, h⟩ := h
        refine ag_iaload (q := 57) (N := 6) rfl rfl (HS.a0 h_b) bd_7 ?_
        refine aw_if_le (q := 60) (tgt := 62) rfl rfl (by decide) ⟨fun cd_8 => ?_, fun cd_8 => ?_⟩
        · replace h := h.1 cd_8
          refine aw_iinc (q := 65) (v := _ + 1) (ls' := [(3, .int _), (4, .int _), (0, .ref _), (1, .ref _), (2, .int _)]) rfl rfl (List.mem_of_getElem? (i := 4) rfl) rfl (by decide) rfl ?_
          refine aw_goto (tgt := 2) rfl (by decide) ?_
          refine aw_ls [2, 3, 4, 0] rfl ?_
          exact h
        · replace h := h.2 cd_8
          refine aw_iconst (q := 61) (v := 0) rfl rfl (by decide) ?_
          exact aw_ireturn (ty := .boolean) rfl rfl rfl (by decide) (by decide) h
set_option maxRecDepth 20000 in
theorem v_House_isSortedFor {E : EN} {g : GS} {s : MS} {Q : Option Value → SG → Prop} (b : Nat) (t : Nat) (x2 : Int32) (h : AWP E m_House_isSortedFor 2 0 0 [(0, .ref b), (1, .ref t), (2, .int x2), (3, .int 0)] [] (mk g s) Q) : AMet E m_House_isSortedFor [.ref b, .ref t, .int x2] (mk g s) Q := by
  refine AMet.of (by decide) k_House_isSortedFor [(0, .ref b), (1, .ref t), (2, .int x2)] (Nat.le_of_ble_eq_true rfl) rfl ?_
  refine aw_iconst (q := 1) (v := 0) rfl rfl (by decide) ?_
  refine aw_istore_n (q := 2) (j := 3) (ls' := [(3, .int _), (0, .ref _), (1, .ref _), (2, .int _)]) rfl rfl rfl (by decide) rfl ?_
  refine aw_ls [1, 2, 3, 0] rfl ?_
  exact h
set_option maxRecDepth 20000 in
theorem v_House_allWorth_4 {E : EN} {g : GS} {s : MS} {Q : Option Value → SG → Prop} (b : Nat) (t : Nat) (x2 : Int32) (x3 : Int32) (hS : SX g) (h_b : HS g b) (et : t = 88 ∨ t = 104) (h : (((s.1 t 12) ≤ x3 → Q (some (.int x2)) (mk g s)) ∧ (¬ (s.1 t 12) ≤ x3 → GI E m_House_worthOf [.ref b, .ref t, .int x3] g s (fun y1_ t1_ => AWP E m_House_allWorth 4 0 0 [(0, .ref b), (1, .ref t), (2, .int (x2 + y1_)), (3, .int (x3 + 1))] [] (mk g t1_) Q)))) : AWP E m_House_allWorth 4 0 0 [(0, .ref b), (1, .ref t), (2, .int x2), (3, .int x3)] [] (mk g s) Q := by
  refine aw_iload_n (q := 5) (j := 3) rfl rfl rfl (List.mem_of_getElem? (i := 3) rfl) ?_
  refine aw_aload_n (q := 6) (j := 1) rfl rfl rfl (List.mem_of_getElem? (i := 1) rfl) ?_
  refine ag_getI (q := 9) rfl rfl fl_House_85 rfl (TS.o (TS.of hS et)) ?_
  refine aw_icmp_ge (q := 12) (tgt := 27) rfl rfl (by decide) ⟨fun cd_1 => ?_, fun cd_1 => ?_⟩
  · replace h := h.1 cd_1
    refine aw_iload_n (q := 28) (j := 2) rfl rfl rfl (List.mem_of_getElem? (i := 2) rfl) ?_
    exact aw_ireturn (ty := .int) rfl rfl rfl (by decide) (by decide) h
  · replace h := h.2 cd_1
    refine aw_iload_n (q := 13) (j := 2) rfl rfl rfl (List.mem_of_getElem? (i := 2) rfl) ?_
    refine aw_aload_n (q := 14) (j := 0) rfl rfl rfl (List.mem_of_getElem? (i := 0) rfl) ?_
    refine aw_aload_n (q := 15) (j := 1) rfl rfl rfl (List.mem_of_getElem? (i := 1) rfl) ?_
    refine aw_iload_n (q := 16) (j := 3) rfl rfl rfl (List.mem_of_getElem? (i := 3) rfl) ?_
    refine ag_cvI (z := m_House_worthOf) (ci := 2) (av := [.ref _, .int _]) (st := [.int _]) (q := 19) (k' := 0) (n' := 0) rfl rfl cv_House_98 ⟨by decide, by decide⟩ rfl rfl (by decide) (by decide) (HS.o h_b) rfl rfl rfl (Nat.le_of_ble_eq_true rfl) ?_
    refine GI.mono h (fun y1_ t1_ h => ?_)
    refine aw_iadd (q := 20) rfl rfl ?_
    refine aw_istore_n (q := 21) (j := 2) (ls' := [(2, .int _), (0, .ref _), (1, .ref _), (3, .int _)]) rfl rfl rfl (by decide) rfl ?_
    refine aw_iinc (q := 24) (v := _ + 1) (ls' := [(3, .int _), (2, .int _), (0, .ref _), (1, .ref _)]) rfl rfl (List.mem_of_getElem? (i := 3) rfl) rfl (by decide) rfl ?_
    refine aw_goto (tgt := 4) rfl (by decide) ?_
    refine aw_ls [2, 3, 1, 0] rfl ?_
    exact h
set_option maxRecDepth 20000 in
theorem v_House_allWorth {E : EN} {g : GS} {s : MS} {Q : Option Value → SG → Prop} (b : Nat) (t : Nat) (h : AWP E m_House_allWorth 4 0 0 [(0, .ref b), (1, .ref t), (2, .int 0), (3, .int 0)] [] (mk g s) Q) : AMet E m_House_allWorth [.ref b, .ref t] (mk g s) Q := by
  refine AMet.of (by decide) k_House_allWorth [(0, .ref b), (1, .ref t)] (Nat.le_of_ble_eq_true rfl) rfl ?_
  refine aw_iconst (q := 1) (v := 0) rfl rfl (by decide) ?_
  refine aw_istore_n (q := 2) (j := 2) (ls' := [(2, .int _), (0, .ref _), (1, .ref _)]) rfl rfl rfl (by decide) rfl ?_
  refine aw_iconst (q := 3) (v := 0) rfl rfl (by decide) ?_
  refine aw_istore_n (q := 4) (j := 3) (ls' := [(3, .int _), (2, .int _), (0, .ref _), (1, .ref _)]) rfl rfl rfl (by decide) rfl ?_
  refine aw_ls [2, 3, 1, 0] rfl ?_
  exact h
