/-! walks of the methods, by program (vcgen.py) -/
set_option maxRecDepth 20000 in
theorem v_Mo_notes {E : EN} {g : GS} {s : MS} {Q : Option Value → SG → Prop} (x1 : Int32) (x2 : Int32) (x3 : Int32) (hS : SX g) (h : vp_in x1 403 ∧ vp_in (s.1 120 20) 20 ∧ (∀ s1_, s1_ = wl s 128 (((s.1 120 20)).toNatClampNeg) (s.2 126 ((x1).toNatClampNeg)) → (∀ s2_, s2_ = wi s1_ 129 (((s.1 120 20)).toNatClampNeg) x2 → (∀ s3_, s3_ = wi s2_ 130 (((s.1 120 20)).toNatClampNeg) x3 → (∀ s4_, s4_ = wi s3_ 120 20 ((s.1 120 20) + 1) → Q none (mk g s4_)))))) : AMet E m_Mo_notes [.ref 120, .int x1, .int x2, .int x3] (mk g s) Q := by
  refine AMet.of (by decide) k_Mo_notes [(0, .ref 120), (1, .int x1), (2, .int x2), (3, .int x3)] (Nat.le_of_ble_eq_true rfl) rfl ?_
  refine aw_aload_n (q := 1) (j := 0) rfl rfl rfl (List.mem_of_getElem? (i := 0) rfl) ?_
  refine ag_getR (q := 4) rfl rfl fl_Mo_40 rfl (SX.o hS rfl) (SX.r hS rfl) ?_
  refine aw_aload_n (q := 5) (j := 0) rfl rfl rfl (List.mem_of_getElem? (i := 0) rfl) ?_
  refine ag_getI (q := 8) rfl rfl fl_Mo_263 rfl (SX.o hS rfl) ?_
  refine aw_aload_n (q := 9) (j := 0) rfl rfl rfl (List.mem_of_getElem? (i := 0) rfl) ?_
  refine ag_getR (q := 12) rfl rfl fl_Mo_30 rfl (SX.o hS rfl) (SX.r hS rfl) ?_
  refine aw_iload_n (q := 13) (j := 1) rfl rfl rfl (List.mem_of_getElem? (i := 1) rfl) ?_
  obtain ⟨bd_1, h⟩ := h
  refine ag_laload (q := 14) (N := 403) rfl rfl (SX.a hS rfl) bd_1 ?_
  obtain ⟨bd_2, h⟩ := h
  refine ag_lastore (q := 15) (N := 20) rfl rfl (SX.a hS rfl) bd_2 ?_
  replace h := h _ rfl
  refine aw_aload_n (q := 16) (j := 0) rfl rfl rfl (List.mem_of_getElem? (i := 0) rfl) ?_
  refine ag_getR (q := 19) rfl rfl fl_Mo_43 rfl (SX.o hS rfl) (SX.r hS rfl) ?_
  refine aw_aload_n (q := 20) (j := 0) rfl rfl rfl (List.mem_of_getElem? (i := 0) rfl) ?_
  refine ag_getI (q := 23) rfl rfl fl_Mo_263 rfl (SX.o hS rfl) ?_
  refine aw_iload_n (q := 24) (j := 2) rfl rfl rfl (List.mem_of_getElem? (i := 2) rfl) ?_
  refine ag_iastore (q := 25) (N := 20) rfl rfl (SX.a hS rfl) bd_2 ?_
  replace h := h _ rfl
  refine aw_aload_n (q := 26) (j := 0) rfl rfl rfl (List.mem_of_getElem? (i := 0) rfl) ?_
  refine ag_getR (q := 29) rfl rfl fl_Mo_46 rfl (SX.o hS rfl) (SX.r hS rfl) ?_
  refine aw_aload_n (q := 30) (j := 0) rfl rfl rfl (List.mem_of_getElem? (i := 0) rfl) ?_
  refine ag_getI (q := 33) rfl rfl fl_Mo_263 rfl (SX.o hS rfl) ?_
  refine aw_iload_n (q := 34) (j := 3) rfl rfl rfl (List.mem_of_getElem? (i := 3) rfl) ?_
  refine ag_iastore (q := 35) (N := 20) rfl rfl (SX.a hS rfl) bd_2 ?_
  replace h := h _ rfl
  refine aw_aload_n (q := 36) (j := 0) rfl rfl rfl (List.mem_of_getElem? (i := 0) rfl) ?_
  refine aw_dup (q := 37) rfl rfl rfl ?_
  refine ag_getI (q := 40) rfl rfl fl_Mo_263 rfl (SX.o hS rfl) ?_
  refine aw_iconst (q := 41) (v := 1) rfl rfl (by decide) ?_
  refine aw_iadd (q := 42) rfl rfl ?_
  refine ag_putI (q := 45) rfl rfl fl_Mo_263 rfl rfl (SX.o hS rfl) ?_
  replace h := h _ rfl
  exact aw_return rfl rfl (by decide) (by decide) h
set_option maxRecDepth 20000 in
theorem v_Mo_tellHole {E : EN} {g : GS} {s : MS} {Q : Option Value → SG → Prop}  (hS : SX g) (h : vp_in (s.1 120 19) 2 ∧ GI E m_Mo_named [.ref 120] g s (fun y1_ t1_ => GI E m_Mo_bounded [.ref 120, .int 1, .int 30] g t1_ (fun y2_ t2_ => vp_in ((6 * (s.1 120 19)) + (s.1 134 (((s.1 120 19)).toNatClampNeg))) 12 ∧ (∀ s3_, s3_ = wi t2_ 135 ((((6 * (s.1 120 19)) + (s.1 134 (((s.1 120 19)).toNatClampNeg)))).toNatClampNeg) y2_ → GI E m_Mo_known [.ref 120, .int 0] g s3_ (fun y4_ t4_ => (∀ s5_, s5_ = wi t4_ 136 ((((6 * (s.1 120 19)) + (s.1 134 (((s.1 120 19)).toNatClampNeg)))).toNatClampNeg) y4_ → GV E m_Mo_must [.ref 120, .int 4] g s5_ (fun t6_ => (((t6_.1 120 13) ≤ 0 → vp_in (t6_.1 120 19) 2 ∧ GV E m_Mo_notes [.ref 120, .int y1_, .int 1, .int (t6_.1 134 (((t6_.1 120 19)).toNatClampNeg))] g t6_ (fun t7_ => vp_in (t7_.1 120 19) 2 ∧ (∀ s8_, s8_ = wi t7_ 134 (((t7_.1 120 19)).toNatClampNeg) ((t7_.1 134 (((t7_.1 120 19)).toNatClampNeg)) + 1) → Q none (mk g s8_)))) ∧ (¬ (t6_.1 120 13) ≤ 0 → Q none (mk g t6_)))))))))) : AMet E m_Mo_tellHole [.ref 120] (mk g s) Q := by
  refine AMet.of (by decide) k_Mo_tellHole [(0, .ref 120)] (Nat.le_of_ble_eq_true rfl) rfl ?_
  refine aw_bipush (q := 2) (v := 6) rfl rfl (by decide) ?_
  refine aw_aload_n (q := 3) (j := 0) rfl rfl rfl (List.mem_of_getElem? (i := 0) rfl) ?_
  refine ag_getI (q := 6) rfl rfl fl_Mo_260 rfl (SX.o hS rfl) ?_
  refine aw_imul (q := 7) rfl rfl ?_
  refine aw_aload_n (q := 8) (j := 0) rfl rfl rfl (List.mem_of_getElem? (i := 0) rfl) ?_
  refine ag_getR (q := 11) rfl rfl fl_Mo_58 rfl (SX.o hS rfl) (SX.r hS rfl) ?_
  refine aw_aload_n (q := 12) (j := 0) rfl rfl rfl (List.mem_of_getElem? (i := 0) rfl) ?_
  refine ag_getI (q := 15) rfl rfl fl_Mo_260 rfl (SX.o hS rfl) ?_
  obtain ⟨bd_1, h⟩ := h
  refine ag_iaload (q := 16) (N := 2) rfl rfl (SX.a hS rfl) bd_1 ?_
  refine aw_iadd (q := 17) rfl rfl ?_
  refine aw_istore_n (q := 18) (j := 1) (ls' := [(1, .int _), (0, .ref _)]) rfl rfl rfl (by decide) rfl ?_
  refine aw_aload_n (q := 19) (j := 0) rfl rfl rfl (List.mem_of_getElem? (i := 1) rfl) ?_
  refine ag_cvI (z := m_Mo_named) (ci := 11) (av := []) (st := []) (q := 22) (k' := 0) (n' := 0) rfl rfl cv_Mo_310 ⟨by decide, by decide⟩ rfl rfl (by decide) (by decide) (SX.o hS rfl) rfl rfl rfl (Nat.le_of_ble_eq_true rfl) ?_
  refine GI.mono h (fun y1_ t1_ h => ?_)
  refine aw_istore_n (q := 23) (j := 2) (ls' := [(2, .int _), (1, .int _), (0, .ref _)]) rfl rfl rfl (by decide) rfl ?_
  refine aw_aload_n (q := 24) (j := 0) rfl rfl rfl (List.mem_of_getElem? (i := 2) rfl) ?_
  refine ag_getR (q := 27) rfl rfl fl_Mo_61 rfl (SX.o hS rfl) (SX.r hS rfl) ?_
  refine aw_iload_n (q := 28) (j := 1) rfl rfl rfl (List.mem_of_getElem? (i := 1) rfl) ?_
  refine aw_aload_n (q := 29) (j := 0) rfl rfl rfl (List.mem_of_getElem? (i := 2) rfl) ?_
  refine aw_iconst (q := 30) (v := 1) rfl rfl (by decide) ?_
  refine aw_bipush (q := 32) (v := 30) rfl rfl (by decide) ?_
  refine ag_cvI (z := m_Mo_bounded) (ci := 11) (av := [.int _, .int _]) (st := [.int _, .ref _]) (q := 35) (k' := 0) (n' := 0) rfl rfl cv_Mo_297 ⟨by decide, by decide⟩ rfl rfl (by decide) (by decide) (SX.o hS rfl) rfl rfl rfl (Nat.le_of_ble_eq_true rfl) ?_
  refine GI.mono h (fun y2_ t2_ h => ?_)
  obtain ⟨bd_2, h⟩ := h
  refine ag_iastore (q := 36) (N := 12) rfl rfl (SX.a hS rfl) bd_2 ?_
  replace h := h _ rfl
  refine aw_aload_n (q := 37) (j := 0) rfl rfl rfl (List.mem_of_getElem? (i := 2) rfl) ?_
  refine ag_getR (q := 40) rfl rfl fl_Mo_64 rfl (SX.o hS rfl) (SX.r hS rfl) ?_
  refine aw_iload_n (q := 41) (j := 1) rfl rfl rfl (List.mem_of_getElem? (i := 1) rfl) ?_
  refine aw_aload_n (q := 42) (j := 0) rfl rfl rfl (List.mem_of_getElem? (i := 2) rfl) ?_
  refine aw_iconst (q := 43) (v := 0) rfl rfl (by decide) ?_
  refine ag_cvI (z := m_Mo_known) (ci := 11) (av := [.int _]) (st := [.int _, .ref _]) (q := 46) (k' := 0) (n' := 0) rfl rfl cv_Mo_318 ⟨by decide, by decide⟩ rfl rfl (by decide) (by decide) (SX.o hS rfl) rfl rfl rfl (Nat.le_of_ble_eq_true rfl) ?_
  refine GI.mono h (fun y4_ t4_ h => ?_)
  refine ag_iastore (q := 47) (N := 12) rfl rfl (SX.a hS rfl) bd_2 ?_
  replace h := h _ rfl
  refine aw_aload_n (q := 48) (j := 0) rfl rfl rfl (List.mem_of_getElem? (i := 2) rfl) ?_
  refine aw_iconst (q := 49) (v := 4) rfl rfl (by decide) ?_
  refine ag_cvV (z := m_Mo_must) (ci := 11) (av := [.int _]) (st := []) (q := 52) (k' := 0) (n' := 0) rfl rfl cv_Mo_301 ⟨by decide, by decide⟩ rfl rfl (by decide) (by decide) (SX.o hS rfl) rfl rfl rfl (Nat.le_of_ble_eq_true rfl) ?_
  refine GV.mono h (fun t6_ h => ?_)
  refine aw_aload_n (q := 53) (j := 0) rfl rfl rfl (List.mem_of_getElem? (i := 2) rfl) ?_
  refine ag_getI (q := 56) rfl rfl fl_Mo_227 rfl (SX.o hS rfl) ?_
  refine aw_if_le (q := 59) (tgt := 60) rfl rfl (by decide) ⟨fun cd_3 => ?_, fun cd_3 => ?_⟩
  · replace h := h.1 cd_3
    refine aw_aload_n (q := 61) (j := 0) rfl rfl rfl (List.mem_of_getElem? (i := 2) rfl) ?_
    refine aw_iload_n (q := 62) (j := 2) rfl rfl rfl (List.mem_of_getElem? (i := 0) rfl) ?_
    refine aw_iconst (q := 63) (v := 1) rfl rfl (by decide) ?_
    refine aw_aload_n (q := 64) (j := 0) rfl rfl rfl (List.mem_of_getElem? (i := 2) rfl) ?_
    refine ag_getR (q := 67) rfl rfl fl_Mo_58 rfl (SX.o hS rfl) (SX.r hS rfl) ?_
    refine aw_aload_n (q := 68) (j := 0) rfl rfl rfl (List.mem_of_getElem? (i := 2) rfl) ?_
    refine ag_getI (q := 71) rfl rfl fl_Mo_260 rfl (SX.o hS rfl) ?_
    obtain ⟨bd_4, h⟩ := h
    refine ag_iaload (q := 72) (N := 2) rfl rfl (SX.a hS rfl) bd_4 ?_
    refine ag_cvV (z := m_Mo_notes) (ci := 11) (av := [.int _, .int _, .int _]) (st := []) (q := 75) (k' := 0) (n' := 0) rfl rfl cv_Mo_314 ⟨by decide, by decide⟩ rfl rfl (by decide) (by decide) (SX.o hS rfl) rfl rfl rfl (Nat.le_of_ble_eq_true rfl) ?_
    refine GV.mono h (fun t7_ h => ?_)
    refine aw_aload_n (q := 76) (j := 0) rfl rfl rfl (List.mem_of_getElem? (i := 2) rfl) ?_
    refine ag_getR (q := 79) rfl rfl fl_Mo_58 rfl (SX.o hS rfl) (SX.r hS rfl) ?_
    refine aw_aload_n (q := 80) (j := 0) rfl rfl rfl (List.mem_of_getElem? (i := 2) rfl) ?_
    refine ag_getI (q := 83) rfl rfl fl_Mo_260 rfl (SX.o hS rfl) ?_
    refine aw_dup2 (q := 84) rfl rfl rfl rfl ?_
    obtain ⟨bd_5, h⟩ := h
    refine ag_iaload (q := 85) (N := 2) rfl rfl (SX.a hS rfl) bd_5 ?_
    refine aw_iconst (q := 86) (v := 1) rfl rfl (by decide) ?_
    refine aw_iadd (q := 87) rfl rfl ?_
    refine ag_iastore (q := 88) (N := 2) rfl rfl (SX.a hS rfl) bd_5 ?_
    replace h := h _ rfl
    exact aw_return rfl rfl (by decide) (by decide) h
  · replace h := h.2 cd_3
    exact aw_return rfl rfl (by decide) (by decide) h
set_option maxRecDepth 20000 in
theorem v_Mo_known_21 {E : EN} {g : GS} {s : MS} {Q : Option Value → SG → Prop} (x1 : Int32) (x2 : Int32) (x3 : Int32) (hS : SX g) (h : (((s.1 120 20) ≤ x3 → GV E m_Mo_wrong [.ref 120, .int 4, .int x2] g s (fun t1_ => Q (some (.int (-1))) (mk g t1_))) ∧ (¬ (s.1 120 20) ≤ x3 → vp_in x3 20 ∧ vp_in x2 403 ∧ (((lg_cmp (s.2 128 ((x3).toNatClampNeg)) (s.2 126 ((x2).toNatClampNeg))) = 0 → (((s.1 129 ((x3).toNatClampNeg)) = x1 → Q (some (.int (s.1 130 ((x3).toNatClampNeg)))) (mk g s)) ∧ (¬ (s.1 129 ((x3).toNatClampNeg)) = x1 → AWP E m_Mo_known 21 0 0 [(0, .ref 120), (1, .int x1), (2, .int x2), (3, .int (x3 + 1))] [] (mk g s) Q))) ∧ (¬ (lg_cmp (s.2 128 ((x3).toNatClampNeg)) (s.2 126 ((x2).toNatClampNeg))) = 0 → AWP E m_Mo_known 21 0 0 [(0, .ref 120), (1, .int x1), (2, .int x2), (3, .int (x3 + 1))] [] (mk g s) Q))))) : AWP E m_Mo_known 21 0 0 [(0, .ref 120), (1, .int x1), (2, .int x2), (3, .int x3)] [] (mk g s) Q := by
  refine aw_iload_n (q := 22) (j := 3) rfl rfl rfl (List.mem_of_getElem? (i := 3) rfl) ?_
  refine aw_aload_n (q := 23) (j := 0) rfl rfl rfl (List.mem_of_getElem? (i := 0) rfl) ?_
  refine ag_getI (q := 26) rfl rfl fl_Mo_263 rfl (SX.o hS rfl) ?_
  refine aw_icmp_ge (q := 29) (tgt := 68) rfl rfl (by decide) ⟨fun cd_1 => ?_, fun cd_1 => ?_⟩
  · replace h := h.1 cd_1
    refine aw_aload_n (q := 69) (j := 0) rfl rfl rfl (List.mem_of_getElem? (i := 0) rfl) ?_
    refine aw_iconst (q := 70) (v := 4) rfl rfl (by decide) ?_
    refine aw_iload_n (q := 71) (j := 2) rfl rfl rfl (List.mem_of_getElem? (i := 2) rfl) ?_
    refine ag_cvV (z := m_Mo_wrong) (ci := 11) (av := [.int _, .int _]) (st := []) (q := 74) (k' := 0) (n' := 0) rfl rfl cv_Mo_307 ⟨by decide, by decide⟩ rfl rfl (by decide) (by decide) (SX.o hS rfl) rfl rfl rfl (Nat.le_of_ble_eq_true rfl) ?_
    refine GV.mono h (fun t1_ h => ?_)
    refine aw_iconst (q := 75) (v := (-1)) rfl rfl (by decide) ?_
    exact aw_ireturn (ty := .int) rfl rfl rfl (by decide) (by decide) h
  · replace h := h.2 cd_1
    refine aw_aload_n (q := 30) (j := 0) rfl rfl rfl (List.mem_of_getElem? (i := 0) rfl) ?_
    refine ag_getR (q := 33) rfl rfl fl_Mo_40 rfl (SX.o hS rfl) (SX.r hS rfl) ?_
    refine aw_iload_n (q := 34) (j := 3) rfl rfl rfl (List.mem_of_getElem? (i := 3) rfl) ?_
    obtain ⟨bd_2, h⟩ := h
    refine ag_laload (q := 35) (N := 20) rfl rfl (SX.a hS rfl) bd_2 ?_
    refine aw_aload_n (q := 36) (j := 0) rfl rfl rfl (List.mem_of_getElem? (i := 0) rfl) ?_
    refine ag_getR (q := 39) rfl rfl fl_Mo_30 rfl (SX.o hS rfl) (SX.r hS rfl) ?_
    refine aw_iload_n (q := 40) (j := 2) rfl rfl rfl (List.mem_of_getElem? (i := 2) rfl) ?_
    obtain ⟨bd_3, h⟩ := h
    refine ag_laload (q := 41) (N := 403) rfl rfl (SX.a hS rfl) bd_3 ?_
    refine aw_lcmp (q := 42) rfl rfl ?_
    refine aw_if_ne (q := 45) (tgt := 62) rfl rfl (by decide) ⟨fun cd_4 => ?_, fun cd_4 => ?_⟩
    · replace h := h.1 cd_4
      refine aw_aload_n (q := 46) (j := 0) rfl rfl rfl (List.mem_of_getElem? (i := 0) rfl) ?_
      refine ag_getR (q := 49) rfl rfl fl_Mo_43 rfl (SX.o hS rfl) (SX.r hS rfl) ?_
      refine aw_iload_n (q := 50) (j := 3) rfl rfl rfl (List.mem_of_getElem? (i := 3) rfl) ?_
      refine ag_iaload (q := 51) (N := 20) rfl rfl (SX.a hS rfl) bd_2 ?_
      refine aw_iload_n (q := 52) (j := 1) rfl rfl rfl (List.mem_of_getElem? (i := 1) rfl) ?_
      refine aw_icmp_ne (q := 55) (tgt := 62) rfl rfl (by decide) ⟨fun cd_5 => ?_, fun cd_5 => ?_⟩
      · replace h := h.1 cd_5
        refine aw_aload_n (q := 56) (j := 0) rfl rfl rfl (List.mem_of_getElem? (i := 0) rfl) ?_
        refine ag_getR (q := 59) rfl rfl fl_Mo_46 rfl (SX.o hS rfl) (SX.r hS rfl) ?_
        refine aw_iload_n (q := 60) (j := 3) rfl rfl rfl (List.mem_of_getElem? (i := 3) rfl) ?_
        refine ag_iaload (q := 61) (N := 20) rfl rfl (SX.a hS rfl) bd_2 ?_
        exact aw_ireturn (ty := .int) rfl rfl rfl (by decide) (by decide) h
      · replace h := h.2 cd_5
        refine aw_iinc (q := 65) (v := _ + 1) (ls' := [(3, .int _), (0, .ref _), (1, .int _), (2, .int _)]) rfl rfl (List.mem_of_getElem? (i := 3) rfl) rfl (by decide) rfl ?_
        refine aw_goto (tgt := 21) rfl (by decide) ?_
        refine aw_ls [1, 2, 3, 0] rfl ?_
        exact h
    · replace h := h.2 cd_4
      refine aw_iinc (q := 65) (v := _ + 1) (ls' := [(3, .int _), (0, .ref _), (1, .int _), (2, .int _)]) rfl rfl (List.mem_of_getElem? (i := 3) rfl) rfl (by decide) rfl ?_
      refine aw_goto (tgt := 21) rfl (by decide) ?_
      refine aw_ls [1, 2, 3, 0] rfl ?_
      exact h
set_option maxRecDepth 20000 in
theorem v_Mo_known {E : EN} {g : GS} {s : MS} {Q : Option Value → SG → Prop} (x1 : Int32) (hS : SX g) (h : GV E m_Mo_must [.ref 120, .int 1] g s (fun t1_ => (((t1_.1 120 13) ≤ 0 → AWP E m_Mo_known 21 0 0 [(0, .ref 120), (1, .int x1), (2, .int (s.1 120 11)), (3, .int 0)] [] (mk g t1_) Q) ∧ (¬ (t1_.1 120 13) ≤ 0 → Q (some (.int (-1))) (mk g t1_))))) : AMet E m_Mo_known [.ref 120, .int x1] (mk g s) Q := by
  refine AMet.of (by decide) k_Mo_known [(0, .ref 120), (1, .int x1)] (Nat.le_of_ble_eq_true rfl) rfl ?_
  refine aw_aload_n (q := 1) (j := 0) rfl rfl rfl (List.mem_of_getElem? (i := 0) rfl) ?_
  refine ag_getI (q := 4) rfl rfl fl_Mo_230 rfl (SX.o hS rfl) ?_
  refine aw_istore_n (q := 5) (j := 2) (ls' := [(2, .int _), (0, .ref _), (1, .int _)]) rfl rfl rfl (by decide) rfl ?_
  refine aw_aload_n (q := 6) (j := 0) rfl rfl rfl (List.mem_of_getElem? (i := 1) rfl) ?_
  refine aw_iconst (q := 7) (v := 1) rfl rfl (by decide) ?_
  refine ag_cvV (z := m_Mo_must) (ci := 11) (av := [.int _]) (st := []) (q := 10) (k' := 0) (n' := 0) rfl rfl cv_Mo_301 ⟨by decide, by decide⟩ rfl rfl (by decide) (by decide) (SX.o hS rfl) rfl rfl rfl (Nat.le_of_ble_eq_true rfl) ?_
  refine GV.mono h (fun t1_ h => ?_)
  refine aw_aload_n (q := 11) (j := 0) rfl rfl rfl (List.mem_of_getElem? (i := 1) rfl) ?_
  refine ag_getI (q := 14) rfl rfl fl_Mo_227 rfl (SX.o hS rfl) ?_
  refine aw_if_le (q := 17) (tgt := 19) rfl rfl (by decide) ⟨fun cd_1 => ?_, fun cd_1 => ?_⟩
  · replace h := h.1 cd_1
    refine aw_iconst (q := 20) (v := 0) rfl rfl (by decide) ?_
    refine aw_istore_n (q := 21) (j := 3) (ls' := [(3, .int _), (2, .int _), (0, .ref _), (1, .int _)]) rfl rfl rfl (by decide) rfl ?_
    refine aw_ls [2, 3, 1, 0] rfl ?_
    exact h
  · replace h := h.2 cd_1
    refine aw_iconst (q := 18) (v := (-1)) rfl rfl (by decide) ?_
    exact aw_ireturn (ty := .int) rfl rfl rfl (by decide) (by decide) h
set_option maxRecDepth 20000 in
theorem v_Mo_tellRat {E : EN} {g : GS} {s : MS} {Q : Option Value → SG → Prop}  (hS : SX g) (h : vp_in (s.1 120 19) 2 ∧ GI E m_Mo_named [.ref 120] g s (fun y1_ t1_ => GI E m_Mo_known [.ref 120, .int 0] g t1_ (fun y2_ t2_ => vp_in ((8 * (s.1 120 19)) + (s.1 137 (((s.1 120 19)).toNatClampNeg))) 16 ∧ (∀ s3_, s3_ = wi t2_ 138 ((((8 * (s.1 120 19)) + (s.1 137 (((s.1 120 19)).toNatClampNeg)))).toNatClampNeg) y2_ → GI E m_Mo_known [.ref 120, .int 1] g s3_ (fun y4_ t4_ => (∀ s5_, s5_ = wi t4_ 139 ((((8 * (s.1 120 19)) + (s.1 137 (((s.1 120 19)).toNatClampNeg)))).toNatClampNeg) y4_ → GI E m_Mo_bounded [.ref 120, .int 0, .int 9] g s5_ (fun y6_ t6_ => (∀ s7_, s7_ = wi t6_ 140 ((((8 * (s.1 120 19)) + (s.1 137 (((s.1 120 19)).toNatClampNeg)))).toNatClampNeg) y6_ → GI E m_Mo_bounded [.ref 120, .int 0, .int 99] g s7_ (fun y8_ t8_ => (∀ s9_, s9_ = wi t8_ 141 ((((8 * (s.1 120 19)) + (s.1 137 (((s.1 120 19)).toNatClampNeg)))).toNatClampNeg) y8_ → GV E m_Mo_must [.ref 120, .int 4] g s9_ (fun t10_ => (((t10_.1 120 13) ≤ 0 → vp_in (t10_.1 120 19) 2 ∧ GV E m_Mo_notes [.ref 120, .int y1_, .int 2, .int (t10_.1 137 (((t10_.1 120 19)).toNatClampNeg))] g t10_ (fun t11_ => vp_in (t11_.1 120 19) 2 ∧ (∀ s12_, s12_ = wi t11_ 137 (((t11_.1 120 19)).toNatClampNeg) ((t11_.1 137 (((t11_.1 120 19)).toNatClampNeg)) + 1) → Q none (mk g s12_)))) ∧ (¬ (t10_.1 120 13) ≤ 0 → Q none (mk g t10_)))))))))))))) : AMet E m_Mo_tellRat [.ref 120] (mk g s) Q := by
  refine AMet.of (by decide) k_Mo_tellRat [(0, .ref 120)] (Nat.le_of_ble_eq_true rfl) rfl ?_
  refine aw_bipush (q := 2) (v := 8) rfl rfl (by decide) ?_
  refine aw_aload_n (q := 3) (j := 0) rfl rfl rfl (List.mem_of_getElem? (i := 0) rfl) ?_
  refine ag_getI (q := 6) rfl rfl fl_Mo_260 rfl (SX.o hS rfl) ?_
  refine aw_imul (q := 7) rfl rfl ?_
  refine aw_aload_n (q := 8) (j := 0) rfl rfl rfl (List.mem_of_getElem? (i := 0) rfl) ?_
  refine ag_getR (q := 11) rfl rfl fl_Mo_67 rfl (SX.o hS rfl) (SX.r hS rfl) ?_
  refine aw_aload_n (q := 12) (j := 0) rfl rfl rfl (List.mem_of_getElem? (i := 0) rfl) ?_
  refine ag_getI (q := 15) rfl rfl fl_Mo_260 rfl (SX.o hS rfl) ?_
  obtain ⟨bd_1, h⟩ := h
  refine ag_iaload (q := 16) (N := 2) rfl rfl (SX.a hS rfl) bd_1 ?_
  refine aw_iadd (q := 17) rfl rfl ?_
  refine aw_istore_n (q := 18) (j := 1) (ls' := [(1, .int _), (0, .ref _)]) rfl rfl rfl (by decide) rfl ?_
  refine aw_aload_n (q := 19) (j := 0) rfl rfl rfl (List.mem_of_getElem? (i := 1) rfl) ?_
  refine ag_cvI (z := m_Mo_named) (ci := 11) (av := []) (st := []) (q := 22) (k' := 0) (n' := 0) rfl rfl cv_Mo_310 ⟨by decide, by decide⟩ rfl rfl (by decide) (by decide) (SX.o hS rfl) rfl rfl rfl (Nat.le_of_ble_eq_true rfl) ?_
  refine GI.mono h (fun y1_ t1_ h => ?_)
  refine aw_istore_n (q := 23) (j := 2) (ls' := [(2, .int _), (1, .int _), (0, .ref _)]) rfl rfl rfl (by decide) rfl ?_
  refine aw_aload_n (q := 24) (j := 0) rfl rfl rfl (List.mem_of_getElem? (i := 2) rfl) ?_
  refine ag_getR (q := 27) rfl rfl fl_Mo_70 rfl (SX.o hS rfl) (SX.r hS rfl) ?_
  refine aw_iload_n (q := 28) (j := 1) rfl rfl rfl (List.mem_of_getElem? (i := 1) rfl) ?_
  refine aw_aload_n (q := 29) (j := 0) rfl rfl rfl (List.mem_of_getElem? (i := 2) rfl) ?_
  refine aw_iconst (q := 30) (v := 0) rfl rfl (by decide) ?_
  refine ag_cvI (z := m_Mo_known) (ci := 11) (av := [.int _]) (st := [.int _, .ref _]) (q := 33) (k' := 0) (n' := 0) rfl rfl cv_Mo_318 ⟨by decide, by decide⟩ rfl rfl (by decide) (by decide) (SX.o hS rfl) rfl rfl rfl (Nat.le_of_ble_eq_true rfl) ?_
  refine GI.mono h (fun y2_ t2_ h => ?_)
  obtain ⟨bd_2, h⟩ := h
  refine ag_iastore (q := 34) (N := 16) rfl rfl (SX.a hS rfl) bd_2 ?_
  replace h := h _ rfl
  refine aw_aload_n (q := 35) (j := 0) rfl rfl rfl (List.mem_of_getElem? (i := 2) rfl) ?_
  refine ag_getR (q := 38) rfl rfl fl_Mo_73 rfl (SX.o hS rfl) (SX.r hS rfl) ?_
  refine aw_iload_n (q := 39) (j := 1) rfl rfl rfl (List.mem_of_getElem? (i := 1) rfl) ?_
  refine aw_aload_n (q := 40) (j := 0) rfl rfl rfl (List.mem_of_getElem? (i := 2) rfl) ?_
  refine aw_iconst (q := 41) (v := 1) rfl rfl (by decide) ?_
  refine ag_cvI (z := m_Mo_known) (ci := 11) (av := [.int _]) (st := [.int _, .ref _]) (q := 44) (k' := 0) (n' := 0) rfl rfl cv_Mo_318 ⟨by decide, by decide⟩ rfl rfl (by decide) (by decide) (SX.o hS rfl) rfl rfl rfl (Nat.le_of_ble_eq_true rfl) ?_
  refine GI.mono h (fun y4_ t4_ h => ?_)
  refine ag_iastore (q := 45) (N := 16) rfl rfl (SX.a hS rfl) bd_2 ?_
  replace h := h _ rfl
  refine aw_aload_n (q := 46) (j := 0) rfl rfl rfl (List.mem_of_getElem? (i := 2) rfl) ?_
  refine ag_getR (q := 49) rfl rfl fl_Mo_76 rfl (SX.o hS rfl) (SX.r hS rfl) ?_
  refine aw_iload_n (q := 50) (j := 1) rfl rfl rfl (List.mem_of_getElem? (i := 1) rfl) ?_
  refine aw_aload_n (q := 51) (j := 0) rfl rfl rfl (List.mem_of_getElem? (i := 2) rfl) ?_
  refine aw_iconst (q := 52) (v := 0) rfl rfl (by decide) ?_
  refine aw_bipush (q := 54) (v := 9) rfl rfl (by decide) ?_
  refine ag_cvI (z := m_Mo_bounded) (ci := 11) (av := [.int _, .int _]) (st := [.int _, .ref _]) (q := 57) (k' := 0) (n' := 0) rfl rfl cv_Mo_297 ⟨by decide, by decide⟩ rfl rfl (by decide) (by decide) (SX.o hS rfl) rfl rfl rfl (Nat.le_of_ble_eq_true rfl) ?_
  refine GI.mono h (fun y6_ t6_ h => ?_)
  refine ag_iastore (q := 58) (N := 16) rfl rfl (SX.a hS rfl) bd_2 ?_
  replace h := h _ rfl
  refine aw_aload_n (q := 59) (j := 0) rfl rfl rfl (List.mem_of_getElem? (i := 2) rfl) ?_
  refine ag_getR (q := 62) rfl rfl fl_Mo_79 rfl (SX.o hS rfl) (SX.r hS rfl) ?_
  refine aw_iload_n (q := 63) (j := 1) rfl rfl rfl (List.mem_of_getElem? (i := 1) rfl) ?_
  refine aw_aload_n (q := 64) (j := 0) rfl rfl rfl (List.mem_of_getElem? (i := 2) rfl) ?_
  refine aw_iconst (q := 65) (v := 0) rfl rfl (by decide) ?_
  refine aw_bipush (q := 67) (v := 99) rfl rfl (by decide) ?_
  refine ag_cvI (z := m_Mo_bounded) (ci := 11) (av := [.int _, .int _]) (st := [.int _, .ref _]) (q := 70) (k' := 0) (n' := 0) rfl rfl cv_Mo_297 ⟨by decide, by decide⟩ rfl rfl (by decide) (by decide) (SX.o hS rfl) rfl rfl rfl (Nat.le_of_ble_eq_true rfl) ?_
  refine GI.mono h (fun y8_ t8_ h => ?_)
  refine ag_iastore (q := 71) (N := 16) rfl rfl (SX.a hS rfl) bd_2 ?_
  replace h := h _ rfl
  refine aw_aload_n (q := 72) (j := 0) rfl rfl rfl (List.mem_of_getElem? (i := 2) rfl) ?_
  refine aw_iconst (q := 73) (v := 4) rfl rfl (by decide) ?_
  refine ag_cvV (z := m_Mo_must) (ci := 11) (av := [.int _]) (st := []) (q := 76) (k' := 0) (n' := 0) rfl rfl cv_Mo_301 ⟨by decide, by decide⟩ rfl rfl (by decide) (by decide) (SX.o hS rfl) rfl rfl rfl (Nat.le_of_ble_eq_true rfl) ?_
  refine GV.mono h (fun t10_ h => ?_)
  refine aw_aload_n (q := 77) (j := 0) rfl rfl rfl (List.mem_of_getElem? (i := 2) rfl) ?_
  refine ag_getI (q := 80) rfl rfl fl_Mo_227 rfl (SX.o hS rfl) ?_
  refine aw_if_le (q := 83) (tgt := 84) rfl rfl (by decide) ⟨fun cd_3 => ?_, fun cd_3 => ?_⟩
  · replace h := h.1 cd_3
    refine aw_aload_n (q := 85) (j := 0) rfl rfl rfl (List.mem_of_getElem? (i := 2) rfl) ?_
    refine aw_iload_n (q := 86) (j := 2) rfl rfl rfl (List.mem_of_getElem? (i := 0) rfl) ?_
    refine aw_iconst (q := 87) (v := 2) rfl rfl (by decide) ?_
    refine aw_aload_n (q := 88) (j := 0) rfl rfl rfl (List.mem_of_getElem? (i := 2) rfl) ?_
    refine ag_getR (q := 91) rfl rfl fl_Mo_67 rfl (SX.o hS rfl) (SX.r hS rfl) ?_
    refine aw_aload_n (q := 92) (j := 0) rfl rfl rfl (List.mem_of_getElem? (i := 2) rfl) ?_
    refine ag_getI (q := 95) rfl rfl fl_Mo_260 rfl (SX.o hS rfl) ?_
    obtain ⟨bd_4, h⟩ := h
    refine ag_iaload (q := 96) (N := 2) rfl rfl (SX.a hS rfl) bd_4 ?_
    refine ag_cvV (z := m_Mo_notes) (ci := 11) (av := [.int _, .int _, .int _]) (st := []) (q := 99) (k' := 0) (n' := 0) rfl rfl cv_Mo_314 ⟨by decide, by decide⟩ rfl rfl (by decide) (by decide) (SX.o hS rfl) rfl rfl rfl (Nat.le_of_ble_eq_true rfl) ?_
    refine GV.mono h (fun t11_ h => ?_)
    refine aw_aload_n (q := 100) (j := 0) rfl rfl rfl (List.mem_of_getElem? (i := 2) rfl) ?_
    refine ag_getR (q := 103) rfl rfl fl_Mo_67 rfl (SX.o hS rfl) (SX.r hS rfl) ?_
    refine aw_aload_n (q := 104) (j := 0) rfl rfl rfl (List.mem_of_getElem? (i := 2) rfl) ?_
    refine ag_getI (q := 107) rfl rfl fl_Mo_260 rfl (SX.o hS rfl) ?_
    refine aw_dup2 (q := 108) rfl rfl rfl rfl ?_
    obtain ⟨bd_5, h⟩ := h
    refine ag_iaload (q := 109) (N := 2) rfl rfl (SX.a hS rfl) bd_5 ?_
    refine aw_iconst (q := 110) (v := 1) rfl rfl (by decide) ?_
    refine aw_iadd (q := 111) rfl rfl ?_
    refine ag_iastore (q := 112) (N := 2) rfl rfl (SX.a hS rfl) bd_5 ?_
    replace h := h _ rfl
    exact aw_return rfl rfl (by decide) (by decide) h
  · replace h := h.2 cd_3
    exact aw_return rfl rfl (by decide) (by decide) h
set_option maxRecDepth 20000 in
theorem v_Mo_tellWants_33 {E : EN} {g : GS} {s : MS} {Q : Option Value → SG → Prop} (x1 : Int32) (x2 : Int32) (hS : SX g) (h : (((s.1 120 13) = 0 → GI E m_Mo_is [.ref 120, .int 1] g s (fun y1_ t1_ => ((y1_ = 0 → GV E m_Mo_must [.ref 120, .int 4] g t1_ (fun t2_ => vp_in x1 10 ∧ (∀ s3_, s3_ = wi t2_ 144 ((x1).toNatClampNeg) x2 → (((t2_.1 120 13) = 0 → vp_in (t2_.1 120 19) 2 ∧ (∀ s4_, s4_ = wi s3_ 142 (((t2_.1 120 19)).toNatClampNeg) ((t2_.1 142 (((t2_.1 120 19)).toNatClampNeg)) + 1) → Q none (mk g s4_))) ∧ (¬ (t2_.1 120 13) = 0 → Q none (mk g s3_)))))) ∧ (¬ y1_ = 0 → ((x2 = 4 → GV E m_Mo_fail [.ref 120, .int 2] g t1_ (fun t5_ => (((t5_.1 120 13) ≤ 0 → GI E m_Mo_known [.ref 120, .int 0] g t5_ (fun y6_ t6_ => AWP E m_Mo_tellWants 81 0 0 [(0, .ref 120), (1, .int x1), (2, .int x2), (3, .int (t5_.1 120 11)), (4, .int y6_), (5, .int 0)] [] (mk g t6_) Q)) ∧ (¬ (t5_.1 120 13) ≤ 0 → Q none (mk g t5_))))) ∧ (¬ x2 = 4 → (((t1_.1 120 13) ≤ 0 → GI E m_Mo_known [.ref 120, .int 0] g t1_ (fun y7_ t7_ => AWP E m_Mo_tellWants 81 0 0 [(0, .ref 120), (1, .int x1), (2, .int x2), (3, .int (t1_.1 120 11)), (4, .int y7_), (5, .int 0)] [] (mk g t7_) Q)) ∧ (¬ (t1_.1 120 13) ≤ 0 → Q none (mk g t1_))))))))) ∧ (¬ (s.1 120 13) = 0 → GV E m_Mo_must [.ref 120, .int 4] g s (fun t8_ => vp_in x1 10 ∧ (∀ s9_, s9_ = wi t8_ 144 ((x1).toNatClampNeg) x2 → (((t8_.1 120 13) = 0 → vp_in (t8_.1 120 19) 2 ∧ (∀ s10_, s10_ = wi s9_ 142 (((t8_.1 120 19)).toNatClampNeg) ((t8_.1 142 (((t8_.1 120 19)).toNatClampNeg)) + 1) → Q none (mk g s10_))) ∧ (¬ (t8_.1 120 13) = 0 → Q none (mk g s9_)))))))) : AWP E m_Mo_tellWants 33 0 0 [(0, .ref 120), (1, .int x1), (2, .int x2)] [] (mk g s) Q := by
  refine aw_aload_n (q := 34) (j := 0) rfl rfl rfl (List.mem_of_getElem? (i := 0) rfl) ?_
  refine ag_getI (q := 37) rfl rfl fl_Mo_227 rfl (SX.o hS rfl) ?_
  refine aw_if_ne (q := 40) (tgt := 156) rfl rfl (by decide) ⟨fun cd_1 => ?_, fun cd_1 => ?_⟩
  · replace h := h.1 cd_1
    refine aw_aload_n (q := 41) (j := 0) rfl rfl rfl (List.mem_of_getElem? (i := 0) rfl) ?_
    refine aw_iconst (q := 42) (v := 1) rfl rfl (by decide) ?_
    refine ag_cvI (z := m_Mo_is) (ci := 11) (av := [.int _]) (st := []) (q := 45) (k' := 0) (n' := 0) rfl rfl cv_Mo_245 ⟨by decide, by decide⟩ rfl rfl (by decide) (by decide) (SX.o hS rfl) rfl rfl rfl (Nat.le_of_ble_eq_true rfl) ?_
    refine GI.mono h (fun y1_ t1_ h => ?_)
    refine aw_if_eq (q := 48) (tgt := 156) rfl rfl (by decide) ⟨fun cd_2 => ?_, fun cd_2 => ?_⟩
    · replace h := h.1 cd_2
      refine aw_aload_n (q := 157) (j := 0) rfl rfl rfl (List.mem_of_getElem? (i := 0) rfl) ?_
      refine aw_iconst (q := 158) (v := 4) rfl rfl (by decide) ?_
      refine ag_cvV (z := m_Mo_must) (ci := 11) (av := [.int _]) (st := []) (q := 161) (k' := 0) (n' := 0) rfl rfl cv_Mo_301 ⟨by decide, by decide⟩ rfl rfl (by decide) (by decide) (SX.o hS rfl) rfl rfl rfl (Nat.le_of_ble_eq_true rfl) ?_
      refine GV.mono h (fun t2_ h => ?_)
      refine aw_aload_n (q := 162) (j := 0) rfl rfl rfl (List.mem_of_getElem? (i := 0) rfl) ?_
      refine ag_getR (q := 165) rfl rfl fl_Mo_88 rfl (SX.o hS rfl) (SX.r hS rfl) ?_
      refine aw_iload_n (q := 166) (j := 1) rfl rfl rfl (List.mem_of_getElem? (i := 1) rfl) ?_
      refine aw_iload_n (q := 167) (j := 2) rfl rfl rfl (List.mem_of_getElem? (i := 2) rfl) ?_
      obtain ⟨bd_3, h⟩ := h
      refine ag_iastore (q := 168) (N := 10) rfl rfl (SX.a hS rfl) bd_3 ?_
      replace h := h _ rfl
      refine aw_aload_n (q := 169) (j := 0) rfl rfl rfl (List.mem_of_getElem? (i := 0) rfl) ?_
      refine ag_getI (q := 172) rfl rfl fl_Mo_227 rfl (SX.o hS rfl) ?_
      refine aw_if_ne (q := 175) (tgt := 188) rfl rfl (by decide) ⟨fun cd_4 => ?_, fun cd_4 => ?_⟩
      · replace h := h.1 cd_4
        refine aw_aload_n (q := 176) (j := 0) rfl rfl rfl (List.mem_of_getElem? (i := 0) rfl) ?_
        refine ag_getR (q := 179) rfl rfl fl_Mo_82 rfl (SX.o hS rfl) (SX.r hS rfl) ?_
        refine aw_aload_n (q := 180) (j := 0) rfl rfl rfl (List.mem_of_getElem? (i := 0) rfl) ?_
        refine ag_getI (q := 183) rfl rfl fl_Mo_260 rfl (SX.o hS rfl) ?_
        refine aw_dup2 (q := 184) rfl rfl rfl rfl ?_
        obtain ⟨bd_5, h⟩ := h
        refine ag_iaload (q := 185) (N := 2) rfl rfl (SX.a hS rfl) bd_5 ?_
        refine aw_iconst (q := 186) (v := 1) rfl rfl (by decide) ?_
        refine aw_iadd (q := 187) rfl rfl ?_
        refine ag_iastore (q := 188) (N := 2) rfl rfl (SX.a hS rfl) bd_5 ?_
        replace h := h _ rfl
        exact aw_return rfl rfl (by decide) (by decide) h
      · replace h := h.2 cd_4
        exact aw_return rfl rfl (by decide) (by decide) h
    · replace h := h.2 cd_2
      refine aw_iload_n (q := 49) (j := 2) rfl rfl rfl (List.mem_of_getElem? (i := 2) rfl) ?_
      refine aw_iconst (q := 50) (v := 4) rfl rfl (by decide) ?_
      refine aw_icmp_ne (q := 53) (tgt := 58) rfl rfl (by decide) ⟨fun cd_6 => ?_, fun cd_6 => ?_⟩
      · replace h := h.1 cd_6
        refine aw_aload_n (q := 54) (j := 0) rfl rfl rfl (List.mem_of_getElem? (i := 0) rfl) ?_
        refine aw_iconst (q := 55) (v := 2) rfl rfl (by decide) ?_
        refine ag_cvV (z := m_Mo_fail) (ci := 11) (av := [.int _]) (st := []) (q := 58) (k' := 0) (n' := 0) rfl rfl cv_Mo_242 ⟨by decide, by decide⟩ rfl rfl (by decide) (by decide) (SX.o hS rfl) rfl rfl rfl (Nat.le_of_ble_eq_true rfl) ?_
        refine GV.mono h (fun t5_ h => ?_)
        refine aw_aload_n (q := 59) (j := 0) rfl rfl rfl (List.mem_of_getElem? (i := 0) rfl) ?_
        refine ag_getI (q := 62) rfl rfl fl_Mo_227 rfl (SX.o hS rfl) ?_
        refine aw_if_le (q := 65) (tgt := 66) rfl rfl (by decide) ⟨fun cd_7 => ?_, fun cd_7 => ?_⟩
        · replace h := h.1 cd_7
          refine aw_aload_n (q := 67) (j := 0) rfl rfl rfl (List.mem_of_getElem? (i := 0) rfl) ?_
          refine ag_getI (q := 70) rfl rfl fl_Mo_230 rfl (SX.o hS rfl) ?_
          refine aw_istore_n (q := 71) (j := 3) (ls' := [(3, .int _), (0, .ref _), (1, .int _), (2, .int _)]) rfl rfl rfl (by decide) rfl ?_
          refine aw_aload_n (q := 72) (j := 0) rfl rfl rfl (List.mem_of_getElem? (i := 1) rfl) ?_
          refine aw_iconst (q := 73) (v := 0) rfl rfl (by decide) ?_
          refine ag_cvI (z := m_Mo_known) (ci := 11) (av := [.int _]) (st := []) (q := 76) (k' := 0) (n' := 0) rfl rfl cv_Mo_318 ⟨by decide, by decide⟩ rfl rfl (by decide) (by decide) (SX.o hS rfl) rfl rfl rfl (Nat.le_of_ble_eq_true rfl) ?_
          refine GI.mono h (fun y6_ t6_ h => ?_)
          refine aw_istore (q := 78) (j := 4) (ls' := [(4, .int _), (3, .int _), (0, .ref _), (1, .int _), (2, .int _)]) rfl rfl (by decide) rfl ?_
          refine aw_iconst (q := 79) (v := 0) rfl rfl (by decide) ?_
          refine aw_istore (q := 81) (j := 5) (ls' := [(5, .int _), (4, .int _), (3, .int _), (0, .ref _), (1, .int _), (2, .int _)]) rfl rfl (by decide) rfl ?_
          refine aw_ls [3, 4, 5, 2, 1, 0] rfl ?_
          exact h
        · replace h := h.2 cd_7
          exact aw_return rfl rfl (by decide) (by decide) h
      · replace h := h.2 cd_6
        refine aw_aload_n (q := 59) (j := 0) rfl rfl rfl (List.mem_of_getElem? (i := 0) rfl) ?_
        refine ag_getI (q := 62) rfl rfl fl_Mo_227 rfl (SX.o hS rfl) ?_
        refine aw_if_le (q := 65) (tgt := 66) rfl rfl (by decide) ⟨fun cd_8 => ?_, fun cd_8 => ?_⟩
        · replace h := h.1 cd_8
          refine aw_aload_n (q := 67) (j := 0) rfl rfl rfl (List.mem_of_getElem? (i := 0) rfl) ?_
          refine ag_getI (q := 70) rfl rfl fl_Mo_230 rfl (SX.o hS rfl) ?_
          refine aw_istore_n (q := 71) (j := 3) (ls' := [(3, .int _), (0, .ref _), (1, .int _), (2, .int _)]) rfl rfl rfl (by decide) rfl ?_
          refine aw_aload_n (q := 72) (j := 0) rfl rfl rfl (List.mem_of_getElem? (i := 1) rfl) ?_
          refine aw_iconst (q := 73) (v := 0) rfl rfl (by decide) ?_
          refine ag_cvI (z := m_Mo_known) (ci := 11) (av := [.int _]) (st := []) (q := 76) (k' := 0) (n' := 0) rfl rfl cv_Mo_318 ⟨by decide, by decide⟩ rfl rfl (by decide) (by decide) (SX.o hS rfl) rfl rfl rfl (Nat.le_of_ble_eq_true rfl) ?_
          refine GI.mono h (fun y7_ t7_ h => ?_)
          refine aw_istore (q := 78) (j := 4) (ls' := [(4, .int _), (3, .int _), (0, .ref _), (1, .int _), (2, .int _)]) rfl rfl (by decide) rfl ?_
          refine aw_iconst (q := 79) (v := 0) rfl rfl (by decide) ?_
          refine aw_istore (q := 81) (j := 5) (ls' := [(5, .int _), (4, .int _), (3, .int _), (0, .ref _), (1, .int _), (2, .int _)]) rfl rfl (by decide) rfl ?_
          refine aw_ls [3, 4, 5, 2, 1, 0] rfl ?_
          exact h
        · replace h := h.2 cd_8
          exact aw_return rfl rfl (by decide) (by decide) h
  · replace h := h.2 cd_1
    refine aw_aload_n (q := 157) (j := 0) rfl rfl rfl (List.mem_of_getElem? (i := 0) rfl) ?_
    refine aw_iconst (q := 158) (v := 4) rfl rfl (by decide) ?_
    refine ag_cvV (z := m_Mo_must) (ci := 11) (av := [.int _]) (st := []) (q := 161) (k' := 0) (n' := 0) rfl rfl cv_Mo_301 ⟨by decide, by decide⟩ rfl rfl (by decide) (by decide) (SX.o hS rfl) rfl rfl rfl (Nat.le_of_ble_eq_true rfl) ?_
    refine GV.mono h (fun t8_ h => ?_)
    refine aw_aload_n (q := 162) (j := 0) rfl rfl rfl (List.mem_of_getElem? (i := 0) rfl) ?_
    refine ag_getR (q := 165) rfl rfl fl_Mo_88 rfl (SX.o hS rfl) (SX.r hS rfl) ?_
    refine aw_iload_n (q := 166) (j := 1) rfl rfl rfl (List.mem_of_getElem? (i := 1) rfl) ?_
    refine aw_iload_n (q := 167) (j := 2) rfl rfl rfl (List.mem_of_getElem? (i := 2) rfl) ?_
    obtain ⟨bd_9, h⟩ := h
    refine ag_iastore (q := 168) (N := 10) rfl rfl (SX.a hS rfl) bd_9 ?_
    replace h := h _ rfl
    refine aw_aload_n (q := 169) (j := 0) rfl rfl rfl (List.mem_of_getElem? (i := 0) rfl) ?_
    refine ag_getI (q := 172) rfl rfl fl_Mo_227 rfl (SX.o hS rfl) ?_
    refine aw_if_ne (q := 175) (tgt := 188) rfl rfl (by decide) ⟨fun cd_10 => ?_, fun cd_10 => ?_⟩
    · replace h := h.1 cd_10
      refine aw_aload_n (q := 176) (j := 0) rfl rfl rfl (List.mem_of_getElem? (i := 0) rfl) ?_
      refine ag_getR (q := 179) rfl rfl fl_Mo_82 rfl (SX.o hS rfl) (SX.r hS rfl) ?_
      refine aw_aload_n (q := 180) (j := 0) rfl rfl rfl (List.mem_of_getElem? (i := 0) rfl) ?_
      refine ag_getI (q := 183) rfl rfl fl_Mo_260 rfl (SX.o hS rfl) ?_
      refine aw_dup2 (q := 184) rfl rfl rfl rfl ?_
      obtain ⟨bd_11, h⟩ := h
      refine ag_iaload (q := 185) (N := 2) rfl rfl (SX.a hS rfl) bd_11 ?_
      refine aw_iconst (q := 186) (v := 1) rfl rfl (by decide) ?_
      refine aw_iadd (q := 187) rfl rfl ?_
      refine ag_iastore (q := 188) (N := 2) rfl rfl (SX.a hS rfl) bd_11 ?_
      replace h := h _ rfl
      exact aw_return rfl rfl (by decide) (by decide) h
    · replace h := h.2 cd_10
      exact aw_return rfl rfl (by decide) (by decide) h
set_option maxRecDepth 20000 in
theorem v_Mo_tellWants_81 {E : EN} {g : GS} {s : MS} {Q : Option Value → SG → Prop} (x1 : Int32) (x2 : Int32) (x3 : Int32) (x4 : Int32) (x5 : Int32) (hS : SX g) (h : ((x2 ≤ x5 → vp_in ((4 * x1) + x2) 40 ∧ (∀ s1_, s1_ = wi s 145 ((((4 * x1) + x2)).toNatClampNeg) x4 → GI E m_Mo_bounded [.ref 120, .int 1, .int 9999] g s1_ (fun y2_ t2_ => (∀ s3_, s3_ = wi t2_ 146 ((((4 * x1) + x2)).toNatClampNeg) y2_ → AWP E m_Mo_tellWants 33 0 0 [(0, .ref 120), (1, .int x1), (2, .int (x2 + 1))] [] (mk g s3_) Q)))) ∧ (¬ x2 ≤ x5 → ((x4 < 0 → AWP E m_Mo_tellWants 81 0 0 [(0, .ref 120), (1, .int x1), (2, .int x2), (3, .int x3), (4, .int x4), (5, .int (x5 + 1))] [] (mk g s) Q) ∧ (¬ x4 < 0 → vp_in ((4 * x1) + x5) 40 ∧ (((s.1 145 ((((4 * x1) + x5)).toNatClampNeg)) = x4 → GV E m_Mo_wrong [.ref 120, .int 3, .int x3] g s (fun t4_ => AWP E m_Mo_tellWants 81 0 0 [(0, .ref 120), (1, .int x1), (2, .int x2), (3, .int x3), (4, .int x4), (5, .int (x5 + 1))] [] (mk g t4_) Q)) ∧ (¬ (s.1 145 ((((4 * x1) + x5)).toNatClampNeg)) = x4 → AWP E m_Mo_tellWants 81 0 0 [(0, .ref 120), (1, .int x1), (2, .int x2), (3, .int x3), (4, .int x4), (5, .int (x5 + 1))] [] (mk g s) Q))))))) : AWP E m_Mo_tellWants 81 0 0 [(0, .ref 120), (1, .int x1), (2, .int x2), (3, .int x3), (4, .int x4), (5, .int x5)] [] (mk g s) Q := by
  refine aw_iload (q := 83) (j := 5) rfl rfl (List.mem_of_getElem? (i := 5) rfl) ?_
  refine aw_iload_n (q := 84) (j := 2) rfl rfl rfl (List.mem_of_getElem? (i := 2) rfl) ?_
  refine aw_icmp_ge (q := 87) (tgt := 120) rfl rfl (by decide) ⟨fun cd_1 => ?_, fun cd_1 => ?_⟩
  · replace h := h.1 cd_1
    refine aw_aload_n (q := 121) (j := 0) rfl rfl rfl (List.mem_of_getElem? (i := 0) rfl) ?_
    refine ag_getR (q := 124) rfl rfl fl_Mo_91 rfl (SX.o hS rfl) (SX.r hS rfl) ?_
    refine aw_iconst (q := 125) (v := 4) rfl rfl (by decide) ?_
    refine aw_iload_n (q := 126) (j := 1) rfl rfl rfl (List.mem_of_getElem? (i := 1) rfl) ?_
    refine aw_imul (q := 127) rfl rfl ?_
    refine aw_iload_n (q := 128) (j := 2) rfl rfl rfl (List.mem_of_getElem? (i := 2) rfl) ?_
    refine aw_iadd (q := 129) rfl rfl ?_
    refine aw_iload (q := 131) (j := 4) rfl rfl (List.mem_of_getElem? (i := 4) rfl) ?_
    obtain ⟨bd_2, h⟩ := h
    refine ag_iastore (q := 132) (N := 40) rfl rfl (SX.a hS rfl) bd_2 ?_
    replace h := h _ rfl
    refine aw_aload_n (q := 133) (j := 0) rfl rfl rfl (List.mem_of_getElem? (i := 0) rfl) ?_
    refine ag_getR (q := 136) rfl rfl fl_Mo_94 rfl (SX.o hS rfl) (SX.r hS rfl) ?_
    refine aw_iconst (q := 137) (v := 4) rfl rfl (by decide) ?_
    refine aw_iload_n (q := 138) (j := 1) rfl rfl rfl (List.mem_of_getElem? (i := 1) rfl) ?_
    refine aw_imul (q := 139) rfl rfl ?_
    refine aw_iload_n (q := 140) (j := 2) rfl rfl rfl (List.mem_of_getElem? (i := 2) rfl) ?_
    refine aw_iadd (q := 141) rfl rfl ?_
    refine aw_aload_n (q := 142) (j := 0) rfl rfl rfl (List.mem_of_getElem? (i := 0) rfl) ?_
    refine aw_iconst (q := 143) (v := 1) rfl rfl (by decide) ?_
    refine aw_sipush (q := 146) (v := 9999) rfl rfl (by decide) ?_
    refine ag_cvI (z := m_Mo_bounded) (ci := 11) (av := [.int _, .int _]) (st := [.int _, .ref _]) (q := 149) (k' := 0) (n' := 0) rfl rfl cv_Mo_297 ⟨by decide, by decide⟩ rfl rfl (by decide) (by decide) (SX.o hS rfl) rfl rfl rfl (Nat.le_of_ble_eq_true rfl) ?_
    refine GI.mono h (fun y2_ t2_ h => ?_)
    refine ag_iastore (q := 150) (N := 40) rfl rfl (SX.a hS rfl) bd_2 ?_
    replace h := h _ rfl
    refine aw_iinc (q := 153) (v := _ + 1) (ls' := [(2, .int _), (0, .ref _), (1, .int _), (3, .int _), (4, .int _), (5, .int _)]) rfl rfl (List.mem_of_getElem? (i := 2) rfl) rfl (by decide) rfl ?_
    refine aw_goto (tgt := 33) rfl (by decide) ?_
    refine aw_ls [1, 2, 0] rfl ?_
    exact h
  · replace h := h.2 cd_1
    refine aw_iload (q := 89) (j := 4) rfl rfl (List.mem_of_getElem? (i := 4) rfl) ?_
    refine aw_if_lt (q := 92) (tgt := 114) rfl rfl (by decide) ⟨fun cd_3 => ?_, fun cd_3 => ?_⟩
    · replace h := h.1 cd_3
      refine aw_iinc (q := 117) (v := _ + 1) (ls' := [(5, .int _), (0, .ref _), (1, .int _), (2, .int _), (3, .int _), (4, .int _)]) rfl rfl (List.mem_of_getElem? (i := 5) rfl) rfl (by decide) rfl ?_
      refine aw_goto (tgt := 81) rfl (by decide) ?_
      refine aw_ls [1, 2, 3, 4, 5, 0] rfl ?_
      exact h
    · replace h := h.2 cd_3
      refine aw_aload_n (q := 93) (j := 0) rfl rfl rfl (List.mem_of_getElem? (i := 0) rfl) ?_
      refine ag_getR (q := 96) rfl rfl fl_Mo_91 rfl (SX.o hS rfl) (SX.r hS rfl) ?_
      refine aw_iconst (q := 97) (v := 4) rfl rfl (by decide) ?_
      refine aw_iload_n (q := 98) (j := 1) rfl rfl rfl (List.mem_of_getElem? (i := 1) rfl) ?_
      refine aw_imul (q := 99) rfl rfl ?_
      refine aw_iload (q := 101) (j := 5) rfl rfl (List.mem_of_getElem? (i := 5) rfl) ?_
      refine aw_iadd (q := 102) rfl rfl ?_
      obtain ⟨bd_4, h⟩ := h
      refine ag_iaload (q := 103) (N := 40) rfl rfl (SX.a hS rfl) bd_4 ?_
      refine aw_iload (q := 105) (j := 4) rfl rfl (List.mem_of_getElem? (i := 4) rfl) ?_
      refine aw_icmp_ne (q := 108) (tgt := 114) rfl rfl (by decide) ⟨fun cd_5 => ?_, fun cd_5 => ?_⟩
      · replace h := h.1 cd_5
        refine aw_aload_n (q := 109) (j := 0) rfl rfl rfl (List.mem_of_getElem? (i := 0) rfl) ?_
        refine aw_iconst (q := 110) (v := 3) rfl rfl (by decide) ?_
        refine aw_iload_n (q := 111) (j := 3) rfl rfl rfl (List.mem_of_getElem? (i := 3) rfl) ?_
        refine ag_cvV (z := m_Mo_wrong) (ci := 11) (av := [.int _, .int _]) (st := []) (q := 114) (k' := 0) (n' := 0) rfl rfl cv_Mo_307 ⟨by decide, by decide⟩ rfl rfl (by decide) (by decide) (SX.o hS rfl) rfl rfl rfl (Nat.le_of_ble_eq_true rfl) ?_
        refine GV.mono h (fun t4_ h => ?_)
        refine aw_iinc (q := 117) (v := _ + 1) (ls' := [(5, .int _), (0, .ref _), (1, .int _), (2, .int _), (3, .int _), (4, .int _)]) rfl rfl (List.mem_of_getElem? (i := 5) rfl) rfl (by decide) rfl ?_
        refine aw_goto (tgt := 81) rfl (by decide) ?_
        refine aw_ls [1, 2, 3, 4, 5, 0] rfl ?_
        exact h
      · replace h := h.2 cd_5
        refine aw_iinc (q := 117) (v := _ + 1) (ls' := [(5, .int _), (0, .ref _), (1, .int _), (2, .int _), (3, .int _), (4, .int _)]) rfl rfl (List.mem_of_getElem? (i := 5) rfl) rfl (by decide) rfl ?_
        refine aw_goto (tgt := 81) rfl (by decide) ?_
        refine aw_ls [1, 2, 3, 4, 5, 0] rfl ?_
        exact h
set_option maxRecDepth 20000 in
theorem v_Mo_tellWants {E : EN} {g : GS} {s : MS} {Q : Option Value → SG → Prop}  (hS : SX g) (h : vp_in (s.1 120 19) 2 ∧ GI E m_Mo_bounded [.ref 120, .int 0, .int 9999] g s (fun y1_ t1_ => vp_in ((5 * (s.1 120 19)) + (s.1 142 (((s.1 120 19)).toNatClampNeg))) 10 ∧ (∀ s2_, s2_ = wi t1_ 143 ((((5 * (s.1 120 19)) + (s.1 142 (((s.1 120 19)).toNatClampNeg)))).toNatClampNeg) y1_ → AWP E m_Mo_tellWants 33 0 0 [(0, .ref 120), (1, .int ((5 * (s.1 120 19)) + (s.1 142 (((s.1 120 19)).toNatClampNeg)))), (2, .int 0)] [] (mk g s2_) Q))) : AMet E m_Mo_tellWants [.ref 120] (mk g s) Q := by
  refine AMet.of (by decide) k_Mo_tellWants [(0, .ref 120)] (Nat.le_of_ble_eq_true rfl) rfl ?_
  refine aw_iconst (q := 1) (v := 5) rfl rfl (by decide) ?_
  refine aw_aload_n (q := 2) (j := 0) rfl rfl rfl (List.mem_of_getElem? (i := 0) rfl) ?_
  refine ag_getI (q := 5) rfl rfl fl_Mo_260 rfl (SX.o hS rfl) ?_
  refine aw_imul (q := 6) rfl rfl ?_
  refine aw_aload_n (q := 7) (j := 0) rfl rfl rfl (List.mem_of_getElem? (i := 0) rfl) ?_
  refine ag_getR (q := 10) rfl rfl fl_Mo_82 rfl (SX.o hS rfl) (SX.r hS rfl) ?_
  refine aw_aload_n (q := 11) (j := 0) rfl rfl rfl (List.mem_of_getElem? (i := 0) rfl) ?_
  refine ag_getI (q := 14) rfl rfl fl_Mo_260 rfl (SX.o hS rfl) ?_
  obtain ⟨bd_1, h⟩ := h
  refine ag_iaload (q := 15) (N := 2) rfl rfl (SX.a hS rfl) bd_1 ?_
  refine aw_iadd (q := 16) rfl rfl ?_
  refine aw_istore_n (q := 17) (j := 1) (ls' := [(1, .int _), (0, .ref _)]) rfl rfl rfl (by decide) rfl ?_
  refine aw_aload_n (q := 18) (j := 0) rfl rfl rfl (List.mem_of_getElem? (i := 1) rfl) ?_
  refine ag_getR (q := 21) rfl rfl fl_Mo_85 rfl (SX.o hS rfl) (SX.r hS rfl) ?_
  refine aw_iload_n (q := 22) (j := 1) rfl rfl rfl (List.mem_of_getElem? (i := 0) rfl) ?_
  refine aw_aload_n (q := 23) (j := 0) rfl rfl rfl (List.mem_of_getElem? (i := 1) rfl) ?_
  refine aw_iconst (q := 24) (v := 0) rfl rfl (by decide) ?_
  refine aw_sipush (q := 27) (v := 9999) rfl rfl (by decide) ?_
  refine ag_cvI (z := m_Mo_bounded) (ci := 11) (av := [.int _, .int _]) (st := [.int _, .ref _]) (q := 30) (k' := 0) (n' := 0) rfl rfl cv_Mo_297 ⟨by decide, by decide⟩ rfl rfl (by decide) (by decide) (SX.o hS rfl) rfl rfl rfl (Nat.le_of_ble_eq_true rfl) ?_
  refine GI.mono h (fun y1_ t1_ h => ?_)
  obtain ⟨bd_2, h⟩ := h
  refine ag_iastore (q := 31) (N := 10) rfl rfl (SX.a hS rfl) bd_2 ?_
  replace h := h _ rfl
  refine aw_iconst (q := 32) (v := 0) rfl rfl (by decide) ?_
  refine aw_istore_n (q := 33) (j := 2) (ls' := [(2, .int _), (1, .int _), (0, .ref _)]) rfl rfl rfl (by decide) rfl ?_
  refine aw_ls [2, 1, 0] rfl ?_
  exact h
set_option maxRecDepth 20000 in
theorem v_Mo_tellLaw_12 {E : EN} {g : GS} {s : MS} {Q : Option Value → SG → Prop} (x1 : Int32) (x2 : Int32) (x3 : Int32) (hS : SX g) (h : (((s.1 120 13) = 0 → GI E m_Mo_is [.ref 120, .int 30] g s (fun y1_ t1_ => ((y1_ = 0 → AWP E m_Mo_tellLaw 129 0 0 [(0, .ref 120), (1, .int x1), (2, .int x2), (3, .int x3)] [] (mk g t1_) Q) ∧ (¬ y1_ = 0 → ((x3 = 4 → GV E m_Mo_fail [.ref 120, .int 2] g t1_ (fun t2_ => AWP E m_Mo_tellLaw 38 0 0 [(0, .ref 120), (1, .int x1), (2, .int x2), (3, .int x3)] [] (mk g t2_) Q)) ∧ (¬ x3 = 4 → AWP E m_Mo_tellLaw 38 0 0 [(0, .ref 120), (1, .int x1), (2, .int x2), (3, .int x3)] [] (mk g t1_) Q)))))) ∧ (¬ (s.1 120 13) = 0 → AWP E m_Mo_tellLaw 129 0 0 [(0, .ref 120), (1, .int x1), (2, .int x2), (3, .int x3)] [] (mk g s) Q))) : AWP E m_Mo_tellLaw 12 0 0 [(0, .ref 120), (1, .int x1), (2, .int x2), (3, .int x3)] [] (mk g s) Q := by
  refine aw_aload_n (q := 13) (j := 0) rfl rfl rfl (List.mem_of_getElem? (i := 0) rfl) ?_
  refine ag_getI (q := 16) rfl rfl fl_Mo_227 rfl (SX.o hS rfl) ?_
  refine aw_if_ne (q := 19) (tgt := 129) rfl rfl (by decide) ⟨fun cd_1 => ?_, fun cd_1 => ?_⟩
  · replace h := h.1 cd_1
    refine aw_aload_n (q := 20) (j := 0) rfl rfl rfl (List.mem_of_getElem? (i := 0) rfl) ?_
    refine aw_bipush (q := 22) (v := 30) rfl rfl (by decide) ?_
    refine ag_cvI (z := m_Mo_is) (ci := 11) (av := [.int _]) (st := []) (q := 25) (k' := 0) (n' := 0) rfl rfl cv_Mo_245 ⟨by decide, by decide⟩ rfl rfl (by decide) (by decide) (SX.o hS rfl) rfl rfl rfl (Nat.le_of_ble_eq_true rfl) ?_
    refine GI.mono h (fun y1_ t1_ h => ?_)
    refine aw_if_eq (q := 28) (tgt := 129) rfl rfl (by decide) ⟨fun cd_2 => ?_, fun cd_2 => ?_⟩
    · replace h := h.1 cd_2
      refine aw_ls [0, 1, 2, 3] rfl ?_
      exact h
    · replace h := h.2 cd_2
      refine aw_iload_n (q := 29) (j := 3) rfl rfl rfl (List.mem_of_getElem? (i := 3) rfl) ?_
      refine aw_iconst (q := 30) (v := 4) rfl rfl (by decide) ?_
      refine aw_icmp_ne (q := 33) (tgt := 38) rfl rfl (by decide) ⟨fun cd_3 => ?_, fun cd_3 => ?_⟩
      · replace h := h.1 cd_3
        refine aw_aload_n (q := 34) (j := 0) rfl rfl rfl (List.mem_of_getElem? (i := 0) rfl) ?_
        refine aw_iconst (q := 35) (v := 2) rfl rfl (by decide) ?_
        refine ag_cvV (z := m_Mo_fail) (ci := 11) (av := [.int _]) (st := []) (q := 38) (k' := 0) (n' := 0) rfl rfl cv_Mo_242 ⟨by decide, by decide⟩ rfl rfl (by decide) (by decide) (SX.o hS rfl) rfl rfl rfl (Nat.le_of_ble_eq_true rfl) ?_
        refine GV.mono h (fun t2_ h => ?_)
        refine aw_ls [0, 1, 2, 3] rfl ?_
        exact h
      · replace h := h.2 cd_3
        refine aw_ls [0, 1, 2, 3] rfl ?_
        exact h
  · replace h := h.2 cd_1
    refine aw_ls [0, 1, 2, 3] rfl ?_
    exact h
set_option maxRecDepth 20000 in
theorem v_Mo_tellLaw_38 {E : EN} {g : GS} {s : MS} {Q : Option Value → SG → Prop} (x1 : Int32) (x2 : Int32) (x3 : Int32) (hS : SX g) (h : (((s.1 120 13) ≤ 0 → GV E m_Mo_goesOn [.ref 120] g s (fun t1_ => vp_in (t1_.1 120 45) 260 ∧ (∀ s2_, s2_ = wi t1_ 152 (((t1_.1 120 45)).toNatClampNeg) (vp_nar .boolean 1) → (∀ s3_, s3_ = wi s2_ 153 (((t1_.1 120 45)).toNatClampNeg) (t1_.1 120 51) → GV E m_Mo_expression [.ref 120] g s3_ (fun t4_ => GV E m_Mo_must [.ref 120, .int 13] g t4_ (fun t5_ => vp_in (t5_.1 120 45) 260 ∧ (∀ s6_, s6_ = wi t5_ 154 (((t5_.1 120 45)).toNatClampNeg) (t5_.1 120 51) → (((t5_.1 120 13) = 0 → GV E m_Mo_expression [.ref 120] g s6_ (fun t7_ => AWP E m_Mo_tellLaw 110 0 0 [(0, .ref 120), (1, .int x1), (2, .int x2), (3, .int (x3 + 1))] [] (mk g t7_) Q)) ∧ (¬ (t5_.1 120 13) = 0 → AWP E m_Mo_tellLaw 110 0 0 [(0, .ref 120), (1, .int x1), (2, .int x2), (3, .int (x3 + 1))] [] (mk g s6_) Q))))))))) ∧ (¬ (s.1 120 13) ≤ 0 → Q none (mk g s)))) : AWP E m_Mo_tellLaw 38 0 0 [(0, .ref 120), (1, .int x1), (2, .int x2), (3, .int x3)] [] (mk g s) Q := by
  refine aw_aload_n (q := 39) (j := 0) rfl rfl rfl (List.mem_of_getElem? (i := 0) rfl) ?_
  refine ag_getI (q := 42) rfl rfl fl_Mo_227 rfl (SX.o hS rfl) ?_
  refine aw_if_le (q := 45) (tgt := 46) rfl rfl (by decide) ⟨fun cd_1 => ?_, fun cd_1 => ?_⟩
  · replace h := h.1 cd_1
    refine aw_iinc (q := 49) (v := _ + 1) (ls' := [(3, .int _), (0, .ref _), (1, .int _), (2, .int _)]) rfl rfl (List.mem_of_getElem? (i := 3) rfl) rfl (by decide) rfl ?_
    refine aw_aload_n (q := 50) (j := 0) rfl rfl rfl (List.mem_of_getElem? (i := 1) rfl) ?_
    refine ag_cvV (z := m_Mo_goesOn) (ci := 11) (av := []) (st := []) (q := 53) (k' := 0) (n' := 0) rfl rfl cv_Mo_248 ⟨by decide, by decide⟩ rfl rfl (by decide) (by decide) (SX.o hS rfl) rfl rfl rfl (Nat.le_of_ble_eq_true rfl) ?_
    refine GV.mono h (fun t1_ h => ?_)
    refine aw_aload_n (q := 54) (j := 0) rfl rfl rfl (List.mem_of_getElem? (i := 1) rfl) ?_
    refine ag_getR (q := 57) rfl rfl fl_Mo_112 rfl (SX.o hS rfl) (SX.r hS rfl) ?_
    refine aw_aload_n (q := 58) (j := 0) rfl rfl rfl (List.mem_of_getElem? (i := 1) rfl) ?_
    refine ag_getI (q := 61) rfl rfl fl_Mo_266 rfl (SX.o hS rfl) ?_
    refine aw_iconst (q := 62) (v := 1) rfl rfl (by decide) ?_
    obtain ⟨bd_2, h⟩ := h
    refine ag_zastore (q := 63) (N := 260) rfl rfl (SX.a hS rfl) bd_2 ?_
    replace h := h _ rfl
    refine aw_aload_n (q := 64) (j := 0) rfl rfl rfl (List.mem_of_getElem? (i := 1) rfl) ?_
    refine ag_getR (q := 67) rfl rfl fl_Mo_116 rfl (SX.o hS rfl) (SX.r hS rfl) ?_
    refine aw_aload_n (q := 68) (j := 0) rfl rfl rfl (List.mem_of_getElem? (i := 1) rfl) ?_
    refine ag_getI (q := 71) rfl rfl fl_Mo_266 rfl (SX.o hS rfl) ?_
    refine aw_aload_n (q := 72) (j := 0) rfl rfl rfl (List.mem_of_getElem? (i := 1) rfl) ?_
    refine ag_getI (q := 75) rfl rfl fl_Mo_269 rfl (SX.o hS rfl) ?_
    refine ag_iastore (q := 76) (N := 260) rfl rfl (SX.a hS rfl) bd_2 ?_
    replace h := h _ rfl
    refine aw_aload_n (q := 77) (j := 0) rfl rfl rfl (List.mem_of_getElem? (i := 1) rfl) ?_
    refine ag_cvV (z := m_Mo_expression) (ci := 11) (av := []) (st := []) (q := 80) (k' := 0) (n' := 0) rfl rfl cv_Mo_321 ⟨by decide, by decide⟩ rfl rfl (by decide) (by decide) (SX.o hS rfl) rfl rfl rfl (Nat.le_of_ble_eq_true rfl) ?_
    refine GV.mono h (fun t4_ h => ?_)
    refine aw_aload_n (q := 81) (j := 0) rfl rfl rfl (List.mem_of_getElem? (i := 1) rfl) ?_
    refine aw_bipush (q := 83) (v := 13) rfl rfl (by decide) ?_
    refine ag_cvV (z := m_Mo_must) (ci := 11) (av := [.int _]) (st := []) (q := 86) (k' := 0) (n' := 0) rfl rfl cv_Mo_301 ⟨by decide, by decide⟩ rfl rfl (by decide) (by decide) (SX.o hS rfl) rfl rfl rfl (Nat.le_of_ble_eq_true rfl) ?_
    refine GV.mono h (fun t5_ h => ?_)
    refine aw_aload_n (q := 87) (j := 0) rfl rfl rfl (List.mem_of_getElem? (i := 1) rfl) ?_
    refine ag_getR (q := 90) rfl rfl fl_Mo_119 rfl (SX.o hS rfl) (SX.r hS rfl) ?_
    refine aw_aload_n (q := 91) (j := 0) rfl rfl rfl (List.mem_of_getElem? (i := 1) rfl) ?_
    refine ag_getI (q := 94) rfl rfl fl_Mo_266 rfl (SX.o hS rfl) ?_
    refine aw_aload_n (q := 95) (j := 0) rfl rfl rfl (List.mem_of_getElem? (i := 1) rfl) ?_
    refine ag_getI (q := 98) rfl rfl fl_Mo_269 rfl (SX.o hS rfl) ?_
    obtain ⟨bd_3, h⟩ := h
    refine ag_iastore (q := 99) (N := 260) rfl rfl (SX.a hS rfl) bd_3 ?_
    replace h := h _ rfl
    refine aw_aload_n (q := 100) (j := 0) rfl rfl rfl (List.mem_of_getElem? (i := 1) rfl) ?_
    refine ag_getI (q := 103) rfl rfl fl_Mo_227 rfl (SX.o hS rfl) ?_
    refine aw_if_ne (q := 106) (tgt := 110) rfl rfl (by decide) ⟨fun cd_4 => ?_, fun cd_4 => ?_⟩
    · replace h := h.1 cd_4
      refine aw_aload_n (q := 107) (j := 0) rfl rfl rfl (List.mem_of_getElem? (i := 1) rfl) ?_
      refine ag_cvV (z := m_Mo_expression) (ci := 11) (av := []) (st := []) (q := 110) (k' := 0) (n' := 0) rfl rfl cv_Mo_321 ⟨by decide, by decide⟩ rfl rfl (by decide) (by decide) (SX.o hS rfl) rfl rfl rfl (Nat.le_of_ble_eq_true rfl) ?_
      refine GV.mono h (fun t7_ h => ?_)
      refine aw_ls [1, 2, 3, 0] rfl ?_
      exact h
    · replace h := h.2 cd_4
      refine aw_ls [1, 2, 3, 0] rfl ?_
      exact h
  · replace h := h.2 cd_1
    exact aw_return rfl rfl (by decide) (by decide) h
set_option maxRecDepth 20000 in
theorem v_Mo_tellLaw_110 {E : EN} {g : GS} {s : MS} {Q : Option Value → SG → Prop} (x1 : Int32) (x2 : Int32) (x3 : Int32) (hS : SX g) (h : GV E m_Mo_must [.ref 120, .int 31] g s (fun t1_ => GV E m_Mo_term [.ref 120] g t1_ (fun t2_ => GV E m_Mo_must [.ref 120, .int 32] g t2_ (fun t3_ => AWP E m_Mo_tellLaw 12 0 0 [(0, .ref 120), (1, .int x1), (2, .int x2), (3, .int x3)] [] (mk g t3_) Q)))) : AWP E m_Mo_tellLaw 110 0 0 [(0, .ref 120), (1, .int x1), (2, .int x2), (3, .int x3)] [] (mk g s) Q := by
  refine aw_aload_n (q := 111) (j := 0) rfl rfl rfl (List.mem_of_getElem? (i := 0) rfl) ?_
  refine aw_bipush (q := 113) (v := 31) rfl rfl (by decide) ?_
  refine ag_cvV (z := m_Mo_must) (ci := 11) (av := [.int _]) (st := []) (q := 116) (k' := 0) (n' := 0) rfl rfl cv_Mo_301 ⟨by decide, by decide⟩ rfl rfl (by decide) (by decide) (SX.o hS rfl) rfl rfl rfl (Nat.le_of_ble_eq_true rfl) ?_
  refine GV.mono h (fun t1_ h => ?_)
  refine aw_aload_n (q := 117) (j := 0) rfl rfl rfl (List.mem_of_getElem? (i := 0) rfl) ?_
  refine ag_cvV (z := m_Mo_term) (ci := 11) (av := []) (st := []) (q := 120) (k' := 0) (n' := 0) rfl rfl cv_Mo_324 ⟨by decide, by decide⟩ rfl rfl (by decide) (by decide) (SX.o hS rfl) rfl rfl rfl (Nat.le_of_ble_eq_true rfl) ?_
  refine GV.mono h (fun t2_ h => ?_)
  refine aw_aload_n (q := 121) (j := 0) rfl rfl rfl (List.mem_of_getElem? (i := 0) rfl) ?_
  refine aw_bipush (q := 123) (v := 32) rfl rfl (by decide) ?_
  refine ag_cvV (z := m_Mo_must) (ci := 11) (av := [.int _]) (st := []) (q := 126) (k' := 0) (n' := 0) rfl rfl cv_Mo_301 ⟨by decide, by decide⟩ rfl rfl (by decide) (by decide) (SX.o hS rfl) rfl rfl rfl (Nat.le_of_ble_eq_true rfl) ?_
  refine GV.mono h (fun t3_ h => ?_)
  refine aw_goto (tgt := 12) rfl (by decide) ?_
  refine aw_ls [0, 1, 2, 3] rfl ?_
  exact h
set_option maxRecDepth 20000 in
theorem v_Mo_tellLaw_129 {E : EN} {g : GS} {s : MS} {Q : Option Value → SG → Prop} (x1 : Int32) (x2 : Int32) (x3 : Int32) (hS : SX g) (h : vp_in (s.1 120 45) 260 ∧ (∀ s1_, s1_ = wi s 152 (((s.1 120 45)).toNatClampNeg) (vp_nar .boolean 0) → GV E m_Mo_term [.ref 120] g s1_ (fun t2_ => GV E m_Mo_must [.ref 120, .int 4] g t2_ (fun t3_ => (((t3_.1 120 13) ≤ 0 → vp_in ((3 * (t3_.1 120 19)) + x1) 6 ∧ (∀ s4_, s4_ = wi t3_ 150 ((((3 * (t3_.1 120 19)) + x1)).toNatClampNeg) x2 → (∀ s5_, s5_ = wi s4_ 151 ((((3 * (t3_.1 120 19)) + x1)).toNatClampNeg) (t3_.1 120 45) → Q none (mk g s5_)))) ∧ (¬ (t3_.1 120 13) ≤ 0 → Q none (mk g t3_))))))) : AWP E m_Mo_tellLaw 129 0 0 [(0, .ref 120), (1, .int x1), (2, .int x2), (3, .int x3)] [] (mk g s) Q := by
  refine aw_aload_n (q := 130) (j := 0) rfl rfl rfl (List.mem_of_getElem? (i := 0) rfl) ?_
  refine ag_getR (q := 133) rfl rfl fl_Mo_112 rfl (SX.o hS rfl) (SX.r hS rfl) ?_
  refine aw_aload_n (q := 134) (j := 0) rfl rfl rfl (List.mem_of_getElem? (i := 0) rfl) ?_
  refine ag_getI (q := 137) rfl rfl fl_Mo_266 rfl (SX.o hS rfl) ?_
  refine aw_iconst (q := 138) (v := 0) rfl rfl (by decide) ?_
  obtain ⟨bd_1, h⟩ := h
  refine ag_zastore (q := 139) (N := 260) rfl rfl (SX.a hS rfl) bd_1 ?_
  replace h := h _ rfl
  refine aw_aload_n (q := 140) (j := 0) rfl rfl rfl (List.mem_of_getElem? (i := 0) rfl) ?_
  refine ag_cvV (z := m_Mo_term) (ci := 11) (av := []) (st := []) (q := 143) (k' := 0) (n' := 0) rfl rfl cv_Mo_324 ⟨by decide, by decide⟩ rfl rfl (by decide) (by decide) (SX.o hS rfl) rfl rfl rfl (Nat.le_of_ble_eq_true rfl) ?_
  refine GV.mono h (fun t2_ h => ?_)
  refine aw_aload_n (q := 144) (j := 0) rfl rfl rfl (List.mem_of_getElem? (i := 0) rfl) ?_
  refine aw_iconst (q := 145) (v := 4) rfl rfl (by decide) ?_
  refine ag_cvV (z := m_Mo_must) (ci := 11) (av := [.int _]) (st := []) (q := 148) (k' := 0) (n' := 0) rfl rfl cv_Mo_301 ⟨by decide, by decide⟩ rfl rfl (by decide) (by decide) (SX.o hS rfl) rfl rfl rfl (Nat.le_of_ble_eq_true rfl) ?_
  refine GV.mono h (fun t3_ h => ?_)
  refine aw_aload_n (q := 149) (j := 0) rfl rfl rfl (List.mem_of_getElem? (i := 0) rfl) ?_
  refine ag_getI (q := 152) rfl rfl fl_Mo_227 rfl (SX.o hS rfl) ?_
  refine aw_if_le (q := 155) (tgt := 156) rfl rfl (by decide) ⟨fun cd_2 => ?_, fun cd_2 => ?_⟩
  · replace h := h.1 cd_2
    refine aw_aload_n (q := 157) (j := 0) rfl rfl rfl (List.mem_of_getElem? (i := 0) rfl) ?_
    refine ag_getR (q := 160) rfl rfl fl_Mo_106 rfl (SX.o hS rfl) (SX.r hS rfl) ?_
    refine aw_iconst (q := 161) (v := 3) rfl rfl (by decide) ?_
    refine aw_aload_n (q := 162) (j := 0) rfl rfl rfl (List.mem_of_getElem? (i := 0) rfl) ?_
    refine ag_getI (q := 165) rfl rfl fl_Mo_260 rfl (SX.o hS rfl) ?_
    refine aw_imul (q := 166) rfl rfl ?_
    refine aw_iload_n (q := 167) (j := 1) rfl rfl rfl (List.mem_of_getElem? (i := 1) rfl) ?_
    refine aw_iadd (q := 168) rfl rfl ?_
    refine aw_iload_n (q := 169) (j := 2) rfl rfl rfl (List.mem_of_getElem? (i := 2) rfl) ?_
    obtain ⟨bd_3, h⟩ := h
    refine ag_iastore (q := 170) (N := 6) rfl rfl (SX.a hS rfl) bd_3 ?_
    replace h := h _ rfl
    refine aw_aload_n (q := 171) (j := 0) rfl rfl rfl (List.mem_of_getElem? (i := 0) rfl) ?_
    refine ag_getR (q := 174) rfl rfl fl_Mo_109 rfl (SX.o hS rfl) (SX.r hS rfl) ?_
    refine aw_iconst (q := 175) (v := 3) rfl rfl (by decide) ?_
    refine aw_aload_n (q := 176) (j := 0) rfl rfl rfl (List.mem_of_getElem? (i := 0) rfl) ?_
    refine ag_getI (q := 179) rfl rfl fl_Mo_260 rfl (SX.o hS rfl) ?_
    refine aw_imul (q := 180) rfl rfl ?_
    refine aw_iload_n (q := 181) (j := 1) rfl rfl rfl (List.mem_of_getElem? (i := 1) rfl) ?_
    refine aw_iadd (q := 182) rfl rfl ?_
    refine aw_aload_n (q := 183) (j := 0) rfl rfl rfl (List.mem_of_getElem? (i := 0) rfl) ?_
    refine ag_getI (q := 186) rfl rfl fl_Mo_266 rfl (SX.o hS rfl) ?_
    refine ag_iastore (q := 187) (N := 6) rfl rfl (SX.a hS rfl) bd_3 ?_
    replace h := h _ rfl
    exact aw_return rfl rfl (by decide) (by decide) h
  · replace h := h.2 cd_2
    exact aw_return rfl rfl (by decide) (by decide) h
set_option maxRecDepth 20000 in
theorem v_Mo_tellLaw {E : EN} {g : GS} {s : MS} {Q : Option Value → SG → Prop} (x1 : Int32) (hS : SX g) (h : GV E m_Mo_must [.ref 120, .int 5] g s (fun t1_ => AWP E m_Mo_tellLaw 12 0 0 [(0, .ref 120), (1, .int x1), (2, .int (t1_.1 120 45)), (3, .int 0)] [] (mk g t1_) Q)) : AMet E m_Mo_tellLaw [.ref 120, .int x1] (mk g s) Q := by
  refine AMet.of (by decide) k_Mo_tellLaw [(0, .ref 120), (1, .int x1)] (Nat.le_of_ble_eq_true rfl) rfl ?_
  refine aw_aload_n (q := 1) (j := 0) rfl rfl rfl (List.mem_of_getElem? (i := 0) rfl) ?_
  refine aw_iconst (q := 2) (v := 5) rfl rfl (by decide) ?_
  refine ag_cvV (z := m_Mo_must) (ci := 11) (av := [.int _]) (st := []) (q := 5) (k' := 0) (n' := 0) rfl rfl cv_Mo_301 ⟨by decide, by decide⟩ rfl rfl (by decide) (by decide) (SX.o hS rfl) rfl rfl rfl (Nat.le_of_ble_eq_true rfl) ?_
  refine GV.mono h (fun t1_ h => ?_)
  refine aw_aload_n (q := 6) (j := 0) rfl rfl rfl (List.mem_of_getElem? (i := 0) rfl) ?_
  refine ag_getI (q := 9) rfl rfl fl_Mo_266 rfl (SX.o hS rfl) ?_
  refine aw_istore_n (q := 10) (j := 2) (ls' := [(2, .int _), (0, .ref _), (1, .int _)]) rfl rfl rfl (by decide) rfl ?_
  refine aw_iconst (q := 11) (v := 0) rfl rfl (by decide) ?_
  refine aw_istore_n (q := 12) (j := 3) (ls' := [(3, .int _), (2, .int _), (0, .ref _), (1, .int _)]) rfl rfl rfl (by decide) rfl ?_
  refine aw_ls [2, 3, 1, 0] rfl ?_
  exact h
set_option maxRecDepth 20000 in
theorem v_Mo_expression_12 {E : EN} {g : GS} {s : MS} {Q : Option Value → SG → Prop} (x1 : Int32) (x2 : Int32) (hS : SX g) (h : ((x2 = 0 → AWP E m_Mo_expression 272 0 0 [(0, .ref 120), (1, .int x1), (2, .int x2)] [] (mk g s) Q) ∧ (¬ x2 = 0 → (((s.1 120 13) = 0 → AWP E m_Mo_expression 23 0 0 [(0, .ref 120), (1, .int x1), (2, .int x2)] [] (mk g s) Q) ∧ (¬ (s.1 120 13) = 0 → AWP E m_Mo_expression 272 0 0 [(0, .ref 120), (1, .int x1), (2, .int x2)] [] (mk g s) Q))))) : AWP E m_Mo_expression 12 0 0 [(0, .ref 120), (1, .int x1), (2, .int x2)] [] (mk g s) Q := by
  refine aw_iload_n (q := 13) (j := 2) rfl rfl rfl (List.mem_of_getElem? (i := 2) rfl) ?_
  refine aw_if_eq (q := 16) (tgt := 272) rfl rfl (by decide) ⟨fun cd_1 => ?_, fun cd_1 => ?_⟩
  · replace h := h.1 cd_1
    refine aw_ls [0, 1, 2] rfl ?_
    exact h
  · replace h := h.2 cd_1
    refine aw_aload_n (q := 17) (j := 0) rfl rfl rfl (List.mem_of_getElem? (i := 0) rfl) ?_
    refine ag_getI (q := 20) rfl rfl fl_Mo_227 rfl (SX.o hS rfl) ?_
    refine aw_if_ne (q := 23) (tgt := 272) rfl rfl (by decide) ⟨fun cd_2 => ?_, fun cd_2 => ?_⟩
    · replace h := h.1 cd_2
      refine aw_ls [0, 1, 2] rfl ?_
      exact h
    · replace h := h.2 cd_2
      refine aw_ls [0, 1, 2] rfl ?_
      exact h
set_option maxRecDepth 20000 in
theorem v_Mo_expression_23 {E : EN} {g : GS} {s : MS} {Q : Option Value → SG → Prop} (x1 : Int32) (x2 : Int32) (hS : SX g) (h : GI E m_Mo_is [.ref 120, .int 6] g s (fun y1_ t1_ => ((y1_ = 0 → GV E m_Mo_unit [.ref 120] g t1_ (fun t2_ => (((t2_.1 120 13) ≤ 0 → AWP E m_Mo_expression 96 0 0 [(0, .ref 120), (1, .int x1), (2, .int x2)] [] (mk g t2_) Q) ∧ (¬ (t2_.1 120 13) ≤ 0 → Q none (mk g t2_))))) ∧ (¬ y1_ = 0 → (((t1_.1 120 12) = 6 → GV E m_Mo_fail [.ref 120, .int 2] g t1_ (fun t3_ => AWP E m_Mo_expression 46 0 0 [(0, .ref 120), (1, .int x1), (2, .int x2)] [] (mk g t3_) Q)) ∧ (¬ (t1_.1 120 12) = 6 → AWP E m_Mo_expression 46 0 0 [(0, .ref 120), (1, .int x1), (2, .int x2)] [] (mk g t1_) Q)))))) : AWP E m_Mo_expression 23 0 0 [(0, .ref 120), (1, .int x1), (2, .int x2)] [] (mk g s) Q := by
  refine aw_aload_n (q := 24) (j := 0) rfl rfl rfl (List.mem_of_getElem? (i := 0) rfl) ?_
  refine aw_bipush (q := 26) (v := 6) rfl rfl (by decide) ?_
  refine ag_cvI (z := m_Mo_is) (ci := 11) (av := [.int _]) (st := []) (q := 29) (k' := 0) (n' := 0) rfl rfl cv_Mo_245 ⟨by decide, by decide⟩ rfl rfl (by decide) (by decide) (SX.o hS rfl) rfl rfl rfl (Nat.le_of_ble_eq_true rfl) ?_
  refine GI.mono h (fun y1_ t1_ h => ?_)
  refine aw_if_eq (q := 32) (tgt := 84) rfl rfl (by decide) ⟨fun cd_1 => ?_, fun cd_1 => ?_⟩
  · replace h := h.1 cd_1
    refine aw_aload_n (q := 85) (j := 0) rfl rfl rfl (List.mem_of_getElem? (i := 0) rfl) ?_
    refine ag_cvV (z := m_Mo_unit) (ci := 11) (av := []) (st := []) (q := 88) (k' := 0) (n' := 0) rfl rfl cv_Mo_333 ⟨by decide, by decide⟩ rfl rfl (by decide) (by decide) (SX.o hS rfl) rfl rfl rfl (Nat.le_of_ble_eq_true rfl) ?_
    refine GV.mono h (fun t2_ h => ?_)
    refine aw_aload_n (q := 89) (j := 0) rfl rfl rfl (List.mem_of_getElem? (i := 0) rfl) ?_
    refine ag_getI (q := 92) rfl rfl fl_Mo_227 rfl (SX.o hS rfl) ?_
    refine aw_if_le (q := 95) (tgt := 96) rfl rfl (by decide) ⟨fun cd_2 => ?_, fun cd_2 => ?_⟩
    · replace h := h.1 cd_2
      refine aw_ls [0, 1, 2] rfl ?_
      exact h
    · replace h := h.2 cd_2
      exact aw_return rfl rfl (by decide) (by decide) h
  · replace h := h.2 cd_1
    refine aw_aload_n (q := 33) (j := 0) rfl rfl rfl (List.mem_of_getElem? (i := 0) rfl) ?_
    refine ag_getI (q := 36) rfl rfl fl_Mo_254 rfl (SX.o hS rfl) ?_
    refine aw_bipush (q := 38) (v := 6) rfl rfl (by decide) ?_
    refine aw_icmp_ne (q := 41) (tgt := 46) rfl rfl (by decide) ⟨fun cd_3 => ?_, fun cd_3 => ?_⟩
    · replace h := h.1 cd_3
      refine aw_aload_n (q := 42) (j := 0) rfl rfl rfl (List.mem_of_getElem? (i := 0) rfl) ?_
      refine aw_iconst (q := 43) (v := 2) rfl rfl (by decide) ?_
      refine ag_cvV (z := m_Mo_fail) (ci := 11) (av := [.int _]) (st := []) (q := 46) (k' := 0) (n' := 0) rfl rfl cv_Mo_242 ⟨by decide, by decide⟩ rfl rfl (by decide) (by decide) (SX.o hS rfl) rfl rfl rfl (Nat.le_of_ble_eq_true rfl) ?_
      refine GV.mono h (fun t3_ h => ?_)
      refine aw_ls [0, 1, 2] rfl ?_
      exact h
    · replace h := h.2 cd_3
      refine aw_ls [0, 1, 2] rfl ?_
      exact h
set_option maxRecDepth 20000 in
theorem v_Mo_expression_46 {E : EN} {g : GS} {s : MS} {Q : Option Value → SG → Prop} (x1 : Int32) (x2 : Int32) (hS : SX g) (h : (∀ s1_, s1_ = wi s 120 12 ((s.1 120 12) + 1) → GV E m_Mo_goesOn [.ref 120] g s1_ (fun t2_ => vp_in (t2_.1 120 55) 64 ∧ (∀ s3_, s3_ = wi t2_ 159 (((t2_.1 120 55)).toNatClampNeg) 6 → (∀ s4_, s4_ = wi s3_ 120 55 ((t2_.1 120 55) + 1) → AWP E m_Mo_expression 23 0 0 [(0, .ref 120), (1, .int x1), (2, .int x2)] [] (mk g s4_) Q))))) : AWP E m_Mo_expression 46 0 0 [(0, .ref 120), (1, .int x1), (2, .int x2)] [] (mk g s) Q := by
  refine aw_aload_n (q := 47) (j := 0) rfl rfl rfl (List.mem_of_getElem? (i := 0) rfl) ?_
  refine aw_dup (q := 48) rfl rfl rfl ?_
  refine ag_getI (q := 51) rfl rfl fl_Mo_254 rfl (SX.o hS rfl) ?_
  refine aw_iconst (q := 52) (v := 1) rfl rfl (by decide) ?_
  refine aw_iadd (q := 53) rfl rfl ?_
  refine ag_putI (q := 56) rfl rfl fl_Mo_254 rfl rfl (SX.o hS rfl) ?_
  replace h := h _ rfl
  refine aw_aload_n (q := 57) (j := 0) rfl rfl rfl (List.mem_of_getElem? (i := 0) rfl) ?_
  refine ag_cvV (z := m_Mo_goesOn) (ci := 11) (av := []) (st := []) (q := 60) (k' := 0) (n' := 0) rfl rfl cv_Mo_248 ⟨by decide, by decide⟩ rfl rfl (by decide) (by decide) (SX.o hS rfl) rfl rfl rfl (Nat.le_of_ble_eq_true rfl) ?_
  refine GV.mono h (fun t2_ h => ?_)
  refine aw_aload_n (q := 61) (j := 0) rfl rfl rfl (List.mem_of_getElem? (i := 0) rfl) ?_
  refine ag_getR (q := 64) rfl rfl fl_Mo_134 rfl (SX.o hS rfl) (SX.r hS rfl) ?_
  refine aw_aload_n (q := 65) (j := 0) rfl rfl rfl (List.mem_of_getElem? (i := 0) rfl) ?_
  refine ag_getI (q := 68) rfl rfl fl_Mo_327 rfl (SX.o hS rfl) ?_
  refine aw_bipush (q := 70) (v := 6) rfl rfl (by decide) ?_
  obtain ⟨bd_1, h⟩ := h
  refine ag_iastore (q := 71) (N := 64) rfl rfl (SX.a hS rfl) bd_1 ?_
  replace h := h _ rfl
  refine aw_aload_n (q := 72) (j := 0) rfl rfl rfl (List.mem_of_getElem? (i := 0) rfl) ?_
  refine aw_dup (q := 73) rfl rfl rfl ?_
  refine ag_getI (q := 76) rfl rfl fl_Mo_327 rfl (SX.o hS rfl) ?_
  refine aw_iconst (q := 77) (v := 1) rfl rfl (by decide) ?_
  refine aw_iadd (q := 78) rfl rfl ?_
  refine ag_putI (q := 81) rfl rfl fl_Mo_327 rfl rfl (SX.o hS rfl) ?_
  replace h := h _ rfl
  refine aw_goto (tgt := 23) rfl (by decide) ?_
  refine aw_ls [0, 1, 2] rfl ?_
  exact h
set_option maxRecDepth 20000 in
theorem v_Mo_expression_96 {E : EN} {g : GS} {s : MS} {Q : Option Value → SG → Prop} (x1 : Int32) (x2 : Int32) (hS : SX g) (h : GI E m_Mo_is [.ref 120, .int 7] g s (fun y1_ t1_ => ((y1_ = 0 → AWP E m_Mo_expression 145 0 0 [(0, .ref 120), (1, .int x1), (2, .int x2)] [] (mk g t1_) Q) ∧ (¬ y1_ = 0 → (((t1_.1 120 12) ≤ x1 → AWP E m_Mo_expression 145 0 0 [(0, .ref 120), (1, .int x1), (2, .int x2)] [] (mk g t1_) Q) ∧ (¬ (t1_.1 120 12) ≤ x1 → GV E m_Mo_comesOut [.ref 120, .int 0] g t1_ (fun t2_ => (∀ s3_, s3_ = wi t2_ 120 55 ((t2_.1 120 55) - 1) → (∀ s4_, s4_ = wi s3_ 120 12 ((t2_.1 120 12) - 1) → GV E m_Mo_goesOn [.ref 120] g s4_ (fun t5_ => AWP E m_Mo_expression 96 0 0 [(0, .ref 120), (1, .int x1), (2, .int x2)] [] (mk g t5_) Q)))))))))) : AWP E m_Mo_expression 96 0 0 [(0, .ref 120), (1, .int x1), (2, .int x2)] [] (mk g s) Q := by
  refine aw_aload_n (q := 97) (j := 0) rfl rfl rfl (List.mem_of_getElem? (i := 0) rfl) ?_
  refine aw_bipush (q := 99) (v := 7) rfl rfl (by decide) ?_
  refine ag_cvI (z := m_Mo_is) (ci := 11) (av := [.int _]) (st := []) (q := 102) (k' := 0) (n' := 0) rfl rfl cv_Mo_245 ⟨by decide, by decide⟩ rfl rfl (by decide) (by decide) (SX.o hS rfl) rfl rfl rfl (Nat.le_of_ble_eq_true rfl) ?_
  refine GI.mono h (fun y1_ t1_ h => ?_)
  refine aw_if_eq (q := 105) (tgt := 145) rfl rfl (by decide) ⟨fun cd_1 => ?_, fun cd_1 => ?_⟩
  · replace h := h.1 cd_1
    refine aw_ls [0, 1, 2] rfl ?_
    exact h
  · replace h := h.2 cd_1
    refine aw_aload_n (q := 106) (j := 0) rfl rfl rfl (List.mem_of_getElem? (i := 0) rfl) ?_
    refine ag_getI (q := 109) rfl rfl fl_Mo_254 rfl (SX.o hS rfl) ?_
    refine aw_iload_n (q := 110) (j := 1) rfl rfl rfl (List.mem_of_getElem? (i := 1) rfl) ?_
    refine aw_icmp_le (q := 113) (tgt := 145) rfl rfl (by decide) ⟨fun cd_2 => ?_, fun cd_2 => ?_⟩
    · replace h := h.1 cd_2
      refine aw_ls [0, 1, 2] rfl ?_
      exact h
    · replace h := h.2 cd_2
      refine aw_aload_n (q := 114) (j := 0) rfl rfl rfl (List.mem_of_getElem? (i := 0) rfl) ?_
      refine aw_iconst (q := 115) (v := 0) rfl rfl (by decide) ?_
      refine ag_cvV (z := m_Mo_comesOut) (ci := 11) (av := [.int _]) (st := []) (q := 118) (k' := 0) (n' := 0) rfl rfl cv_Mo_336 ⟨by decide, by decide⟩ rfl rfl (by decide) (by decide) (SX.o hS rfl) rfl rfl rfl (Nat.le_of_ble_eq_true rfl) ?_
      refine GV.mono h (fun t2_ h => ?_)
      refine aw_aload_n (q := 119) (j := 0) rfl rfl rfl (List.mem_of_getElem? (i := 0) rfl) ?_
      refine aw_dup (q := 120) rfl rfl rfl ?_
      refine ag_getI (q := 123) rfl rfl fl_Mo_327 rfl (SX.o hS rfl) ?_
      refine aw_iconst (q := 124) (v := 1) rfl rfl (by decide) ?_
      refine aw_isub (q := 125) rfl rfl ?_
      refine ag_putI (q := 128) rfl rfl fl_Mo_327 rfl rfl (SX.o hS rfl) ?_
      replace h := h _ rfl
      refine aw_aload_n (q := 129) (j := 0) rfl rfl rfl (List.mem_of_getElem? (i := 0) rfl) ?_
      refine aw_dup (q := 130) rfl rfl rfl ?_
      refine ag_getI (q := 133) rfl rfl fl_Mo_254 rfl (SX.o hS rfl) ?_
      refine aw_iconst (q := 134) (v := 1) rfl rfl (by decide) ?_
      refine aw_isub (q := 135) rfl rfl ?_
      refine ag_putI (q := 138) rfl rfl fl_Mo_254 rfl rfl (SX.o hS rfl) ?_
      replace h := h _ rfl
      refine aw_aload_n (q := 139) (j := 0) rfl rfl rfl (List.mem_of_getElem? (i := 0) rfl) ?_
      refine ag_cvV (z := m_Mo_goesOn) (ci := 11) (av := []) (st := []) (q := 142) (k' := 0) (n' := 0) rfl rfl cv_Mo_248 ⟨by decide, by decide⟩ rfl rfl (by decide) (by decide) (SX.o hS rfl) rfl rfl rfl (Nat.le_of_ble_eq_true rfl) ?_
      refine GV.mono h (fun t5_ h => ?_)
      refine aw_goto (tgt := 96) rfl (by decide) ?_
      refine aw_ls [0, 1, 2] rfl ?_
      exact h
set_option maxRecDepth 20000 in
theorem v_Mo_expression_145 {E : EN} {g : GS} {s : MS} {Q : Option Value → SG → Prop} (x1 : Int32) (x2 : Int32) (hS : SX g) (h : GI E m_Mo_is [.ref 120, .int 8] g s (fun y1_ t1_ => ((y1_ = 0 → GI E m_Mo_is [.ref 120, .int 9] g t1_ (fun y2_ t2_ => ((y2_ = 0 → GI E m_Mo_is [.ref 120, .int 10] g t2_ (fun y3_ t3_ => ((y3_ = 0 → GI E m_Mo_is [.ref 120, .int 15] g t3_ (fun y4_ t4_ => ((y4_ = 0 → AWP E m_Mo_expression 187 0 0 [(0, .ref 120), (1, .int x1), (2, .int 0)] [] (mk g t4_) Q) ∧ (¬ y4_ = 0 → AWP E m_Mo_expression 181 0 0 [(0, .ref 120), (1, .int x1), (2, .int x2)] [] (mk g t4_) Q)))) ∧ (¬ y3_ = 0 → AWP E m_Mo_expression 181 0 0 [(0, .ref 120), (1, .int x1), (2, .int x2)] [] (mk g t3_) Q)))) ∧ (¬ y2_ = 0 → AWP E m_Mo_expression 181 0 0 [(0, .ref 120), (1, .int x1), (2, .int x2)] [] (mk g t2_) Q)))) ∧ (¬ y1_ = 0 → AWP E m_Mo_expression 181 0 0 [(0, .ref 120), (1, .int x1), (2, .int x2)] [] (mk g t1_) Q)))) : AWP E m_Mo_expression 145 0 0 [(0, .ref 120), (1, .int x1), (2, .int x2)] [] (mk g s) Q := by
  refine aw_aload_n (q := 146) (j := 0) rfl rfl rfl (List.mem_of_getElem? (i := 0) rfl) ?_
  refine aw_bipush (q := 148) (v := 8) rfl rfl (by decide) ?_
  refine ag_cvI (z := m_Mo_is) (ci := 11) (av := [.int _]) (st := []) (q := 151) (k' := 0) (n' := 0) rfl rfl cv_Mo_245 ⟨by decide, by decide⟩ rfl rfl (by decide) (by decide) (SX.o hS rfl) rfl rfl rfl (Nat.le_of_ble_eq_true rfl) ?_
  refine GI.mono h (fun y1_ t1_ h => ?_)
  refine aw_if_ne (q := 154) (tgt := 181) rfl rfl (by decide) ⟨fun cd_1 => ?_, fun cd_1 => ?_⟩
  · replace h := h.1 cd_1
    refine aw_aload_n (q := 155) (j := 0) rfl rfl rfl (List.mem_of_getElem? (i := 0) rfl) ?_
    refine aw_bipush (q := 157) (v := 9) rfl rfl (by decide) ?_
    refine ag_cvI (z := m_Mo_is) (ci := 11) (av := [.int _]) (st := []) (q := 160) (k' := 0) (n' := 0) rfl rfl cv_Mo_245 ⟨by decide, by decide⟩ rfl rfl (by decide) (by decide) (SX.o hS rfl) rfl rfl rfl (Nat.le_of_ble_eq_true rfl) ?_
    refine GI.mono h (fun y2_ t2_ h => ?_)
    refine aw_if_ne (q := 163) (tgt := 181) rfl rfl (by decide) ⟨fun cd_2 => ?_, fun cd_2 => ?_⟩
    · replace h := h.1 cd_2
      refine aw_aload_n (q := 164) (j := 0) rfl rfl rfl (List.mem_of_getElem? (i := 0) rfl) ?_
      refine aw_bipush (q := 166) (v := 10) rfl rfl (by decide) ?_
      refine ag_cvI (z := m_Mo_is) (ci := 11) (av := [.int _]) (st := []) (q := 169) (k' := 0) (n' := 0) rfl rfl cv_Mo_245 ⟨by decide, by decide⟩ rfl rfl (by decide) (by decide) (SX.o hS rfl) rfl rfl rfl (Nat.le_of_ble_eq_true rfl) ?_
      refine GI.mono h (fun y3_ t3_ h => ?_)
      refine aw_if_ne (q := 172) (tgt := 181) rfl rfl (by decide) ⟨fun cd_3 => ?_, fun cd_3 => ?_⟩
      · replace h := h.1 cd_3
        refine aw_aload_n (q := 173) (j := 0) rfl rfl rfl (List.mem_of_getElem? (i := 0) rfl) ?_
        refine aw_bipush (q := 175) (v := 15) rfl rfl (by decide) ?_
        refine ag_cvI (z := m_Mo_is) (ci := 11) (av := [.int _]) (st := []) (q := 178) (k' := 0) (n' := 0) rfl rfl cv_Mo_245 ⟨by decide, by decide⟩ rfl rfl (by decide) (by decide) (SX.o hS rfl) rfl rfl rfl (Nat.le_of_ble_eq_true rfl) ?_
        refine GI.mono h (fun y4_ t4_ h => ?_)
        refine aw_if_eq (q := 181) (tgt := 185) rfl rfl (by decide) ⟨fun cd_4 => ?_, fun cd_4 => ?_⟩
        · replace h := h.1 cd_4
          refine aw_iconst (q := 186) (v := 0) rfl rfl (by decide) ?_
          refine aw_istore_n (q := 187) (j := 2) (ls' := [(2, .int _), (0, .ref _), (1, .int _)]) rfl rfl rfl (by decide) rfl ?_
          refine aw_ls [1, 2, 0] rfl ?_
          exact h
        · replace h := h.2 cd_4
          refine aw_ls [0, 1, 2] rfl ?_
          exact h
      · replace h := h.2 cd_3
        refine aw_ls [0, 1, 2] rfl ?_
        exact h
    · replace h := h.2 cd_2
      refine aw_ls [0, 1, 2] rfl ?_
      exact h
  · replace h := h.2 cd_1
    refine aw_ls [0, 1, 2] rfl ?_
    exact h
set_option maxRecDepth 20000 in
theorem v_Mo_expression_181 {E : EN} {g : GS} {s : MS} {Q : Option Value → SG → Prop} (x1 : Int32) (x2 : Int32) (h : AWP E m_Mo_expression 187 0 0 [(0, .ref 120), (1, .int x1), (2, .int 1)] [] (mk g s) Q) : AWP E m_Mo_expression 181 0 0 [(0, .ref 120), (1, .int x1), (2, .int x2)] [] (mk g s) Q := by
  refine aw_iconst (q := 182) (v := 1) rfl rfl (by decide) ?_
  refine aw_goto (tgt := 186) rfl (by decide) ?_
  refine aw_istore_n (q := 187) (j := 2) (ls' := [(2, .int _), (0, .ref _), (1, .int _)]) rfl rfl rfl (by decide) rfl ?_
  refine aw_ls [1, 2, 0] rfl ?_
  exact h
set_option maxRecDepth 20000 in
theorem v_Mo_expression_187 {E : EN} {g : GS} {s : MS} {Q : Option Value → SG → Prop} (x1 : Int32) (x2 : Int32) (hS : SX g) (h : ((x2 = 0 → (((s.1 120 12) ≤ x1 → AWP E m_Mo_expression 204 0 0 [(0, .ref 120), (1, .int x1), (2, .int x2)] [] (mk g s) Q) ∧ (¬ (s.1 120 12) ≤ x1 → GV E m_Mo_fail [.ref 120, .int 1] g s (fun t1_ => AWP E m_Mo_expression 204 0 0 [(0, .ref 120), (1, .int x1), (2, .int x2)] [] (mk g t1_) Q)))) ∧ (¬ x2 = 0 → GI E m_Mo_is [.ref 120, .int 10] g s (fun y2_ t2_ => ((y2_ = 0 → GI E m_Mo_is [.ref 120, .int 15] g t2_ (fun y3_ t3_ => ((y3_ = 0 → GV E m_Mo_comesOut [.ref 120, .int 0] g t3_ (fun t4_ => AWP E m_Mo_expression 237 0 0 [(0, .ref 120), (1, .int x1), (2, .int x2)] [] (mk g t4_) Q)) ∧ (¬ y3_ = 0 → GV E m_Mo_comesOut [.ref 120, .int 1] g t3_ (fun t5_ => AWP E m_Mo_expression 237 0 0 [(0, .ref 120), (1, .int x1), (2, .int x2)] [] (mk g t5_) Q))))) ∧ (¬ y2_ = 0 → GV E m_Mo_comesOut [.ref 120, .int 1] g t2_ (fun t6_ => AWP E m_Mo_expression 237 0 0 [(0, .ref 120), (1, .int x1), (2, .int x2)] [] (mk g t6_) Q))))))) : AWP E m_Mo_expression 187 0 0 [(0, .ref 120), (1, .int x1), (2, .int x2)] [] (mk g s) Q := by
  refine aw_iload_n (q := 188) (j := 2) rfl rfl rfl (List.mem_of_getElem? (i := 2) rfl) ?_
  refine aw_if_ne (q := 191) (tgt := 210) rfl rfl (by decide) ⟨fun cd_1 => ?_, fun cd_1 => ?_⟩
  · replace h := h.1 cd_1
    refine aw_aload_n (q := 192) (j := 0) rfl rfl rfl (List.mem_of_getElem? (i := 0) rfl) ?_
    refine ag_getI (q := 195) rfl rfl fl_Mo_254 rfl (SX.o hS rfl) ?_
    refine aw_iload_n (q := 196) (j := 1) rfl rfl rfl (List.mem_of_getElem? (i := 1) rfl) ?_
    refine aw_icmp_le (q := 199) (tgt := 204) rfl rfl (by decide) ⟨fun cd_2 => ?_, fun cd_2 => ?_⟩
    · replace h := h.1 cd_2
      refine aw_ls [0, 1, 2] rfl ?_
      exact h
    · replace h := h.2 cd_2
      refine aw_aload_n (q := 200) (j := 0) rfl rfl rfl (List.mem_of_getElem? (i := 0) rfl) ?_
      refine aw_iconst (q := 201) (v := 1) rfl rfl (by decide) ?_
      refine ag_cvV (z := m_Mo_fail) (ci := 11) (av := [.int _]) (st := []) (q := 204) (k' := 0) (n' := 0) rfl rfl cv_Mo_242 ⟨by decide, by decide⟩ rfl rfl (by decide) (by decide) (SX.o hS rfl) rfl rfl rfl (Nat.le_of_ble_eq_true rfl) ?_
      refine GV.mono h (fun t1_ h => ?_)
      refine aw_ls [0, 1, 2] rfl ?_
      exact h
  · replace h := h.2 cd_1
    refine aw_aload_n (q := 211) (j := 0) rfl rfl rfl (List.mem_of_getElem? (i := 0) rfl) ?_
    refine aw_aload_n (q := 212) (j := 0) rfl rfl rfl (List.mem_of_getElem? (i := 0) rfl) ?_
    refine aw_bipush (q := 214) (v := 10) rfl rfl (by decide) ?_
    refine ag_cvI (z := m_Mo_is) (ci := 11) (av := [.int _]) (st := [.ref _]) (q := 217) (k' := 0) (n' := 0) rfl rfl cv_Mo_245 ⟨by decide, by decide⟩ rfl rfl (by decide) (by decide) (SX.o hS rfl) rfl rfl rfl (Nat.le_of_ble_eq_true rfl) ?_
    refine GI.mono h (fun y2_ t2_ h => ?_)
    refine aw_if_ne (q := 220) (tgt := 229) rfl rfl (by decide) ⟨fun cd_3 => ?_, fun cd_3 => ?_⟩
    · replace h := h.1 cd_3
      refine aw_aload_n (q := 221) (j := 0) rfl rfl rfl (List.mem_of_getElem? (i := 0) rfl) ?_
      refine aw_bipush (q := 223) (v := 15) rfl rfl (by decide) ?_
      refine ag_cvI (z := m_Mo_is) (ci := 11) (av := [.int _]) (st := [.ref _]) (q := 226) (k' := 0) (n' := 0) rfl rfl cv_Mo_245 ⟨by decide, by decide⟩ rfl rfl (by decide) (by decide) (SX.o hS rfl) rfl rfl rfl (Nat.le_of_ble_eq_true rfl) ?_
      refine GI.mono h (fun y3_ t3_ h => ?_)
      refine aw_if_eq (q := 229) (tgt := 233) rfl rfl (by decide) ⟨fun cd_4 => ?_, fun cd_4 => ?_⟩
      · replace h := h.1 cd_4
        refine aw_iconst (q := 234) (v := 0) rfl rfl (by decide) ?_
        refine ag_cvV (z := m_Mo_comesOut) (ci := 11) (av := [.int _]) (st := []) (q := 237) (k' := 0) (n' := 0) rfl rfl cv_Mo_336 ⟨by decide, by decide⟩ rfl rfl (by decide) (by decide) (SX.o hS rfl) rfl rfl rfl (Nat.le_of_ble_eq_true rfl) ?_
        refine GV.mono h (fun t4_ h => ?_)
        refine aw_ls [0, 1, 2] rfl ?_
        exact h
      · replace h := h.2 cd_4
        refine aw_iconst (q := 230) (v := 1) rfl rfl (by decide) ?_
        refine aw_goto (tgt := 234) rfl (by decide) ?_
        refine ag_cvV (z := m_Mo_comesOut) (ci := 11) (av := [.int _]) (st := []) (q := 237) (k' := 0) (n' := 0) rfl rfl cv_Mo_336 ⟨by decide, by decide⟩ rfl rfl (by decide) (by decide) (SX.o hS rfl) rfl rfl rfl (Nat.le_of_ble_eq_true rfl) ?_
        refine GV.mono h (fun t5_ h => ?_)
        refine aw_ls [0, 1, 2] rfl ?_
        exact h
    · replace h := h.2 cd_3
      refine aw_iconst (q := 230) (v := 1) rfl rfl (by decide) ?_
      refine aw_goto (tgt := 234) rfl (by decide) ?_
      refine ag_cvV (z := m_Mo_comesOut) (ci := 11) (av := [.int _]) (st := []) (q := 237) (k' := 0) (n' := 0) rfl rfl cv_Mo_336 ⟨by decide, by decide⟩ rfl rfl (by decide) (by decide) (SX.o hS rfl) rfl rfl rfl (Nat.le_of_ble_eq_true rfl) ?_
      refine GV.mono h (fun t6_ h => ?_)
      refine aw_ls [0, 1, 2] rfl ?_
      exact h
set_option maxRecDepth 20000 in
theorem v_Mo_expression_204 {E : EN} {g : GS} {s : MS} {Q : Option Value → SG → Prop} (x1 : Int32) (x2 : Int32) (hS : SX g) (h : GV E m_Mo_comesOut [.ref 120, .int 0] g s (fun t1_ => Q none (mk g t1_))) : AWP E m_Mo_expression 204 0 0 [(0, .ref 120), (1, .int x1), (2, .int x2)] [] (mk g s) Q := by
  refine aw_aload_n (q := 205) (j := 0) rfl rfl rfl (List.mem_of_getElem? (i := 0) rfl) ?_
  refine aw_iconst (q := 206) (v := 0) rfl rfl (by decide) ?_
  refine ag_cvV (z := m_Mo_comesOut) (ci := 11) (av := [.int _]) (st := []) (q := 209) (k' := 0) (n' := 0) rfl rfl cv_Mo_336 ⟨by decide, by decide⟩ rfl rfl (by decide) (by decide) (SX.o hS rfl) rfl rfl rfl (Nat.le_of_ble_eq_true rfl) ?_
  refine GV.mono h (fun t1_ h => ?_)
  exact aw_return rfl rfl (by decide) (by decide) h
set_option maxRecDepth 20000 in
theorem v_Mo_expression_237 {E : EN} {g : GS} {s : MS} {Q : Option Value → SG → Prop} (x1 : Int32) (x2 : Int32) (hS : SX g) (h : vp_in (s.1 120 11) 403 ∧ vp_in (s.1 120 55) 64 ∧ (∀ s1_, s1_ = wi s 159 (((s.1 120 55)).toNatClampNeg) (s.1 123 (((s.1 120 11)).toNatClampNeg)) → (∀ s2_, s2_ = wi s1_ 120 55 ((s.1 120 55) + 1) → GV E m_Mo_goesOn [.ref 120] g s2_ (fun t3_ => AWP E m_Mo_expression 12 0 0 [(0, .ref 120), (1, .int x1), (2, .int x2)] [] (mk g t3_) Q)))) : AWP E m_Mo_expression 237 0 0 [(0, .ref 120), (1, .int x1), (2, .int x2)] [] (mk g s) Q := by
  refine aw_aload_n (q := 238) (j := 0) rfl rfl rfl (List.mem_of_getElem? (i := 0) rfl) ?_
  refine ag_getR (q := 241) rfl rfl fl_Mo_134 rfl (SX.o hS rfl) (SX.r hS rfl) ?_
  refine aw_aload_n (q := 242) (j := 0) rfl rfl rfl (List.mem_of_getElem? (i := 0) rfl) ?_
  refine ag_getI (q := 245) rfl rfl fl_Mo_327 rfl (SX.o hS rfl) ?_
  refine aw_aload_n (q := 246) (j := 0) rfl rfl rfl (List.mem_of_getElem? (i := 0) rfl) ?_
  refine ag_getR (q := 249) rfl rfl fl_Mo_20 rfl (SX.o hS rfl) (SX.r hS rfl) ?_
  refine aw_aload_n (q := 250) (j := 0) rfl rfl rfl (List.mem_of_getElem? (i := 0) rfl) ?_
  refine ag_getI (q := 253) rfl rfl fl_Mo_230 rfl (SX.o hS rfl) ?_
  obtain ⟨bd_1, h⟩ := h
  refine ag_iaload (q := 254) (N := 403) rfl rfl (SX.a hS rfl) bd_1 ?_
  obtain ⟨bd_2, h⟩ := h
  refine ag_iastore (q := 255) (N := 64) rfl rfl (SX.a hS rfl) bd_2 ?_
  replace h := h _ rfl
  refine aw_aload_n (q := 256) (j := 0) rfl rfl rfl (List.mem_of_getElem? (i := 0) rfl) ?_
  refine aw_dup (q := 257) rfl rfl rfl ?_
  refine ag_getI (q := 260) rfl rfl fl_Mo_327 rfl (SX.o hS rfl) ?_
  refine aw_iconst (q := 261) (v := 1) rfl rfl (by decide) ?_
  refine aw_iadd (q := 262) rfl rfl ?_
  refine ag_putI (q := 265) rfl rfl fl_Mo_327 rfl rfl (SX.o hS rfl) ?_
  replace h := h _ rfl
  refine aw_aload_n (q := 266) (j := 0) rfl rfl rfl (List.mem_of_getElem? (i := 0) rfl) ?_
  refine ag_cvV (z := m_Mo_goesOn) (ci := 11) (av := []) (st := []) (q := 269) (k' := 0) (n' := 0) rfl rfl cv_Mo_248 ⟨by decide, by decide⟩ rfl rfl (by decide) (by decide) (SX.o hS rfl) rfl rfl rfl (Nat.le_of_ble_eq_true rfl) ?_
  refine GV.mono h (fun t3_ h => ?_)
  refine aw_goto (tgt := 12) rfl (by decide) ?_
  refine aw_ls [0, 1, 2] rfl ?_
  exact h
set_option maxRecDepth 20000 in
theorem v_Mo_expression_272 {E : EN} {g : GS} {s : MS} {Q : Option Value → SG → Prop} (x1 : Int32) (x2 : Int32) (h : Q none (mk g s)) : AWP E m_Mo_expression 272 0 0 [(0, .ref 120), (1, .int x1), (2, .int x2)] [] (mk g s) Q := by
  exact aw_return rfl rfl (by decide) (by decide) h
set_option maxRecDepth 20000 in
theorem v_Mo_expression {E : EN} {g : GS} {s : MS} {Q : Option Value → SG → Prop}  (hS : SX g) (h : (∀ s1_, s1_ = wi s 120 55 0 → AWP E m_Mo_expression 12 0 0 [(0, .ref 120), (1, .int (s.1 120 12)), (2, .int 1)] [] (mk g s1_) Q)) : AMet E m_Mo_expression [.ref 120] (mk g s) Q := by
  refine AMet.of (by decide) k_Mo_expression [(0, .ref 120)] (Nat.le_of_ble_eq_true rfl) rfl ?_
  refine aw_aload_n (q := 1) (j := 0) rfl rfl rfl (List.mem_of_getElem? (i := 0) rfl) ?_
  refine aw_iconst (q := 2) (v := 0) rfl rfl (by decide) ?_
  refine ag_putI (q := 5) rfl rfl fl_Mo_327 rfl rfl (SX.o hS rfl) ?_
  replace h := h _ rfl
  refine aw_aload_n (q := 6) (j := 0) rfl rfl rfl (List.mem_of_getElem? (i := 0) rfl) ?_
  refine ag_getI (q := 9) rfl rfl fl_Mo_254 rfl (SX.o hS rfl) ?_
  refine aw_istore_n (q := 10) (j := 1) (ls' := [(1, .int _), (0, .ref _)]) rfl rfl rfl (by decide) rfl ?_
  refine aw_iconst (q := 11) (v := 1) rfl rfl (by decide) ?_
  refine aw_istore_n (q := 12) (j := 2) (ls' := [(2, .int _), (1, .int _), (0, .ref _)]) rfl rfl rfl (by decide) rfl ?_
  refine aw_ls [2, 1, 0] rfl ?_
  exact h
set_option maxRecDepth 20000 in
theorem v_Mo_unit {E : EN} {g : GS} {s : MS} {Q : Option Value → SG → Prop}  (hS : SX g) (h : GI E m_Mo_is [.ref 120, .int 2] g s (fun y1_ t1_ => ((y1_ = 0 → (((t1_.1 120 13) = 0 → vp_in (t1_.1 120 11) 403 ∧ (((t1_.1 123 (((t1_.1 120 11)).toNatClampNeg)) < 33 → GV E m_Mo_fail [.ref 120, .int 1] g t1_ (fun t2_ => Q none (mk g t2_))) ∧ (¬ (t1_.1 123 (((t1_.1 120 11)).toNatClampNeg)) < 33 → ((39 < (t1_.1 123 (((t1_.1 120 11)).toNatClampNeg)) → GV E m_Mo_fail [.ref 120, .int 1] g t1_ (fun t3_ => Q none (mk g t3_))) ∧ (¬ 39 < (t1_.1 123 (((t1_.1 120 11)).toNatClampNeg)) → GV E m_Mo_emit [.ref 120, .int 1, .int ((t1_.1 123 (((t1_.1 120 11)).toNatClampNeg)) - 33)] g t1_ (fun t4_ => GV E m_Mo_goesOn [.ref 120] g t4_ (fun t5_ => Q none (mk g t5_)))))))) ∧ (¬ (t1_.1 120 13) = 0 → GV E m_Mo_fail [.ref 120, .int 1] g t1_ (fun t6_ => Q none (mk g t6_))))) ∧ (¬ y1_ = 0 → vp_in (t1_.1 120 11) 403 ∧ GV E m_Mo_emit [.ref 120, .int 0, .int (t1_.1 125 (((t1_.1 120 11)).toNatClampNeg))] g t1_ (fun t7_ => GV E m_Mo_goesOn [.ref 120] g t7_ (fun t8_ => Q none (mk g t8_))))))) : AMet E m_Mo_unit [.ref 120] (mk g s) Q := by
  refine AMet.of (by decide) k_Mo_unit [(0, .ref 120)] (Nat.le_of_ble_eq_true rfl) rfl ?_
  refine aw_aload_n (q := 1) (j := 0) rfl rfl rfl (List.mem_of_getElem? (i := 0) rfl) ?_
  refine aw_iconst (q := 2) (v := 2) rfl rfl (by decide) ?_
  refine ag_cvI (z := m_Mo_is) (ci := 11) (av := [.int _]) (st := []) (q := 5) (k' := 0) (n' := 0) rfl rfl cv_Mo_245 ⟨by decide, by decide⟩ rfl rfl (by decide) (by decide) (SX.o hS rfl) rfl rfl rfl (Nat.le_of_ble_eq_true rfl) ?_
  refine GI.mono h (fun y1_ t1_ h => ?_)
  refine aw_if_eq (q := 8) (tgt := 29) rfl rfl (by decide) ⟨fun cd_1 => ?_, fun cd_1 => ?_⟩
  · replace h := h.1 cd_1
    refine aw_aload_n (q := 30) (j := 0) rfl rfl rfl (List.mem_of_getElem? (i := 0) rfl) ?_
    refine ag_getI (q := 33) rfl rfl fl_Mo_227 rfl (SX.o hS rfl) ?_
    refine aw_if_ne (q := 36) (tgt := 88) rfl rfl (by decide) ⟨fun cd_2 => ?_, fun cd_2 => ?_⟩
    · replace h := h.1 cd_2
      refine aw_aload_n (q := 37) (j := 0) rfl rfl rfl (List.mem_of_getElem? (i := 0) rfl) ?_
      refine ag_getR (q := 40) rfl rfl fl_Mo_20 rfl (SX.o hS rfl) (SX.r hS rfl) ?_
      refine aw_aload_n (q := 41) (j := 0) rfl rfl rfl (List.mem_of_getElem? (i := 0) rfl) ?_
      refine ag_getI (q := 44) rfl rfl fl_Mo_230 rfl (SX.o hS rfl) ?_
      obtain ⟨bd_3, h⟩ := h
      refine ag_iaload (q := 45) (N := 403) rfl rfl (SX.a hS rfl) bd_3 ?_
      refine aw_bipush (q := 47) (v := 33) rfl rfl (by decide) ?_
      refine aw_icmp_lt (q := 50) (tgt := 88) rfl rfl (by decide) ⟨fun cd_4 => ?_, fun cd_4 => ?_⟩
      · replace h := h.1 cd_4
        refine aw_aload_n (q := 89) (j := 0) rfl rfl rfl (List.mem_of_getElem? (i := 0) rfl) ?_
        refine aw_iconst (q := 90) (v := 1) rfl rfl (by decide) ?_
        refine ag_cvV (z := m_Mo_fail) (ci := 11) (av := [.int _]) (st := []) (q := 93) (k' := 0) (n' := 0) rfl rfl cv_Mo_242 ⟨by decide, by decide⟩ rfl rfl (by decide) (by decide) (SX.o hS rfl) rfl rfl rfl (Nat.le_of_ble_eq_true rfl) ?_
        refine GV.mono h (fun t2_ h => ?_)
        exact aw_return rfl rfl (by decide) (by decide) h
      · replace h := h.2 cd_4
        refine aw_aload_n (q := 51) (j := 0) rfl rfl rfl (List.mem_of_getElem? (i := 0) rfl) ?_
        refine ag_getR (q := 54) rfl rfl fl_Mo_20 rfl (SX.o hS rfl) (SX.r hS rfl) ?_
        refine aw_aload_n (q := 55) (j := 0) rfl rfl rfl (List.mem_of_getElem? (i := 0) rfl) ?_
        refine ag_getI (q := 58) rfl rfl fl_Mo_230 rfl (SX.o hS rfl) ?_
        refine ag_iaload (q := 59) (N := 403) rfl rfl (SX.a hS rfl) bd_3 ?_
        refine aw_bipush (q := 61) (v := 39) rfl rfl (by decide) ?_
        refine aw_icmp_gt (q := 64) (tgt := 88) rfl rfl (by decide) ⟨fun cd_5 => ?_, fun cd_5 => ?_⟩
        · replace h := h.1 cd_5
          refine aw_aload_n (q := 89) (j := 0) rfl rfl rfl (List.mem_of_getElem? (i := 0) rfl) ?_
          refine aw_iconst (q := 90) (v := 1) rfl rfl (by decide) ?_
          refine ag_cvV (z := m_Mo_fail) (ci := 11) (av := [.int _]) (st := []) (q := 93) (k' := 0) (n' := 0) rfl rfl cv_Mo_242 ⟨by decide, by decide⟩ rfl rfl (by decide) (by decide) (SX.o hS rfl) rfl rfl rfl (Nat.le_of_ble_eq_true rfl) ?_
          refine GV.mono h (fun t3_ h => ?_)
          exact aw_return rfl rfl (by decide) (by decide) h
        · replace h := h.2 cd_5
          refine aw_aload_n (q := 65) (j := 0) rfl rfl rfl (List.mem_of_getElem? (i := 0) rfl) ?_
          refine aw_iconst (q := 66) (v := 1) rfl rfl (by decide) ?_
          refine aw_aload_n (q := 67) (j := 0) rfl rfl rfl (List.mem_of_getElem? (i := 0) rfl) ?_
          refine ag_getR (q := 70) rfl rfl fl_Mo_20 rfl (SX.o hS rfl) (SX.r hS rfl) ?_
          refine aw_aload_n (q := 71) (j := 0) rfl rfl rfl (List.mem_of_getElem? (i := 0) rfl) ?_
          refine ag_getI (q := 74) rfl rfl fl_Mo_230 rfl (SX.o hS rfl) ?_
          refine ag_iaload (q := 75) (N := 403) rfl rfl (SX.a hS rfl) bd_3 ?_
          refine aw_bipush (q := 77) (v := 33) rfl rfl (by decide) ?_
          refine aw_isub (q := 78) rfl rfl ?_
          refine ag_cvV (z := m_Mo_emit) (ci := 11) (av := [.int _, .int _]) (st := []) (q := 81) (k' := 0) (n' := 0) rfl rfl cv_Mo_330 ⟨by decide, by decide⟩ rfl rfl (by decide) (by decide) (SX.o hS rfl) rfl rfl rfl (Nat.le_of_ble_eq_true rfl) ?_
          refine GV.mono h (fun t4_ h => ?_)
          refine aw_aload_n (q := 82) (j := 0) rfl rfl rfl (List.mem_of_getElem? (i := 0) rfl) ?_
          refine ag_cvV (z := m_Mo_goesOn) (ci := 11) (av := []) (st := []) (q := 85) (k' := 0) (n' := 0) rfl rfl cv_Mo_248 ⟨by decide, by decide⟩ rfl rfl (by decide) (by decide) (SX.o hS rfl) rfl rfl rfl (Nat.le_of_ble_eq_true rfl) ?_
          refine GV.mono h (fun t5_ h => ?_)
          refine aw_goto (tgt := 93) rfl (by decide) ?_
          exact aw_return rfl rfl (by decide) (by decide) h
    · replace h := h.2 cd_2
      refine aw_aload_n (q := 89) (j := 0) rfl rfl rfl (List.mem_of_getElem? (i := 0) rfl) ?_
      refine aw_iconst (q := 90) (v := 1) rfl rfl (by decide) ?_
      refine ag_cvV (z := m_Mo_fail) (ci := 11) (av := [.int _]) (st := []) (q := 93) (k' := 0) (n' := 0) rfl rfl cv_Mo_242 ⟨by decide, by decide⟩ rfl rfl (by decide) (by decide) (SX.o hS rfl) rfl rfl rfl (Nat.le_of_ble_eq_true rfl) ?_
      refine GV.mono h (fun t6_ h => ?_)
      exact aw_return rfl rfl (by decide) (by decide) h
  · replace h := h.2 cd_1
    refine aw_aload_n (q := 9) (j := 0) rfl rfl rfl (List.mem_of_getElem? (i := 0) rfl) ?_
    refine aw_iconst (q := 10) (v := 0) rfl rfl (by decide) ?_
    refine aw_aload_n (q := 11) (j := 0) rfl rfl rfl (List.mem_of_getElem? (i := 0) rfl) ?_
    refine ag_getR (q := 14) rfl rfl fl_Mo_27 rfl (SX.o hS rfl) (SX.r hS rfl) ?_
    refine aw_aload_n (q := 15) (j := 0) rfl rfl rfl (List.mem_of_getElem? (i := 0) rfl) ?_
    refine ag_getI (q := 18) rfl rfl fl_Mo_230 rfl (SX.o hS rfl) ?_
    obtain ⟨bd_6, h⟩ := h
    refine ag_iaload (q := 19) (N := 403) rfl rfl (SX.a hS rfl) bd_6 ?_
    refine ag_cvV (z := m_Mo_emit) (ci := 11) (av := [.int _, .int _]) (st := []) (q := 22) (k' := 0) (n' := 0) rfl rfl cv_Mo_330 ⟨by decide, by decide⟩ rfl rfl (by decide) (by decide) (SX.o hS rfl) rfl rfl rfl (Nat.le_of_ble_eq_true rfl) ?_
    refine GV.mono h (fun t7_ h => ?_)
    refine aw_aload_n (q := 23) (j := 0) rfl rfl rfl (List.mem_of_getElem? (i := 0) rfl) ?_
    refine ag_cvV (z := m_Mo_goesOn) (ci := 11) (av := []) (st := []) (q := 26) (k' := 0) (n' := 0) rfl rfl cv_Mo_248 ⟨by decide, by decide⟩ rfl rfl (by decide) (by decide) (SX.o hS rfl) rfl rfl rfl (Nat.le_of_ble_eq_true rfl) ?_
    refine GV.mono h (fun t8_ h => ?_)
    refine aw_goto (tgt := 93) rfl (by decide) ?_
    exact aw_return rfl rfl (by decide) (by decide) h
set_option maxRecDepth 20000 in
theorem v_Mo_emit {E : EN} {g : GS} {s : MS} {Q : Option Value → SG → Prop} (x1 : Int32) (x2 : Int32) (hS : SX g) (h : vp_in (s.1 120 51) 840 ∧ (∀ s1_, s1_ = wi s 157 (((s.1 120 51)).toNatClampNeg) x1 → (∀ s2_, s2_ = wi s1_ 158 (((s.1 120 51)).toNatClampNeg) x2 → (∀ s3_, s3_ = wi s2_ 120 51 ((s.1 120 51) + 1) → Q none (mk g s3_))))) : AMet E m_Mo_emit [.ref 120, .int x1, .int x2] (mk g s) Q := by
  refine AMet.of (by decide) k_Mo_emit [(0, .ref 120), (1, .int x1), (2, .int x2)] (Nat.le_of_ble_eq_true rfl) rfl ?_
  refine aw_aload_n (q := 1) (j := 0) rfl rfl rfl (List.mem_of_getElem? (i := 0) rfl) ?_
  refine ag_getR (q := 4) rfl rfl fl_Mo_128 rfl (SX.o hS rfl) (SX.r hS rfl) ?_
  refine aw_aload_n (q := 5) (j := 0) rfl rfl rfl (List.mem_of_getElem? (i := 0) rfl) ?_
  refine ag_getI (q := 8) rfl rfl fl_Mo_269 rfl (SX.o hS rfl) ?_
  refine aw_iload_n (q := 9) (j := 1) rfl rfl rfl (List.mem_of_getElem? (i := 1) rfl) ?_
  obtain ⟨bd_1, h⟩ := h
  refine ag_iastore (q := 10) (N := 840) rfl rfl (SX.a hS rfl) bd_1 ?_
  replace h := h _ rfl
  refine aw_aload_n (q := 11) (j := 0) rfl rfl rfl (List.mem_of_getElem? (i := 0) rfl) ?_
  refine ag_getR (q := 14) rfl rfl fl_Mo_131 rfl (SX.o hS rfl) (SX.r hS rfl) ?_
  refine aw_aload_n (q := 15) (j := 0) rfl rfl rfl (List.mem_of_getElem? (i := 0) rfl) ?_
  refine ag_getI (q := 18) rfl rfl fl_Mo_269 rfl (SX.o hS rfl) ?_
  refine aw_iload_n (q := 19) (j := 2) rfl rfl rfl (List.mem_of_getElem? (i := 2) rfl) ?_
  refine ag_iastore (q := 20) (N := 840) rfl rfl (SX.a hS rfl) bd_1 ?_
  replace h := h _ rfl
  refine aw_aload_n (q := 21) (j := 0) rfl rfl rfl (List.mem_of_getElem? (i := 0) rfl) ?_
  refine aw_dup (q := 22) rfl rfl rfl ?_
  refine ag_getI (q := 25) rfl rfl fl_Mo_269 rfl (SX.o hS rfl) ?_
  refine aw_iconst (q := 26) (v := 1) rfl rfl (by decide) ?_
  refine aw_iadd (q := 27) rfl rfl ?_
  refine ag_putI (q := 30) rfl rfl fl_Mo_269 rfl rfl (SX.o hS rfl) ?_
  replace h := h _ rfl
  exact aw_return rfl rfl (by decide) (by decide) h
set_option maxRecDepth 20000 in
theorem v_Mo_comesOut_0 {E : EN} {g : GS} {s : MS} {Q : Option Value → SG → Prop} (x1 : Int32) (hS : SX g) (h : (((s.1 120 55) ≤ 0 → Q none (mk g s)) ∧ (¬ (s.1 120 55) ≤ 0 → vp_in ((s.1 120 55) - 1) 64 ∧ (((s.1 159 ((((s.1 120 55) - 1)).toNatClampNeg)) = 6 → Q none (mk g s)) ∧ (¬ (s.1 159 ((((s.1 120 55) - 1)).toNatClampNeg)) = 6 → ((x1 = 0 → (∀ s1_, s1_ = wi s 120 55 ((s.1 120 55) - 1) → (((s.1 159 ((((s.1 120 55) - 1)).toNatClampNeg)) = 8 → GV E m_Mo_emit [.ref 120, .int 2, .int 0] g s1_ (fun t2_ => AWP E m_Mo_comesOut 0 0 0 [(0, .ref 120), (1, .int x1)] [] (mk g t2_) Q)) ∧ (¬ (s.1 159 ((((s.1 120 55) - 1)).toNatClampNeg)) = 8 → (((s.1 159 ((((s.1 120 55) - 1)).toNatClampNeg)) = 9 → GV E m_Mo_emit [.ref 120, .int 3, .int 0] g s1_ (fun t3_ => AWP E m_Mo_comesOut 0 0 0 [(0, .ref 120), (1, .int x1)] [] (mk g t3_) Q)) ∧ (¬ (s.1 159 ((((s.1 120 55) - 1)).toNatClampNeg)) = 9 → (((s.1 159 ((((s.1 120 55) - 1)).toNatClampNeg)) = 10 → GV E m_Mo_emit [.ref 120, .int 4, .int 0] g s1_ (fun t4_ => AWP E m_Mo_comesOut 0 0 0 [(0, .ref 120), (1, .int x1)] [] (mk g t4_) Q)) ∧ (¬ (s.1 159 ((((s.1 120 55) - 1)).toNatClampNeg)) = 10 → GV E m_Mo_emit [.ref 120, .int 5, .int 0] g s1_ (fun t5_ => AWP E m_Mo_comesOut 0 0 0 [(0, .ref 120), (1, .int x1)] [] (mk g t5_) Q))))))))) ∧ (¬ x1 = 0 → (((s.1 159 ((((s.1 120 55) - 1)).toNatClampNeg)) = 8 → Q none (mk g s)) ∧ (¬ (s.1 159 ((((s.1 120 55) - 1)).toNatClampNeg)) = 8 → (((s.1 159 ((((s.1 120 55) - 1)).toNatClampNeg)) = 9 → Q none (mk g s)) ∧ (¬ (s.1 159 ((((s.1 120 55) - 1)).toNatClampNeg)) = 9 → (∀ s6_, s6_ = wi s 120 55 ((s.1 120 55) - 1) → (((s.1 159 ((((s.1 120 55) - 1)).toNatClampNeg)) = 8 → GV E m_Mo_emit [.ref 120, .int 2, .int 0] g s6_ (fun t7_ => AWP E m_Mo_comesOut 0 0 0 [(0, .ref 120), (1, .int x1)] [] (mk g t7_) Q)) ∧ (¬ (s.1 159 ((((s.1 120 55) - 1)).toNatClampNeg)) = 8 → (((s.1 159 ((((s.1 120 55) - 1)).toNatClampNeg)) = 9 → GV E m_Mo_emit [.ref 120, .int 3, .int 0] g s6_ (fun t8_ => AWP E m_Mo_comesOut 0 0 0 [(0, .ref 120), (1, .int x1)] [] (mk g t8_) Q)) ∧ (¬ (s.1 159 ((((s.1 120 55) - 1)).toNatClampNeg)) = 9 → (((s.1 159 ((((s.1 120 55) - 1)).toNatClampNeg)) = 10 → GV E m_Mo_emit [.ref 120, .int 4, .int 0] g s6_ (fun t9_ => AWP E m_Mo_comesOut 0 0 0 [(0, .ref 120), (1, .int x1)] [] (mk g t9_) Q)) ∧ (¬ (s.1 159 ((((s.1 120 55) - 1)).toNatClampNeg)) = 10 → GV E m_Mo_emit [.ref 120, .int 5, .int 0] g s6_ (fun t10_ => AWP E m_Mo_comesOut 0 0 0 [(0, .ref 120), (1, .int x1)] [] (mk g t10_) Q))))))))))))))))))) : AWP E m_Mo_comesOut 0 0 0 [(0, .ref 120), (1, .int x1)] [] (mk g s) Q := by
  refine aw_aload_n (q := 1) (j := 0) rfl rfl rfl (List.mem_of_getElem? (i := 0) rfl) ?_
  refine ag_getI (q := 4) rfl rfl fl_Mo_327 rfl (SX.o hS rfl) ?_
  refine aw_if_le (q := 7) (tgt := 91) rfl rfl (by decide) ⟨fun cd_1 => ?_, fun cd_1 => ?_⟩
  · replace h := h.1 cd_1
    exact aw_return rfl rfl (by decide) (by decide) h
  · replace h := h.2 cd_1
    refine aw_aload_n (q := 8) (j := 0) rfl rfl rfl (List.mem_of_getElem? (i := 0) rfl) ?_
    refine ag_getR (q := 11) rfl rfl fl_Mo_134 rfl (SX.o hS rfl) (SX.r hS rfl) ?_
    refine aw_aload_n (q := 12) (j := 0) rfl rfl rfl (List.mem_of_getElem? (i := 0) rfl) ?_
    refine ag_getI (q := 15) rfl rfl fl_Mo_327 rfl (SX.o hS rfl) ?_
    refine aw_iconst (q := 16) (v := 1) rfl rfl (by decide) ?_
    refine aw_isub (q := 17) rfl rfl ?_
    obtain ⟨bd_2, h⟩ := h
    refine ag_iaload (q := 18) (N := 64) rfl rfl (SX.a hS rfl) bd_2 ?_
    refine aw_istore_n (q := 19) (j := 2) (ls' := [(2, .int _), (0, .ref _), (1, .int _)]) rfl rfl rfl (by decide) rfl ?_
    refine aw_iload_n (q := 20) (j := 2) rfl rfl rfl (List.mem_of_getElem? (i := 0) rfl) ?_
    refine aw_bipush (q := 22) (v := 6) rfl rfl (by decide) ?_
    refine aw_icmp_eq (q := 25) (tgt := 41) rfl rfl (by decide) ⟨fun cd_3 => ?_, fun cd_3 => ?_⟩
    · replace h := h.1 cd_3
      exact aw_return rfl rfl (by decide) (by decide) h
    · replace h := h.2 cd_3
      refine aw_iload_n (q := 26) (j := 1) rfl rfl rfl (List.mem_of_getElem? (i := 2) rfl) ?_
      refine aw_if_eq (q := 29) (tgt := 42) rfl rfl (by decide) ⟨fun cd_4 => ?_, fun cd_4 => ?_⟩
      · replace h := h.1 cd_4
        refine aw_aload_n (q := 43) (j := 0) rfl rfl rfl (List.mem_of_getElem? (i := 1) rfl) ?_
        refine aw_dup (q := 44) rfl rfl rfl ?_
        refine ag_getI (q := 47) rfl rfl fl_Mo_327 rfl (SX.o hS rfl) ?_
        refine aw_iconst (q := 48) (v := 1) rfl rfl (by decide) ?_
        refine aw_isub (q := 49) rfl rfl ?_
        refine ag_putI (q := 52) rfl rfl fl_Mo_327 rfl rfl (SX.o hS rfl) ?_
        replace h := h _ rfl
        refine aw_aload_n (q := 53) (j := 0) rfl rfl rfl (List.mem_of_getElem? (i := 1) rfl) ?_
        refine aw_iload_n (q := 54) (j := 2) rfl rfl rfl (List.mem_of_getElem? (i := 0) rfl) ?_
        refine aw_bipush (q := 56) (v := 8) rfl rfl (by decide) ?_
        refine aw_icmp_ne (q := 59) (tgt := 63) rfl rfl (by decide) ⟨fun cd_5 => ?_, fun cd_5 => ?_⟩
        · replace h := h.1 cd_5
          refine aw_iconst (q := 60) (v := 2) rfl rfl (by decide) ?_
          refine aw_goto (tgt := 84) rfl (by decide) ?_
          refine aw_iconst (q := 85) (v := 0) rfl rfl (by decide) ?_
          refine ag_cvV (z := m_Mo_emit) (ci := 11) (av := [.int _, .int _]) (st := []) (q := 88) (k' := 0) (n' := 0) rfl rfl cv_Mo_330 ⟨by decide, by decide⟩ rfl rfl (by decide) (by decide) (SX.o hS rfl) rfl rfl rfl (Nat.le_of_ble_eq_true rfl) ?_
          refine GV.mono h (fun t2_ h => ?_)
          refine aw_goto (tgt := 0) rfl (by decide) ?_
          refine aw_ls [1, 2] rfl ?_
          exact h
        · replace h := h.2 cd_5
          refine aw_iload_n (q := 64) (j := 2) rfl rfl rfl (List.mem_of_getElem? (i := 0) rfl) ?_
          refine aw_bipush (q := 66) (v := 9) rfl rfl (by decide) ?_
          refine aw_icmp_ne (q := 69) (tgt := 73) rfl rfl (by decide) ⟨fun cd_6 => ?_, fun cd_6 => ?_⟩
          · replace h := h.1 cd_6
            refine aw_iconst (q := 70) (v := 3) rfl rfl (by decide) ?_
            refine aw_goto (tgt := 84) rfl (by decide) ?_
            refine aw_iconst (q := 85) (v := 0) rfl rfl (by decide) ?_
            refine ag_cvV (z := m_Mo_emit) (ci := 11) (av := [.int _, .int _]) (st := []) (q := 88) (k' := 0) (n' := 0) rfl rfl cv_Mo_330 ⟨by decide, by decide⟩ rfl rfl (by decide) (by decide) (SX.o hS rfl) rfl rfl rfl (Nat.le_of_ble_eq_true rfl) ?_
            refine GV.mono h (fun t3_ h => ?_)
            refine aw_goto (tgt := 0) rfl (by decide) ?_
            refine aw_ls [1, 2] rfl ?_
            exact h
          · replace h := h.2 cd_6
            refine aw_iload_n (q := 74) (j := 2) rfl rfl rfl (List.mem_of_getElem? (i := 0) rfl) ?_
            refine aw_bipush (q := 76) (v := 10) rfl rfl (by decide) ?_
            refine aw_icmp_ne (q := 79) (tgt := 83) rfl rfl (by decide) ⟨fun cd_7 => ?_, fun cd_7 => ?_⟩
            · replace h := h.1 cd_7
              refine aw_iconst (q := 80) (v := 4) rfl rfl (by decide) ?_
              refine aw_goto (tgt := 84) rfl (by decide) ?_
              refine aw_iconst (q := 85) (v := 0) rfl rfl (by decide) ?_
              refine ag_cvV (z := m_Mo_emit) (ci := 11) (av := [.int _, .int _]) (st := []) (q := 88) (k' := 0) (n' := 0) rfl rfl cv_Mo_330 ⟨by decide, by decide⟩ rfl rfl (by decide) (by decide) (SX.o hS rfl) rfl rfl rfl (Nat.le_of_ble_eq_true rfl) ?_
              refine GV.mono h (fun t4_ h => ?_)
              refine aw_goto (tgt := 0) rfl (by decide) ?_
              refine aw_ls [1, 2] rfl ?_
              exact h
            · replace h := h.2 cd_7
              refine aw_iconst (q := 84) (v := 5) rfl rfl (by decide) ?_
              refine aw_iconst (q := 85) (v := 0) rfl rfl (by decide) ?_
              refine ag_cvV (z := m_Mo_emit) (ci := 11) (av := [.int _, .int _]) (st := []) (q := 88) (k' := 0) (n' := 0) rfl rfl cv_Mo_330 ⟨by decide, by decide⟩ rfl rfl (by decide) (by decide) (SX.o hS rfl) rfl rfl rfl (Nat.le_of_ble_eq_true rfl) ?_
              refine GV.mono h (fun t5_ h => ?_)
              refine aw_goto (tgt := 0) rfl (by decide) ?_
              refine aw_ls [1, 2] rfl ?_
              exact h
      · replace h := h.2 cd_4
        refine aw_iload_n (q := 30) (j := 2) rfl rfl rfl (List.mem_of_getElem? (i := 0) rfl) ?_
        refine aw_bipush (q := 32) (v := 8) rfl rfl (by decide) ?_
        refine aw_icmp_eq (q := 35) (tgt := 41) rfl rfl (by decide) ⟨fun cd_8 => ?_, fun cd_8 => ?_⟩
        · replace h := h.1 cd_8
          exact aw_return rfl rfl (by decide) (by decide) h
        · replace h := h.2 cd_8
          refine aw_iload_n (q := 36) (j := 2) rfl rfl rfl (List.mem_of_getElem? (i := 0) rfl) ?_
          refine aw_bipush (q := 38) (v := 9) rfl rfl (by decide) ?_
          refine aw_icmp_ne (q := 41) (tgt := 42) rfl rfl (by decide) ⟨fun cd_9 => ?_, fun cd_9 => ?_⟩
          · replace h := h.1 cd_9
            exact aw_return rfl rfl (by decide) (by decide) h
          · replace h := h.2 cd_9
            refine aw_aload_n (q := 43) (j := 0) rfl rfl rfl (List.mem_of_getElem? (i := 1) rfl) ?_
            refine aw_dup (q := 44) rfl rfl rfl ?_
            refine ag_getI (q := 47) rfl rfl fl_Mo_327 rfl (SX.o hS rfl) ?_
            refine aw_iconst (q := 48) (v := 1) rfl rfl (by decide) ?_
            refine aw_isub (q := 49) rfl rfl ?_
            refine ag_putI (q := 52) rfl rfl fl_Mo_327 rfl rfl (SX.o hS rfl) ?_
            replace h := h _ rfl
            refine aw_aload_n (q := 53) (j := 0) rfl rfl rfl (List.mem_of_getElem? (i := 1) rfl) ?_
            refine aw_iload_n (q := 54) (j := 2) rfl rfl rfl (List.mem_of_getElem? (i := 0) rfl) ?_
            refine aw_bipush (q := 56) (v := 8) rfl rfl (by decide) ?_
            refine aw_icmp_ne (q := 59) (tgt := 63) rfl rfl (by decide) ⟨fun cd_10 => ?_, fun cd_10 => ?_⟩
            · replace h := h.1 cd_10
              refine aw_iconst (q := 60) (v := 2) rfl rfl (by decide) ?_
              refine aw_goto (tgt := 84) rfl (by decide) ?_
              refine aw_iconst (q := 85) (v := 0) rfl rfl (by decide) ?_
              refine ag_cvV (z := m_Mo_emit) (ci := 11) (av := [.int _, .int _]) (st := []) (q := 88) (k' := 0) (n' := 0) rfl rfl cv_Mo_330 ⟨by decide, by decide⟩ rfl rfl (by decide) (by decide) (SX.o hS rfl) rfl rfl rfl (Nat.le_of_ble_eq_true rfl) ?_
              refine GV.mono h (fun t7_ h => ?_)
              refine aw_goto (tgt := 0) rfl (by decide) ?_
              refine aw_ls [1, 2] rfl ?_
              exact h
            · replace h := h.2 cd_10
              refine aw_iload_n (q := 64) (j := 2) rfl rfl rfl (List.mem_of_getElem? (i := 0) rfl) ?_
              refine aw_bipush (q := 66) (v := 9) rfl rfl (by decide) ?_
              refine aw_icmp_ne (q := 69) (tgt := 73) rfl rfl (by decide) ⟨fun cd_11 => ?_, fun cd_11 => ?_⟩
              · replace h := h.1 cd_11
                refine aw_iconst (q := 70) (v := 3) rfl rfl (by decide) ?_
                refine aw_goto (tgt := 84) rfl (by decide) ?_
                refine aw_iconst (q := 85) (v := 0) rfl rfl (by decide) ?_
                refine ag_cvV (z := m_Mo_emit) (ci := 11) (av := [.int _, .int _]) (st := []) (q := 88) (k' := 0) (n' := 0) rfl rfl cv_Mo_330 ⟨by decide, by decide⟩ rfl rfl (by decide) (by decide) (SX.o hS rfl) rfl rfl rfl (Nat.le_of_ble_eq_true rfl) ?_
                refine GV.mono h (fun t8_ h => ?_)
                refine aw_goto (tgt := 0) rfl (by decide) ?_
                refine aw_ls [1, 2] rfl ?_
                exact h
              · replace h := h.2 cd_11
                refine aw_iload_n (q := 74) (j := 2) rfl rfl rfl (List.mem_of_getElem? (i := 0) rfl) ?_
                refine aw_bipush (q := 76) (v := 10) rfl rfl (by decide) ?_
                refine aw_icmp_ne (q := 79) (tgt := 83) rfl rfl (by decide) ⟨fun cd_12 => ?_, fun cd_12 => ?_⟩
                · replace h := h.1 cd_12
                  refine aw_iconst (q := 80) (v := 4) rfl rfl (by decide) ?_
                  refine aw_goto (tgt := 84) rfl (by decide) ?_
                  refine aw_iconst (q := 85) (v := 0) rfl rfl (by decide) ?_
                  refine ag_cvV (z := m_Mo_emit) (ci := 11) (av := [.int _, .int _]) (st := []) (q := 88) (k' := 0) (n' := 0) rfl rfl cv_Mo_330 ⟨by decide, by decide⟩ rfl rfl (by decide) (by decide) (SX.o hS rfl) rfl rfl rfl (Nat.le_of_ble_eq_true rfl) ?_
                  refine GV.mono h (fun t9_ h => ?_)
                  refine aw_goto (tgt := 0) rfl (by decide) ?_
                  refine aw_ls [1, 2] rfl ?_
                  exact h
                · replace h := h.2 cd_12
                  refine aw_iconst (q := 84) (v := 5) rfl rfl (by decide) ?_
                  refine aw_iconst (q := 85) (v := 0) rfl rfl (by decide) ?_
                  refine ag_cvV (z := m_Mo_emit) (ci := 11) (av := [.int _, .int _]) (st := []) (q := 88) (k' := 0) (n' := 0) rfl rfl cv_Mo_330 ⟨by decide, by decide⟩ rfl rfl (by decide) (by decide) (SX.o hS rfl) rfl rfl rfl (Nat.le_of_ble_eq_true rfl) ?_
                  refine GV.mono h (fun t10_ h => ?_)
                  refine aw_goto (tgt := 0) rfl (by decide) ?_
                  refine aw_ls [1, 2] rfl ?_
                  exact h
set_option maxRecDepth 20000 in
theorem v_Mo_comesOut {E : EN} {g : GS} {s : MS} {Q : Option Value → SG → Prop} (x1 : Int32) (hS : SX g) (h : (((s.1 120 55) ≤ 0 → Q none (mk g s)) ∧ (¬ (s.1 120 55) ≤ 0 → vp_in ((s.1 120 55) - 1) 64 ∧ (((s.1 159 ((((s.1 120 55) - 1)).toNatClampNeg)) = 6 → Q none (mk g s)) ∧ (¬ (s.1 159 ((((s.1 120 55) - 1)).toNatClampNeg)) = 6 → ((x1 = 0 → (∀ s1_, s1_ = wi s 120 55 ((s.1 120 55) - 1) → (((s.1 159 ((((s.1 120 55) - 1)).toNatClampNeg)) = 8 → GV E m_Mo_emit [.ref 120, .int 2, .int 0] g s1_ (fun t2_ => AWP E m_Mo_comesOut 0 0 0 [(0, .ref 120), (1, .int x1)] [] (mk g t2_) Q)) ∧ (¬ (s.1 159 ((((s.1 120 55) - 1)).toNatClampNeg)) = 8 → (((s.1 159 ((((s.1 120 55) - 1)).toNatClampNeg)) = 9 → GV E m_Mo_emit [.ref 120, .int 3, .int 0] g s1_ (fun t3_ => AWP E m_Mo_comesOut 0 0 0 [(0, .ref 120), (1, .int x1)] [] (mk g t3_) Q)) ∧ (¬ (s.1 159 ((((s.1 120 55) - 1)).toNatClampNeg)) = 9 → (((s.1 159 ((((s.1 120 55) - 1)).toNatClampNeg)) = 10 → GV E m_Mo_emit [.ref 120, .int 4, .int 0] g s1_ (fun t4_ => AWP E m_Mo_comesOut 0 0 0 [(0, .ref 120), (1, .int x1)] [] (mk g t4_) Q)) ∧ (¬ (s.1 159 ((((s.1 120 55) - 1)).toNatClampNeg)) = 10 → GV E m_Mo_emit [.ref 120, .int 5, .int 0] g s1_ (fun t5_ => AWP E m_Mo_comesOut 0 0 0 [(0, .ref 120), (1, .int x1)] [] (mk g t5_) Q))))))))) ∧ (¬ x1 = 0 → (((s.1 159 ((((s.1 120 55) - 1)).toNatClampNeg)) = 8 → Q none (mk g s)) ∧ (¬ (s.1 159 ((((s.1 120 55) - 1)).toNatClampNeg)) = 8 → (((s.1 159 ((((s.1 120 55) - 1)).toNatClampNeg)) = 9 → Q none (mk g s)) ∧ (¬ (s.1 159 ((((s.1 120 55) - 1)).toNatClampNeg)) = 9 → (∀ s6_, s6_ = wi s 120 55 ((s.1 120 55) - 1) → (((s.1 159 ((((s.1 120 55) - 1)).toNatClampNeg)) = 8 → GV E m_Mo_emit [.ref 120, .int 2, .int 0] g s6_ (fun t7_ => AWP E m_Mo_comesOut 0 0 0 [(0, .ref 120), (1, .int x1)] [] (mk g t7_) Q)) ∧ (¬ (s.1 159 ((((s.1 120 55) - 1)).toNatClampNeg)) = 8 → (((s.1 159 ((((s.1 120 55) - 1)).toNatClampNeg)) = 9 → GV E m_Mo_emit [.ref 120, .int 3, .int 0] g s6_ (fun t8_ => AWP E m_Mo_comesOut 0 0 0 [(0, .ref 120), (1, .int x1)] [] (mk g t8_) Q)) ∧ (¬ (s.1 159 ((((s.1 120 55) - 1)).toNatClampNeg)) = 9 → (((s.1 159 ((((s.1 120 55) - 1)).toNatClampNeg)) = 10 → GV E m_Mo_emit [.ref 120, .int 4, .int 0] g s6_ (fun t9_ => AWP E m_Mo_comesOut 0 0 0 [(0, .ref 120), (1, .int x1)] [] (mk g t9_) Q)) ∧ (¬ (s.1 159 ((((s.1 120 55) - 1)).toNatClampNeg)) = 10 → GV E m_Mo_emit [.ref 120, .int 5, .int 0] g s6_ (fun t10_ => AWP E m_Mo_comesOut 0 0 0 [(0, .ref 120), (1, .int x1)] [] (mk g t10_) Q))))))))))))))))))) : AMet E m_Mo_comesOut [.ref 120, .int x1] (mk g s) Q := by
  refine AMet.of (by decide) k_Mo_comesOut [(0, .ref 120), (1, .int x1)] (Nat.le_of_ble_eq_true rfl) rfl ?_
  refine aw_aload_n (q := 1) (j := 0) rfl rfl rfl (List.mem_of_getElem? (i := 0) rfl) ?_
  refine ag_getI (q := 4) rfl rfl fl_Mo_327 rfl (SX.o hS rfl) ?_
  refine aw_if_le (q := 7) (tgt := 91) rfl rfl (by decide) ⟨fun cd_1 => ?_, fun cd_1 => ?_⟩
  · replace h := h.1 cd_1
    exact aw_return rfl rfl (by decide) (by decide) h
  · replace h := h.2 cd_1
    refine aw_aload_n (q := 8) (j := 0) rfl rfl rfl (List.mem_of_getElem? (i := 0) rfl) ?_
    refine ag_getR (q := 11) rfl rfl fl_Mo_134 rfl (SX.o hS rfl) (SX.r hS rfl) ?_
    refine aw_aload_n (q := 12) (j := 0) rfl rfl rfl (List.mem_of_getElem? (i := 0) rfl) ?_
    refine ag_getI (q := 15) rfl rfl fl_Mo_327 rfl (SX.o hS rfl) ?_
    refine aw_iconst (q := 16) (v := 1) rfl rfl (by decide) ?_
    refine aw_isub (q := 17) rfl rfl ?_
    obtain ⟨bd_2, h⟩ := h
    refine ag_iaload (q := 18) (N := 64) rfl rfl (SX.a hS rfl) bd_2 ?_
    refine aw_istore_n (q := 19) (j := 2) (ls' := [(2, .int _), (0, .ref _), (1, .int _)]) rfl rfl rfl (by decide) rfl ?_
    refine aw_iload_n (q := 20) (j := 2) rfl rfl rfl (List.mem_of_getElem? (i := 0) rfl) ?_
    refine aw_bipush (q := 22) (v := 6) rfl rfl (by decide) ?_
    refine aw_icmp_eq (q := 25) (tgt := 41) rfl rfl (by decide) ⟨fun cd_3 => ?_, fun cd_3 => ?_⟩
    · replace h := h.1 cd_3
      exact aw_return rfl rfl (by decide) (by decide) h
    · replace h := h.2 cd_3
      refine aw_iload_n (q := 26) (j := 1) rfl rfl rfl (List.mem_of_getElem? (i := 2) rfl) ?_
      refine aw_if_eq (q := 29) (tgt := 42) rfl rfl (by decide) ⟨fun cd_4 => ?_, fun cd_4 => ?_⟩
      · replace h := h.1 cd_4
        refine aw_aload_n (q := 43) (j := 0) rfl rfl rfl (List.mem_of_getElem? (i := 1) rfl) ?_
        refine aw_dup (q := 44) rfl rfl rfl ?_
        refine ag_getI (q := 47) rfl rfl fl_Mo_327 rfl (SX.o hS rfl) ?_
        refine aw_iconst (q := 48) (v := 1) rfl rfl (by decide) ?_
        refine aw_isub (q := 49) rfl rfl ?_
        refine ag_putI (q := 52) rfl rfl fl_Mo_327 rfl rfl (SX.o hS rfl) ?_
        replace h := h _ rfl
        refine aw_aload_n (q := 53) (j := 0) rfl rfl rfl (List.mem_of_getElem? (i := 1) rfl) ?_
        refine aw_iload_n (q := 54) (j := 2) rfl rfl rfl (List.mem_of_getElem? (i := 0) rfl) ?_
        refine aw_bipush (q := 56) (v := 8) rfl rfl (by decide) ?_
        refine aw_icmp_ne (q := 59) (tgt := 63) rfl rfl (by decide) ⟨fun cd_5 => ?_, fun cd_5 => ?_⟩
        · replace h := h.1 cd_5
          refine aw_iconst (q := 60) (v := 2) rfl rfl (by decide) ?_
          refine aw_goto (tgt := 84) rfl (by decide) ?_
          refine aw_iconst (q := 85) (v := 0) rfl rfl (by decide) ?_
          refine ag_cvV (z := m_Mo_emit) (ci := 11) (av := [.int _, .int _]) (st := []) (q := 88) (k' := 0) (n' := 0) rfl rfl cv_Mo_330 ⟨by decide, by decide⟩ rfl rfl (by decide) (by decide) (SX.o hS rfl) rfl rfl rfl (Nat.le_of_ble_eq_true rfl) ?_
          refine GV.mono h (fun t2_ h => ?_)
          refine aw_goto (tgt := 0) rfl (by decide) ?_
          refine aw_ls [1, 2] rfl ?_
          exact h
        · replace h := h.2 cd_5
          refine aw_iload_n (q := 64) (j := 2) rfl rfl rfl (List.mem_of_getElem? (i := 0) rfl) ?_
          refine aw_bipush (q := 66) (v := 9) rfl rfl (by decide) ?_
          refine aw_icmp_ne (q := 69) (tgt := 73) rfl rfl (by decide) ⟨fun cd_6 => ?_, fun cd_6 => ?_⟩
          · replace h := h.1 cd_6
            refine aw_iconst (q := 70) (v := 3) rfl rfl (by decide) ?_
            refine aw_goto (tgt := 84) rfl (by decide) ?_
            refine aw_iconst (q := 85) (v := 0) rfl rfl (by decide) ?_
            refine ag_cvV (z := m_Mo_emit) (ci := 11) (av := [.int _, .int _]) (st := []) (q := 88) (k' := 0) (n' := 0) rfl rfl cv_Mo_330 ⟨by decide, by decide⟩ rfl rfl (by decide) (by decide) (SX.o hS rfl) rfl rfl rfl (Nat.le_of_ble_eq_true rfl) ?_
            refine GV.mono h (fun t3_ h => ?_)
            refine aw_goto (tgt := 0) rfl (by decide) ?_
            refine aw_ls [1, 2] rfl ?_
            exact h
          · replace h := h.2 cd_6
            refine aw_iload_n (q := 74) (j := 2) rfl rfl rfl (List.mem_of_getElem? (i := 0) rfl) ?_
            refine aw_bipush (q := 76) (v := 10) rfl rfl (by decide) ?_
            refine aw_icmp_ne (q := 79) (tgt := 83) rfl rfl (by decide) ⟨fun cd_7 => ?_, fun cd_7 => ?_⟩
            · replace h := h.1 cd_7
              refine aw_iconst (q := 80) (v := 4) rfl rfl (by decide) ?_
              refine aw_goto (tgt := 84) rfl (by decide) ?_
              refine aw_iconst (q := 85) (v := 0) rfl rfl (by decide) ?_
              refine ag_cvV (z := m_Mo_emit) (ci := 11) (av := [.int _, .int _]) (st := []) (q := 88) (k' := 0) (n' := 0) rfl rfl cv_Mo_330 ⟨by decide, by decide⟩ rfl rfl (by decide) (by decide) (SX.o hS rfl) rfl rfl rfl (Nat.le_of_ble_eq_true rfl) ?_
              refine GV.mono h (fun t4_ h => ?_)
              refine aw_goto (tgt := 0) rfl (by decide) ?_
              refine aw_ls [1, 2] rfl ?_
              exact h
            · replace h := h.2 cd_7
              refine aw_iconst (q := 84) (v := 5) rfl rfl (by decide) ?_
              refine aw_iconst (q := 85) (v := 0) rfl rfl (by decide) ?_
              refine ag_cvV (z := m_Mo_emit) (ci := 11) (av := [.int _, .int _]) (st := []) (q := 88) (k' := 0) (n' := 0) rfl rfl cv_Mo_330 ⟨by decide, by decide⟩ rfl rfl (by decide) (by decide) (SX.o hS rfl) rfl rfl rfl (Nat.le_of_ble_eq_true rfl) ?_
              refine GV.mono h (fun t5_ h => ?_)
              refine aw_goto (tgt := 0) rfl (by decide) ?_
              refine aw_ls [1, 2] rfl ?_
              exact h
      · replace h := h.2 cd_4
        refine aw_iload_n (q := 30) (j := 2) rfl rfl rfl (List.mem_of_getElem? (i := 0) rfl) ?_
        refine aw_bipush (q := 32) (v := 8) rfl rfl (by decide) ?_
        refine aw_icmp_eq (q := 35) (tgt := 41) rfl rfl (by decide) ⟨fun cd_8 => ?_, fun cd_8 => ?_⟩
        · replace h := h.1 cd_8
          exact aw_return rfl rfl (by decide) (by decide) h
        · replace h := h.2 cd_8
          refine aw_iload_n (q := 36) (j := 2) rfl rfl rfl (List.mem_of_getElem? (i := 0) rfl) ?_
          refine aw_bipush (q := 38) (v := 9) rfl rfl (by decide) ?_
          refine aw_icmp_ne (q := 41) (tgt := 42) rfl rfl (by decide) ⟨fun cd_9 => ?_, fun cd_9 => ?_⟩
          · replace h := h.1 cd_9
            exact aw_return rfl rfl (by decide) (by decide) h
          · replace h := h.2 cd_9
            refine aw_aload_n (q := 43) (j := 0) rfl rfl rfl (List.mem_of_getElem? (i := 1) rfl) ?_
            refine aw_dup (q := 44) rfl rfl rfl ?_
            refine ag_getI (q := 47) rfl rfl fl_Mo_327 rfl (SX.o hS rfl) ?_
            refine aw_iconst (q := 48) (v := 1) rfl rfl (by decide) ?_
            refine aw_isub (q := 49) rfl rfl ?_
            refine ag_putI (q := 52) rfl rfl fl_Mo_327 rfl rfl (SX.o hS rfl) ?_
            replace h := h _ rfl
            refine aw_aload_n (q := 53) (j := 0) rfl rfl rfl (List.mem_of_getElem? (i := 1) rfl) ?_
            refine aw_iload_n (q := 54) (j := 2) rfl rfl rfl (List.mem_of_getElem? (i := 0) rfl) ?_
            refine aw_bipush (q := 56) (v := 8) rfl rfl (by decide) ?_
            refine aw_icmp_ne (q := 59) (tgt := 63) rfl rfl (by decide) ⟨fun cd_10 => ?_, fun cd_10 => ?_⟩
            · replace h := h.1 cd_10
              refine aw_iconst (q := 60) (v := 2) rfl rfl (by decide) ?_
              refine aw_goto (tgt := 84) rfl (by decide) ?_
              refine aw_iconst (q := 85) (v := 0) rfl rfl (by decide) ?_
              refine ag_cvV (z := m_Mo_emit) (ci := 11) (av := [.int _, .int _]) (st := []) (q := 88) (k' := 0) (n' := 0) rfl rfl cv_Mo_330 ⟨by decide, by decide⟩ rfl rfl (by decide) (by decide) (SX.o hS rfl) rfl rfl rfl (Nat.le_of_ble_eq_true rfl) ?_
              refine GV.mono h (fun t7_ h => ?_)
              refine aw_goto (tgt := 0) rfl (by decide) ?_
              refine aw_ls [1, 2] rfl ?_
              exact h
            · replace h := h.2 cd_10
              refine aw_iload_n (q := 64) (j := 2) rfl rfl rfl (List.mem_of_getElem? (i := 0) rfl) ?_
              refine aw_bipush (q := 66) (v := 9) rfl rfl (by decide) ?_
              refine aw_icmp_ne (q := 69) (tgt := 73) rfl rfl (by decide) ⟨fun cd_11 => ?_, fun cd_11 => ?_⟩
              · replace h := h.1 cd_11
                refine aw_iconst (q := 70) (v := 3) rfl rfl (by decide) ?_
                refine aw_goto (tgt := 84) rfl (by decide) ?_
                refine aw_iconst (q := 85) (v := 0) rfl rfl (by decide) ?_
                refine ag_cvV (z := m_Mo_emit) (ci := 11) (av := [.int _, .int _]) (st := []) (q := 88) (k' := 0) (n' := 0) rfl rfl cv_Mo_330 ⟨by decide, by decide⟩ rfl rfl (by decide) (by decide) (SX.o hS rfl) rfl rfl rfl (Nat.le_of_ble_eq_true rfl) ?_
                refine GV.mono h (fun t8_ h => ?_)
                refine aw_goto (tgt := 0) rfl (by decide) ?_
                refine aw_ls [1, 2] rfl ?_
                exact h
              · replace h := h.2 cd_11
                refine aw_iload_n (q := 74) (j := 2) rfl rfl rfl (List.mem_of_getElem? (i := 0) rfl) ?_
                refine aw_bipush (q := 76) (v := 10) rfl rfl (by decide) ?_
                refine aw_icmp_ne (q := 79) (tgt := 83) rfl rfl (by decide) ⟨fun cd_12 => ?_, fun cd_12 => ?_⟩
                · replace h := h.1 cd_12
                  refine aw_iconst (q := 80) (v := 4) rfl rfl (by decide) ?_
                  refine aw_goto (tgt := 84) rfl (by decide) ?_
                  refine aw_iconst (q := 85) (v := 0) rfl rfl (by decide) ?_
                  refine ag_cvV (z := m_Mo_emit) (ci := 11) (av := [.int _, .int _]) (st := []) (q := 88) (k' := 0) (n' := 0) rfl rfl cv_Mo_330 ⟨by decide, by decide⟩ rfl rfl (by decide) (by decide) (SX.o hS rfl) rfl rfl rfl (Nat.le_of_ble_eq_true rfl) ?_
                  refine GV.mono h (fun t9_ h => ?_)
                  refine aw_goto (tgt := 0) rfl (by decide) ?_
                  refine aw_ls [1, 2] rfl ?_
                  exact h
                · replace h := h.2 cd_12
                  refine aw_iconst (q := 84) (v := 5) rfl rfl (by decide) ?_
                  refine aw_iconst (q := 85) (v := 0) rfl rfl (by decide) ?_
                  refine ag_cvV (z := m_Mo_emit) (ci := 11) (av := [.int _, .int _]) (st := []) (q := 88) (k' := 0) (n' := 0) rfl rfl cv_Mo_330 ⟨by decide, by decide⟩ rfl rfl (by decide) (by decide) (SX.o hS rfl) rfl rfl rfl (Nat.le_of_ble_eq_true rfl) ?_
                  refine GV.mono h (fun t10_ h => ?_)
                  refine aw_goto (tgt := 0) rfl (by decide) ?_
                  refine aw_ls [1, 2] rfl ?_
                  exact h
set_option maxRecDepth 20000 in
theorem v_Mo_term {E : EN} {g : GS} {s : MS} {Q : Option Value → SG → Prop}  (hS : SX g) (h : vp_in (s.1 120 45) 260 ∧ (∀ s1_, s1_ = wi s 155 (((s.1 120 45)).toNatClampNeg) (s.1 120 51) → (((s.1 120 13) = 0 → GV E m_Mo_expression [.ref 120] g s1_ (fun t2_ => vp_in (t2_.1 120 45) 260 ∧ (∀ s3_, s3_ = wi t2_ 156 (((t2_.1 120 45)).toNatClampNeg) (t2_.1 120 51) → (∀ s4_, s4_ = wi s3_ 120 45 ((t2_.1 120 45) + 1) → Q none (mk g s4_))))) ∧ (¬ (s.1 120 13) = 0 → (∀ s5_, s5_ = wi s1_ 156 (((s.1 120 45)).toNatClampNeg) (s.1 120 51) → (∀ s6_, s6_ = wi s5_ 120 45 ((s.1 120 45) + 1) → Q none (mk g s6_))))))) : AMet E m_Mo_term [.ref 120] (mk g s) Q := by
  refine AMet.of (by decide) k_Mo_term [(0, .ref 120)] (Nat.le_of_ble_eq_true rfl) rfl ?_
  refine aw_aload_n (q := 1) (j := 0) rfl rfl rfl (List.mem_of_getElem? (i := 0) rfl) ?_
  refine ag_getR (q := 4) rfl rfl fl_Mo_122 rfl (SX.o hS rfl) (SX.r hS rfl) ?_
  refine aw_aload_n (q := 5) (j := 0) rfl rfl rfl (List.mem_of_getElem? (i := 0) rfl) ?_
  refine ag_getI (q := 8) rfl rfl fl_Mo_266 rfl (SX.o hS rfl) ?_
  refine aw_aload_n (q := 9) (j := 0) rfl rfl rfl (List.mem_of_getElem? (i := 0) rfl) ?_
  refine ag_getI (q := 12) rfl rfl fl_Mo_269 rfl (SX.o hS rfl) ?_
  obtain ⟨bd_1, h⟩ := h
  refine ag_iastore (q := 13) (N := 260) rfl rfl (SX.a hS rfl) bd_1 ?_
  replace h := h _ rfl
  refine aw_aload_n (q := 14) (j := 0) rfl rfl rfl (List.mem_of_getElem? (i := 0) rfl) ?_
  refine ag_getI (q := 17) rfl rfl fl_Mo_227 rfl (SX.o hS rfl) ?_
  refine aw_if_ne (q := 20) (tgt := 24) rfl rfl (by decide) ⟨fun cd_2 => ?_, fun cd_2 => ?_⟩
  · replace h := h.1 cd_2
    refine aw_aload_n (q := 21) (j := 0) rfl rfl rfl (List.mem_of_getElem? (i := 0) rfl) ?_
    refine ag_cvV (z := m_Mo_expression) (ci := 11) (av := []) (st := []) (q := 24) (k' := 0) (n' := 0) rfl rfl cv_Mo_321 ⟨by decide, by decide⟩ rfl rfl (by decide) (by decide) (SX.o hS rfl) rfl rfl rfl (Nat.le_of_ble_eq_true rfl) ?_
    refine GV.mono h (fun t2_ h => ?_)
    refine aw_aload_n (q := 25) (j := 0) rfl rfl rfl (List.mem_of_getElem? (i := 0) rfl) ?_
    refine ag_getR (q := 28) rfl rfl fl_Mo_125 rfl (SX.o hS rfl) (SX.r hS rfl) ?_
    refine aw_aload_n (q := 29) (j := 0) rfl rfl rfl (List.mem_of_getElem? (i := 0) rfl) ?_
    refine ag_getI (q := 32) rfl rfl fl_Mo_266 rfl (SX.o hS rfl) ?_
    refine aw_aload_n (q := 33) (j := 0) rfl rfl rfl (List.mem_of_getElem? (i := 0) rfl) ?_
    refine ag_getI (q := 36) rfl rfl fl_Mo_269 rfl (SX.o hS rfl) ?_
    obtain ⟨bd_3, h⟩ := h
    refine ag_iastore (q := 37) (N := 260) rfl rfl (SX.a hS rfl) bd_3 ?_
    replace h := h _ rfl
    refine aw_aload_n (q := 38) (j := 0) rfl rfl rfl (List.mem_of_getElem? (i := 0) rfl) ?_
    refine aw_dup (q := 39) rfl rfl rfl ?_
    refine ag_getI (q := 42) rfl rfl fl_Mo_266 rfl (SX.o hS rfl) ?_
    refine aw_iconst (q := 43) (v := 1) rfl rfl (by decide) ?_
    refine aw_iadd (q := 44) rfl rfl ?_
    refine ag_putI (q := 47) rfl rfl fl_Mo_266 rfl rfl (SX.o hS rfl) ?_
    replace h := h _ rfl
    exact aw_return rfl rfl (by decide) (by decide) h
  · replace h := h.2 cd_2
    refine aw_aload_n (q := 25) (j := 0) rfl rfl rfl (List.mem_of_getElem? (i := 0) rfl) ?_
    refine ag_getR (q := 28) rfl rfl fl_Mo_125 rfl (SX.o hS rfl) (SX.r hS rfl) ?_
    refine aw_aload_n (q := 29) (j := 0) rfl rfl rfl (List.mem_of_getElem? (i := 0) rfl) ?_
    refine ag_getI (q := 32) rfl rfl fl_Mo_266 rfl (SX.o hS rfl) ?_
    refine aw_aload_n (q := 33) (j := 0) rfl rfl rfl (List.mem_of_getElem? (i := 0) rfl) ?_
    refine ag_getI (q := 36) rfl rfl fl_Mo_269 rfl (SX.o hS rfl) ?_
    refine ag_iastore (q := 37) (N := 260) rfl rfl (SX.a hS rfl) bd_1 ?_
    replace h := h _ rfl
    refine aw_aload_n (q := 38) (j := 0) rfl rfl rfl (List.mem_of_getElem? (i := 0) rfl) ?_
    refine aw_dup (q := 39) rfl rfl rfl ?_
    refine ag_getI (q := 42) rfl rfl fl_Mo_266 rfl (SX.o hS rfl) ?_
    refine aw_iconst (q := 43) (v := 1) rfl rfl (by decide) ?_
    refine aw_iadd (q := 44) rfl rfl ?_
    refine ag_putI (q := 47) rfl rfl fl_Mo_266 rfl rfl (SX.o hS rfl) ?_
    replace h := h _ rfl
    exact aw_return rfl rfl (by decide) (by decide) h
set_option maxRecDepth 20000 in
theorem v_Mo_place {E : EN} {g : GS} {s : MS} {Q : Option Value → SG → Prop}  (hS : SX g) (h : Q (some (.int (s.1 120 17))) (mk g s)) : AMet E m_Mo_place [.ref 120] (mk g s) Q := by
  refine AMet.of (by decide) k_Mo_place [(0, .ref 120)] (Nat.le_of_ble_eq_true rfl) rfl ?_
  refine aw_aload_n (q := 1) (j := 0) rfl rfl rfl (List.mem_of_getElem? (i := 0) rfl) ?_
  refine ag_getI (q := 4) rfl rfl fl_Mo_37 rfl (SX.o hS rfl) ?_
  exact aw_ireturn (ty := .int) rfl rfl rfl (by decide) (by decide) h
set_option maxRecDepth 20000 in
theorem v_Mo_heap {E : EN} {g : GS} {s : MS} {Q : Option Value → SG → Prop} (x1 : Int32) (hS : SX g) (h : GI E m_Mo_isGrain [.ref 120, .int x1] g s (fun y1_ t1_ => ((y1_ = 0 → Q (some (.int (-1))) (mk g t1_)) ∧ (¬ y1_ = 0 → vp_in x1 120 ∧ Q (some (.int (t1_.1 162 ((x1).toNatClampNeg)))) (mk g t1_))))) : AMet E m_Mo_heap [.ref 120, .int x1] (mk g s) Q := by
  refine AMet.of (by decide) k_Mo_heap [(0, .ref 120), (1, .int x1)] (Nat.le_of_ble_eq_true rfl) rfl ?_
  refine aw_aload_n (q := 1) (j := 0) rfl rfl rfl (List.mem_of_getElem? (i := 0) rfl) ?_
  refine aw_iload_n (q := 2) (j := 1) rfl rfl rfl (List.mem_of_getElem? (i := 1) rfl) ?_
  refine ag_cvI (z := m_Mo_isGrain) (ci := 11) (av := [.int _]) (st := []) (q := 5) (k' := 0) (n' := 0) rfl rfl cv_Mo_386 ⟨by decide, by decide⟩ rfl rfl (by decide) (by decide) (SX.o hS rfl) rfl rfl rfl (Nat.le_of_ble_eq_true rfl) ?_
  refine GI.mono h (fun y1_ t1_ h => ?_)
  refine aw_if_eq (q := 8) (tgt := 17) rfl rfl (by decide) ⟨fun cd_1 => ?_, fun cd_1 => ?_⟩
  · replace h := h.1 cd_1
    refine aw_iconst (q := 18) (v := (-1)) rfl rfl (by decide) ?_
    exact aw_ireturn (ty := .int) rfl rfl rfl (by decide) (by decide) h
  · replace h := h.2 cd_1
    refine aw_aload_n (q := 9) (j := 0) rfl rfl rfl (List.mem_of_getElem? (i := 0) rfl) ?_
    refine ag_getR (q := 12) rfl rfl fl_Mo_143 rfl (SX.o hS rfl) (SX.r hS rfl) ?_
    refine aw_iload_n (q := 13) (j := 1) rfl rfl rfl (List.mem_of_getElem? (i := 1) rfl) ?_
    obtain ⟨bd_2, h⟩ := h
    refine ag_iaload (q := 14) (N := 120) rfl rfl (SX.a hS rfl) bd_2 ?_
    refine aw_goto (tgt := 18) rfl (by decide) ?_
    exact aw_ireturn (ty := .int) rfl rfl rfl (by decide) (by decide) h
set_option maxRecDepth 20000 in
theorem v_Mo_isGrain {E : EN} {g : GS} {s : MS} {Q : Option Value → SG → Prop} (x1 : Int32) (hS : SX g) (h : vp_in (s.1 120 18) 2 ∧ GI E m_Mo_in [.int x1, .int 0, .int ((s.1 131 (((s.1 120 18)).toNatClampNeg)) - 1)] g s (fun y1_ t1_ => (y1_ = 0 ∨ y1_ = 1) ∧ Q (some (.int y1_)) (mk g t1_))) : AMet E m_Mo_isGrain [.ref 120, .int x1] (mk g s) Q := by
  refine AMet.of (by decide) k_Mo_isGrain [(0, .ref 120), (1, .int x1)] (Nat.le_of_ble_eq_true rfl) rfl ?_
  refine aw_iload_n (q := 1) (j := 1) rfl rfl rfl (List.mem_of_getElem? (i := 1) rfl) ?_
  refine aw_iconst (q := 2) (v := 0) rfl rfl (by decide) ?_
  refine aw_aload_n (q := 3) (j := 0) rfl rfl rfl (List.mem_of_getElem? (i := 0) rfl) ?_
  refine ag_getR (q := 6) rfl rfl fl_Mo_49 rfl (SX.o hS rfl) (SX.r hS rfl) ?_
  refine aw_aload_n (q := 7) (j := 0) rfl rfl rfl (List.mem_of_getElem? (i := 0) rfl) ?_
  refine ag_getI (q := 10) rfl rfl fl_Mo_257 rfl (SX.o hS rfl) ?_
  obtain ⟨bd_1, h⟩ := h
  refine ag_iaload (q := 11) (N := 2) rfl rfl (SX.a hS rfl) bd_1 ?_
  refine aw_iconst (q := 12) (v := 1) rfl rfl (by decide) ?_
  refine aw_isub (q := 13) rfl rfl ?_
  refine ag_csI (z := m_Mo_in) (av := [.int _, .int _, .int _]) (st := []) (q := 16) (k' := 0) (n' := 0) rfl rfl cs_Mo_350 ⟨by decide, by decide⟩ rfl rfl (by decide) (by decide) rfl rfl (Nat.le_of_ble_eq_true rfl) ?_
  refine GI.mono h (fun y1_ t1_ h => ?_)
  obtain ⟨bd_2, h⟩ := h
  exact aw_ireturn (ty := .boolean) rfl rfl (nar_z bd_2) (by decide) (by decide) h
set_option maxRecDepth 20000 in
theorem v_Mo_in {E : EN} {g : GS} {s : MS} {Q : Option Value → SG → Prop} (x0 : Int32) (x1 : Int32) (x2 : Int32) (h : ((x0 < x1 → Q (some (.int 0)) (mk g s)) ∧ (¬ x0 < x1 → ((x2 < x0 → Q (some (.int 0)) (mk g s)) ∧ (¬ x2 < x0 → Q (some (.int 1)) (mk g s)))))) : AMet E m_Mo_in [.int x0, .int x1, .int x2] (mk g s) Q := by
  refine AMet.of (by decide) k_Mo_in [(0, .int x0), (1, .int x1), (2, .int x2)] (Nat.le_of_ble_eq_true rfl) rfl ?_
  refine aw_iload_n (q := 1) (j := 0) rfl rfl rfl (List.mem_of_getElem? (i := 0) rfl) ?_
  refine aw_iload_n (q := 2) (j := 1) rfl rfl rfl (List.mem_of_getElem? (i := 1) rfl) ?_
  refine aw_icmp_lt (q := 5) (tgt := 14) rfl rfl (by decide) ⟨fun cd_1 => ?_, fun cd_1 => ?_⟩
  · replace h := h.1 cd_1
    refine aw_iconst (q := 15) (v := 0) rfl rfl (by decide) ?_
    exact aw_ireturn (ty := .boolean) rfl rfl rfl (by decide) (by decide) h
  · replace h := h.2 cd_1
    refine aw_iload_n (q := 6) (j := 0) rfl rfl rfl (List.mem_of_getElem? (i := 0) rfl) ?_
    refine aw_iload_n (q := 7) (j := 2) rfl rfl rfl (List.mem_of_getElem? (i := 2) rfl) ?_
    refine aw_icmp_gt (q := 10) (tgt := 14) rfl rfl (by decide) ⟨fun cd_2 => ?_, fun cd_2 => ?_⟩
    · replace h := h.1 cd_2
      refine aw_iconst (q := 15) (v := 0) rfl rfl (by decide) ?_
      exact aw_ireturn (ty := .boolean) rfl rfl rfl (by decide) (by decide) h
    · replace h := h.2 cd_2
      refine aw_iconst (q := 11) (v := 1) rfl rfl (by decide) ?_
      refine aw_goto (tgt := 15) rfl (by decide) ?_
      exact aw_ireturn (ty := .boolean) rfl rfl rfl (by decide) (by decide) h
set_option maxRecDepth 20000 in
theorem v_Mo_hole {E : EN} {g : GS} {s : MS} {Q : Option Value → SG → Prop} (x1 : Int32) (x2 : Int32) (hS : SX g) (h : GI E m_Mo_isHole [.ref 120, .int x1] g s (fun y1_ t1_ => ((y1_ = 0 → Q (some (.int (-1))) (mk g t1_)) ∧ (¬ y1_ = 0 → GI E m_Mo_isGrain [.ref 120, .int x2] g t1_ (fun y2_ t2_ => ((y2_ = 0 → Q (some (.int (-1))) (mk g t2_)) ∧ (¬ y2_ = 0 → vp_in ((6 + (6 * x1)) + x2) 120 ∧ Q (some (.int (t2_.1 162 ((((6 + (6 * x1)) + x2)).toNatClampNeg)))) (mk g t2_)))))))) : AMet E m_Mo_hole [.ref 120, .int x1, .int x2] (mk g s) Q := by
  refine AMet.of (by decide) k_Mo_hole [(0, .ref 120), (1, .int x1), (2, .int x2)] (Nat.le_of_ble_eq_true rfl) rfl ?_
  refine aw_aload_n (q := 1) (j := 0) rfl rfl rfl (List.mem_of_getElem? (i := 0) rfl) ?_
  refine aw_iload_n (q := 2) (j := 1) rfl rfl rfl (List.mem_of_getElem? (i := 1) rfl) ?_
  refine ag_cvI (z := m_Mo_isHole) (ci := 11) (av := [.int _]) (st := []) (q := 5) (k' := 0) (n' := 0) rfl rfl cv_Mo_389 ⟨by decide, by decide⟩ rfl rfl (by decide) (by decide) (SX.o hS rfl) rfl rfl rfl (Nat.le_of_ble_eq_true rfl) ?_
  refine GI.mono h (fun y1_ t1_ h => ?_)
  refine aw_if_eq (q := 8) (tgt := 33) rfl rfl (by decide) ⟨fun cd_1 => ?_, fun cd_1 => ?_⟩
  · replace h := h.1 cd_1
    refine aw_iconst (q := 34) (v := (-1)) rfl rfl (by decide) ?_
    exact aw_ireturn (ty := .int) rfl rfl rfl (by decide) (by decide) h
  · replace h := h.2 cd_1
    refine aw_aload_n (q := 9) (j := 0) rfl rfl rfl (List.mem_of_getElem? (i := 0) rfl) ?_
    refine aw_iload_n (q := 10) (j := 2) rfl rfl rfl (List.mem_of_getElem? (i := 2) rfl) ?_
    refine ag_cvI (z := m_Mo_isGrain) (ci := 11) (av := [.int _]) (st := []) (q := 13) (k' := 0) (n' := 0) rfl rfl cv_Mo_386 ⟨by decide, by decide⟩ rfl rfl (by decide) (by decide) (SX.o hS rfl) rfl rfl rfl (Nat.le_of_ble_eq_true rfl) ?_
    refine GI.mono h (fun y2_ t2_ h => ?_)
    refine aw_if_eq (q := 16) (tgt := 33) rfl rfl (by decide) ⟨fun cd_2 => ?_, fun cd_2 => ?_⟩
    · replace h := h.1 cd_2
      refine aw_iconst (q := 34) (v := (-1)) rfl rfl (by decide) ?_
      exact aw_ireturn (ty := .int) rfl rfl rfl (by decide) (by decide) h
    · replace h := h.2 cd_2
      refine aw_aload_n (q := 17) (j := 0) rfl rfl rfl (List.mem_of_getElem? (i := 0) rfl) ?_
      refine ag_getR (q := 20) rfl rfl fl_Mo_143 rfl (SX.o hS rfl) (SX.r hS rfl) ?_
      refine aw_bipush (q := 22) (v := 6) rfl rfl (by decide) ?_
      refine aw_bipush (q := 24) (v := 6) rfl rfl (by decide) ?_
      refine aw_iload_n (q := 25) (j := 1) rfl rfl rfl (List.mem_of_getElem? (i := 1) rfl) ?_
      refine aw_imul (q := 26) rfl rfl ?_
      refine aw_iadd (q := 27) rfl rfl ?_
      refine aw_iload_n (q := 28) (j := 2) rfl rfl rfl (List.mem_of_getElem? (i := 2) rfl) ?_
      refine aw_iadd (q := 29) rfl rfl ?_
      obtain ⟨bd_3, h⟩ := h
      refine ag_iaload (q := 30) (N := 120) rfl rfl (SX.a hS rfl) bd_3 ?_
      refine aw_goto (tgt := 34) rfl (by decide) ?_
      exact aw_ireturn (ty := .int) rfl rfl rfl (by decide) (by decide) h
set_option maxRecDepth 20000 in
theorem v_Mo_isHole {E : EN} {g : GS} {s : MS} {Q : Option Value → SG → Prop} (x1 : Int32) (hS : SX g) (h : vp_in (s.1 120 18) 2 ∧ GI E m_Mo_in [.int x1, .int 0, .int ((s.1 134 (((s.1 120 18)).toNatClampNeg)) - 1)] g s (fun y1_ t1_ => (y1_ = 0 ∨ y1_ = 1) ∧ Q (some (.int y1_)) (mk g t1_))) : AMet E m_Mo_isHole [.ref 120, .int x1] (mk g s) Q := by
  refine AMet.of (by decide) k_Mo_isHole [(0, .ref 120), (1, .int x1)] (Nat.le_of_ble_eq_true rfl) rfl ?_
  refine aw_iload_n (q := 1) (j := 1) rfl rfl rfl (List.mem_of_getElem? (i := 1) rfl) ?_
  refine aw_iconst (q := 2) (v := 0) rfl rfl (by decide) ?_
  refine aw_aload_n (q := 3) (j := 0) rfl rfl rfl (List.mem_of_getElem? (i := 0) rfl) ?_
  refine ag_getR (q := 6) rfl rfl fl_Mo_58 rfl (SX.o hS rfl) (SX.r hS rfl) ?_
  refine aw_aload_n (q := 7) (j := 0) rfl rfl rfl (List.mem_of_getElem? (i := 0) rfl) ?_
  refine ag_getI (q := 10) rfl rfl fl_Mo_257 rfl (SX.o hS rfl) ?_
  obtain ⟨bd_1, h⟩ := h
  refine ag_iaload (q := 11) (N := 2) rfl rfl (SX.a hS rfl) bd_1 ?_
  refine aw_iconst (q := 12) (v := 1) rfl rfl (by decide) ?_
  refine aw_isub (q := 13) rfl rfl ?_
  refine ag_csI (z := m_Mo_in) (av := [.int _, .int _, .int _]) (st := []) (q := 16) (k' := 0) (n' := 0) rfl rfl cs_Mo_350 ⟨by decide, by decide⟩ rfl rfl (by decide) (by decide) rfl rfl (Nat.le_of_ble_eq_true rfl) ?_
  refine GI.mono h (fun y1_ t1_ h => ?_)
  obtain ⟨bd_2, h⟩ := h
  exact aw_ireturn (ty := .boolean) rfl rfl (nar_z bd_2) (by decide) (by decide) h
set_option maxRecDepth 20000 in
theorem v_Mo_rat {E : EN} {g : GS} {s : MS} {Q : Option Value → SG → Prop} (x1 : Int32) (x2 : Int32) (hS : SX g) (h : GI E m_Mo_isRat [.ref 120, .int x1] g s (fun y1_ t1_ => ((y1_ = 0 → Q (some (.int (-1))) (mk g t1_)) ∧ (¬ y1_ = 0 → ((x2 < 0 ∨ 8 < x2 → Q (some (.int (-1))) (mk g t1_)) ∧ (x2 = 0 → vp_in ((42 + (8 * x2)) + x1) 120 ∧ Q (some (.int (t1_.1 162 ((((42 + (8 * x2)) + x1)).toNatClampNeg)))) (mk g t1_)) ∧ (x2 = 1 → vp_in ((42 + (8 * x2)) + x1) 120 ∧ Q (some (.int (t1_.1 162 ((((42 + (8 * x2)) + x1)).toNatClampNeg)))) (mk g t1_)) ∧ (x2 = 2 → vp_in ((42 + (8 * x2)) + x1) 120 ∧ Q (some (.int (t1_.1 162 ((((42 + (8 * x2)) + x1)).toNatClampNeg)))) (mk g t1_)) ∧ (x2 = 3 → vp_in ((42 + (8 * x2)) + x1) 120 ∧ Q (some (.int (t1_.1 162 ((((42 + (8 * x2)) + x1)).toNatClampNeg)))) (mk g t1_)) ∧ (x2 = 4 → vp_in ((42 + (8 * x2)) + x1) 120 ∧ Q (some (.int (t1_.1 162 ((((42 + (8 * x2)) + x1)).toNatClampNeg)))) (mk g t1_)) ∧ (x2 = 5 → vp_in ((42 + (8 * x2)) + x1) 120 ∧ Q (some (.int (t1_.1 162 ((((42 + (8 * x2)) + x1)).toNatClampNeg)))) (mk g t1_)) ∧ (x2 = 6 → vp_in ((42 + (8 * x2)) + x1) 120 ∧ Q (some (.int (t1_.1 162 ((((42 + (8 * x2)) + x1)).toNatClampNeg)))) (mk g t1_)) ∧ (x2 = 7 → vp_in ((42 + (8 * x2)) + x1) 120 ∧ Q (some (.int (t1_.1 162 ((((42 + (8 * x2)) + x1)).toNatClampNeg)))) (mk g t1_)) ∧ (x2 = 8 → vp_in (106 + x1) 120 ∧ Q (some (.int (t1_.1 162 (((106 + x1)).toNatClampNeg)))) (mk g t1_))))))) : AMet E m_Mo_rat [.ref 120, .int x1, .int x2] (mk g s) Q := by
  refine AMet.of (by decide) k_Mo_rat [(0, .ref 120), (1, .int x1), (2, .int x2)] (Nat.le_of_ble_eq_true rfl) rfl ?_
  refine aw_aload_n (q := 1) (j := 0) rfl rfl rfl (List.mem_of_getElem? (i := 0) rfl) ?_
  refine aw_iload_n (q := 2) (j := 1) rfl rfl rfl (List.mem_of_getElem? (i := 1) rfl) ?_
  refine ag_cvI (z := m_Mo_isRat) (ci := 11) (av := [.int _]) (st := []) (q := 5) (k' := 0) (n' := 0) rfl rfl cv_Mo_392 ⟨by decide, by decide⟩ rfl rfl (by decide) (by decide) (SX.o hS rfl) rfl rfl rfl (Nat.le_of_ble_eq_true rfl) ?_
  refine GI.mono h (fun y1_ t1_ h => ?_)
  refine aw_if_ne (q := 8) (tgt := 10) rfl rfl (by decide) ⟨fun cd_1 => ?_, fun cd_1 => ?_⟩
  · replace h := h.1 cd_1
    refine aw_iconst (q := 9) (v := (-1)) rfl rfl (by decide) ?_
    exact aw_ireturn (ty := .int) rfl rfl rfl (by decide) (by decide) h
  · replace h := h.2 cd_1
    refine aw_iload_n (q := 11) (j := 2) rfl rfl rfl (List.mem_of_getElem? (i := 2) rfl) ?_
    by_cases cd_2 : x2 < 0 ∨ 8 < x2
    · replace h := h.1 cd_2
      refine aw_tableLt (tgt := 85) rfl (a := 0) (b := 8) (by decide) (by decide) cd_2 (by decide) ?_
      refine aw_iconst (q := 86) (v := (-1)) rfl rfl (by decide) ?_
      exact aw_ireturn (ty := .int) rfl rfl rfl (by decide) (by decide) h
    · obtain ⟨jd_3, hjd_3, ejd_3⟩ := sw_cases 8 8 (fun q => cd_2 (Or.inl q)) (fun q => cd_2 (Or.inr q)) (by decide)
      replace h := h.2
      match jd_3, hjd_3, ejd_3 with
      | 0, _, e => 
        have e : x2 = 0 := Int32.toInt_inj.mp (e.trans (by decide))
        replace h := h.1 e
        refine aw_tableEq (tgt := 60) rfl e (by decide) (by decide) rfl (by decide) ?_
        refine aw_aload_n (q := 61) (j := 0) rfl rfl rfl (List.mem_of_getElem? (i := 0) rfl) ?_
        refine ag_getR (q := 64) rfl rfl fl_Mo_143 rfl (SX.o hS rfl) (SX.r hS rfl) ?_
        refine aw_bipush (q := 66) (v := 42) rfl rfl (by decide) ?_
        refine aw_bipush (q := 68) (v := 8) rfl rfl (by decide) ?_
        refine aw_iload_n (q := 69) (j := 2) rfl rfl rfl (List.mem_of_getElem? (i := 2) rfl) ?_
        refine aw_imul (q := 70) rfl rfl ?_
        refine aw_iadd (q := 71) rfl rfl ?_
        refine aw_iload_n (q := 72) (j := 1) rfl rfl rfl (List.mem_of_getElem? (i := 1) rfl) ?_
        refine aw_iadd (q := 73) rfl rfl ?_
        obtain ⟨bd_4, h⟩ := h
        refine ag_iaload (q := 74) (N := 120) rfl rfl (SX.a hS rfl) bd_4 ?_
        exact aw_ireturn (ty := .int) rfl rfl rfl (by decide) (by decide) h
      | 1, _, e => 
        have e : x2 = 1 := Int32.toInt_inj.mp (e.trans (by decide))
        replace h := h.2.1 e
        refine aw_tableEq (tgt := 60) rfl e (by decide) (by decide) rfl (by decide) ?_
        refine aw_aload_n (q := 61) (j := 0) rfl rfl rfl (List.mem_of_getElem? (i := 0) rfl) ?_
        refine ag_getR (q := 64) rfl rfl fl_Mo_143 rfl (SX.o hS rfl) (SX.r hS rfl) ?_
        refine aw_bipush (q := 66) (v := 42) rfl rfl (by decide) ?_
        refine aw_bipush (q := 68) (v := 8) rfl rfl (by decide) ?_
        refine aw_iload_n (q := 69) (j := 2) rfl rfl rfl (List.mem_of_getElem? (i := 2) rfl) ?_
        refine aw_imul (q := 70) rfl rfl ?_
        refine aw_iadd (q := 71) rfl rfl ?_
        refine aw_iload_n (q := 72) (j := 1) rfl rfl rfl (List.mem_of_getElem? (i := 1) rfl) ?_
        refine aw_iadd (q := 73) rfl rfl ?_
        obtain ⟨bd_5, h⟩ := h
        refine ag_iaload (q := 74) (N := 120) rfl rfl (SX.a hS rfl) bd_5 ?_
        exact aw_ireturn (ty := .int) rfl rfl rfl (by decide) (by decide) h
      | 2, _, e => 
        have e : x2 = 2 := Int32.toInt_inj.mp (e.trans (by decide))
        replace h := h.2.2.1 e
        refine aw_tableEq (tgt := 60) rfl e (by decide) (by decide) rfl (by decide) ?_
        refine aw_aload_n (q := 61) (j := 0) rfl rfl rfl (List.mem_of_getElem? (i := 0) rfl) ?_
        refine ag_getR (q := 64) rfl rfl fl_Mo_143 rfl (SX.o hS rfl) (SX.r hS rfl) ?_
        refine aw_bipush (q := 66) (v := 42) rfl rfl (by decide) ?_
        refine aw_bipush (q := 68) (v := 8) rfl rfl (by decide) ?_
        refine aw_iload_n (q := 69) (j := 2) rfl rfl rfl (List.mem_of_getElem? (i := 2) rfl) ?_
        refine aw_imul (q := 70) rfl rfl ?_
        refine aw_iadd (q := 71) rfl rfl ?_
        refine aw_iload_n (q := 72) (j := 1) rfl rfl rfl (List.mem_of_getElem? (i := 1) rfl) ?_
        refine aw_iadd (q := 73) rfl rfl ?_
        obtain ⟨bd_6, h⟩ := h
        refine ag_iaload (q := 74) (N := 120) rfl rfl (SX.a hS rfl) bd_6 ?_
        exact aw_ireturn (ty := .int) rfl rfl rfl (by decide) (by decide) h
      | 3, _, e => 
        have e : x2 = 3 := Int32.toInt_inj.mp (e.trans (by decide))
        replace h := h.2.2.2.1 e
        refine aw_tableEq (tgt := 60) rfl e (by decide) (by decide) rfl (by decide) ?_
        refine aw_aload_n (q := 61) (j := 0) rfl rfl rfl (List.mem_of_getElem? (i := 0) rfl) ?_
        refine ag_getR (q := 64) rfl rfl fl_Mo_143 rfl (SX.o hS rfl) (SX.r hS rfl) ?_
        refine aw_bipush (q := 66) (v := 42) rfl rfl (by decide) ?_
        refine aw_bipush (q := 68) (v := 8) rfl rfl (by decide) ?_
        refine aw_iload_n (q := 69) (j := 2) rfl rfl rfl (List.mem_of_getElem? (i := 2) rfl) ?_
        refine aw_imul (q := 70) rfl rfl ?_
        refine aw_iadd (q := 71) rfl rfl ?_
        refine aw_iload_n (q := 72) (j := 1) rfl rfl rfl (List.mem_of_getElem? (i := 1) rfl) ?_
        refine aw_iadd (q := 73) rfl rfl ?_
        obtain ⟨bd_7, h⟩ := h
        refine ag_iaload (q := 74) (N := 120) rfl rfl (SX.a hS rfl) bd_7 ?_
        exact aw_ireturn (ty := .int) rfl rfl rfl (by decide) (by decide) h
      | 4, _, e => 
        have e : x2 = 4 := Int32.toInt_inj.mp (e.trans (by decide))
        replace h := h.2.2.2.2.1 e
        refine aw_tableEq (tgt := 60) rfl e (by decide) (by decide) rfl (by decide) ?_
        refine aw_aload_n (q := 61) (j := 0) rfl rfl rfl (List.mem_of_getElem? (i := 0) rfl) ?_
        refine ag_getR (q := 64) rfl rfl fl_Mo_143 rfl (SX.o hS rfl) (SX.r hS rfl) ?_
        refine aw_bipush (q := 66) (v := 42) rfl rfl (by decide) ?_
        refine aw_bipush (q := 68) (v := 8) rfl rfl (by decide) ?_
        refine aw_iload_n (q := 69) (j := 2) rfl rfl rfl (List.mem_of_getElem? (i := 2) rfl) ?_
        refine aw_imul (q := 70) rfl rfl ?_
        refine aw_iadd (q := 71) rfl rfl ?_
        refine aw_iload_n (q := 72) (j := 1) rfl rfl rfl (List.mem_of_getElem? (i := 1) rfl) ?_
        refine aw_iadd (q := 73) rfl rfl ?_
        obtain ⟨bd_8, h⟩ := h
        refine ag_iaload (q := 74) (N := 120) rfl rfl (SX.a hS rfl) bd_8 ?_
        exact aw_ireturn (ty := .int) rfl rfl rfl (by decide) (by decide) h
      | 5, _, e => 
        have e : x2 = 5 := Int32.toInt_inj.mp (e.trans (by decide))
        replace h := h.2.2.2.2.2.1 e
        refine aw_tableEq (tgt := 60) rfl e (by decide) (by decide) rfl (by decide) ?_
        refine aw_aload_n (q := 61) (j := 0) rfl rfl rfl (List.mem_of_getElem? (i := 0) rfl) ?_
        refine ag_getR (q := 64) rfl rfl fl_Mo_143 rfl (SX.o hS rfl) (SX.r hS rfl) ?_
        refine aw_bipush (q := 66) (v := 42) rfl rfl (by decide) ?_
        refine aw_bipush (q := 68) (v := 8) rfl rfl (by decide) ?_
        refine aw_iload_n (q := 69) (j := 2) rfl rfl rfl (List.mem_of_getElem? (i := 2) rfl) ?_
        refine aw_imul (q := 70) rfl rfl ?_
        refine aw_iadd (q := 71) rfl rfl ?_
        refine aw_iload_n (q := 72) (j := 1) rfl rfl rfl (List.mem_of_getElem? (i := 1) rfl) ?_
        refine aw_iadd (q := 73) rfl rfl ?_
        obtain ⟨bd_9, h⟩ := h
        refine ag_iaload (q := 74) (N := 120) rfl rfl (SX.a hS rfl) bd_9 ?_
        exact aw_ireturn (ty := .int) rfl rfl rfl (by decide) (by decide) h
      | 6, _, e => 
        have e : x2 = 6 := Int32.toInt_inj.mp (e.trans (by decide))
        replace h := h.2.2.2.2.2.2.1 e
        refine aw_tableEq (tgt := 60) rfl e (by decide) (by decide) rfl (by decide) ?_
        refine aw_aload_n (q := 61) (j := 0) rfl rfl rfl (List.mem_of_getElem? (i := 0) rfl) ?_
        refine ag_getR (q := 64) rfl rfl fl_Mo_143 rfl (SX.o hS rfl) (SX.r hS rfl) ?_
        refine aw_bipush (q := 66) (v := 42) rfl rfl (by decide) ?_
        refine aw_bipush (q := 68) (v := 8) rfl rfl (by decide) ?_
        refine aw_iload_n (q := 69) (j := 2) rfl rfl rfl (List.mem_of_getElem? (i := 2) rfl) ?_
        refine aw_imul (q := 70) rfl rfl ?_
        refine aw_iadd (q := 71) rfl rfl ?_
        refine aw_iload_n (q := 72) (j := 1) rfl rfl rfl (List.mem_of_getElem? (i := 1) rfl) ?_
        refine aw_iadd (q := 73) rfl rfl ?_
        obtain ⟨bd_10, h⟩ := h
        refine ag_iaload (q := 74) (N := 120) rfl rfl (SX.a hS rfl) bd_10 ?_
        exact aw_ireturn (ty := .int) rfl rfl rfl (by decide) (by decide) h
      | 7, _, e => 
        have e : x2 = 7 := Int32.toInt_inj.mp (e.trans (by decide))
        replace h := h.2.2.2.2.2.2.2.1 e
        refine aw_tableEq (tgt := 60) rfl e (by decide) (by decide) rfl (by decide) ?_
        refine aw_aload_n (q := 61) (j := 0) rfl rfl rfl (List.mem_of_getElem? (i := 0) rfl) ?_
        refine ag_getR (q := 64) rfl rfl fl_Mo_143 rfl (SX.o hS rfl) (SX.r hS rfl) ?_
        refine aw_bipush (q := 66) (v := 42) rfl rfl (by decide) ?_
        refine aw_bipush (q := 68) (v := 8) rfl rfl (by decide) ?_
        refine aw_iload_n (q := 69) (j := 2) rfl rfl rfl (List.mem_of_getElem? (i := 2) rfl) ?_
        refine aw_imul (q := 70) rfl rfl ?_
        refine aw_iadd (q := 71) rfl rfl ?_
        refine aw_iload_n (q := 72) (j := 1) rfl rfl rfl (List.mem_of_getElem? (i := 1) rfl) ?_
        refine aw_iadd (q := 73) rfl rfl ?_
        obtain ⟨bd_11, h⟩ := h
        refine ag_iaload (q := 74) (N := 120) rfl rfl (SX.a hS rfl) bd_11 ?_
        exact aw_ireturn (ty := .int) rfl rfl rfl (by decide) (by decide) h
      | 8, _, e => 
        have e : x2 = 8 := Int32.toInt_inj.mp (e.trans (by decide))
        replace h := h.2.2.2.2.2.2.2.2 e
        refine aw_tableEq (tgt := 75) rfl e (by decide) (by decide) rfl (by decide) ?_
        refine aw_aload_n (q := 76) (j := 0) rfl rfl rfl (List.mem_of_getElem? (i := 0) rfl) ?_
        refine ag_getR (q := 79) rfl rfl fl_Mo_143 rfl (SX.o hS rfl) (SX.r hS rfl) ?_
        refine aw_bipush (q := 81) (v := 106) rfl rfl (by decide) ?_
        refine aw_iload_n (q := 82) (j := 1) rfl rfl rfl (List.mem_of_getElem? (i := 1) rfl) ?_
        refine aw_iadd (q := 83) rfl rfl ?_
        obtain ⟨bd_12, h⟩ := h
        refine ag_iaload (q := 84) (N := 120) rfl rfl (SX.a hS rfl) bd_12 ?_
        exact aw_ireturn (ty := .int) rfl rfl rfl (by decide) (by decide) h
      | j + 9, hj, _ => exact absurd hj (by omega)
set_option maxRecDepth 20000 in
theorem v_Mo_isRat {E : EN} {g : GS} {s : MS} {Q : Option Value → SG → Prop} (x1 : Int32) (hS : SX g) (h : vp_in (s.1 120 18) 2 ∧ GI E m_Mo_in [.int x1, .int 0, .int ((s.1 137 (((s.1 120 18)).toNatClampNeg)) - 1)] g s (fun y1_ t1_ => (y1_ = 0 ∨ y1_ = 1) ∧ Q (some (.int y1_)) (mk g t1_))) : AMet E m_Mo_isRat [.ref 120, .int x1] (mk g s) Q := by
  refine AMet.of (by decide) k_Mo_isRat [(0, .ref 120), (1, .int x1)] (Nat.le_of_ble_eq_true rfl) rfl ?_
  refine aw_iload_n (q := 1) (j := 1) rfl rfl rfl (List.mem_of_getElem? (i := 1) rfl) ?_
  refine aw_iconst (q := 2) (v := 0) rfl rfl (by decide) ?_
  refine aw_aload_n (q := 3) (j := 0) rfl rfl rfl (List.mem_of_getElem? (i := 0) rfl) ?_
  refine ag_getR (q := 6) rfl rfl fl_Mo_67 rfl (SX.o hS rfl) (SX.r hS rfl) ?_
  refine aw_aload_n (q := 7) (j := 0) rfl rfl rfl (List.mem_of_getElem? (i := 0) rfl) ?_
  refine ag_getI (q := 10) rfl rfl fl_Mo_257 rfl (SX.o hS rfl) ?_
  obtain ⟨bd_1, h⟩ := h
  refine ag_iaload (q := 11) (N := 2) rfl rfl (SX.a hS rfl) bd_1 ?_
  refine aw_iconst (q := 12) (v := 1) rfl rfl (by decide) ?_
  refine aw_isub (q := 13) rfl rfl ?_
  refine ag_csI (z := m_Mo_in) (av := [.int _, .int _, .int _]) (st := []) (q := 16) (k' := 0) (n' := 0) rfl rfl cs_Mo_350 ⟨by decide, by decide⟩ rfl rfl (by decide) (by decide) rfl rfl (Nat.le_of_ble_eq_true rfl) ?_
  refine GI.mono h (fun y1_ t1_ h => ?_)
  obtain ⟨bd_2, h⟩ := h
  exact aw_ireturn (ty := .boolean) rfl rfl (nar_z bd_2) (by decide) (by decide) h
set_option maxRecDepth 20000 in
theorem v_Mo_worth {E : EN} {g : GS} {s : MS} {Q : Option Value → SG → Prop} (x1 : Int32) (hS : SX g) (h : GI E m_Mo_isHole [.ref 120, .int x1] g s (fun y1_ t1_ => ((y1_ = 0 → Q (some (.int (-1))) (mk g t1_)) ∧ (¬ y1_ = 0 → GV E m_Mo_copies [.ref 120] g t1_ (fun t2_ => GI E m_Mo_worthOf [.ref 120, .int x1] g t2_ (fun y3_ t3_ => Q (some (.int y3_)) (mk g t3_))))))) : AMet E m_Mo_worth [.ref 120, .int x1] (mk g s) Q := by
  refine AMet.of (by decide) k_Mo_worth [(0, .ref 120), (1, .int x1)] (Nat.le_of_ble_eq_true rfl) rfl ?_
  refine aw_aload_n (q := 1) (j := 0) rfl rfl rfl (List.mem_of_getElem? (i := 0) rfl) ?_
  refine aw_iload_n (q := 2) (j := 1) rfl rfl rfl (List.mem_of_getElem? (i := 1) rfl) ?_
  refine ag_cvI (z := m_Mo_isHole) (ci := 11) (av := [.int _]) (st := []) (q := 5) (k' := 0) (n' := 0) rfl rfl cv_Mo_389 ⟨by decide, by decide⟩ rfl rfl (by decide) (by decide) (SX.o hS rfl) rfl rfl rfl (Nat.le_of_ble_eq_true rfl) ?_
  refine GI.mono h (fun y1_ t1_ h => ?_)
  refine aw_if_ne (q := 8) (tgt := 10) rfl rfl (by decide) ⟨fun cd_1 => ?_, fun cd_1 => ?_⟩
  · replace h := h.1 cd_1
    refine aw_iconst (q := 9) (v := (-1)) rfl rfl (by decide) ?_
    exact aw_ireturn (ty := .int) rfl rfl rfl (by decide) (by decide) h
  · replace h := h.2 cd_1
    refine aw_aload_n (q := 11) (j := 0) rfl rfl rfl (List.mem_of_getElem? (i := 0) rfl) ?_
    refine ag_cvV (z := m_Mo_copies) (ci := 11) (av := []) (st := []) (q := 14) (k' := 0) (n' := 0) rfl rfl cv_Mo_395 ⟨by decide, by decide⟩ rfl rfl (by decide) (by decide) (SX.o hS rfl) rfl rfl rfl (Nat.le_of_ble_eq_true rfl) ?_
    refine GV.mono h (fun t2_ h => ?_)
    refine aw_aload_n (q := 15) (j := 0) rfl rfl rfl (List.mem_of_getElem? (i := 0) rfl) ?_
    refine aw_iload_n (q := 16) (j := 1) rfl rfl rfl (List.mem_of_getElem? (i := 1) rfl) ?_
    refine ag_cvI (z := m_Mo_worthOf) (ci := 11) (av := [.int _]) (st := []) (q := 19) (k' := 0) (n' := 0) rfl rfl cv_Mo_383 ⟨by decide, by decide⟩ rfl rfl (by decide) (by decide) (SX.o hS rfl) rfl rfl rfl (Nat.le_of_ble_eq_true rfl) ?_
    refine GI.mono h (fun y3_ t3_ h => ?_)
    exact aw_ireturn (ty := .int) rfl rfl rfl (by decide) (by decide) h
set_option maxRecDepth 20000 in
theorem v_Mo_copies_2 {E : EN} {g : GS} {s : MS} {Q : Option Value → SG → Prop} (x1 : Int32) (hS : SX g) (h : ((120 ≤ x1 → GV E m_Mo_plainly [.ref 120] g s (fun t1_ => Q none (mk g t1_))) ∧ (¬ 120 ≤ x1 → vp_in x1 120 ∧ (∀ s2_, s2_ = wi s 163 ((x1).toNatClampNeg) (s.1 162 ((x1).toNatClampNeg)) → AWP E m_Mo_copies 2 0 0 [(0, .ref 120), (1, .int (x1 + 1))] [] (mk g s2_) Q)))) : AWP E m_Mo_copies 2 0 0 [(0, .ref 120), (1, .int x1)] [] (mk g s) Q := by
  refine aw_iload_n (q := 3) (j := 1) rfl rfl rfl (List.mem_of_getElem? (i := 1) rfl) ?_
  refine aw_bipush (q := 5) (v := 120) rfl rfl (by decide) ?_
  refine aw_icmp_ge (q := 8) (tgt := 26) rfl rfl (by decide) ⟨fun cd_1 => ?_, fun cd_1 => ?_⟩
  · replace h := h.1 cd_1
    refine aw_aload_n (q := 27) (j := 0) rfl rfl rfl (List.mem_of_getElem? (i := 0) rfl) ?_
    refine ag_cvV (z := m_Mo_plainly) (ci := 11) (av := []) (st := []) (q := 30) (k' := 0) (n' := 0) rfl rfl cv_Mo_347 ⟨by decide, by decide⟩ rfl rfl (by decide) (by decide) (SX.o hS rfl) rfl rfl rfl (Nat.le_of_ble_eq_true rfl) ?_
    refine GV.mono h (fun t1_ h => ?_)
    exact aw_return rfl rfl (by decide) (by decide) h
  · replace h := h.2 cd_1
    refine aw_aload_n (q := 9) (j := 0) rfl rfl rfl (List.mem_of_getElem? (i := 0) rfl) ?_
    refine ag_getR (q := 12) rfl rfl fl_Mo_146 rfl (SX.o hS rfl) (SX.r hS rfl) ?_
    refine aw_iload_n (q := 13) (j := 1) rfl rfl rfl (List.mem_of_getElem? (i := 1) rfl) ?_
    refine aw_aload_n (q := 14) (j := 0) rfl rfl rfl (List.mem_of_getElem? (i := 0) rfl) ?_
    refine ag_getR (q := 17) rfl rfl fl_Mo_143 rfl (SX.o hS rfl) (SX.r hS rfl) ?_
    refine aw_iload_n (q := 18) (j := 1) rfl rfl rfl (List.mem_of_getElem? (i := 1) rfl) ?_
    obtain ⟨bd_2, h⟩ := h
    refine ag_iaload (q := 19) (N := 120) rfl rfl (SX.a hS rfl) bd_2 ?_
    refine ag_iastore (q := 20) (N := 120) rfl rfl (SX.a hS rfl) bd_2 ?_
    replace h := h _ rfl
    refine aw_iinc (q := 23) (v := _ + 1) (ls' := [(1, .int _), (0, .ref _)]) rfl rfl (List.mem_of_getElem? (i := 1) rfl) rfl (by decide) rfl ?_
    refine aw_goto (tgt := 2) rfl (by decide) ?_
    refine aw_ls [1, 0] rfl ?_
    exact h
set_option maxRecDepth 20000 in
theorem v_Mo_copies {E : EN} {g : GS} {s : MS} {Q : Option Value → SG → Prop}  (h : AWP E m_Mo_copies 2 0 0 [(0, .ref 120), (1, .int 0)] [] (mk g s) Q) : AMet E m_Mo_copies [.ref 120] (mk g s) Q := by
  refine AMet.of (by decide) k_Mo_copies [(0, .ref 120)] (Nat.le_of_ble_eq_true rfl) rfl ?_
  refine aw_iconst (q := 1) (v := 0) rfl rfl (by decide) ?_
  refine aw_istore_n (q := 2) (j := 1) (ls' := [(1, .int _), (0, .ref _)]) rfl rfl rfl (by decide) rfl ?_
  refine aw_ls [1, 0] rfl ?_
  exact h
set_option maxRecDepth 20000 in
theorem v_Mo_worthOf_33 {E : EN} {g : GS} {s : MS} {Q : Option Value → SG → Prop} (x1 : Int32) (x2 : Int32) (x3 : Int32) (x4 : Int32) (hS : SX g) (h : ((6 ≤ x4 → vp_in ((6 * (s.1 120 18)) + x1) 12 ∧ vp_in ((6 * (s.1 120 18)) + (s.1 136 ((((6 * (s.1 120 18)) + x1)).toNatClampNeg))) 12 ∧ (((0 : Int32) ≤ ((s.1 133 ((((6 * (s.1 120 18)) + (s.1 136 ((((6 * (s.1 120 18)) + x1)).toNatClampNeg)))).toNatClampNeg)) * (x2 - (2 * (x3 - x2)))) → Q (some (.int ((s.1 133 ((((6 * (s.1 120 18)) + (s.1 136 ((((6 * (s.1 120 18)) + x1)).toNatClampNeg)))).toNatClampNeg)) * (x2 - (2 * (x3 - x2)))))) (mk g s)) ∧ (¬ (0 : Int32) ≤ ((s.1 133 ((((6 * (s.1 120 18)) + (s.1 136 ((((6 * (s.1 120 18)) + x1)).toNatClampNeg)))).toNatClampNeg)) * (x2 - (2 * (x3 - x2)))) → Q (some (.int 0)) (mk g s)))) ∧ (¬ 6 ≤ x4 → vp_in ((6 + (6 * x1)) + x4) 120 ∧ AWP E m_Mo_worthOf 33 0 0 [(0, .ref 120), (1, .int x1), (2, .int x2), (3, .int (x3 + (s.1 163 ((((6 + (6 * x1)) + x4)).toNatClampNeg)))), (4, .int (x4 + 1))] [] (mk g s) Q))) : AWP E m_Mo_worthOf 33 0 0 [(0, .ref 120), (1, .int x1), (2, .int x2), (3, .int x3), (4, .int x4)] [] (mk g s) Q := by
  refine aw_iload (q := 35) (j := 4) rfl rfl (List.mem_of_getElem? (i := 4) rfl) ?_
  refine aw_bipush (q := 37) (v := 6) rfl rfl (by decide) ?_
  refine aw_icmp_ge (q := 40) (tgt := 64) rfl rfl (by decide) ⟨fun cd_1 => ?_, fun cd_1 => ?_⟩
  · replace h := h.1 cd_1
    refine aw_aload_n (q := 65) (j := 0) rfl rfl rfl (List.mem_of_getElem? (i := 0) rfl) ?_
    refine ag_getR (q := 68) rfl rfl fl_Mo_55 rfl (SX.o hS rfl) (SX.r hS rfl) ?_
    refine aw_bipush (q := 70) (v := 6) rfl rfl (by decide) ?_
    refine aw_aload_n (q := 71) (j := 0) rfl rfl rfl (List.mem_of_getElem? (i := 0) rfl) ?_
    refine ag_getI (q := 74) rfl rfl fl_Mo_257 rfl (SX.o hS rfl) ?_
    refine aw_imul (q := 75) rfl rfl ?_
    refine aw_aload_n (q := 76) (j := 0) rfl rfl rfl (List.mem_of_getElem? (i := 0) rfl) ?_
    refine ag_getR (q := 79) rfl rfl fl_Mo_64 rfl (SX.o hS rfl) (SX.r hS rfl) ?_
    refine aw_bipush (q := 81) (v := 6) rfl rfl (by decide) ?_
    refine aw_aload_n (q := 82) (j := 0) rfl rfl rfl (List.mem_of_getElem? (i := 0) rfl) ?_
    refine ag_getI (q := 85) rfl rfl fl_Mo_257 rfl (SX.o hS rfl) ?_
    refine aw_imul (q := 86) rfl rfl ?_
    refine aw_iload_n (q := 87) (j := 1) rfl rfl rfl (List.mem_of_getElem? (i := 1) rfl) ?_
    refine aw_iadd (q := 88) rfl rfl ?_
    obtain ⟨bd_2, h⟩ := h
    refine ag_iaload (q := 89) (N := 12) rfl rfl (SX.a hS rfl) bd_2 ?_
    refine aw_iadd (q := 90) rfl rfl ?_
    obtain ⟨bd_3, h⟩ := h
    refine ag_iaload (q := 91) (N := 12) rfl rfl (SX.a hS rfl) bd_3 ?_
    refine aw_iload_n (q := 92) (j := 2) rfl rfl rfl (List.mem_of_getElem? (i := 2) rfl) ?_
    refine aw_iconst (q := 93) (v := 2) rfl rfl (by decide) ?_
    refine aw_iload_n (q := 94) (j := 3) rfl rfl rfl (List.mem_of_getElem? (i := 3) rfl) ?_
    refine aw_iload_n (q := 95) (j := 2) rfl rfl rfl (List.mem_of_getElem? (i := 2) rfl) ?_
    refine aw_isub (q := 96) rfl rfl ?_
    refine aw_imul (q := 97) rfl rfl ?_
    refine aw_isub (q := 98) rfl rfl ?_
    refine aw_imul (q := 99) rfl rfl ?_
    refine aw_istore (q := 101) (j := 4) (ls' := [(4, .int _), (0, .ref _), (1, .int _), (2, .int _), (3, .int _)]) rfl rfl (by decide) rfl ?_
    refine aw_iload (q := 103) (j := 4) rfl rfl (List.mem_of_getElem? (i := 0) rfl) ?_
    refine aw_if_ge (q := 106) (tgt := 110) rfl rfl (by decide) ⟨fun cd_4 => ?_, fun cd_4 => ?_⟩
    · replace h := h.1 cd_4
      refine aw_iload (q := 112) (j := 4) rfl rfl (List.mem_of_getElem? (i := 0) rfl) ?_
      exact aw_ireturn (ty := .int) rfl rfl rfl (by decide) (by decide) h
    · replace h := h.2 cd_4
      refine aw_iconst (q := 107) (v := 0) rfl rfl (by decide) ?_
      refine aw_goto (tgt := 112) rfl (by decide) ?_
      exact aw_ireturn (ty := .int) rfl rfl rfl (by decide) (by decide) h
  · replace h := h.2 cd_1
    refine aw_iload_n (q := 41) (j := 3) rfl rfl rfl (List.mem_of_getElem? (i := 3) rfl) ?_
    refine aw_aload_n (q := 42) (j := 0) rfl rfl rfl (List.mem_of_getElem? (i := 0) rfl) ?_
    refine ag_getR (q := 45) rfl rfl fl_Mo_146 rfl (SX.o hS rfl) (SX.r hS rfl) ?_
    refine aw_bipush (q := 47) (v := 6) rfl rfl (by decide) ?_
    refine aw_bipush (q := 49) (v := 6) rfl rfl (by decide) ?_
    refine aw_iload_n (q := 50) (j := 1) rfl rfl rfl (List.mem_of_getElem? (i := 1) rfl) ?_
    refine aw_imul (q := 51) rfl rfl ?_
    refine aw_iadd (q := 52) rfl rfl ?_
    refine aw_iload (q := 54) (j := 4) rfl rfl (List.mem_of_getElem? (i := 4) rfl) ?_
    refine aw_iadd (q := 55) rfl rfl ?_
    obtain ⟨bd_5, h⟩ := h
    refine ag_iaload (q := 56) (N := 120) rfl rfl (SX.a hS rfl) bd_5 ?_
    refine aw_iadd (q := 57) rfl rfl ?_
    refine aw_istore_n (q := 58) (j := 3) (ls' := [(3, .int _), (0, .ref _), (1, .int _), (2, .int _), (4, .int _)]) rfl rfl rfl (by decide) rfl ?_
    refine aw_iinc (q := 61) (v := _ + 1) (ls' := [(4, .int _), (3, .int _), (0, .ref _), (1, .int _), (2, .int _)]) rfl rfl (List.mem_of_getElem? (i := 4) rfl) rfl (by decide) rfl ?_
    refine aw_goto (tgt := 33) rfl (by decide) ?_
    refine aw_ls [2, 3, 4, 1, 0] rfl ?_
    exact h
set_option maxRecDepth 20000 in
theorem v_Mo_worthOf {E : EN} {g : GS} {s : MS} {Q : Option Value → SG → Prop} (x1 : Int32) (hS : SX g) (h : vp_in ((6 * (s.1 120 18)) + x1) 12 ∧ vp_in ((6 + (6 * x1)) + (s.1 136 ((((6 * (s.1 120 18)) + x1)).toNatClampNeg))) 120 ∧ AWP E m_Mo_worthOf 33 0 0 [(0, .ref 120), (1, .int x1), (2, .int (s.1 163 ((((6 + (6 * x1)) + (s.1 136 ((((6 * (s.1 120 18)) + x1)).toNatClampNeg)))).toNatClampNeg))), (3, .int 0), (4, .int 0)] [] (mk g s) Q) : AMet E m_Mo_worthOf [.ref 120, .int x1] (mk g s) Q := by
  refine AMet.of (by decide) k_Mo_worthOf [(0, .ref 120), (1, .int x1)] (Nat.le_of_ble_eq_true rfl) rfl ?_
  refine aw_aload_n (q := 1) (j := 0) rfl rfl rfl (List.mem_of_getElem? (i := 0) rfl) ?_
  refine ag_getR (q := 4) rfl rfl fl_Mo_146 rfl (SX.o hS rfl) (SX.r hS rfl) ?_
  refine aw_bipush (q := 6) (v := 6) rfl rfl (by decide) ?_
  refine aw_bipush (q := 8) (v := 6) rfl rfl (by decide) ?_
  refine aw_iload_n (q := 9) (j := 1) rfl rfl rfl (List.mem_of_getElem? (i := 1) rfl) ?_
  refine aw_imul (q := 10) rfl rfl ?_
  refine aw_iadd (q := 11) rfl rfl ?_
  refine aw_aload_n (q := 12) (j := 0) rfl rfl rfl (List.mem_of_getElem? (i := 0) rfl) ?_
  refine ag_getR (q := 15) rfl rfl fl_Mo_64 rfl (SX.o hS rfl) (SX.r hS rfl) ?_
  refine aw_bipush (q := 17) (v := 6) rfl rfl (by decide) ?_
  refine aw_aload_n (q := 18) (j := 0) rfl rfl rfl (List.mem_of_getElem? (i := 0) rfl) ?_
  refine ag_getI (q := 21) rfl rfl fl_Mo_257 rfl (SX.o hS rfl) ?_
  refine aw_imul (q := 22) rfl rfl ?_
  refine aw_iload_n (q := 23) (j := 1) rfl rfl rfl (List.mem_of_getElem? (i := 1) rfl) ?_
  refine aw_iadd (q := 24) rfl rfl ?_
  obtain ⟨bd_1, h⟩ := h
  refine ag_iaload (q := 25) (N := 12) rfl rfl (SX.a hS rfl) bd_1 ?_
  refine aw_iadd (q := 26) rfl rfl ?_
  obtain ⟨bd_2, h⟩ := h
  refine ag_iaload (q := 27) (N := 120) rfl rfl (SX.a hS rfl) bd_2 ?_
  refine aw_istore_n (q := 28) (j := 2) (ls' := [(2, .int _), (0, .ref _), (1, .int _)]) rfl rfl rfl (by decide) rfl ?_
  refine aw_iconst (q := 29) (v := 0) rfl rfl (by decide) ?_
  refine aw_istore_n (q := 30) (j := 3) (ls' := [(3, .int _), (2, .int _), (0, .ref _), (1, .int _)]) rfl rfl rfl (by decide) rfl ?_
  refine aw_iconst (q := 31) (v := 0) rfl rfl (by decide) ?_
  refine aw_istore (q := 33) (j := 4) (ls' := [(4, .int _), (3, .int _), (2, .int _), (0, .ref _), (1, .int _)]) rfl rfl (by decide) rfl ?_
  refine aw_ls [3, 4, 2, 1, 0] rfl ?_
  exact h
set_option maxRecDepth 20000 in
theorem v_Mo_pure_44 {E : EN} {g : GS} {s : MS} {Q : Option Value → SG → Prop} (x1 : Int32) (x2 : Int32) (x3 : Int32) (x4 : Int32) (x5 : Int32) (hS : SX g) (h : ((6 ≤ x5 → ((x4 = 0 → ((x2 = 0 → Q (some (.int 0)) (mk g s)) ∧ (¬ x2 = 0 → Q (some (.int 1)) (mk g s)))) ∧ (¬ x4 = 0 → GI E m_Mo_common [.int x3, .int x4] g s (fun y1_ t1_ => ((x2 = 0 → ¬ y1_ = 0 ∧ Q (some (.int (x3 / y1_))) (mk g t1_)) ∧ (¬ x2 = 0 → ¬ y1_ = 0 ∧ Q (some (.int (x4 / y1_))) (mk g t1_))))))) ∧ (¬ 6 ≤ x5 → vp_in ((6 + (6 * x1)) + x5) 120 ∧ AWP E m_Mo_pure 44 0 0 [(0, .ref 120), (1, .int x1), (2, .int x2), (3, .int x3), (4, .int (x4 + (s.1 162 ((((6 + (6 * x1)) + x5)).toNatClampNeg)))), (5, .int (x5 + 1))] [] (mk g s) Q))) : AWP E m_Mo_pure 44 0 0 [(0, .ref 120), (1, .int x1), (2, .int x2), (3, .int x3), (4, .int x4), (5, .int x5)] [] (mk g s) Q := by
  refine aw_iload (q := 46) (j := 5) rfl rfl (List.mem_of_getElem? (i := 5) rfl) ?_
  refine aw_bipush (q := 48) (v := 6) rfl rfl (by decide) ?_
  refine aw_icmp_ge (q := 51) (tgt := 77) rfl rfl (by decide) ⟨fun cd_1 => ?_, fun cd_1 => ?_⟩
  · replace h := h.1 cd_1
    refine aw_iload (q := 79) (j := 4) rfl rfl (List.mem_of_getElem? (i := 4) rfl) ?_
    refine aw_if_ne (q := 82) (tgt := 92) rfl rfl (by decide) ⟨fun cd_2 => ?_, fun cd_2 => ?_⟩
    · replace h := h.1 cd_2
      refine aw_iload_n (q := 83) (j := 2) rfl rfl rfl (List.mem_of_getElem? (i := 2) rfl) ?_
      refine aw_if_eq (q := 86) (tgt := 90) rfl rfl (by decide) ⟨fun cd_3 => ?_, fun cd_3 => ?_⟩
      · replace h := h.1 cd_3
        refine aw_iconst (q := 91) (v := 0) rfl rfl (by decide) ?_
        exact aw_ireturn (ty := .int) rfl rfl rfl (by decide) (by decide) h
      · replace h := h.2 cd_3
        refine aw_iconst (q := 87) (v := 1) rfl rfl (by decide) ?_
        refine aw_goto (tgt := 91) rfl (by decide) ?_
        exact aw_ireturn (ty := .int) rfl rfl rfl (by decide) (by decide) h
    · replace h := h.2 cd_2
      refine aw_iload_n (q := 93) (j := 3) rfl rfl rfl (List.mem_of_getElem? (i := 3) rfl) ?_
      refine aw_iload (q := 95) (j := 4) rfl rfl (List.mem_of_getElem? (i := 4) rfl) ?_
      refine ag_csI (z := m_Mo_common) (av := [.int _, .int _]) (st := []) (q := 98) (k' := 0) (n' := 0) rfl rfl cs_Mo_398 ⟨by decide, by decide⟩ rfl rfl (by decide) (by decide) rfl rfl (Nat.le_of_ble_eq_true rfl) ?_
      refine GI.mono h (fun y1_ t1_ h => ?_)
      refine aw_istore (q := 100) (j := 5) (ls' := [(5, .int _), (0, .ref _), (1, .int _), (2, .int _), (3, .int _), (4, .int _)]) rfl rfl (by decide) rfl ?_
      refine aw_iload_n (q := 101) (j := 2) rfl rfl rfl (List.mem_of_getElem? (i := 3) rfl) ?_
      refine aw_if_eq (q := 104) (tgt := 109) rfl rfl (by decide) ⟨fun cd_4 => ?_, fun cd_4 => ?_⟩
      · replace h := h.1 cd_4
        refine aw_iload_n (q := 110) (j := 3) rfl rfl rfl (List.mem_of_getElem? (i := 4) rfl) ?_
        refine aw_iload (q := 112) (j := 5) rfl rfl (List.mem_of_getElem? (i := 0) rfl) ?_
        obtain ⟨zd_5, h⟩ := h
        refine aw_idiv (q := 113) rfl rfl zd_5 ?_
        exact aw_ireturn (ty := .int) rfl rfl rfl (by decide) (by decide) h
      · replace h := h.2 cd_4
        refine aw_iload (q := 106) (j := 4) rfl rfl (List.mem_of_getElem? (i := 5) rfl) ?_
        refine aw_goto (tgt := 110) rfl (by decide) ?_
        refine aw_iload (q := 112) (j := 5) rfl rfl (List.mem_of_getElem? (i := 0) rfl) ?_
        obtain ⟨zd_6, h⟩ := h
        refine aw_idiv (q := 113) rfl rfl zd_6 ?_
        exact aw_ireturn (ty := .int) rfl rfl rfl (by decide) (by decide) h
  · replace h := h.2 cd_1
    refine aw_iload (q := 53) (j := 4) rfl rfl (List.mem_of_getElem? (i := 4) rfl) ?_
    refine aw_aload_n (q := 54) (j := 0) rfl rfl rfl (List.mem_of_getElem? (i := 0) rfl) ?_
    refine ag_getR (q := 57) rfl rfl fl_Mo_143 rfl (SX.o hS rfl) (SX.r hS rfl) ?_
    refine aw_bipush (q := 59) (v := 6) rfl rfl (by decide) ?_
    refine aw_bipush (q := 61) (v := 6) rfl rfl (by decide) ?_
    refine aw_iload_n (q := 62) (j := 1) rfl rfl rfl (List.mem_of_getElem? (i := 1) rfl) ?_
    refine aw_imul (q := 63) rfl rfl ?_
    refine aw_iadd (q := 64) rfl rfl ?_
    refine aw_iload (q := 66) (j := 5) rfl rfl (List.mem_of_getElem? (i := 5) rfl) ?_
    refine aw_iadd (q := 67) rfl rfl ?_
    obtain ⟨bd_7, h⟩ := h
    refine ag_iaload (q := 68) (N := 120) rfl rfl (SX.a hS rfl) bd_7 ?_
    refine aw_iadd (q := 69) rfl rfl ?_
    refine aw_istore (q := 71) (j := 4) (ls' := [(4, .int _), (0, .ref _), (1, .int _), (2, .int _), (3, .int _), (5, .int _)]) rfl rfl (by decide) rfl ?_
    refine aw_iinc (q := 74) (v := _ + 1) (ls' := [(5, .int _), (4, .int _), (0, .ref _), (1, .int _), (2, .int _), (3, .int _)]) rfl rfl (List.mem_of_getElem? (i := 5) rfl) rfl (by decide) rfl ?_
    refine aw_goto (tgt := 44) rfl (by decide) ?_
    refine aw_ls [2, 3, 4, 5, 1, 0] rfl ?_
    exact h
set_option maxRecDepth 20000 in
theorem v_Mo_pure {E : EN} {g : GS} {s : MS} {Q : Option Value → SG → Prop} (x1 : Int32) (x2 : Int32) (hS : SX g) (h : GI E m_Mo_isHole [.ref 120, .int x1] g s (fun y1_ t1_ => ((y1_ = 0 → Q (some (.int (-1))) (mk g t1_)) ∧ (¬ y1_ = 0 → vp_in ((6 * (t1_.1 120 18)) + x1) 12 ∧ vp_in ((6 + (6 * x1)) + (t1_.1 136 ((((6 * (t1_.1 120 18)) + x1)).toNatClampNeg))) 120 ∧ AWP E m_Mo_pure 44 0 0 [(0, .ref 120), (1, .int x1), (2, .int x2), (3, .int (t1_.1 162 ((((6 + (6 * x1)) + (t1_.1 136 ((((6 * (t1_.1 120 18)) + x1)).toNatClampNeg)))).toNatClampNeg))), (4, .int 0), (5, .int 0)] [] (mk g t1_) Q)))) : AMet E m_Mo_pure [.ref 120, .int x1, .int x2] (mk g s) Q := by
  refine AMet.of (by decide) k_Mo_pure [(0, .ref 120), (1, .int x1), (2, .int x2)] (Nat.le_of_ble_eq_true rfl) rfl ?_
  refine aw_aload_n (q := 1) (j := 0) rfl rfl rfl (List.mem_of_getElem? (i := 0) rfl) ?_
  refine aw_iload_n (q := 2) (j := 1) rfl rfl rfl (List.mem_of_getElem? (i := 1) rfl) ?_
  refine ag_cvI (z := m_Mo_isHole) (ci := 11) (av := [.int _]) (st := []) (q := 5) (k' := 0) (n' := 0) rfl rfl cv_Mo_389 ⟨by decide, by decide⟩ rfl rfl (by decide) (by decide) (SX.o hS rfl) rfl rfl rfl (Nat.le_of_ble_eq_true rfl) ?_
  refine GI.mono h (fun y1_ t1_ h => ?_)
  refine aw_if_ne (q := 8) (tgt := 10) rfl rfl (by decide) ⟨fun cd_1 => ?_, fun cd_1 => ?_⟩
  · replace h := h.1 cd_1
    refine aw_iconst (q := 9) (v := (-1)) rfl rfl (by decide) ?_
    exact aw_ireturn (ty := .int) rfl rfl rfl (by decide) (by decide) h
  · replace h := h.2 cd_1
    refine aw_aload_n (q := 11) (j := 0) rfl rfl rfl (List.mem_of_getElem? (i := 0) rfl) ?_
    refine ag_getR (q := 14) rfl rfl fl_Mo_143 rfl (SX.o hS rfl) (SX.r hS rfl) ?_
    refine aw_bipush (q := 16) (v := 6) rfl rfl (by decide) ?_
    refine aw_bipush (q := 18) (v := 6) rfl rfl (by decide) ?_
    refine aw_iload_n (q := 19) (j := 1) rfl rfl rfl (List.mem_of_getElem? (i := 1) rfl) ?_
    refine aw_imul (q := 20) rfl rfl ?_
    refine aw_iadd (q := 21) rfl rfl ?_
    refine aw_aload_n (q := 22) (j := 0) rfl rfl rfl (List.mem_of_getElem? (i := 0) rfl) ?_
    refine ag_getR (q := 25) rfl rfl fl_Mo_64 rfl (SX.o hS rfl) (SX.r hS rfl) ?_
    refine aw_bipush (q := 27) (v := 6) rfl rfl (by decide) ?_
    refine aw_aload_n (q := 28) (j := 0) rfl rfl rfl (List.mem_of_getElem? (i := 0) rfl) ?_
    refine ag_getI (q := 31) rfl rfl fl_Mo_257 rfl (SX.o hS rfl) ?_
    refine aw_imul (q := 32) rfl rfl ?_
    refine aw_iload_n (q := 33) (j := 1) rfl rfl rfl (List.mem_of_getElem? (i := 1) rfl) ?_
    refine aw_iadd (q := 34) rfl rfl ?_
    obtain ⟨bd_2, h⟩ := h
    refine ag_iaload (q := 35) (N := 12) rfl rfl (SX.a hS rfl) bd_2 ?_
    refine aw_iadd (q := 36) rfl rfl ?_
    obtain ⟨bd_3, h⟩ := h
    refine ag_iaload (q := 37) (N := 120) rfl rfl (SX.a hS rfl) bd_3 ?_
    refine aw_istore_n (q := 38) (j := 3) (ls' := [(3, .int _), (0, .ref _), (1, .int _), (2, .int _)]) rfl rfl rfl (by decide) rfl ?_
    refine aw_iconst (q := 39) (v := 0) rfl rfl (by decide) ?_
    refine aw_istore (q := 41) (j := 4) (ls' := [(4, .int _), (3, .int _), (0, .ref _), (1, .int _), (2, .int _)]) rfl rfl (by decide) rfl ?_
    refine aw_iconst (q := 42) (v := 0) rfl rfl (by decide) ?_
    refine aw_istore (q := 44) (j := 5) (ls' := [(5, .int _), (4, .int _), (3, .int _), (0, .ref _), (1, .int _), (2, .int _)]) rfl rfl (by decide) rfl ?_
    refine aw_ls [3, 4, 5, 2, 1, 0] rfl ?_
    exact h
set_option maxRecDepth 20000 in
theorem v_Mo_common_4 {E : EN} {g : GS} {s : MS} {Q : Option Value → SG → Prop} (x0 : Int32) (x1 : Int32) (x2 : Int32) (x3 : Int32) (h : ((x3 = 0 → Q (some (.int x2)) (mk g s)) ∧ (¬ x3 = 0 → ¬ x3 = 0 ∧ AWP E m_Mo_common 4 0 0 [(0, .int x0), (1, .int x1), (2, .int x3), (3, .int (x2 - x2 / x3 * x3))] [] (mk g s) Q))) : AWP E m_Mo_common 4 0 0 [(0, .int x0), (1, .int x1), (2, .int x2), (3, .int x3)] [] (mk g s) Q := by
  refine aw_iload_n (q := 5) (j := 3) rfl rfl rfl (List.mem_of_getElem? (i := 3) rfl) ?_
  refine aw_if_eq (q := 8) (tgt := 21) rfl rfl (by decide) ⟨fun cd_1 => ?_, fun cd_1 => ?_⟩
  · replace h := h.1 cd_1
    refine aw_iload_n (q := 22) (j := 2) rfl rfl rfl (List.mem_of_getElem? (i := 2) rfl) ?_
    exact aw_ireturn (ty := .int) rfl rfl rfl (by decide) (by decide) h
  · replace h := h.2 cd_1
    refine aw_iload_n (q := 9) (j := 2) rfl rfl rfl (List.mem_of_getElem? (i := 2) rfl) ?_
    refine aw_iload_n (q := 10) (j := 3) rfl rfl rfl (List.mem_of_getElem? (i := 3) rfl) ?_
    obtain ⟨zd_2, h⟩ := h
    refine aw_irem (q := 11) rfl rfl zd_2 ?_
    refine aw_istore (q := 13) (j := 4) (ls' := [(4, .int _), (0, .int _), (1, .int _), (2, .int _), (3, .int _)]) rfl rfl (by decide) rfl ?_
    refine aw_iload_n (q := 14) (j := 3) rfl rfl rfl (List.mem_of_getElem? (i := 4) rfl) ?_
    refine aw_istore_n (q := 15) (j := 2) (ls' := [(2, .int _), (4, .int _), (0, .int _), (1, .int _), (3, .int _)]) rfl rfl rfl (by decide) rfl ?_
    refine aw_iload (q := 17) (j := 4) rfl rfl (List.mem_of_getElem? (i := 1) rfl) ?_
    refine aw_istore_n (q := 18) (j := 3) (ls' := [(3, .int _), (2, .int _), (4, .int _), (0, .int _), (1, .int _)]) rfl rfl rfl (by decide) rfl ?_
    refine aw_goto (tgt := 4) rfl (by decide) ?_
    refine aw_ls [3, 4, 1, 0] rfl ?_
    exact h
set_option maxRecDepth 20000 in
theorem v_Mo_common {E : EN} {g : GS} {s : MS} {Q : Option Value → SG → Prop} (x0 : Int32) (x1 : Int32) (h : AWP E m_Mo_common 4 0 0 [(0, .int x0), (1, .int x1), (2, .int x0), (3, .int x1)] [] (mk g s) Q) : AMet E m_Mo_common [.int x0, .int x1] (mk g s) Q := by
  refine AMet.of (by decide) k_Mo_common [(0, .int x0), (1, .int x1)] (Nat.le_of_ble_eq_true rfl) rfl ?_
  refine aw_iload_n (q := 1) (j := 0) rfl rfl rfl (List.mem_of_getElem? (i := 0) rfl) ?_
  refine aw_istore_n (q := 2) (j := 2) (ls' := [(2, .int _), (0, .int _), (1, .int _)]) rfl rfl rfl (by decide) rfl ?_
  refine aw_iload_n (q := 3) (j := 1) rfl rfl rfl (List.mem_of_getElem? (i := 2) rfl) ?_
  refine aw_istore_n (q := 4) (j := 3) (ls' := [(3, .int _), (2, .int _), (0, .int _), (1, .int _)]) rfl rfl rfl (by decide) rfl ?_
  refine aw_ls [2, 3, 1, 0] rfl ?_
  exact h
set_option maxRecDepth 20000 in
theorem v_Mo_minutes {E : EN} {g : GS} {s : MS} {Q : Option Value → SG → Prop} (x1 : Int32) (hS : SX g) (h : GI E m_Mo_in [.int x1, .int 0, .int 600] g s (fun y1_ t1_ => ((y1_ = 0 → Q (some (.int (-1))) (mk g t1_)) ∧ (¬ y1_ = 0 → ((x1 = 0 → Q (some (.int (t1_.1 162 114))) (mk g t1_)) ∧ (¬ x1 = 0 → GV E m_Mo_copies [.ref 120] g t1_ (fun t2_ => GV E m_Mo_goes [.ref 120, .int x1] g t2_ (fun t3_ => GV E m_Mo_keeps [.ref 120] g t3_ (fun t4_ => Q (some (.int (t4_.1 162 114))) (mk g t4_)))))))))) : AMet E m_Mo_minutes [.ref 120, .int x1] (mk g s) Q := by
  refine AMet.of (by decide) k_Mo_minutes [(0, .ref 120), (1, .int x1)] (Nat.le_of_ble_eq_true rfl) rfl ?_
  refine aw_iload_n (q := 1) (j := 1) rfl rfl rfl (List.mem_of_getElem? (i := 1) rfl) ?_
  refine aw_iconst (q := 2) (v := 0) rfl rfl (by decide) ?_
  refine aw_sipush (q := 5) (v := 600) rfl rfl (by decide) ?_
  refine ag_csI (z := m_Mo_in) (av := [.int _, .int _, .int _]) (st := []) (q := 8) (k' := 0) (n' := 0) rfl rfl cs_Mo_350 ⟨by decide, by decide⟩ rfl rfl (by decide) (by decide) rfl rfl (Nat.le_of_ble_eq_true rfl) ?_
  refine GI.mono h (fun y1_ t1_ h => ?_)
  refine aw_if_ne (q := 11) (tgt := 13) rfl rfl (by decide) ⟨fun cd_1 => ?_, fun cd_1 => ?_⟩
  · replace h := h.1 cd_1
    refine aw_iconst (q := 12) (v := (-1)) rfl rfl (by decide) ?_
    exact aw_ireturn (ty := .int) rfl rfl rfl (by decide) (by decide) h
  · replace h := h.2 cd_1
    refine aw_iload_n (q := 14) (j := 1) rfl rfl rfl (List.mem_of_getElem? (i := 1) rfl) ?_
    refine aw_if_ne (q := 17) (tgt := 25) rfl rfl (by decide) ⟨fun cd_2 => ?_, fun cd_2 => ?_⟩
    · replace h := h.1 cd_2
      refine aw_aload_n (q := 18) (j := 0) rfl rfl rfl (List.mem_of_getElem? (i := 0) rfl) ?_
      refine ag_getR (q := 21) rfl rfl fl_Mo_143 rfl (SX.o hS rfl) (SX.r hS rfl) ?_
      refine aw_bipush (q := 23) (v := 114) rfl rfl (by decide) ?_
      refine ag_iaload (q := 24) (N := 120) rfl rfl (SX.a hS rfl) (by unfold vp_in; decide) ?_
      exact aw_ireturn (ty := .int) rfl rfl rfl (by decide) (by decide) h
    · replace h := h.2 cd_2
      refine aw_aload_n (q := 26) (j := 0) rfl rfl rfl (List.mem_of_getElem? (i := 0) rfl) ?_
      refine ag_cvV (z := m_Mo_copies) (ci := 11) (av := []) (st := []) (q := 29) (k' := 0) (n' := 0) rfl rfl cv_Mo_395 ⟨by decide, by decide⟩ rfl rfl (by decide) (by decide) (SX.o hS rfl) rfl rfl rfl (Nat.le_of_ble_eq_true rfl) ?_
      refine GV.mono h (fun t2_ h => ?_)
      refine aw_aload_n (q := 30) (j := 0) rfl rfl rfl (List.mem_of_getElem? (i := 0) rfl) ?_
      refine aw_iload_n (q := 31) (j := 1) rfl rfl rfl (List.mem_of_getElem? (i := 1) rfl) ?_
      refine ag_cvV (z := m_Mo_goes) (ci := 11) (av := [.int _]) (st := []) (q := 34) (k' := 0) (n' := 0) rfl rfl cv_Mo_401 ⟨by decide, by decide⟩ rfl rfl (by decide) (by decide) (SX.o hS rfl) rfl rfl rfl (Nat.le_of_ble_eq_true rfl) ?_
      refine GV.mono h (fun t3_ h => ?_)
      refine aw_aload_n (q := 35) (j := 0) rfl rfl rfl (List.mem_of_getElem? (i := 0) rfl) ?_
      refine ag_cvV (z := m_Mo_keeps) (ci := 11) (av := []) (st := []) (q := 38) (k' := 0) (n' := 0) rfl rfl cv_Mo_404 ⟨by decide, by decide⟩ rfl rfl (by decide) (by decide) (SX.o hS rfl) rfl rfl rfl (Nat.le_of_ble_eq_true rfl) ?_
      refine GV.mono h (fun t4_ h => ?_)
      refine aw_aload_n (q := 39) (j := 0) rfl rfl rfl (List.mem_of_getElem? (i := 0) rfl) ?_
      refine ag_getR (q := 42) rfl rfl fl_Mo_143 rfl (SX.o hS rfl) (SX.r hS rfl) ?_
      refine aw_bipush (q := 44) (v := 114) rfl rfl (by decide) ?_
      refine ag_iaload (q := 45) (N := 120) rfl rfl (SX.a hS rfl) (by unfold vp_in; decide) ?_
      exact aw_ireturn (ty := .int) rfl rfl rfl (by decide) (by decide) h
set_option maxRecDepth 20000 in
theorem v_Mo_goes_2 {E : EN} {g : GS} {s : MS} {Q : Option Value → SG → Prop} (x1 : Int32) (x2 : Int32) (hS : SX g) (h : ((x1 ≤ x2 → Q none (mk g s)) ∧ (¬ x1 ≤ x2 → GV E m_Mo_minuteGoes [.ref 120] g s (fun t1_ => AWP E m_Mo_goes 2 0 0 [(0, .ref 120), (1, .int x1), (2, .int (x2 + 1))] [] (mk g t1_) Q)))) : AWP E m_Mo_goes 2 0 0 [(0, .ref 120), (1, .int x1), (2, .int x2)] [] (mk g s) Q := by
  refine aw_iload_n (q := 3) (j := 2) rfl rfl rfl (List.mem_of_getElem? (i := 2) rfl) ?_
  refine aw_iload_n (q := 4) (j := 1) rfl rfl rfl (List.mem_of_getElem? (i := 1) rfl) ?_
  refine aw_icmp_ge (q := 7) (tgt := 17) rfl rfl (by decide) ⟨fun cd_1 => ?_, fun cd_1 => ?_⟩
  · replace h := h.1 cd_1
    exact aw_return rfl rfl (by decide) (by decide) h
  · replace h := h.2 cd_1
    refine aw_aload_n (q := 8) (j := 0) rfl rfl rfl (List.mem_of_getElem? (i := 0) rfl) ?_
    refine ag_cvV (z := m_Mo_minuteGoes) (ci := 11) (av := []) (st := []) (q := 11) (k' := 0) (n' := 0) rfl rfl cv_Mo_380 ⟨by decide, by decide⟩ rfl rfl (by decide) (by decide) (SX.o hS rfl) rfl rfl rfl (Nat.le_of_ble_eq_true rfl) ?_
    refine GV.mono h (fun t1_ h => ?_)
    refine aw_iinc (q := 14) (v := _ + 1) (ls' := [(2, .int _), (0, .ref _), (1, .int _)]) rfl rfl (List.mem_of_getElem? (i := 2) rfl) rfl (by decide) rfl ?_
    refine aw_goto (tgt := 2) rfl (by decide) ?_
    refine aw_ls [1, 2, 0] rfl ?_
    exact h
set_option maxRecDepth 20000 in
theorem v_Mo_goes {E : EN} {g : GS} {s : MS} {Q : Option Value → SG → Prop} (x1 : Int32) (h : AWP E m_Mo_goes 2 0 0 [(0, .ref 120), (1, .int x1), (2, .int 0)] [] (mk g s) Q) : AMet E m_Mo_goes [.ref 120, .int x1] (mk g s) Q := by
  refine AMet.of (by decide) k_Mo_goes [(0, .ref 120), (1, .int x1)] (Nat.le_of_ble_eq_true rfl) rfl ?_
  refine aw_iconst (q := 1) (v := 0) rfl rfl (by decide) ?_
  refine aw_istore_n (q := 2) (j := 2) (ls' := [(2, .int _), (0, .ref _), (1, .int _)]) rfl rfl rfl (by decide) rfl ?_
  refine aw_ls [1, 2, 0] rfl ?_
  exact h
set_option maxRecDepth 20000 in
theorem v_Mo_minuteGoes_2 {E : EN} {g : GS} {s : MS} {Q : Option Value → SG → Prop} (x1 : Int32) (hS : SX g) (h : ((6 ≤ x1 → AWP E m_Mo_minuteGoes 23 0 0 [(0, .ref 120), (1, .int 0)] [] (mk g s) Q) ∧ (¬ 6 ≤ x1 → vp_in x1 6 ∧ (∀ s1_, s1_ = wi s 165 ((x1).toNatClampNeg) (vp_nar .boolean 0) → AWP E m_Mo_minuteGoes 2 0 0 [(0, .ref 120), (1, .int (x1 + 1))] [] (mk g s1_) Q)))) : AWP E m_Mo_minuteGoes 2 0 0 [(0, .ref 120), (1, .int x1)] [] (mk g s) Q := by
  refine aw_iload_n (q := 3) (j := 1) rfl rfl rfl (List.mem_of_getElem? (i := 1) rfl) ?_
  refine aw_bipush (q := 5) (v := 6) rfl rfl (by decide) ?_
  refine aw_icmp_ge (q := 8) (tgt := 21) rfl rfl (by decide) ⟨fun cd_1 => ?_, fun cd_1 => ?_⟩
  · replace h := h.1 cd_1
    refine aw_iconst (q := 22) (v := 0) rfl rfl (by decide) ?_
    refine aw_istore_n (q := 23) (j := 1) (ls' := [(1, .int _), (0, .ref _)]) rfl rfl rfl (by decide) rfl ?_
    refine aw_ls [1, 0] rfl ?_
    exact h
  · replace h := h.2 cd_1
    refine aw_aload_n (q := 9) (j := 0) rfl rfl rfl (List.mem_of_getElem? (i := 0) rfl) ?_
    refine ag_getR (q := 12) rfl rfl fl_Mo_152 rfl (SX.o hS rfl) (SX.r hS rfl) ?_
    refine aw_iload_n (q := 13) (j := 1) rfl rfl rfl (List.mem_of_getElem? (i := 1) rfl) ?_
    refine aw_iconst (q := 14) (v := 0) rfl rfl (by decide) ?_
    obtain ⟨bd_2, h⟩ := h
    refine ag_zastore (q := 15) (N := 6) rfl rfl (SX.a hS rfl) bd_2 ?_
    replace h := h _ rfl
    refine aw_iinc (q := 18) (v := _ + 1) (ls' := [(1, .int _), (0, .ref _)]) rfl rfl (List.mem_of_getElem? (i := 1) rfl) rfl (by decide) rfl ?_
    refine aw_goto (tgt := 2) rfl (by decide) ?_
    refine aw_ls [1, 0] rfl ?_
    exact h
set_option maxRecDepth 20000 in
theorem v_Mo_minuteGoes_23 {E : EN} {g : GS} {s : MS} {Q : Option Value → SG → Prop} (x1 : Int32) (hS : SX g) (h : vp_in (s.1 120 18) 2 ∧ (((s.1 137 (((s.1 120 18)).toNatClampNeg)) ≤ x1 → (((s.1 163 118) ≤ 0 → (∀ s1_, s1_ = wi s 163 114 ((s.1 163 114) + 1) → Q none (mk g s1_))) ∧ (¬ (s.1 163 118) ≤ 0 → (∀ s2_, s2_ = wi s 163 118 ((s.1 163 118) - 1) → (∀ s3_, s3_ = wi s2_ 163 114 ((s.1 163 114) + 1) → Q none (mk g s3_)))))) ∧ (¬ (s.1 137 (((s.1 120 18)).toNatClampNeg)) ≤ x1 → vp_in (42 + x1) 120 ∧ (((s.1 163 (((42 + x1)).toNatClampNeg)) = 3 → AWP E m_Mo_minuteGoes 23 0 0 [(0, .ref 120), (1, .int (x1 + 1))] [] (mk g s) Q) ∧ (¬ (s.1 163 (((42 + x1)).toNatClampNeg)) = 3 → vp_in (74 + x1) 120 ∧ ((99 ≤ (s.1 163 (((74 + x1)).toNatClampNeg)) → (((s.1 163 (((42 + x1)).toNatClampNeg)) = 0 → GV E m_Mo_atHeap [.ref 120, .int x1] g s (fun t4_ => AWP E m_Mo_minuteGoes 23 0 0 [(0, .ref 120), (1, .int (x1 + 1))] [] (mk g t4_) Q)) ∧ (¬ (s.1 163 (((42 + x1)).toNatClampNeg)) = 0 → vp_in (50 + x1) 120 ∧ (∀ s5_, s5_ = wi s 163 (((50 + x1)).toNatClampNeg) ((s.1 163 (((50 + x1)).toNatClampNeg)) - 1) → (((s5_.1 163 (((50 + x1)).toNatClampNeg)) ≤ 0 → (((s.1 163 (((42 + x1)).toNatClampNeg)) = 1 → GV E m_Mo_drops [.ref 120, .int x1] g s5_ (fun t6_ => AWP E m_Mo_minuteGoes 23 0 0 [(0, .ref 120), (1, .int (x1 + 1))] [] (mk g t6_) Q)) ∧ (¬ (s.1 163 (((42 + x1)).toNatClampNeg)) = 1 → (∀ s7_, s7_ = wi s5_ 163 (((42 + x1)).toNatClampNeg) 0 → AWP E m_Mo_minuteGoes 23 0 0 [(0, .ref 120), (1, .int (x1 + 1))] [] (mk g s7_) Q)))) ∧ (¬ (s5_.1 163 (((50 + x1)).toNatClampNeg)) ≤ 0 → AWP E m_Mo_minuteGoes 23 0 0 [(0, .ref 120), (1, .int (x1 + 1))] [] (mk g s5_) Q)))))) ∧ (¬ 99 ≤ (s.1 163 (((74 + x1)).toNatClampNeg)) → (∀ s8_, s8_ = wi s 163 (((74 + x1)).toNatClampNeg) ((s.1 163 (((74 + x1)).toNatClampNeg)) + 1) → (((s.1 163 (((42 + x1)).toNatClampNeg)) = 0 → GV E m_Mo_atHeap [.ref 120, .int x1] g s8_ (fun t9_ => AWP E m_Mo_minuteGoes 23 0 0 [(0, .ref 120), (1, .int (x1 + 1))] [] (mk g t9_) Q)) ∧ (¬ (s.1 163 (((42 + x1)).toNatClampNeg)) = 0 → vp_in (50 + x1) 120 ∧ (∀ s10_, s10_ = wi s8_ 163 (((50 + x1)).toNatClampNeg) ((s8_.1 163 (((50 + x1)).toNatClampNeg)) - 1) → (((s10_.1 163 (((50 + x1)).toNatClampNeg)) ≤ 0 → (((s.1 163 (((42 + x1)).toNatClampNeg)) = 1 → GV E m_Mo_drops [.ref 120, .int x1] g s10_ (fun t11_ => AWP E m_Mo_minuteGoes 23 0 0 [(0, .ref 120), (1, .int (x1 + 1))] [] (mk g t11_) Q)) ∧ (¬ (s.1 163 (((42 + x1)).toNatClampNeg)) = 1 → (∀ s12_, s12_ = wi s10_ 163 (((42 + x1)).toNatClampNeg) 0 → AWP E m_Mo_minuteGoes 23 0 0 [(0, .ref 120), (1, .int (x1 + 1))] [] (mk g s12_) Q)))) ∧ (¬ (s10_.1 163 (((50 + x1)).toNatClampNeg)) ≤ 0 → AWP E m_Mo_minuteGoes 23 0 0 [(0, .ref 120), (1, .int (x1 + 1))] [] (mk g s10_) Q))))))))))))) : AWP E m_Mo_minuteGoes 23 0 0 [(0, .ref 120), (1, .int x1)] [] (mk g s) Q := by
  refine aw_iload_n (q := 24) (j := 1) rfl rfl rfl (List.mem_of_getElem? (i := 1) rfl) ?_
  refine aw_aload_n (q := 25) (j := 0) rfl rfl rfl (List.mem_of_getElem? (i := 0) rfl) ?_
  refine ag_getR (q := 28) rfl rfl fl_Mo_67 rfl (SX.o hS rfl) (SX.r hS rfl) ?_
  refine aw_aload_n (q := 29) (j := 0) rfl rfl rfl (List.mem_of_getElem? (i := 0) rfl) ?_
  refine ag_getI (q := 32) rfl rfl fl_Mo_257 rfl (SX.o hS rfl) ?_
  obtain ⟨bd_1, h⟩ := h
  refine ag_iaload (q := 33) (N := 2) rfl rfl (SX.a hS rfl) bd_1 ?_
  refine aw_icmp_ge (q := 36) (tgt := 150) rfl rfl (by decide) ⟨fun cd_2 => ?_, fun cd_2 => ?_⟩
  · replace h := h.1 cd_2
    refine aw_aload_n (q := 151) (j := 0) rfl rfl rfl (List.mem_of_getElem? (i := 0) rfl) ?_
    refine ag_getR (q := 154) rfl rfl fl_Mo_146 rfl (SX.o hS rfl) (SX.r hS rfl) ?_
    refine aw_bipush (q := 156) (v := 118) rfl rfl (by decide) ?_
    refine ag_iaload (q := 157) (N := 120) rfl rfl (SX.a hS rfl) (by unfold vp_in; decide) ?_
    refine aw_if_le (q := 160) (tgt := 171) rfl rfl (by decide) ⟨fun cd_3 => ?_, fun cd_3 => ?_⟩
    · replace h := h.1 cd_3
      refine aw_aload_n (q := 172) (j := 0) rfl rfl rfl (List.mem_of_getElem? (i := 0) rfl) ?_
      refine ag_getR (q := 175) rfl rfl fl_Mo_146 rfl (SX.o hS rfl) (SX.r hS rfl) ?_
      refine aw_bipush (q := 177) (v := 114) rfl rfl (by decide) ?_
      refine aw_dup2 (q := 178) rfl rfl rfl rfl ?_
      refine ag_iaload (q := 179) (N := 120) rfl rfl (SX.a hS rfl) (by unfold vp_in; decide) ?_
      refine aw_iconst (q := 180) (v := 1) rfl rfl (by decide) ?_
      refine aw_iadd (q := 181) rfl rfl ?_
      refine ag_iastore (q := 182) (N := 120) rfl rfl (SX.a hS rfl) (by unfold vp_in; decide) ?_
      replace h := h _ rfl
      exact aw_return rfl rfl (by decide) (by decide) h
    · replace h := h.2 cd_3
      refine aw_aload_n (q := 161) (j := 0) rfl rfl rfl (List.mem_of_getElem? (i := 0) rfl) ?_
      refine ag_getR (q := 164) rfl rfl fl_Mo_146 rfl (SX.o hS rfl) (SX.r hS rfl) ?_
      refine aw_bipush (q := 166) (v := 118) rfl rfl (by decide) ?_
      refine aw_dup2 (q := 167) rfl rfl rfl rfl ?_
      refine ag_iaload (q := 168) (N := 120) rfl rfl (SX.a hS rfl) (by unfold vp_in; decide) ?_
      refine aw_iconst (q := 169) (v := 1) rfl rfl (by decide) ?_
      refine aw_isub (q := 170) rfl rfl ?_
      refine ag_iastore (q := 171) (N := 120) rfl rfl (SX.a hS rfl) (by unfold vp_in; decide) ?_
      replace h := h _ rfl
      refine aw_aload_n (q := 172) (j := 0) rfl rfl rfl (List.mem_of_getElem? (i := 0) rfl) ?_
      refine ag_getR (q := 175) rfl rfl fl_Mo_146 rfl (SX.o hS rfl) (SX.r hS rfl) ?_
      refine aw_bipush (q := 177) (v := 114) rfl rfl (by decide) ?_
      refine aw_dup2 (q := 178) rfl rfl rfl rfl ?_
      refine ag_iaload (q := 179) (N := 120) rfl rfl (SX.a hS rfl) (by unfold vp_in; decide) ?_
      refine aw_iconst (q := 180) (v := 1) rfl rfl (by decide) ?_
      refine aw_iadd (q := 181) rfl rfl ?_
      refine ag_iastore (q := 182) (N := 120) rfl rfl (SX.a hS rfl) (by unfold vp_in; decide) ?_
      replace h := h _ rfl
      exact aw_return rfl rfl (by decide) (by decide) h
  · replace h := h.2 cd_2
    refine aw_aload_n (q := 37) (j := 0) rfl rfl rfl (List.mem_of_getElem? (i := 0) rfl) ?_
    refine ag_getR (q := 40) rfl rfl fl_Mo_146 rfl (SX.o hS rfl) (SX.r hS rfl) ?_
    refine aw_bipush (q := 42) (v := 42) rfl rfl (by decide) ?_
    refine aw_iload_n (q := 43) (j := 1) rfl rfl rfl (List.mem_of_getElem? (i := 1) rfl) ?_
    refine aw_iadd (q := 44) rfl rfl ?_
    obtain ⟨bd_4, h⟩ := h
    refine ag_iaload (q := 45) (N := 120) rfl rfl (SX.a hS rfl) bd_4 ?_
    refine aw_istore_n (q := 46) (j := 2) (ls' := [(2, .int _), (0, .ref _), (1, .int _)]) rfl rfl rfl (by decide) rfl ?_
    refine aw_iload_n (q := 47) (j := 2) rfl rfl rfl (List.mem_of_getElem? (i := 0) rfl) ?_
    refine aw_iconst (q := 48) (v := 3) rfl rfl (by decide) ?_
    refine aw_icmp_ne (q := 51) (tgt := 54) rfl rfl (by decide) ⟨fun cd_5 => ?_, fun cd_5 => ?_⟩
    · replace h := h.1 cd_5
      refine aw_goto (tgt := 144) rfl (by decide) ?_
      refine aw_iinc (q := 147) (v := _ + 1) (ls' := [(1, .int _), (2, .int _), (0, .ref _)]) rfl rfl (List.mem_of_getElem? (i := 2) rfl) rfl (by decide) rfl ?_
      refine aw_goto (tgt := 23) rfl (by decide) ?_
      refine aw_ls [2, 0] rfl ?_
      exact h
    · replace h := h.2 cd_5
      refine aw_aload_n (q := 55) (j := 0) rfl rfl rfl (List.mem_of_getElem? (i := 1) rfl) ?_
      refine ag_getR (q := 58) rfl rfl fl_Mo_146 rfl (SX.o hS rfl) (SX.r hS rfl) ?_
      refine aw_bipush (q := 60) (v := 74) rfl rfl (by decide) ?_
      refine aw_iload_n (q := 61) (j := 1) rfl rfl rfl (List.mem_of_getElem? (i := 2) rfl) ?_
      refine aw_iadd (q := 62) rfl rfl ?_
      obtain ⟨bd_6, h⟩ := h
      refine ag_iaload (q := 63) (N := 120) rfl rfl (SX.a hS rfl) bd_6 ?_
      refine aw_bipush (q := 65) (v := 99) rfl rfl (by decide) ?_
      refine aw_icmp_ge (q := 68) (tgt := 81) rfl rfl (by decide) ⟨fun cd_7 => ?_, fun cd_7 => ?_⟩
      · replace h := h.1 cd_7
        refine aw_iload_n (q := 82) (j := 2) rfl rfl rfl (List.mem_of_getElem? (i := 0) rfl) ?_
        refine aw_if_ne (q := 85) (tgt := 93) rfl rfl (by decide) ⟨fun cd_8 => ?_, fun cd_8 => ?_⟩
        · replace h := h.1 cd_8
          refine aw_aload_n (q := 86) (j := 0) rfl rfl rfl (List.mem_of_getElem? (i := 1) rfl) ?_
          refine aw_iload_n (q := 87) (j := 1) rfl rfl rfl (List.mem_of_getElem? (i := 2) rfl) ?_
          refine ag_cvV (z := m_Mo_atHeap) (ci := 11) (av := [.int _]) (st := []) (q := 90) (k' := 0) (n' := 0) rfl rfl cv_Mo_374 ⟨by decide, by decide⟩ rfl rfl (by decide) (by decide) (SX.o hS rfl) rfl rfl rfl (Nat.le_of_ble_eq_true rfl) ?_
          refine GV.mono h (fun t4_ h => ?_)
          refine aw_goto (tgt := 144) rfl (by decide) ?_
          refine aw_iinc (q := 147) (v := _ + 1) (ls' := [(1, .int _), (2, .int _), (0, .ref _)]) rfl rfl (List.mem_of_getElem? (i := 2) rfl) rfl (by decide) rfl ?_
          refine aw_goto (tgt := 23) rfl (by decide) ?_
          refine aw_ls [2, 0] rfl ?_
          exact h
        · replace h := h.2 cd_8
          refine aw_aload_n (q := 94) (j := 0) rfl rfl rfl (List.mem_of_getElem? (i := 1) rfl) ?_
          refine ag_getR (q := 97) rfl rfl fl_Mo_146 rfl (SX.o hS rfl) (SX.r hS rfl) ?_
          refine aw_bipush (q := 99) (v := 50) rfl rfl (by decide) ?_
          refine aw_iload_n (q := 100) (j := 1) rfl rfl rfl (List.mem_of_getElem? (i := 2) rfl) ?_
          refine aw_iadd (q := 101) rfl rfl ?_
          refine aw_dup2 (q := 102) rfl rfl rfl rfl ?_
          obtain ⟨bd_9, h⟩ := h
          refine ag_iaload (q := 103) (N := 120) rfl rfl (SX.a hS rfl) bd_9 ?_
          refine aw_iconst (q := 104) (v := 1) rfl rfl (by decide) ?_
          refine aw_isub (q := 105) rfl rfl ?_
          refine ag_iastore (q := 106) (N := 120) rfl rfl (SX.a hS rfl) bd_9 ?_
          replace h := h _ rfl
          refine aw_aload_n (q := 107) (j := 0) rfl rfl rfl (List.mem_of_getElem? (i := 1) rfl) ?_
          refine ag_getR (q := 110) rfl rfl fl_Mo_146 rfl (SX.o hS rfl) (SX.r hS rfl) ?_
          refine aw_bipush (q := 112) (v := 50) rfl rfl (by decide) ?_
          refine aw_iload_n (q := 113) (j := 1) rfl rfl rfl (List.mem_of_getElem? (i := 2) rfl) ?_
          refine aw_iadd (q := 114) rfl rfl ?_
          refine ag_iaload (q := 115) (N := 120) rfl rfl (SX.a hS rfl) bd_9 ?_
          refine aw_if_le (q := 118) (tgt := 121) rfl rfl (by decide) ⟨fun cd_10 => ?_, fun cd_10 => ?_⟩
          · replace h := h.1 cd_10
            refine aw_iload_n (q := 122) (j := 2) rfl rfl rfl (List.mem_of_getElem? (i := 0) rfl) ?_
            refine aw_iconst (q := 123) (v := 1) rfl rfl (by decide) ?_
            refine aw_icmp_ne (q := 126) (tgt := 134) rfl rfl (by decide) ⟨fun cd_11 => ?_, fun cd_11 => ?_⟩
            · replace h := h.1 cd_11
              refine aw_aload_n (q := 127) (j := 0) rfl rfl rfl (List.mem_of_getElem? (i := 1) rfl) ?_
              refine aw_iload_n (q := 128) (j := 1) rfl rfl rfl (List.mem_of_getElem? (i := 2) rfl) ?_
              refine ag_cvV (z := m_Mo_drops) (ci := 11) (av := [.int _]) (st := []) (q := 131) (k' := 0) (n' := 0) rfl rfl cv_Mo_377 ⟨by decide, by decide⟩ rfl rfl (by decide) (by decide) (SX.o hS rfl) rfl rfl rfl (Nat.le_of_ble_eq_true rfl) ?_
              refine GV.mono h (fun t6_ h => ?_)
              refine aw_goto (tgt := 144) rfl (by decide) ?_
              refine aw_iinc (q := 147) (v := _ + 1) (ls' := [(1, .int _), (2, .int _), (0, .ref _)]) rfl rfl (List.mem_of_getElem? (i := 2) rfl) rfl (by decide) rfl ?_
              refine aw_goto (tgt := 23) rfl (by decide) ?_
              refine aw_ls [2, 0] rfl ?_
              exact h
            · replace h := h.2 cd_11
              refine aw_aload_n (q := 135) (j := 0) rfl rfl rfl (List.mem_of_getElem? (i := 1) rfl) ?_
              refine ag_getR (q := 138) rfl rfl fl_Mo_146 rfl (SX.o hS rfl) (SX.r hS rfl) ?_
              refine aw_bipush (q := 140) (v := 42) rfl rfl (by decide) ?_
              refine aw_iload_n (q := 141) (j := 1) rfl rfl rfl (List.mem_of_getElem? (i := 2) rfl) ?_
              refine aw_iadd (q := 142) rfl rfl ?_
              refine aw_iconst (q := 143) (v := 0) rfl rfl (by decide) ?_
              refine ag_iastore (q := 144) (N := 120) rfl rfl (SX.a hS rfl) bd_4 ?_
              replace h := h _ rfl
              refine aw_iinc (q := 147) (v := _ + 1) (ls' := [(1, .int _), (2, .int _), (0, .ref _)]) rfl rfl (List.mem_of_getElem? (i := 2) rfl) rfl (by decide) rfl ?_
              refine aw_goto (tgt := 23) rfl (by decide) ?_
              refine aw_ls [2, 0] rfl ?_
              exact h
          · replace h := h.2 cd_10
            refine aw_goto (tgt := 144) rfl (by decide) ?_
            refine aw_iinc (q := 147) (v := _ + 1) (ls' := [(1, .int _), (2, .int _), (0, .ref _)]) rfl rfl (List.mem_of_getElem? (i := 2) rfl) rfl (by decide) rfl ?_
            refine aw_goto (tgt := 23) rfl (by decide) ?_
            refine aw_ls [2, 0] rfl ?_
            exact h
      · replace h := h.2 cd_7
        refine aw_aload_n (q := 69) (j := 0) rfl rfl rfl (List.mem_of_getElem? (i := 1) rfl) ?_
        refine ag_getR (q := 72) rfl rfl fl_Mo_146 rfl (SX.o hS rfl) (SX.r hS rfl) ?_
        refine aw_bipush (q := 74) (v := 74) rfl rfl (by decide) ?_
        refine aw_iload_n (q := 75) (j := 1) rfl rfl rfl (List.mem_of_getElem? (i := 2) rfl) ?_
        refine aw_iadd (q := 76) rfl rfl ?_
        refine aw_dup2 (q := 77) rfl rfl rfl rfl ?_
        refine ag_iaload (q := 78) (N := 120) rfl rfl (SX.a hS rfl) bd_6 ?_
        refine aw_iconst (q := 79) (v := 1) rfl rfl (by decide) ?_
        refine aw_iadd (q := 80) rfl rfl ?_
        refine ag_iastore (q := 81) (N := 120) rfl rfl (SX.a hS rfl) bd_6 ?_
        replace h := h _ rfl
        refine aw_iload_n (q := 82) (j := 2) rfl rfl rfl (List.mem_of_getElem? (i := 0) rfl) ?_
        refine aw_if_ne (q := 85) (tgt := 93) rfl rfl (by decide) ⟨fun cd_12 => ?_, fun cd_12 => ?_⟩
        · replace h := h.1 cd_12
          refine aw_aload_n (q := 86) (j := 0) rfl rfl rfl (List.mem_of_getElem? (i := 1) rfl) ?_
          refine aw_iload_n (q := 87) (j := 1) rfl rfl rfl (List.mem_of_getElem? (i := 2) rfl) ?_
          refine ag_cvV (z := m_Mo_atHeap) (ci := 11) (av := [.int _]) (st := []) (q := 90) (k' := 0) (n' := 0) rfl rfl cv_Mo_374 ⟨by decide, by decide⟩ rfl rfl (by decide) (by decide) (SX.o hS rfl) rfl rfl rfl (Nat.le_of_ble_eq_true rfl) ?_
          refine GV.mono h (fun t9_ h => ?_)
          refine aw_goto (tgt := 144) rfl (by decide) ?_
          refine aw_iinc (q := 147) (v := _ + 1) (ls' := [(1, .int _), (2, .int _), (0, .ref _)]) rfl rfl (List.mem_of_getElem? (i := 2) rfl) rfl (by decide) rfl ?_
          refine aw_goto (tgt := 23) rfl (by decide) ?_
          refine aw_ls [2, 0] rfl ?_
          exact h
        · replace h := h.2 cd_12
          refine aw_aload_n (q := 94) (j := 0) rfl rfl rfl (List.mem_of_getElem? (i := 1) rfl) ?_
          refine ag_getR (q := 97) rfl rfl fl_Mo_146 rfl (SX.o hS rfl) (SX.r hS rfl) ?_
          refine aw_bipush (q := 99) (v := 50) rfl rfl (by decide) ?_
          refine aw_iload_n (q := 100) (j := 1) rfl rfl rfl (List.mem_of_getElem? (i := 2) rfl) ?_
          refine aw_iadd (q := 101) rfl rfl ?_
          refine aw_dup2 (q := 102) rfl rfl rfl rfl ?_
          obtain ⟨bd_13, h⟩ := h
          refine ag_iaload (q := 103) (N := 120) rfl rfl (SX.a hS rfl) bd_13 ?_
          refine aw_iconst (q := 104) (v := 1) rfl rfl (by decide) ?_
          refine aw_isub (q := 105) rfl rfl ?_
          refine ag_iastore (q := 106) (N := 120) rfl rfl (SX.a hS rfl) bd_13 ?_
          replace h := h _ rfl
          refine aw_aload_n (q := 107) (j := 0) rfl rfl rfl (List.mem_of_getElem? (i := 1) rfl) ?_
          refine ag_getR (q := 110) rfl rfl fl_Mo_146 rfl (SX.o hS rfl) (SX.r hS rfl) ?_
          refine aw_bipush (q := 112) (v := 50) rfl rfl (by decide) ?_
          refine aw_iload_n (q := 113) (j := 1) rfl rfl rfl (List.mem_of_getElem? (i := 2) rfl) ?_
          refine aw_iadd (q := 114) rfl rfl ?_
          refine ag_iaload (q := 115) (N := 120) rfl rfl (SX.a hS rfl) bd_13 ?_
          refine aw_if_le (q := 118) (tgt := 121) rfl rfl (by decide) ⟨fun cd_14 => ?_, fun cd_14 => ?_⟩
          · replace h := h.1 cd_14
            refine aw_iload_n (q := 122) (j := 2) rfl rfl rfl (List.mem_of_getElem? (i := 0) rfl) ?_
            refine aw_iconst (q := 123) (v := 1) rfl rfl (by decide) ?_
            refine aw_icmp_ne (q := 126) (tgt := 134) rfl rfl (by decide) ⟨fun cd_15 => ?_, fun cd_15 => ?_⟩
            · replace h := h.1 cd_15
              refine aw_aload_n (q := 127) (j := 0) rfl rfl rfl (List.mem_of_getElem? (i := 1) rfl) ?_
              refine aw_iload_n (q := 128) (j := 1) rfl rfl rfl (List.mem_of_getElem? (i := 2) rfl) ?_
              refine ag_cvV (z := m_Mo_drops) (ci := 11) (av := [.int _]) (st := []) (q := 131) (k' := 0) (n' := 0) rfl rfl cv_Mo_377 ⟨by decide, by decide⟩ rfl rfl (by decide) (by decide) (SX.o hS rfl) rfl rfl rfl (Nat.le_of_ble_eq_true rfl) ?_
              refine GV.mono h (fun t11_ h => ?_)
              refine aw_goto (tgt := 144) rfl (by decide) ?_
              refine aw_iinc (q := 147) (v := _ + 1) (ls' := [(1, .int _), (2, .int _), (0, .ref _)]) rfl rfl (List.mem_of_getElem? (i := 2) rfl) rfl (by decide) rfl ?_
              refine aw_goto (tgt := 23) rfl (by decide) ?_
              refine aw_ls [2, 0] rfl ?_
              exact h
            · replace h := h.2 cd_15
              refine aw_aload_n (q := 135) (j := 0) rfl rfl rfl (List.mem_of_getElem? (i := 1) rfl) ?_
              refine ag_getR (q := 138) rfl rfl fl_Mo_146 rfl (SX.o hS rfl) (SX.r hS rfl) ?_
              refine aw_bipush (q := 140) (v := 42) rfl rfl (by decide) ?_
              refine aw_iload_n (q := 141) (j := 1) rfl rfl rfl (List.mem_of_getElem? (i := 2) rfl) ?_
              refine aw_iadd (q := 142) rfl rfl ?_
              refine aw_iconst (q := 143) (v := 0) rfl rfl (by decide) ?_
              refine ag_iastore (q := 144) (N := 120) rfl rfl (SX.a hS rfl) bd_4 ?_
              replace h := h _ rfl
              refine aw_iinc (q := 147) (v := _ + 1) (ls' := [(1, .int _), (2, .int _), (0, .ref _)]) rfl rfl (List.mem_of_getElem? (i := 2) rfl) rfl (by decide) rfl ?_
              refine aw_goto (tgt := 23) rfl (by decide) ?_
              refine aw_ls [2, 0] rfl ?_
              exact h
          · replace h := h.2 cd_14
            refine aw_goto (tgt := 144) rfl (by decide) ?_
            refine aw_iinc (q := 147) (v := _ + 1) (ls' := [(1, .int _), (2, .int _), (0, .ref _)]) rfl rfl (List.mem_of_getElem? (i := 2) rfl) rfl (by decide) rfl ?_
            refine aw_goto (tgt := 23) rfl (by decide) ?_
            refine aw_ls [2, 0] rfl ?_
            exact h
set_option maxRecDepth 20000 in
theorem v_Mo_minuteGoes {E : EN} {g : GS} {s : MS} {Q : Option Value → SG → Prop}  (h : AWP E m_Mo_minuteGoes 2 0 0 [(0, .ref 120), (1, .int 0)] [] (mk g s) Q) : AMet E m_Mo_minuteGoes [.ref 120] (mk g s) Q := by
  refine AMet.of (by decide) k_Mo_minuteGoes [(0, .ref 120)] (Nat.le_of_ble_eq_true rfl) rfl ?_
  refine aw_iconst (q := 1) (v := 0) rfl rfl (by decide) ?_
  refine aw_istore_n (q := 2) (j := 1) (ls' := [(1, .int _), (0, .ref _)]) rfl rfl rfl (by decide) rfl ?_
  refine aw_ls [1, 0] rfl ?_
  exact h
set_option maxRecDepth 20000 in
theorem v_Mo_atHeap_50 {E : EN} {g : GS} {s : MS} {Q : Option Value → SG → Prop} (x1 : Int32) (x2 : Int32) (x3 : Int32) (hS : SX g) (h : vp_in (74 + x1) 120 ∧ vp_in (s.1 120 18) 2 ∧ (((s.1 163 (((74 + x1)).toNatClampNeg)) < (s.1 148 (((s.1 120 18)).toNatClampNeg)) → AWP E m_Mo_atHeap 76 0 0 [(0, .ref 120), (1, .int x1), (2, .int x2), (3, .int x3)] [] (mk g s) Q) ∧ (¬ (s.1 163 (((74 + x1)).toNatClampNeg)) < (s.1 148 (((s.1 120 18)).toNatClampNeg)) → GV E m_Mo_nibbles [.ref 120, .int x1] g s (fun t1_ => AWP E m_Mo_atHeap 76 0 0 [(0, .ref 120), (1, .int x1), (2, .int x2), (3, .int x3)] [] (mk g t1_) Q)))) : AWP E m_Mo_atHeap 50 0 0 [(0, .ref 120), (1, .int x1), (2, .int x2), (3, .int x3)] [] (mk g s) Q := by
  refine aw_aload_n (q := 51) (j := 0) rfl rfl rfl (List.mem_of_getElem? (i := 0) rfl) ?_
  refine ag_getR (q := 54) rfl rfl fl_Mo_146 rfl (SX.o hS rfl) (SX.r hS rfl) ?_
  refine aw_bipush (q := 56) (v := 74) rfl rfl (by decide) ?_
  refine aw_iload_n (q := 57) (j := 1) rfl rfl rfl (List.mem_of_getElem? (i := 1) rfl) ?_
  refine aw_iadd (q := 58) rfl rfl ?_
  obtain ⟨bd_1, h⟩ := h
  refine ag_iaload (q := 59) (N := 120) rfl rfl (SX.a hS rfl) bd_1 ?_
  refine aw_aload_n (q := 60) (j := 0) rfl rfl rfl (List.mem_of_getElem? (i := 0) rfl) ?_
  refine ag_getR (q := 63) rfl rfl fl_Mo_100 rfl (SX.o hS rfl) (SX.r hS rfl) ?_
  refine aw_aload_n (q := 64) (j := 0) rfl rfl rfl (List.mem_of_getElem? (i := 0) rfl) ?_
  refine ag_getI (q := 67) rfl rfl fl_Mo_257 rfl (SX.o hS rfl) ?_
  obtain ⟨bd_2, h⟩ := h
  refine ag_iaload (q := 68) (N := 2) rfl rfl (SX.a hS rfl) bd_2 ?_
  refine aw_icmp_lt (q := 71) (tgt := 76) rfl rfl (by decide) ⟨fun cd_3 => ?_, fun cd_3 => ?_⟩
  · replace h := h.1 cd_3
    refine aw_ls [0, 1, 2, 3] rfl ?_
    exact h
  · replace h := h.2 cd_3
    refine aw_aload_n (q := 72) (j := 0) rfl rfl rfl (List.mem_of_getElem? (i := 0) rfl) ?_
    refine aw_iload_n (q := 73) (j := 1) rfl rfl rfl (List.mem_of_getElem? (i := 1) rfl) ?_
    refine ag_cvV (z := m_Mo_nibbles) (ci := 11) (av := [.int _]) (st := []) (q := 76) (k' := 0) (n' := 0) rfl rfl cv_Mo_364 ⟨by decide, by decide⟩ rfl rfl (by decide) (by decide) (SX.o hS rfl) rfl rfl rfl (Nat.le_of_ble_eq_true rfl) ?_
    refine GV.mono h (fun t1_ h => ?_)
    refine aw_ls [0, 1, 2, 3] rfl ?_
    exact h
set_option maxRecDepth 20000 in
theorem v_Mo_atHeap_76 {E : EN} {g : GS} {s : MS} {Q : Option Value → SG → Prop} (x1 : Int32) (x2 : Int32) (x3 : Int32) (h : Q none (mk g s)) : AWP E m_Mo_atHeap 76 0 0 [(0, .ref 120), (1, .int x1), (2, .int x2), (3, .int x3)] [] (mk g s) Q := by
  exact aw_return rfl rfl (by decide) (by decide) h
set_option maxRecDepth 20000 in
theorem v_Mo_atHeap_127 {E : EN} {g : GS} {s : MS} {Q : Option Value → SG → Prop} (x1 : Int32) (x2 : Int32) (x3 : Int32) (x4 : Int32) (hS : SX g) (h : vp_in x2 120 ∧ (∀ s1_, s1_ = wi s 163 ((x2).toNatClampNeg) ((s.1 163 ((x2).toNatClampNeg)) - x4) → GI E m_Mo_tells [.ref 120, .int 1, .int x1, .int x4, .int 0, .int 0, .int 99] g s1_ (fun y2_ t2_ => ((y2_ ≤ x4 → AWP E m_Mo_atHeap 163 0 0 [(0, .ref 120), (1, .int x1), (2, .int x2), (3, .int x3), (4, .int x4), (5, .int y2_)] [] (mk g t2_) Q) ∧ (¬ y2_ ≤ x4 → AWP E m_Mo_atHeap 163 0 0 [(0, .ref 120), (1, .int x1), (2, .int x2), (3, .int x3), (4, .int x4), (5, .int x4)] [] (mk g t2_) Q))))) : AWP E m_Mo_atHeap 127 0 0 [(0, .ref 120), (1, .int x1), (2, .int x2), (3, .int x3), (4, .int x4)] [] (mk g s) Q := by
  refine aw_aload_n (q := 128) (j := 0) rfl rfl rfl (List.mem_of_getElem? (i := 0) rfl) ?_
  refine ag_getR (q := 131) rfl rfl fl_Mo_146 rfl (SX.o hS rfl) (SX.r hS rfl) ?_
  refine aw_iload_n (q := 132) (j := 2) rfl rfl rfl (List.mem_of_getElem? (i := 2) rfl) ?_
  refine aw_dup2 (q := 133) rfl rfl rfl rfl ?_
  obtain ⟨bd_1, h⟩ := h
  refine ag_iaload (q := 134) (N := 120) rfl rfl (SX.a hS rfl) bd_1 ?_
  refine aw_iload (q := 136) (j := 4) rfl rfl (List.mem_of_getElem? (i := 4) rfl) ?_
  refine aw_isub (q := 137) rfl rfl ?_
  refine ag_iastore (q := 138) (N := 120) rfl rfl (SX.a hS rfl) bd_1 ?_
  replace h := h _ rfl
  refine aw_aload_n (q := 139) (j := 0) rfl rfl rfl (List.mem_of_getElem? (i := 0) rfl) ?_
  refine aw_iconst (q := 140) (v := 1) rfl rfl (by decide) ?_
  refine aw_iload_n (q := 141) (j := 1) rfl rfl rfl (List.mem_of_getElem? (i := 1) rfl) ?_
  refine aw_iload (q := 143) (j := 4) rfl rfl (List.mem_of_getElem? (i := 4) rfl) ?_
  refine aw_iconst (q := 144) (v := 0) rfl rfl (by decide) ?_
  refine aw_iconst (q := 145) (v := 0) rfl rfl (by decide) ?_
  refine aw_bipush (q := 147) (v := 99) rfl rfl (by decide) ?_
  refine ag_cvI (z := m_Mo_tells) (ci := 11) (av := [.int _, .int _, .int _, .int _, .int _, .int _]) (st := []) (q := 150) (k' := 0) (n' := 0) rfl rfl cv_Mo_367 ⟨by decide, by decide⟩ rfl rfl (by decide) (by decide) (SX.o hS rfl) rfl rfl rfl (Nat.le_of_ble_eq_true rfl) ?_
  refine GI.mono h (fun y2_ t2_ h => ?_)
  refine aw_istore (q := 152) (j := 5) (ls' := [(5, .int _), (0, .ref _), (1, .int _), (2, .int _), (3, .int _), (4, .int _)]) rfl rfl (by decide) rfl ?_
  refine aw_iload (q := 154) (j := 5) rfl rfl (List.mem_of_getElem? (i := 0) rfl) ?_
  refine aw_iload (q := 156) (j := 4) rfl rfl (List.mem_of_getElem? (i := 5) rfl) ?_
  refine aw_icmp_le (q := 159) (tgt := 163) rfl rfl (by decide) ⟨fun cd_2 => ?_, fun cd_2 => ?_⟩
  · replace h := h.1 cd_2
    refine aw_ls [1, 2, 3, 4, 5, 0] rfl ?_
    exact h
  · replace h := h.2 cd_2
    refine aw_iload (q := 161) (j := 4) rfl rfl (List.mem_of_getElem? (i := 5) rfl) ?_
    refine aw_istore (q := 163) (j := 5) (ls' := [(5, .int _), (0, .ref _), (1, .int _), (2, .int _), (3, .int _), (4, .int _)]) rfl rfl (by decide) rfl ?_
    refine aw_ls [1, 2, 3, 4, 5, 0] rfl ?_
    exact h
set_option maxRecDepth 20000 in
theorem v_Mo_atHeap_163 {E : EN} {g : GS} {s : MS} {Q : Option Value → SG → Prop} (x1 : Int32) (x2 : Int32) (x3 : Int32) (x4 : Int32) (x5 : Int32) (hS : SX g) (h : ((x5 ≤ 0 → AWP E m_Mo_atHeap 178 0 0 [(0, .ref 120), (1, .int x1), (2, .int x2), (3, .int x3), (4, .int x4), (5, .int x5)] [] (mk g s) Q) ∧ (¬ x5 ≤ 0 → vp_in (74 + x1) 120 ∧ (∀ s1_, s1_ = wi s 163 (((74 + x1)).toNatClampNeg) 0 → AWP E m_Mo_atHeap 178 0 0 [(0, .ref 120), (1, .int x1), (2, .int x2), (3, .int x3), (4, .int x4), (5, .int x5)] [] (mk g s1_) Q)))) : AWP E m_Mo_atHeap 163 0 0 [(0, .ref 120), (1, .int x1), (2, .int x2), (3, .int x3), (4, .int x4), (5, .int x5)] [] (mk g s) Q := by
  refine aw_iload (q := 165) (j := 5) rfl rfl (List.mem_of_getElem? (i := 5) rfl) ?_
  refine aw_if_le (q := 168) (tgt := 178) rfl rfl (by decide) ⟨fun cd_1 => ?_, fun cd_1 => ?_⟩
  · replace h := h.1 cd_1
    refine aw_ls [0, 1, 2, 3, 4, 5] rfl ?_
    exact h
  · replace h := h.2 cd_1
    refine aw_aload_n (q := 169) (j := 0) rfl rfl rfl (List.mem_of_getElem? (i := 0) rfl) ?_
    refine ag_getR (q := 172) rfl rfl fl_Mo_146 rfl (SX.o hS rfl) (SX.r hS rfl) ?_
    refine aw_bipush (q := 174) (v := 74) rfl rfl (by decide) ?_
    refine aw_iload_n (q := 175) (j := 1) rfl rfl rfl (List.mem_of_getElem? (i := 1) rfl) ?_
    refine aw_iadd (q := 176) rfl rfl ?_
    refine aw_iconst (q := 177) (v := 0) rfl rfl (by decide) ?_
    obtain ⟨bd_2, h⟩ := h
    refine ag_iastore (q := 178) (N := 120) rfl rfl (SX.a hS rfl) bd_2 ?_
    replace h := h _ rfl
    refine aw_ls [0, 1, 2, 3, 4, 5] rfl ?_
    exact h
set_option maxRecDepth 20000 in
theorem v_Mo_atHeap_178 {E : EN} {g : GS} {s : MS} {Q : Option Value → SG → Prop} (x1 : Int32) (x2 : Int32) (x3 : Int32) (x4 : Int32) (x5 : Int32) (hS : SX g) (h : (∀ s1_, s1_ = wi s 163 115 ((s.1 163 115) + x5) → vp_in (58 + x1) 120 ∧ (∀ s2_, s2_ = wi s1_ 163 (((58 + x1)).toNatClampNeg) (x4 - x5) → ((x4 ≤ x5 → vp_in (66 + x1) 120 ∧ (∀ s3_, s3_ = wi s2_ 163 (((66 + x1)).toNatClampNeg) (-2) → AWP E m_Mo_atHeap 226 0 0 [(0, .ref 120), (1, .int x1), (2, .int x2), (3, .int x3), (4, .int x4), (5, .int x5)] [] (mk g s3_) Q)) ∧ (¬ x4 ≤ x5 → vp_in (66 + x1) 120 ∧ (∀ s4_, s4_ = wi s2_ 163 (((66 + x1)).toNatClampNeg) x2 → AWP E m_Mo_atHeap 226 0 0 [(0, .ref 120), (1, .int x1), (2, .int x2), (3, .int x3), (4, .int x4), (5, .int x5)] [] (mk g s4_) Q)))))) : AWP E m_Mo_atHeap 178 0 0 [(0, .ref 120), (1, .int x1), (2, .int x2), (3, .int x3), (4, .int x4), (5, .int x5)] [] (mk g s) Q := by
  refine aw_aload_n (q := 179) (j := 0) rfl rfl rfl (List.mem_of_getElem? (i := 0) rfl) ?_
  refine ag_getR (q := 182) rfl rfl fl_Mo_146 rfl (SX.o hS rfl) (SX.r hS rfl) ?_
  refine aw_bipush (q := 184) (v := 115) rfl rfl (by decide) ?_
  refine aw_dup2 (q := 185) rfl rfl rfl rfl ?_
  refine ag_iaload (q := 186) (N := 120) rfl rfl (SX.a hS rfl) (by unfold vp_in; decide) ?_
  refine aw_iload (q := 188) (j := 5) rfl rfl (List.mem_of_getElem? (i := 5) rfl) ?_
  refine aw_iadd (q := 189) rfl rfl ?_
  refine ag_iastore (q := 190) (N := 120) rfl rfl (SX.a hS rfl) (by unfold vp_in; decide) ?_
  replace h := h _ rfl
  refine aw_aload_n (q := 191) (j := 0) rfl rfl rfl (List.mem_of_getElem? (i := 0) rfl) ?_
  refine ag_getR (q := 194) rfl rfl fl_Mo_146 rfl (SX.o hS rfl) (SX.r hS rfl) ?_
  refine aw_bipush (q := 196) (v := 58) rfl rfl (by decide) ?_
  refine aw_iload_n (q := 197) (j := 1) rfl rfl rfl (List.mem_of_getElem? (i := 1) rfl) ?_
  refine aw_iadd (q := 198) rfl rfl ?_
  refine aw_iload (q := 200) (j := 4) rfl rfl (List.mem_of_getElem? (i := 4) rfl) ?_
  refine aw_iload (q := 202) (j := 5) rfl rfl (List.mem_of_getElem? (i := 5) rfl) ?_
  refine aw_isub (q := 203) rfl rfl ?_
  obtain ⟨bd_1, h⟩ := h
  refine ag_iastore (q := 204) (N := 120) rfl rfl (SX.a hS rfl) bd_1 ?_
  replace h := h _ rfl
  refine aw_aload_n (q := 205) (j := 0) rfl rfl rfl (List.mem_of_getElem? (i := 0) rfl) ?_
  refine ag_getR (q := 208) rfl rfl fl_Mo_146 rfl (SX.o hS rfl) (SX.r hS rfl) ?_
  refine aw_bipush (q := 210) (v := 66) rfl rfl (by decide) ?_
  refine aw_iload_n (q := 211) (j := 1) rfl rfl rfl (List.mem_of_getElem? (i := 1) rfl) ?_
  refine aw_iadd (q := 212) rfl rfl ?_
  refine aw_iload (q := 214) (j := 4) rfl rfl (List.mem_of_getElem? (i := 4) rfl) ?_
  refine aw_iload (q := 216) (j := 5) rfl rfl (List.mem_of_getElem? (i := 5) rfl) ?_
  refine aw_icmp_le (q := 219) (tgt := 223) rfl rfl (by decide) ⟨fun cd_2 => ?_, fun cd_2 => ?_⟩
  · replace h := h.1 cd_2
    refine aw_bipush (q := 225) (v := (-2)) rfl rfl (by decide) ?_
    obtain ⟨bd_3, h⟩ := h
    refine ag_iastore (q := 226) (N := 120) rfl rfl (SX.a hS rfl) bd_3 ?_
    replace h := h _ rfl
    refine aw_ls [0, 1, 2, 3, 4, 5] rfl ?_
    exact h
  · replace h := h.2 cd_2
    refine aw_iload_n (q := 220) (j := 2) rfl rfl rfl (List.mem_of_getElem? (i := 2) rfl) ?_
    refine aw_goto (tgt := 225) rfl (by decide) ?_
    obtain ⟨bd_4, h⟩ := h
    refine ag_iastore (q := 226) (N := 120) rfl rfl (SX.a hS rfl) bd_4 ?_
    replace h := h _ rfl
    refine aw_ls [0, 1, 2, 3, 4, 5] rfl ?_
    exact h
set_option maxRecDepth 20000 in
theorem v_Mo_atHeap_226 {E : EN} {g : GS} {s : MS} {Q : Option Value → SG → Prop} (x1 : Int32) (x2 : Int32) (x3 : Int32) (x4 : Int32) (x5 : Int32) (hS : SX g) (h : vp_in ((8 * (s.1 120 18)) + x1) 16 ∧ GI E m_Mo_lotOf [.ref 120, .int x1] g s (fun y1_ t1_ => GI E m_Mo_tells [.ref 120, .int 2, .int x1, .int x3, .int 0, .int 0, .int 100] g t1_ (fun y2_ t2_ => ((y2_ ≤ y1_ → AWP E m_Mo_atHeap 277 0 0 [(0, .ref 120), (1, .int x1), (2, .int x2), (3, .int x3), (4, .int x4), (5, .int x5), (6, .int (s.1 139 ((((8 * (s.1 120 18)) + x1)).toNatClampNeg)))] [] (mk g t2_) Q) ∧ (¬ y2_ ≤ y1_ → vp_in (t2_.1 120 18) 2 ∧ ¬ (t2_.1 134 (((t2_.1 120 18)).toNatClampNeg)) = 0 ∧ AWP E m_Mo_atHeap 277 0 0 [(0, .ref 120), (1, .int x1), (2, .int x2), (3, .int x3), (4, .int x4), (5, .int x5), (6, .int (((s.1 139 ((((8 * (s.1 120 18)) + x1)).toNatClampNeg)) + 1) - ((s.1 139 ((((8 * (s.1 120 18)) + x1)).toNatClampNeg)) + 1) / (t2_.1 134 (((t2_.1 120 18)).toNatClampNeg)) * (t2_.1 134 (((t2_.1 120 18)).toNatClampNeg))))] [] (mk g t2_) Q))))) : AWP E m_Mo_atHeap 226 0 0 [(0, .ref 120), (1, .int x1), (2, .int x2), (3, .int x3), (4, .int x4), (5, .int x5)] [] (mk g s) Q := by
  refine aw_aload_n (q := 227) (j := 0) rfl rfl rfl (List.mem_of_getElem? (i := 0) rfl) ?_
  refine ag_getR (q := 230) rfl rfl fl_Mo_73 rfl (SX.o hS rfl) (SX.r hS rfl) ?_
  refine aw_bipush (q := 232) (v := 8) rfl rfl (by decide) ?_
  refine aw_aload_n (q := 233) (j := 0) rfl rfl rfl (List.mem_of_getElem? (i := 0) rfl) ?_
  refine ag_getI (q := 236) rfl rfl fl_Mo_257 rfl (SX.o hS rfl) ?_
  refine aw_imul (q := 237) rfl rfl ?_
  refine aw_iload_n (q := 238) (j := 1) rfl rfl rfl (List.mem_of_getElem? (i := 1) rfl) ?_
  refine aw_iadd (q := 239) rfl rfl ?_
  obtain ⟨bd_1, h⟩ := h
  refine ag_iaload (q := 240) (N := 16) rfl rfl (SX.a hS rfl) bd_1 ?_
  refine aw_istore (q := 242) (j := 6) (ls' := [(6, .int _), (0, .ref _), (1, .int _), (2, .int _), (3, .int _), (4, .int _), (5, .int _)]) rfl rfl (by decide) rfl ?_
  refine aw_aload_n (q := 243) (j := 0) rfl rfl rfl (List.mem_of_getElem? (i := 1) rfl) ?_
  refine aw_iload_n (q := 244) (j := 1) rfl rfl rfl (List.mem_of_getElem? (i := 2) rfl) ?_
  refine ag_cvI (z := m_Mo_lotOf) (ci := 11) (av := [.int _]) (st := []) (q := 247) (k' := 0) (n' := 0) rfl rfl cv_Mo_371 ⟨by decide, by decide⟩ rfl rfl (by decide) (by decide) (SX.o hS rfl) rfl rfl rfl (Nat.le_of_ble_eq_true rfl) ?_
  refine GI.mono h (fun y1_ t1_ h => ?_)
  refine aw_aload_n (q := 248) (j := 0) rfl rfl rfl (List.mem_of_getElem? (i := 1) rfl) ?_
  refine aw_iconst (q := 249) (v := 2) rfl rfl (by decide) ?_
  refine aw_iload_n (q := 250) (j := 1) rfl rfl rfl (List.mem_of_getElem? (i := 2) rfl) ?_
  refine aw_iload_n (q := 251) (j := 3) rfl rfl rfl (List.mem_of_getElem? (i := 4) rfl) ?_
  refine aw_iconst (q := 252) (v := 0) rfl rfl (by decide) ?_
  refine aw_iconst (q := 253) (v := 0) rfl rfl (by decide) ?_
  refine aw_bipush (q := 255) (v := 100) rfl rfl (by decide) ?_
  refine ag_cvI (z := m_Mo_tells) (ci := 11) (av := [.int _, .int _, .int _, .int _, .int _, .int _]) (st := [.int _]) (q := 258) (k' := 0) (n' := 0) rfl rfl cv_Mo_367 ⟨by decide, by decide⟩ rfl rfl (by decide) (by decide) (SX.o hS rfl) rfl rfl rfl (Nat.le_of_ble_eq_true rfl) ?_
  refine GI.mono h (fun y2_ t2_ h => ?_)
  refine aw_icmp_ge (q := 261) (tgt := 277) rfl rfl (by decide) ⟨fun cd_2 => ?_, fun cd_2 => ?_⟩
  · replace h := h.1 cd_2
    refine aw_ls [1, 2, 3, 4, 5, 6, 0] rfl ?_
    exact h
  · replace h := h.2 cd_2
    refine aw_iload (q := 263) (j := 6) rfl rfl (List.mem_of_getElem? (i := 0) rfl) ?_
    refine aw_iconst (q := 264) (v := 1) rfl rfl (by decide) ?_
    refine aw_iadd (q := 265) rfl rfl ?_
    refine aw_aload_n (q := 266) (j := 0) rfl rfl rfl (List.mem_of_getElem? (i := 1) rfl) ?_
    refine ag_getR (q := 269) rfl rfl fl_Mo_58 rfl (SX.o hS rfl) (SX.r hS rfl) ?_
    refine aw_aload_n (q := 270) (j := 0) rfl rfl rfl (List.mem_of_getElem? (i := 1) rfl) ?_
    refine ag_getI (q := 273) rfl rfl fl_Mo_257 rfl (SX.o hS rfl) ?_
    obtain ⟨bd_3, h⟩ := h
    refine ag_iaload (q := 274) (N := 2) rfl rfl (SX.a hS rfl) bd_3 ?_
    obtain ⟨zd_4, h⟩ := h
    refine aw_irem (q := 275) rfl rfl zd_4 ?_
    refine aw_istore (q := 277) (j := 6) (ls' := [(6, .int _), (0, .ref _), (1, .int _), (2, .int _), (3, .int _), (4, .int _), (5, .int _)]) rfl rfl (by decide) rfl ?_
    refine aw_ls [1, 2, 3, 4, 5, 6, 0] rfl ?_
    exact h
set_option maxRecDepth 20000 in
theorem v_Mo_atHeap_277 {E : EN} {g : GS} {s : MS} {Q : Option Value → SG → Prop} (x1 : Int32) (x2 : Int32) (x3 : Int32) (x4 : Int32) (x5 : Int32) (x6 : Int32) (hS : SX g) (h : vp_in (42 + x1) 120 ∧ (∀ s1_, s1_ = wi s 163 (((42 + x1)).toNatClampNeg) 1 → vp_in x6 6 ∧ vp_in (50 + x1) 120 ∧ (∀ s2_, s2_ = wi s1_ 163 (((50 + x1)).toNatClampNeg) (s.1 164 ((x6).toNatClampNeg)) → vp_in (106 + x1) 120 ∧ (∀ s3_, s3_ = wi s2_ 163 (((106 + x1)).toNatClampNeg) x6 → Q none (mk g s3_))))) : AWP E m_Mo_atHeap 277 0 0 [(0, .ref 120), (1, .int x1), (2, .int x2), (3, .int x3), (4, .int x4), (5, .int x5), (6, .int x6)] [] (mk g s) Q := by
  refine aw_aload_n (q := 278) (j := 0) rfl rfl rfl (List.mem_of_getElem? (i := 0) rfl) ?_
  refine ag_getR (q := 281) rfl rfl fl_Mo_146 rfl (SX.o hS rfl) (SX.r hS rfl) ?_
  refine aw_bipush (q := 283) (v := 42) rfl rfl (by decide) ?_
  refine aw_iload_n (q := 284) (j := 1) rfl rfl rfl (List.mem_of_getElem? (i := 1) rfl) ?_
  refine aw_iadd (q := 285) rfl rfl ?_
  refine aw_iconst (q := 286) (v := 1) rfl rfl (by decide) ?_
  obtain ⟨bd_1, h⟩ := h
  refine ag_iastore (q := 287) (N := 120) rfl rfl (SX.a hS rfl) bd_1 ?_
  replace h := h _ rfl
  refine aw_aload_n (q := 288) (j := 0) rfl rfl rfl (List.mem_of_getElem? (i := 0) rfl) ?_
  refine ag_getR (q := 291) rfl rfl fl_Mo_146 rfl (SX.o hS rfl) (SX.r hS rfl) ?_
  refine aw_bipush (q := 293) (v := 50) rfl rfl (by decide) ?_
  refine aw_iload_n (q := 294) (j := 1) rfl rfl rfl (List.mem_of_getElem? (i := 1) rfl) ?_
  refine aw_iadd (q := 295) rfl rfl ?_
  refine aw_aload_n (q := 296) (j := 0) rfl rfl rfl (List.mem_of_getElem? (i := 0) rfl) ?_
  refine ag_getR (q := 299) rfl rfl fl_Mo_149 rfl (SX.o hS rfl) (SX.r hS rfl) ?_
  refine aw_iload (q := 301) (j := 6) rfl rfl (List.mem_of_getElem? (i := 6) rfl) ?_
  obtain ⟨bd_2, h⟩ := h
  refine ag_iaload (q := 302) (N := 6) rfl rfl (SX.a hS rfl) bd_2 ?_
  obtain ⟨bd_3, h⟩ := h
  refine ag_iastore (q := 303) (N := 120) rfl rfl (SX.a hS rfl) bd_3 ?_
  replace h := h _ rfl
  refine aw_aload_n (q := 304) (j := 0) rfl rfl rfl (List.mem_of_getElem? (i := 0) rfl) ?_
  refine ag_getR (q := 307) rfl rfl fl_Mo_146 rfl (SX.o hS rfl) (SX.r hS rfl) ?_
  refine aw_bipush (q := 309) (v := 106) rfl rfl (by decide) ?_
  refine aw_iload_n (q := 310) (j := 1) rfl rfl rfl (List.mem_of_getElem? (i := 1) rfl) ?_
  refine aw_iadd (q := 311) rfl rfl ?_
  refine aw_iload (q := 313) (j := 6) rfl rfl (List.mem_of_getElem? (i := 6) rfl) ?_
  obtain ⟨bd_4, h⟩ := h
  refine ag_iastore (q := 314) (N := 120) rfl rfl (SX.a hS rfl) bd_4 ?_
  replace h := h _ rfl
  exact aw_return rfl rfl (by decide) (by decide) h
set_option maxRecDepth 20000 in
theorem v_Mo_atHeap {E : EN} {g : GS} {s : MS} {Q : Option Value → SG → Prop} (x1 : Int32) (hS : SX g) (h : vp_in (90 + x1) 120 ∧ vp_in (s.1 163 (((90 + x1)).toNatClampNeg)) 120 ∧ (((s.1 163 (((s.1 163 (((90 + x1)).toNatClampNeg))).toNatClampNeg)) = 0 → AWP E m_Mo_atHeap 50 0 0 [(0, .ref 120), (1, .int x1), (2, .int (s.1 163 (((90 + x1)).toNatClampNeg))), (3, .int (s.1 163 (((s.1 163 (((90 + x1)).toNatClampNeg))).toNatClampNeg)))] [] (mk g s) Q) ∧ (¬ (s.1 163 (((s.1 163 (((90 + x1)).toNatClampNeg))).toNatClampNeg)) = 0 → vp_in (s.1 120 18) 2 ∧ (((s.1 147 (((s.1 120 18)).toNatClampNeg)) ≤ (s.1 163 114) → AWP E m_Mo_atHeap 50 0 0 [(0, .ref 120), (1, .int x1), (2, .int (s.1 163 (((90 + x1)).toNatClampNeg))), (3, .int (s.1 163 (((s.1 163 (((90 + x1)).toNatClampNeg))).toNatClampNeg)))] [] (mk g s) Q) ∧ (¬ (s.1 147 (((s.1 120 18)).toNatClampNeg)) ≤ (s.1 163 114) → (((s.1 163 118) ≤ 0 → vp_in (s.1 163 (((90 + x1)).toNatClampNeg)) 6 ∧ (((s.1 165 (((s.1 163 (((90 + x1)).toNatClampNeg))).toNatClampNeg)) = 0 → (∀ s1_, s1_ = wi s 165 (((s.1 163 (((90 + x1)).toNatClampNeg))).toNatClampNeg) (vp_nar .boolean 1) → GI E m_Mo_tells [.ref 120, .int 0, .int x1, .int (s.1 163 (((s.1 163 (((90 + x1)).toNatClampNeg))).toNatClampNeg)), .int 5, .int 1, .int 99] g s1_ (fun y2_ t2_ => ((y2_ ≤ (s.1 163 (((s.1 163 (((90 + x1)).toNatClampNeg))).toNatClampNeg)) → AWP E m_Mo_atHeap 127 0 0 [(0, .ref 120), (1, .int x1), (2, .int (s.1 163 (((90 + x1)).toNatClampNeg))), (3, .int (s.1 163 (((s.1 163 (((90 + x1)).toNatClampNeg))).toNatClampNeg))), (4, .int y2_)] [] (mk g t2_) Q) ∧ (¬ y2_ ≤ (s.1 163 (((s.1 163 (((90 + x1)).toNatClampNeg))).toNatClampNeg)) → AWP E m_Mo_atHeap 127 0 0 [(0, .ref 120), (1, .int x1), (2, .int (s.1 163 (((90 + x1)).toNatClampNeg))), (3, .int (s.1 163 (((s.1 163 (((90 + x1)).toNatClampNeg))).toNatClampNeg))), (4, .int (s.1 163 (((s.1 163 (((90 + x1)).toNatClampNeg))).toNatClampNeg)))] [] (mk g t2_) Q))))) ∧ (¬ (s.1 165 (((s.1 163 (((90 + x1)).toNatClampNeg))).toNatClampNeg)) = 0 → (∀ s3_, s3_ = wi s 163 119 ((s.1 163 119) + 1) → Q none (mk g s3_))))) ∧ (¬ (s.1 163 118) ≤ 0 → AWP E m_Mo_atHeap 50 0 0 [(0, .ref 120), (1, .int x1), (2, .int (s.1 163 (((90 + x1)).toNatClampNeg))), (3, .int (s.1 163 (((s.1 163 (((90 + x1)).toNatClampNeg))).toNatClampNeg)))] [] (mk g s) Q))))))) : AMet E m_Mo_atHeap [.ref 120, .int x1] (mk g s) Q := by
  refine AMet.of (by decide) k_Mo_atHeap [(0, .ref 120), (1, .int x1)] (Nat.le_of_ble_eq_true rfl) rfl ?_
  refine aw_aload_n (q := 1) (j := 0) rfl rfl rfl (List.mem_of_getElem? (i := 0) rfl) ?_
  refine ag_getR (q := 4) rfl rfl fl_Mo_146 rfl (SX.o hS rfl) (SX.r hS rfl) ?_
  refine aw_bipush (q := 6) (v := 90) rfl rfl (by decide) ?_
  refine aw_iload_n (q := 7) (j := 1) rfl rfl rfl (List.mem_of_getElem? (i := 1) rfl) ?_
  refine aw_iadd (q := 8) rfl rfl ?_
  obtain ⟨bd_1, h⟩ := h
  refine ag_iaload (q := 9) (N := 120) rfl rfl (SX.a hS rfl) bd_1 ?_
  refine aw_istore_n (q := 10) (j := 2) (ls' := [(2, .int _), (0, .ref _), (1, .int _)]) rfl rfl rfl (by decide) rfl ?_
  refine aw_aload_n (q := 11) (j := 0) rfl rfl rfl (List.mem_of_getElem? (i := 1) rfl) ?_
  refine ag_getR (q := 14) rfl rfl fl_Mo_146 rfl (SX.o hS rfl) (SX.r hS rfl) ?_
  refine aw_iload_n (q := 15) (j := 2) rfl rfl rfl (List.mem_of_getElem? (i := 0) rfl) ?_
  obtain ⟨bd_2, h⟩ := h
  refine ag_iaload (q := 16) (N := 120) rfl rfl (SX.a hS rfl) bd_2 ?_
  refine aw_istore_n (q := 17) (j := 3) (ls' := [(3, .int _), (2, .int _), (0, .ref _), (1, .int _)]) rfl rfl rfl (by decide) rfl ?_
  refine aw_iload_n (q := 18) (j := 3) rfl rfl rfl (List.mem_of_getElem? (i := 0) rfl) ?_
  refine aw_if_eq (q := 21) (tgt := 50) rfl rfl (by decide) ⟨fun cd_3 => ?_, fun cd_3 => ?_⟩
  · replace h := h.1 cd_3
    refine aw_ls [2, 3, 1, 0] rfl ?_
    exact h
  · replace h := h.2 cd_3
    refine aw_aload_n (q := 22) (j := 0) rfl rfl rfl (List.mem_of_getElem? (i := 2) rfl) ?_
    refine ag_getR (q := 25) rfl rfl fl_Mo_146 rfl (SX.o hS rfl) (SX.r hS rfl) ?_
    refine aw_bipush (q := 27) (v := 114) rfl rfl (by decide) ?_
    refine ag_iaload (q := 28) (N := 120) rfl rfl (SX.a hS rfl) (by unfold vp_in; decide) ?_
    refine aw_aload_n (q := 29) (j := 0) rfl rfl rfl (List.mem_of_getElem? (i := 2) rfl) ?_
    refine ag_getR (q := 32) rfl rfl fl_Mo_97 rfl (SX.o hS rfl) (SX.r hS rfl) ?_
    refine aw_aload_n (q := 33) (j := 0) rfl rfl rfl (List.mem_of_getElem? (i := 2) rfl) ?_
    refine ag_getI (q := 36) rfl rfl fl_Mo_257 rfl (SX.o hS rfl) ?_
    obtain ⟨bd_4, h⟩ := h
    refine ag_iaload (q := 37) (N := 2) rfl rfl (SX.a hS rfl) bd_4 ?_
    refine aw_icmp_ge (q := 40) (tgt := 50) rfl rfl (by decide) ⟨fun cd_5 => ?_, fun cd_5 => ?_⟩
    · replace h := h.1 cd_5
      refine aw_ls [2, 3, 1, 0] rfl ?_
      exact h
    · replace h := h.2 cd_5
      refine aw_aload_n (q := 41) (j := 0) rfl rfl rfl (List.mem_of_getElem? (i := 2) rfl) ?_
      refine ag_getR (q := 44) rfl rfl fl_Mo_146 rfl (SX.o hS rfl) (SX.r hS rfl) ?_
      refine aw_bipush (q := 46) (v := 118) rfl rfl (by decide) ?_
      refine ag_iaload (q := 47) (N := 120) rfl rfl (SX.a hS rfl) (by unfold vp_in; decide) ?_
      refine aw_if_le (q := 50) (tgt := 77) rfl rfl (by decide) ⟨fun cd_6 => ?_, fun cd_6 => ?_⟩
      · replace h := h.1 cd_6
        refine aw_aload_n (q := 78) (j := 0) rfl rfl rfl (List.mem_of_getElem? (i := 2) rfl) ?_
        refine ag_getR (q := 81) rfl rfl fl_Mo_152 rfl (SX.o hS rfl) (SX.r hS rfl) ?_
        refine aw_iload_n (q := 82) (j := 2) rfl rfl rfl (List.mem_of_getElem? (i := 1) rfl) ?_
        obtain ⟨bd_7, h⟩ := h
        refine ag_zaload (q := 83) (N := 6) rfl rfl (SX.a hS rfl) bd_7 ?_
        refine aw_if_eq (q := 86) (tgt := 98) rfl rfl (by decide) ⟨fun cd_8 => ?_, fun cd_8 => ?_⟩
        · replace h := h.1 cd_8
          refine aw_aload_n (q := 99) (j := 0) rfl rfl rfl (List.mem_of_getElem? (i := 2) rfl) ?_
          refine ag_getR (q := 102) rfl rfl fl_Mo_152 rfl (SX.o hS rfl) (SX.r hS rfl) ?_
          refine aw_iload_n (q := 103) (j := 2) rfl rfl rfl (List.mem_of_getElem? (i := 1) rfl) ?_
          refine aw_iconst (q := 104) (v := 1) rfl rfl (by decide) ?_
          refine ag_zastore (q := 105) (N := 6) rfl rfl (SX.a hS rfl) bd_7 ?_
          replace h := h _ rfl
          refine aw_aload_n (q := 106) (j := 0) rfl rfl rfl (List.mem_of_getElem? (i := 2) rfl) ?_
          refine aw_iconst (q := 107) (v := 0) rfl rfl (by decide) ?_
          refine aw_iload_n (q := 108) (j := 1) rfl rfl rfl (List.mem_of_getElem? (i := 3) rfl) ?_
          refine aw_iload_n (q := 109) (j := 3) rfl rfl rfl (List.mem_of_getElem? (i := 0) rfl) ?_
          refine aw_iconst (q := 110) (v := 5) rfl rfl (by decide) ?_
          refine aw_iconst (q := 111) (v := 1) rfl rfl (by decide) ?_
          refine aw_bipush (q := 113) (v := 99) rfl rfl (by decide) ?_
          refine ag_cvI (z := m_Mo_tells) (ci := 11) (av := [.int _, .int _, .int _, .int _, .int _, .int _]) (st := []) (q := 116) (k' := 0) (n' := 0) rfl rfl cv_Mo_367 ⟨by decide, by decide⟩ rfl rfl (by decide) (by decide) (SX.o hS rfl) rfl rfl rfl (Nat.le_of_ble_eq_true rfl) ?_
          refine GI.mono h (fun y2_ t2_ h => ?_)
          refine aw_istore (q := 118) (j := 4) (ls' := [(4, .int _), (3, .int _), (2, .int _), (0, .ref _), (1, .int _)]) rfl rfl (by decide) rfl ?_
          refine aw_iload (q := 120) (j := 4) rfl rfl (List.mem_of_getElem? (i := 0) rfl) ?_
          refine aw_iload_n (q := 121) (j := 3) rfl rfl rfl (List.mem_of_getElem? (i := 1) rfl) ?_
          refine aw_icmp_le (q := 124) (tgt := 127) rfl rfl (by decide) ⟨fun cd_9 => ?_, fun cd_9 => ?_⟩
          · replace h := h.1 cd_9
            refine aw_ls [3, 4, 2, 1, 0] rfl ?_
            exact h
          · replace h := h.2 cd_9
            refine aw_iload_n (q := 125) (j := 3) rfl rfl rfl (List.mem_of_getElem? (i := 1) rfl) ?_
            refine aw_istore (q := 127) (j := 4) (ls' := [(4, .int _), (3, .int _), (2, .int _), (0, .ref _), (1, .int _)]) rfl rfl (by decide) rfl ?_
            refine aw_ls [3, 4, 2, 1, 0] rfl ?_
            exact h
        · replace h := h.2 cd_8
          refine aw_aload_n (q := 87) (j := 0) rfl rfl rfl (List.mem_of_getElem? (i := 2) rfl) ?_
          refine ag_getR (q := 90) rfl rfl fl_Mo_146 rfl (SX.o hS rfl) (SX.r hS rfl) ?_
          refine aw_bipush (q := 92) (v := 119) rfl rfl (by decide) ?_
          refine aw_dup2 (q := 93) rfl rfl rfl rfl ?_
          refine ag_iaload (q := 94) (N := 120) rfl rfl (SX.a hS rfl) (by unfold vp_in; decide) ?_
          refine aw_iconst (q := 95) (v := 1) rfl rfl (by decide) ?_
          refine aw_iadd (q := 96) rfl rfl ?_
          refine ag_iastore (q := 97) (N := 120) rfl rfl (SX.a hS rfl) (by unfold vp_in; decide) ?_
          replace h := h _ rfl
          exact aw_return rfl rfl (by decide) (by decide) h
      · replace h := h.2 cd_6
        refine aw_ls [2, 3, 1, 0] rfl ?_
        exact h
