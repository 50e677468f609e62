/-! walks of the methods, by program (vcgen.py) -/
set_option maxRecDepth 20000 in
theorem v_Mo_nibbles_4 {E : EN} {g : GS} {s : MS} {Q : Option Value → SG → Prop} (x1 : Int32) (x2 : Int32) (x3 : Int32) (hS : SX g) (h : vp_in (s.1 120 18) 2 ∧ (((s.1 131 (((s.1 120 18)).toNatClampNeg)) ≤ x3 → vp_in x2 120 ∧ (((s.1 163 ((x2).toNatClampNeg)) = 0 → Q none (mk g s)) ∧ (¬ (s.1 163 ((x2).toNatClampNeg)) = 0 → (∀ s1_, s1_ = wi s 163 ((x2).toNatClampNeg) ((s.1 163 ((x2).toNatClampNeg)) - 1) → (∀ s2_, s2_ = wi s1_ 163 115 ((s1_.1 163 115) + 1) → vp_in (74 + x1) 120 ∧ (∀ s3_, s3_ = wi s2_ 163 (((74 + x1)).toNatClampNeg) 0 → Q none (mk g s3_))))))) ∧ (¬ (s.1 131 (((s.1 120 18)).toNatClampNeg)) ≤ x3 → vp_in x3 120 ∧ vp_in x2 120 ∧ (((s.1 163 ((x3).toNatClampNeg)) ≤ (s.1 163 ((x2).toNatClampNeg)) → AWP E m_Mo_nibbles 4 0 0 [(0, .ref 120), (1, .int x1), (2, .int x2), (3, .int (x3 + 1))] [] (mk g s) Q) ∧ (¬ (s.1 163 ((x3).toNatClampNeg)) ≤ (s.1 163 ((x2).toNatClampNeg)) → AWP E m_Mo_nibbles 4 0 0 [(0, .ref 120), (1, .int x1), (2, .int x3), (3, .int (x3 + 1))] [] (mk g s) Q))))) : AWP E m_Mo_nibbles 4 0 0 [(0, .ref 120), (1, .int x1), (2, .int x2), (3, .int x3)] [] (mk g s) Q := by
  refine aw_iload_n (q := 5) (j := 3) rfl rfl rfl (List.mem_of_getElem? (i := 3) rfl) ?_
  refine aw_aload_n (q := 6) (j := 0) rfl rfl rfl (List.mem_of_getElem? (i := 0) rfl) ?_
  refine ag_getR (q := 9) rfl rfl fl_Mo_49 rfl (SX.o hS rfl) (SX.r hS rfl) ?_
  refine aw_aload_n (q := 10) (j := 0) rfl rfl rfl (List.mem_of_getElem? (i := 0) rfl) ?_
  refine ag_getI (q := 13) rfl rfl fl_Mo_257 rfl (SX.o hS rfl) ?_
  obtain ⟨bd_1, h⟩ := h
  refine ag_iaload (q := 14) (N := 2) rfl rfl (SX.a hS rfl) bd_1 ?_
  refine aw_icmp_ge (q := 17) (tgt := 40) rfl rfl (by decide) ⟨fun cd_2 => ?_, fun cd_2 => ?_⟩
  · replace h := h.1 cd_2
    refine aw_aload_n (q := 41) (j := 0) rfl rfl rfl (List.mem_of_getElem? (i := 0) rfl) ?_
    refine ag_getR (q := 44) rfl rfl fl_Mo_146 rfl (SX.o hS rfl) (SX.r hS rfl) ?_
    refine aw_iload_n (q := 45) (j := 2) rfl rfl rfl (List.mem_of_getElem? (i := 2) rfl) ?_
    obtain ⟨bd_3, h⟩ := h
    refine ag_iaload (q := 46) (N := 120) rfl rfl (SX.a hS rfl) bd_3 ?_
    refine aw_if_ne (q := 49) (tgt := 50) rfl rfl (by decide) ⟨fun cd_4 => ?_, fun cd_4 => ?_⟩
    · replace h := h.1 cd_4
      exact aw_return rfl rfl (by decide) (by decide) h
    · replace h := h.2 cd_4
      refine aw_aload_n (q := 51) (j := 0) rfl rfl rfl (List.mem_of_getElem? (i := 0) rfl) ?_
      refine ag_getR (q := 54) rfl rfl fl_Mo_146 rfl (SX.o hS rfl) (SX.r hS rfl) ?_
      refine aw_iload_n (q := 55) (j := 2) rfl rfl rfl (List.mem_of_getElem? (i := 2) rfl) ?_
      refine aw_dup2 (q := 56) rfl rfl rfl rfl ?_
      refine ag_iaload (q := 57) (N := 120) rfl rfl (SX.a hS rfl) bd_3 ?_
      refine aw_iconst (q := 58) (v := 1) rfl rfl (by decide) ?_
      refine aw_isub (q := 59) rfl rfl ?_
      refine ag_iastore (q := 60) (N := 120) rfl rfl (SX.a hS rfl) bd_3 ?_
      replace h := h _ rfl
      refine aw_aload_n (q := 61) (j := 0) rfl rfl rfl (List.mem_of_getElem? (i := 0) rfl) ?_
      refine ag_getR (q := 64) rfl rfl fl_Mo_146 rfl (SX.o hS rfl) (SX.r hS rfl) ?_
      refine aw_bipush (q := 66) (v := 115) rfl rfl (by decide) ?_
      refine aw_dup2 (q := 67) rfl rfl rfl rfl ?_
      refine ag_iaload (q := 68) (N := 120) rfl rfl (SX.a hS rfl) (by unfold vp_in; decide) ?_
      refine aw_iconst (q := 69) (v := 1) rfl rfl (by decide) ?_
      refine aw_iadd (q := 70) rfl rfl ?_
      refine ag_iastore (q := 71) (N := 120) rfl rfl (SX.a hS rfl) (by unfold vp_in; decide) ?_
      replace h := h _ rfl
      refine aw_aload_n (q := 72) (j := 0) rfl rfl rfl (List.mem_of_getElem? (i := 0) rfl) ?_
      refine ag_getR (q := 75) rfl rfl fl_Mo_146 rfl (SX.o hS rfl) (SX.r hS rfl) ?_
      refine aw_bipush (q := 77) (v := 74) rfl rfl (by decide) ?_
      refine aw_iload_n (q := 78) (j := 1) rfl rfl rfl (List.mem_of_getElem? (i := 1) rfl) ?_
      refine aw_iadd (q := 79) rfl rfl ?_
      refine aw_iconst (q := 80) (v := 0) rfl rfl (by decide) ?_
      obtain ⟨bd_5, h⟩ := h
      refine ag_iastore (q := 81) (N := 120) rfl rfl (SX.a hS rfl) bd_5 ?_
      replace h := h _ rfl
      exact aw_return rfl rfl (by decide) (by decide) h
  · replace h := h.2 cd_2
    refine aw_aload_n (q := 18) (j := 0) rfl rfl rfl (List.mem_of_getElem? (i := 0) rfl) ?_
    refine ag_getR (q := 21) rfl rfl fl_Mo_146 rfl (SX.o hS rfl) (SX.r hS rfl) ?_
    refine aw_iload_n (q := 22) (j := 3) rfl rfl rfl (List.mem_of_getElem? (i := 3) rfl) ?_
    obtain ⟨bd_6, h⟩ := h
    refine ag_iaload (q := 23) (N := 120) rfl rfl (SX.a hS rfl) bd_6 ?_
    refine aw_aload_n (q := 24) (j := 0) rfl rfl rfl (List.mem_of_getElem? (i := 0) rfl) ?_
    refine ag_getR (q := 27) rfl rfl fl_Mo_146 rfl (SX.o hS rfl) (SX.r hS rfl) ?_
    refine aw_iload_n (q := 28) (j := 2) rfl rfl rfl (List.mem_of_getElem? (i := 2) rfl) ?_
    obtain ⟨bd_7, h⟩ := h
    refine ag_iaload (q := 29) (N := 120) rfl rfl (SX.a hS rfl) bd_7 ?_
    refine aw_icmp_le (q := 32) (tgt := 34) rfl rfl (by decide) ⟨fun cd_8 => ?_, fun cd_8 => ?_⟩
    · replace h := h.1 cd_8
      refine aw_iinc (q := 37) (v := _ + 1) (ls' := [(3, .int _), (0, .ref _), (1, .int _), (2, .int _)]) rfl rfl (List.mem_of_getElem? (i := 3) rfl) rfl (by decide) rfl ?_
      refine aw_goto (tgt := 4) rfl (by decide) ?_
      refine aw_ls [1, 2, 3, 0] rfl ?_
      exact h
    · replace h := h.2 cd_8
      refine aw_iload_n (q := 33) (j := 3) rfl rfl rfl (List.mem_of_getElem? (i := 3) rfl) ?_
      refine aw_istore_n (q := 34) (j := 2) (ls' := [(2, .int _), (0, .ref _), (1, .int _), (3, .int _)]) rfl rfl rfl (by decide) rfl ?_
      refine aw_iinc (q := 37) (v := _ + 1) (ls' := [(3, .int _), (2, .int _), (0, .ref _), (1, .int _)]) rfl rfl (List.mem_of_getElem? (i := 3) rfl) rfl (by decide) rfl ?_
      refine aw_goto (tgt := 4) rfl (by decide) ?_
      refine aw_ls [2, 3, 1, 0] rfl ?_
      exact h
set_option maxRecDepth 20000 in
theorem v_Mo_nibbles {E : EN} {g : GS} {s : MS} {Q : Option Value → SG → Prop} (x1 : Int32) (h : AWP E m_Mo_nibbles 4 0 0 [(0, .ref 120), (1, .int x1), (2, .int 0), (3, .int 1)] [] (mk g s) Q) : AMet E m_Mo_nibbles [.ref 120, .int x1] (mk g s) Q := by
  refine AMet.of (by decide) k_Mo_nibbles [(0, .ref 120), (1, .int x1)] (Nat.le_of_ble_eq_true rfl) rfl ?_
  refine aw_iconst (q := 1) (v := 0) rfl rfl (by decide) ?_
  refine aw_istore_n (q := 2) (j := 2) (ls' := [(2, .int _), (0, .ref _), (1, .int _)]) rfl rfl rfl (by decide) rfl ?_
  refine aw_iconst (q := 3) (v := 1) rfl rfl (by decide) ?_
  refine aw_istore_n (q := 4) (j := 3) (ls' := [(3, .int _), (2, .int _), (0, .ref _), (1, .int _)]) rfl rfl rfl (by decide) rfl ?_
  refine aw_ls [2, 3, 1, 0] rfl ?_
  exact h
set_option maxRecDepth 20000 in
theorem v_Mo_tells_173 {E : EN} {g : GS} {s : MS} {Q : Option Value → SG → Prop} (x1 : Int32) (x2 : Int32) (x3 : Int32) (x4 : Int32) (x5 : Int32) (x6 : Int32) (x7 : Int32) (x8 : Int32) (x9 : Int32) (hS : SX g) (h : vp_in x7 6 ∧ (((s.1 151 ((x7).toNatClampNeg)) ≤ x9 → GI E m_Mo_held [.int 0, .int x5, .int x6] g s (fun y1_ t1_ => Q (some (.int y1_)) (mk g t1_))) ∧ (¬ (s.1 151 ((x7).toNatClampNeg)) ≤ x9 → vp_in x9 260 ∧ (((s.1 152 ((x9).toNatClampNeg)) = 0 → (((s.1 120 58) = 0 → GI E m_Mo_termOf [.ref 120, .int (s.1 155 ((x9).toNatClampNeg)), .int (s.1 156 ((x9).toNatClampNeg))] g s (fun y2_ t2_ => (((t2_.1 120 58) = 0 → GI E m_Mo_held [.int y2_, .int x5, .int x6] g t2_ (fun y3_ t3_ => Q (some (.int y3_)) (mk g t3_))) ∧ (¬ (t2_.1 120 58) = 0 → GI E m_Mo_held [.int 0, .int x5, .int x6] g t2_ (fun y4_ t4_ => Q (some (.int y4_)) (mk g t4_)))))) ∧ (¬ (s.1 120 58) = 0 → GI E m_Mo_held [.int 0, .int x5, .int x6] g s (fun y5_ t5_ => Q (some (.int y5_)) (mk g t5_))))) ∧ (¬ (s.1 152 ((x9).toNatClampNeg)) = 0 → GI E m_Mo_termOf [.ref 120, .int (s.1 153 ((x9).toNatClampNeg)), .int (s.1 154 ((x9).toNatClampNeg))] g s (fun y6_ t6_ => GI E m_Mo_termOf [.ref 120, .int (t6_.1 154 ((x9).toNatClampNeg)), .int (t6_.1 155 ((x9).toNatClampNeg))] g t6_ (fun y7_ t7_ => ((y7_ ≤ y6_ → (((t7_.1 120 58) = 0 → AWP E m_Mo_tells 173 0 0 [(0, .ref 120), (1, .int x1), (2, .int x2), (3, .int x3), (4, .int x4), (5, .int x5), (6, .int x6), (7, .int x7), (8, .int x8), (9, .int (x9 + 1))] [] (mk g t7_) Q) ∧ (¬ (t7_.1 120 58) = 0 → GI E m_Mo_held [.int 0, .int x5, .int x6] g t7_ (fun y8_ t8_ => Q (some (.int y8_)) (mk g t8_))))) ∧ (¬ y7_ ≤ y6_ → (((t7_.1 120 58) = 0 → GI E m_Mo_termOf [.ref 120, .int (t7_.1 155 ((x9).toNatClampNeg)), .int (t7_.1 156 ((x9).toNatClampNeg))] g t7_ (fun y9_ t9_ => (((t9_.1 120 58) = 0 → GI E m_Mo_held [.int y9_, .int x5, .int x6] g t9_ (fun y10_ t10_ => Q (some (.int y10_)) (mk g t10_))) ∧ (¬ (t9_.1 120 58) = 0 → GI E m_Mo_held [.int 0, .int x5, .int x6] g t9_ (fun y11_ t11_ => Q (some (.int y11_)) (mk g t11_)))))) ∧ (¬ (t7_.1 120 58) = 0 → GI E m_Mo_held [.int 0, .int x5, .int x6] g t7_ (fun y12_ t12_ => Q (some (.int y12_)) (mk g t12_))))))))))))) : AWP E m_Mo_tells 173 0 0 [(0, .ref 120), (1, .int x1), (2, .int x2), (3, .int x3), (4, .int x4), (5, .int x5), (6, .int x6), (7, .int x7), (8, .int x8), (9, .int x9)] [] (mk g s) Q := by
  refine aw_iload (q := 175) (j := 9) rfl rfl (List.mem_of_getElem? (i := 9) rfl) ?_
  refine aw_aload_n (q := 176) (j := 0) rfl rfl rfl (List.mem_of_getElem? (i := 0) rfl) ?_
  refine ag_getR (q := 179) rfl rfl fl_Mo_109 rfl (SX.o hS rfl) (SX.r hS rfl) ?_
  refine aw_iload (q := 181) (j := 7) rfl rfl (List.mem_of_getElem? (i := 7) rfl) ?_
  obtain ⟨bd_1, h⟩ := h
  refine ag_iaload (q := 182) (N := 6) rfl rfl (SX.a hS rfl) bd_1 ?_
  refine aw_icmp_ge (q := 185) (tgt := 326) rfl rfl (by decide) ⟨fun cd_2 => ?_, fun cd_2 => ?_⟩
  · replace h := h.1 cd_2
    refine aw_iconst (q := 327) (v := 0) rfl rfl (by decide) ?_
    refine aw_iload (q := 329) (j := 5) rfl rfl (List.mem_of_getElem? (i := 5) rfl) ?_
    refine aw_iload (q := 331) (j := 6) rfl rfl (List.mem_of_getElem? (i := 6) rfl) ?_
    refine ag_csI (z := m_Mo_held) (av := [.int _, .int _, .int _]) (st := []) (q := 334) (k' := 0) (n' := 0) rfl rfl cs_Mo_361 ⟨by decide, by decide⟩ rfl rfl (by decide) (by decide) rfl rfl (Nat.le_of_ble_eq_true rfl) ?_
    refine GI.mono h (fun y1_ t1_ h => ?_)
    exact aw_ireturn (ty := .int) rfl rfl rfl (by decide) (by decide) h
  · replace h := h.2 cd_2
    refine aw_iconst (q := 186) (v := 0) rfl rfl (by decide) ?_
    refine aw_istore (q := 188) (j := 10) (ls' := [(10, .int _), (0, .ref _), (1, .int _), (2, .int _), (3, .int _), (4, .int _), (5, .int _), (6, .int _), (7, .int _), (8, .int _), (9, .int _)]) rfl rfl (by decide) rfl ?_
    refine aw_iconst (q := 189) (v := 1) rfl rfl (by decide) ?_
    refine aw_istore (q := 191) (j := 11) (ls' := [(11, .int _), (10, .int _), (0, .ref _), (1, .int _), (2, .int _), (3, .int _), (4, .int _), (5, .int _), (6, .int _), (7, .int _), (8, .int _), (9, .int _)]) rfl rfl (by decide) rfl ?_
    refine aw_aload_n (q := 192) (j := 0) rfl rfl rfl (List.mem_of_getElem? (i := 2) rfl) ?_
    refine ag_getR (q := 195) rfl rfl fl_Mo_112 rfl (SX.o hS rfl) (SX.r hS rfl) ?_
    refine aw_iload (q := 197) (j := 9) rfl rfl (List.mem_of_getElem? (i := 11) rfl) ?_
    obtain ⟨bd_3, h⟩ := h
    refine ag_zaload (q := 198) (N := 260) rfl rfl (SX.a hS rfl) bd_3 ?_
    refine aw_if_eq (q := 201) (tgt := 255) rfl rfl (by decide) ⟨fun cd_4 => ?_, fun cd_4 => ?_⟩
    · replace h := h.1 cd_4
      refine aw_aload_n (q := 256) (j := 0) rfl rfl rfl (List.mem_of_getElem? (i := 2) rfl) ?_
      refine ag_getI (q := 259) rfl rfl fl_Mo_340 rfl (SX.o hS rfl) ?_
      refine aw_if_eq (q := 262) (tgt := 271) rfl rfl (by decide) ⟨fun cd_5 => ?_, fun cd_5 => ?_⟩
      · replace h := h.1 cd_5
        refine aw_iload (q := 273) (j := 11) rfl rfl (List.mem_of_getElem? (i := 0) rfl) ?_
        refine aw_if_ne (q := 276) (tgt := 279) rfl rfl (by decide) ⟨fun c => absurd c (by decide), fun _ => ?_⟩
        refine aw_aload_n (q := 280) (j := 0) rfl rfl rfl (List.mem_of_getElem? (i := 2) rfl) ?_
        refine aw_aload_n (q := 281) (j := 0) rfl rfl rfl (List.mem_of_getElem? (i := 2) rfl) ?_
        refine ag_getR (q := 284) rfl rfl fl_Mo_122 rfl (SX.o hS rfl) (SX.r hS rfl) ?_
        refine aw_iload (q := 286) (j := 9) rfl rfl (List.mem_of_getElem? (i := 11) rfl) ?_
        refine ag_iaload (q := 287) (N := 260) rfl rfl (SX.a hS rfl) bd_3 ?_
        refine aw_aload_n (q := 288) (j := 0) rfl rfl rfl (List.mem_of_getElem? (i := 2) rfl) ?_
        refine ag_getR (q := 291) rfl rfl fl_Mo_125 rfl (SX.o hS rfl) (SX.r hS rfl) ?_
        refine aw_iload (q := 293) (j := 9) rfl rfl (List.mem_of_getElem? (i := 11) rfl) ?_
        refine ag_iaload (q := 294) (N := 260) rfl rfl (SX.a hS rfl) bd_3 ?_
        refine ag_cvI (z := m_Mo_termOf) (ci := 11) (av := [.int _, .int _]) (st := []) (q := 297) (k' := 0) (n' := 0) rfl rfl cv_Mo_358 ⟨by decide, by decide⟩ rfl rfl (by decide) (by decide) (SX.o hS rfl) rfl rfl rfl (Nat.le_of_ble_eq_true rfl) ?_
        refine GI.mono h (fun y2_ t2_ h => ?_)
        refine aw_istore (q := 299) (j := 12) (ls' := [(12, .int _), (11, .int _), (10, .int _), (0, .ref _), (1, .int _), (2, .int _), (3, .int _), (4, .int _), (5, .int _), (6, .int _), (7, .int _), (8, .int _), (9, .int _)]) rfl rfl (by decide) rfl ?_
        refine aw_aload_n (q := 300) (j := 0) rfl rfl rfl (List.mem_of_getElem? (i := 3) rfl) ?_
        refine ag_getI (q := 303) rfl rfl fl_Mo_340 rfl (SX.o hS rfl) ?_
        refine aw_if_eq (q := 306) (tgt := 310) rfl rfl (by decide) ⟨fun cd_6 => ?_, fun cd_6 => ?_⟩
        · replace h := h.1 cd_6
          refine aw_iload (q := 312) (j := 12) rfl rfl (List.mem_of_getElem? (i := 0) rfl) ?_
          refine aw_iload (q := 314) (j := 5) rfl rfl (List.mem_of_getElem? (i := 8) rfl) ?_
          refine aw_iload (q := 316) (j := 6) rfl rfl (List.mem_of_getElem? (i := 9) rfl) ?_
          refine ag_csI (z := m_Mo_held) (av := [.int _, .int _, .int _]) (st := []) (q := 319) (k' := 0) (n' := 0) rfl rfl cs_Mo_361 ⟨by decide, by decide⟩ rfl rfl (by decide) (by decide) rfl rfl (Nat.le_of_ble_eq_true rfl) ?_
          refine GI.mono h (fun y3_ t3_ h => ?_)
          exact aw_ireturn (ty := .int) rfl rfl rfl (by decide) (by decide) h
        · replace h := h.2 cd_6
          refine aw_iconst (q := 307) (v := 0) rfl rfl (by decide) ?_
          refine aw_goto (tgt := 312) rfl (by decide) ?_
          refine aw_iload (q := 314) (j := 5) rfl rfl (List.mem_of_getElem? (i := 8) rfl) ?_
          refine aw_iload (q := 316) (j := 6) rfl rfl (List.mem_of_getElem? (i := 9) rfl) ?_
          refine ag_csI (z := m_Mo_held) (av := [.int _, .int _, .int _]) (st := []) (q := 319) (k' := 0) (n' := 0) rfl rfl cs_Mo_361 ⟨by decide, by decide⟩ rfl rfl (by decide) (by decide) rfl rfl (Nat.le_of_ble_eq_true rfl) ?_
          refine GI.mono h (fun y4_ t4_ h => ?_)
          exact aw_ireturn (ty := .int) rfl rfl rfl (by decide) (by decide) h
      · replace h := h.2 cd_5
        refine aw_iconst (q := 263) (v := 0) rfl rfl (by decide) ?_
        refine aw_iload (q := 265) (j := 5) rfl rfl (List.mem_of_getElem? (i := 7) rfl) ?_
        refine aw_iload (q := 267) (j := 6) rfl rfl (List.mem_of_getElem? (i := 8) rfl) ?_
        refine ag_csI (z := m_Mo_held) (av := [.int _, .int _, .int _]) (st := []) (q := 270) (k' := 0) (n' := 0) rfl rfl cs_Mo_361 ⟨by decide, by decide⟩ rfl rfl (by decide) (by decide) rfl rfl (Nat.le_of_ble_eq_true rfl) ?_
        refine GI.mono h (fun y5_ t5_ h => ?_)
        exact aw_ireturn (ty := .int) rfl rfl rfl (by decide) (by decide) h
    · replace h := h.2 cd_4
      refine aw_aload_n (q := 202) (j := 0) rfl rfl rfl (List.mem_of_getElem? (i := 2) rfl) ?_
      refine aw_aload_n (q := 203) (j := 0) rfl rfl rfl (List.mem_of_getElem? (i := 2) rfl) ?_
      refine ag_getR (q := 206) rfl rfl fl_Mo_116 rfl (SX.o hS rfl) (SX.r hS rfl) ?_
      refine aw_iload (q := 208) (j := 9) rfl rfl (List.mem_of_getElem? (i := 11) rfl) ?_
      refine ag_iaload (q := 209) (N := 260) rfl rfl (SX.a hS rfl) bd_3 ?_
      refine aw_aload_n (q := 210) (j := 0) rfl rfl rfl (List.mem_of_getElem? (i := 2) rfl) ?_
      refine ag_getR (q := 213) rfl rfl fl_Mo_119 rfl (SX.o hS rfl) (SX.r hS rfl) ?_
      refine aw_iload (q := 215) (j := 9) rfl rfl (List.mem_of_getElem? (i := 11) rfl) ?_
      refine ag_iaload (q := 216) (N := 260) rfl rfl (SX.a hS rfl) bd_3 ?_
      refine ag_cvI (z := m_Mo_termOf) (ci := 11) (av := [.int _, .int _]) (st := []) (q := 219) (k' := 0) (n' := 0) rfl rfl cv_Mo_358 ⟨by decide, by decide⟩ rfl rfl (by decide) (by decide) (SX.o hS rfl) rfl rfl rfl (Nat.le_of_ble_eq_true rfl) ?_
      refine GI.mono h (fun y6_ t6_ h => ?_)
      refine aw_istore (q := 221) (j := 10) (ls' := [(10, .int _), (11, .int _), (0, .ref _), (1, .int _), (2, .int _), (3, .int _), (4, .int _), (5, .int _), (6, .int _), (7, .int _), (8, .int _), (9, .int _)]) rfl rfl (by decide) rfl ?_
      refine aw_aload_n (q := 222) (j := 0) rfl rfl rfl (List.mem_of_getElem? (i := 2) rfl) ?_
      refine aw_aload_n (q := 223) (j := 0) rfl rfl rfl (List.mem_of_getElem? (i := 2) rfl) ?_
      refine ag_getR (q := 226) rfl rfl fl_Mo_119 rfl (SX.o hS rfl) (SX.r hS rfl) ?_
      refine aw_iload (q := 228) (j := 9) rfl rfl (List.mem_of_getElem? (i := 11) rfl) ?_
      refine ag_iaload (q := 229) (N := 260) rfl rfl (SX.a hS rfl) bd_3 ?_
      refine aw_aload_n (q := 230) (j := 0) rfl rfl rfl (List.mem_of_getElem? (i := 2) rfl) ?_
      refine ag_getR (q := 233) rfl rfl fl_Mo_122 rfl (SX.o hS rfl) (SX.r hS rfl) ?_
      refine aw_iload (q := 235) (j := 9) rfl rfl (List.mem_of_getElem? (i := 11) rfl) ?_
      refine ag_iaload (q := 236) (N := 260) rfl rfl (SX.a hS rfl) bd_3 ?_
      refine ag_cvI (z := m_Mo_termOf) (ci := 11) (av := [.int _, .int _]) (st := []) (q := 239) (k' := 0) (n' := 0) rfl rfl cv_Mo_358 ⟨by decide, by decide⟩ rfl rfl (by decide) (by decide) (SX.o hS rfl) rfl rfl rfl (Nat.le_of_ble_eq_true rfl) ?_
      refine GI.mono h (fun y7_ t7_ h => ?_)
      refine aw_istore (q := 241) (j := 12) (ls' := [(12, .int _), (10, .int _), (11, .int _), (0, .ref _), (1, .int _), (2, .int _), (3, .int _), (4, .int _), (5, .int _), (6, .int _), (7, .int _), (8, .int _), (9, .int _)]) rfl rfl (by decide) rfl ?_
      refine aw_iload (q := 243) (j := 10) rfl rfl (List.mem_of_getElem? (i := 1) rfl) ?_
      refine aw_iload (q := 245) (j := 12) rfl rfl (List.mem_of_getElem? (i := 0) rfl) ?_
      refine aw_icmp_ge (q := 248) (tgt := 252) rfl rfl (by decide) ⟨fun cd_7 => ?_, fun cd_7 => ?_⟩
      · replace h := h.1 cd_7
        refine aw_iconst (q := 253) (v := 0) rfl rfl (by decide) ?_
        refine aw_istore (q := 255) (j := 11) (ls' := [(11, .int _), (12, .int _), (10, .int _), (0, .ref _), (1, .int _), (2, .int _), (3, .int _), (4, .int _), (5, .int _), (6, .int _), (7, .int _), (8, .int _), (9, .int _)]) rfl rfl (by decide) rfl ?_
        refine aw_aload_n (q := 256) (j := 0) rfl rfl rfl (List.mem_of_getElem? (i := 3) rfl) ?_
        refine ag_getI (q := 259) rfl rfl fl_Mo_340 rfl (SX.o hS rfl) ?_
        refine aw_if_eq (q := 262) (tgt := 271) rfl rfl (by decide) ⟨fun cd_8 => ?_, fun cd_8 => ?_⟩
        · replace h := h.1 cd_8
          refine aw_iload (q := 273) (j := 11) rfl rfl (List.mem_of_getElem? (i := 0) rfl) ?_
          refine aw_if_ne (q := 276) (tgt := 279) rfl rfl (by decide) ⟨fun _ => ?_, fun c => absurd (by decide) c⟩
          refine aw_goto (tgt := 320) rfl (by decide) ?_
          refine aw_iinc (q := 323) (v := _ + 1) (ls' := [(9, .int _), (11, .int _), (12, .int _), (10, .int _), (0, .ref _), (1, .int _), (2, .int _), (3, .int _), (4, .int _), (5, .int _), (6, .int _), (7, .int _), (8, .int _)]) rfl rfl (List.mem_of_getElem? (i := 12) rfl) rfl (by decide) rfl ?_
          refine aw_goto (tgt := 173) rfl (by decide) ?_
          refine aw_ls [4, 5, 6, 7, 8, 9, 10, 11, 12, 0] rfl ?_
          exact h
        · replace h := h.2 cd_8
          refine aw_iconst (q := 263) (v := 0) rfl rfl (by decide) ?_
          refine aw_iload (q := 265) (j := 5) rfl rfl (List.mem_of_getElem? (i := 8) rfl) ?_
          refine aw_iload (q := 267) (j := 6) rfl rfl (List.mem_of_getElem? (i := 9) rfl) ?_
          refine ag_csI (z := m_Mo_held) (av := [.int _, .int _, .int _]) (st := []) (q := 270) (k' := 0) (n' := 0) rfl rfl cs_Mo_361 ⟨by decide, by decide⟩ rfl rfl (by decide) (by decide) rfl rfl (Nat.le_of_ble_eq_true rfl) ?_
          refine GI.mono h (fun y8_ t8_ h => ?_)
          exact aw_ireturn (ty := .int) rfl rfl rfl (by decide) (by decide) h
      · replace h := h.2 cd_7
        refine aw_iconst (q := 249) (v := 1) rfl rfl (by decide) ?_
        refine aw_goto (tgt := 253) rfl (by decide) ?_
        refine aw_istore (q := 255) (j := 11) (ls' := [(11, .int _), (12, .int _), (10, .int _), (0, .ref _), (1, .int _), (2, .int _), (3, .int _), (4, .int _), (5, .int _), (6, .int _), (7, .int _), (8, .int _), (9, .int _)]) rfl rfl (by decide) rfl ?_
        refine aw_aload_n (q := 256) (j := 0) rfl rfl rfl (List.mem_of_getElem? (i := 3) rfl) ?_
        refine ag_getI (q := 259) rfl rfl fl_Mo_340 rfl (SX.o hS rfl) ?_
        refine aw_if_eq (q := 262) (tgt := 271) rfl rfl (by decide) ⟨fun cd_9 => ?_, fun cd_9 => ?_⟩
        · replace h := h.1 cd_9
          refine aw_iload (q := 273) (j := 11) rfl rfl (List.mem_of_getElem? (i := 0) rfl) ?_
          refine aw_if_ne (q := 276) (tgt := 279) rfl rfl (by decide) ⟨fun c => absurd c (by decide), fun _ => ?_⟩
          refine aw_aload_n (q := 280) (j := 0) rfl rfl rfl (List.mem_of_getElem? (i := 3) rfl) ?_
          refine aw_aload_n (q := 281) (j := 0) rfl rfl rfl (List.mem_of_getElem? (i := 3) rfl) ?_
          refine ag_getR (q := 284) rfl rfl fl_Mo_122 rfl (SX.o hS rfl) (SX.r hS rfl) ?_
          refine aw_iload (q := 286) (j := 9) rfl rfl (List.mem_of_getElem? (i := 12) rfl) ?_
          refine ag_iaload (q := 287) (N := 260) rfl rfl (SX.a hS rfl) bd_3 ?_
          refine aw_aload_n (q := 288) (j := 0) rfl rfl rfl (List.mem_of_getElem? (i := 3) rfl) ?_
          refine ag_getR (q := 291) rfl rfl fl_Mo_125 rfl (SX.o hS rfl) (SX.r hS rfl) ?_
          refine aw_iload (q := 293) (j := 9) rfl rfl (List.mem_of_getElem? (i := 12) rfl) ?_
          refine ag_iaload (q := 294) (N := 260) rfl rfl (SX.a hS rfl) bd_3 ?_
          refine ag_cvI (z := m_Mo_termOf) (ci := 11) (av := [.int _, .int _]) (st := []) (q := 297) (k' := 0) (n' := 0) rfl rfl cv_Mo_358 ⟨by decide, by decide⟩ rfl rfl (by decide) (by decide) (SX.o hS rfl) rfl rfl rfl (Nat.le_of_ble_eq_true rfl) ?_
          refine GI.mono h (fun y9_ t9_ h => ?_)
          refine aw_istore (q := 299) (j := 12) (ls' := [(12, .int _), (11, .int _), (10, .int _), (0, .ref _), (1, .int _), (2, .int _), (3, .int _), (4, .int _), (5, .int _), (6, .int _), (7, .int _), (8, .int _), (9, .int _)]) rfl rfl (by decide) rfl ?_
          refine aw_aload_n (q := 300) (j := 0) rfl rfl rfl (List.mem_of_getElem? (i := 3) rfl) ?_
          refine ag_getI (q := 303) rfl rfl fl_Mo_340 rfl (SX.o hS rfl) ?_
          refine aw_if_eq (q := 306) (tgt := 310) rfl rfl (by decide) ⟨fun cd_10 => ?_, fun cd_10 => ?_⟩
          · replace h := h.1 cd_10
            refine aw_iload (q := 312) (j := 12) rfl rfl (List.mem_of_getElem? (i := 0) rfl) ?_
            refine aw_iload (q := 314) (j := 5) rfl rfl (List.mem_of_getElem? (i := 8) rfl) ?_
            refine aw_iload (q := 316) (j := 6) rfl rfl (List.mem_of_getElem? (i := 9) rfl) ?_
            refine ag_csI (z := m_Mo_held) (av := [.int _, .int _, .int _]) (st := []) (q := 319) (k' := 0) (n' := 0) rfl rfl cs_Mo_361 ⟨by decide, by decide⟩ rfl rfl (by decide) (by decide) rfl rfl (Nat.le_of_ble_eq_true rfl) ?_
            refine GI.mono h (fun y10_ t10_ h => ?_)
            exact aw_ireturn (ty := .int) rfl rfl rfl (by decide) (by decide) h
          · replace h := h.2 cd_10
            refine aw_iconst (q := 307) (v := 0) rfl rfl (by decide) ?_
            refine aw_goto (tgt := 312) rfl (by decide) ?_
            refine aw_iload (q := 314) (j := 5) rfl rfl (List.mem_of_getElem? (i := 8) rfl) ?_
            refine aw_iload (q := 316) (j := 6) rfl rfl (List.mem_of_getElem? (i := 9) rfl) ?_
            refine ag_csI (z := m_Mo_held) (av := [.int _, .int _, .int _]) (st := []) (q := 319) (k' := 0) (n' := 0) rfl rfl cs_Mo_361 ⟨by decide, by decide⟩ rfl rfl (by decide) (by decide) rfl rfl (Nat.le_of_ble_eq_true rfl) ?_
            refine GI.mono h (fun y11_ t11_ h => ?_)
            exact aw_ireturn (ty := .int) rfl rfl rfl (by decide) (by decide) h
        · replace h := h.2 cd_9
          refine aw_iconst (q := 263) (v := 0) rfl rfl (by decide) ?_
          refine aw_iload (q := 265) (j := 5) rfl rfl (List.mem_of_getElem? (i := 8) rfl) ?_
          refine aw_iload (q := 267) (j := 6) rfl rfl (List.mem_of_getElem? (i := 9) rfl) ?_
          refine ag_csI (z := m_Mo_held) (av := [.int _, .int _, .int _]) (st := []) (q := 270) (k' := 0) (n' := 0) rfl rfl cs_Mo_361 ⟨by decide, by decide⟩ rfl rfl (by decide) (by decide) rfl rfl (Nat.le_of_ble_eq_true rfl) ?_
          refine GI.mono h (fun y12_ t12_ h => ?_)
          exact aw_ireturn (ty := .int) rfl rfl rfl (by decide) (by decide) h
set_option maxRecDepth 20000 in
theorem v_Mo_tells {E : EN} {g : GS} {s : MS} {Q : Option Value → SG → Prop} (x1 : Int32) (x2 : Int32) (x3 : Int32) (x4 : Int32) (x5 : Int32) (x6 : Int32) (hS : SX g) (h : vp_in ((3 * (s.1 120 18)) + x1) 6 ∧ (((s.1 150 ((((3 * (s.1 120 18)) + x1)).toNatClampNeg)) = (s.1 151 ((((3 * (s.1 120 18)) + x1)).toNatClampNeg)) → Q (some (.int x4)) (mk g s)) ∧ (¬ (s.1 150 ((((3 * (s.1 120 18)) + x1)).toNatClampNeg)) = (s.1 151 ((((3 * (s.1 120 18)) + x1)).toNatClampNeg)) → vp_in (s.1 120 18) 2 ∧ vp_in (74 + x2) 120 ∧ (∀ s1_, s1_ = wi s 160 0 (s.1 163 (((74 + x2)).toNatClampNeg)) → vp_in (82 + x2) 120 ∧ (∀ s2_, s2_ = wi s1_ 160 1 (s.1 163 (((82 + x2)).toNatClampNeg)) → (∀ s3_, s3_ = wi s2_ 160 2 x3 → (((0 : Int32) ≤ ((s.1 147 (((s.1 120 18)).toNatClampNeg)) - (s.1 163 114)) → (∀ s4_, s4_ = wi s3_ 160 3 ((s.1 147 (((s.1 120 18)).toNatClampNeg)) - (s.1 163 114)) → vp_in ((8 * (s.1 120 18)) + x2) 16 ∧ vp_in (s.1 139 ((((8 * (s.1 120 18)) + x2)).toNatClampNeg)) 6 ∧ (∀ s5_, s5_ = wi s4_ 160 4 (s.1 164 (((s.1 139 ((((8 * (s.1 120 18)) + x2)).toNatClampNeg))).toNatClampNeg)) → vp_in (90 + x2) 120 ∧ (∀ s6_, s6_ = wi s5_ 160 5 (s.1 163 (((90 + x2)).toNatClampNeg)) → vp_in (98 + x2) 120 ∧ (∀ s7_, s7_ = wi s6_ 160 6 (s.1 163 (((98 + x2)).toNatClampNeg)) → (∀ s8_, s8_ = wi s7_ 120 58 0 → AWP E m_Mo_tells 173 0 0 [(0, .ref 120), (1, .int x1), (2, .int x2), (3, .int x3), (4, .int x4), (5, .int x5), (6, .int x6), (7, .int ((3 * (s.1 120 18)) + x1)), (8, .int ((s.1 147 (((s.1 120 18)).toNatClampNeg)) - (s.1 163 114))), (9, .int (s.1 150 ((((3 * (s.1 120 18)) + x1)).toNatClampNeg)))] [] (mk g s8_) Q)))))) ∧ (¬ (0 : Int32) ≤ ((s.1 147 (((s.1 120 18)).toNatClampNeg)) - (s.1 163 114)) → (∀ s9_, s9_ = wi s3_ 160 3 0 → vp_in ((8 * (s.1 120 18)) + x2) 16 ∧ vp_in (s.1 139 ((((8 * (s.1 120 18)) + x2)).toNatClampNeg)) 6 ∧ (∀ s10_, s10_ = wi s9_ 160 4 (s.1 164 (((s.1 139 ((((8 * (s.1 120 18)) + x2)).toNatClampNeg))).toNatClampNeg)) → vp_in (90 + x2) 120 ∧ (∀ s11_, s11_ = wi s10_ 160 5 (s.1 163 (((90 + x2)).toNatClampNeg)) → vp_in (98 + x2) 120 ∧ (∀ s12_, s12_ = wi s11_ 160 6 (s.1 163 (((98 + x2)).toNatClampNeg)) → (∀ s13_, s13_ = wi s12_ 120 58 0 → AWP E m_Mo_tells 173 0 0 [(0, .ref 120), (1, .int x1), (2, .int x2), (3, .int x3), (4, .int x4), (5, .int x5), (6, .int x6), (7, .int ((3 * (s.1 120 18)) + x1)), (8, .int ((s.1 147 (((s.1 120 18)).toNatClampNeg)) - (s.1 163 114))), (9, .int (s.1 150 ((((3 * (s.1 120 18)) + x1)).toNatClampNeg)))] [] (mk g s13_) Q))))))))))))) : AMet E m_Mo_tells [.ref 120, .int x1, .int x2, .int x3, .int x4, .int x5, .int x6] (mk g s) Q := by
  refine AMet.of (by decide) k_Mo_tells [(0, .ref 120), (1, .int x1), (2, .int x2), (3, .int x3), (4, .int x4), (5, .int x5), (6, .int x6)] (Nat.le_of_ble_eq_true rfl) rfl ?_
  refine aw_iconst (q := 1) (v := 3) rfl rfl (by decide) ?_
  refine aw_aload_n (q := 2) (j := 0) rfl rfl rfl (List.mem_of_getElem? (i := 0) rfl) ?_
  refine ag_getI (q := 5) rfl rfl fl_Mo_257 rfl (SX.o hS rfl) ?_
  refine aw_imul (q := 6) rfl rfl ?_
  refine aw_iload_n (q := 7) (j := 1) rfl rfl rfl (List.mem_of_getElem? (i := 1) rfl) ?_
  refine aw_iadd (q := 8) rfl rfl ?_
  refine aw_istore (q := 10) (j := 7) (ls' := [(7, .int _), (0, .ref _), (1, .int _), (2, .int _), (3, .int _), (4, .int _), (5, .int _), (6, .int _)]) rfl rfl (by decide) rfl ?_
  refine aw_aload_n (q := 11) (j := 0) rfl rfl rfl (List.mem_of_getElem? (i := 1) rfl) ?_
  refine ag_getR (q := 14) rfl rfl fl_Mo_106 rfl (SX.o hS rfl) (SX.r hS rfl) ?_
  refine aw_iload (q := 16) (j := 7) rfl rfl (List.mem_of_getElem? (i := 0) rfl) ?_
  obtain ⟨bd_1, h⟩ := h
  refine ag_iaload (q := 17) (N := 6) rfl rfl (SX.a hS rfl) bd_1 ?_
  refine aw_aload_n (q := 18) (j := 0) rfl rfl rfl (List.mem_of_getElem? (i := 1) rfl) ?_
  refine ag_getR (q := 21) rfl rfl fl_Mo_109 rfl (SX.o hS rfl) (SX.r hS rfl) ?_
  refine aw_iload (q := 23) (j := 7) rfl rfl (List.mem_of_getElem? (i := 0) rfl) ?_
  refine ag_iaload (q := 24) (N := 6) rfl rfl (SX.a hS rfl) bd_1 ?_
  refine aw_icmp_ne (q := 27) (tgt := 30) rfl rfl (by decide) ⟨fun cd_2 => ?_, fun cd_2 => ?_⟩
  · replace h := h.1 cd_2
    refine aw_iload (q := 29) (j := 4) rfl rfl (List.mem_of_getElem? (i := 5) rfl) ?_
    exact aw_ireturn (ty := .int) rfl rfl rfl (by decide) (by decide) h
  · replace h := h.2 cd_2
    refine aw_aload_n (q := 31) (j := 0) rfl rfl rfl (List.mem_of_getElem? (i := 1) rfl) ?_
    refine ag_getR (q := 34) rfl rfl fl_Mo_97 rfl (SX.o hS rfl) (SX.r hS rfl) ?_
    refine aw_aload_n (q := 35) (j := 0) rfl rfl rfl (List.mem_of_getElem? (i := 1) rfl) ?_
    refine ag_getI (q := 38) rfl rfl fl_Mo_257 rfl (SX.o hS rfl) ?_
    obtain ⟨bd_3, h⟩ := h
    refine ag_iaload (q := 39) (N := 2) rfl rfl (SX.a hS rfl) bd_3 ?_
    refine aw_aload_n (q := 40) (j := 0) rfl rfl rfl (List.mem_of_getElem? (i := 1) rfl) ?_
    refine ag_getR (q := 43) rfl rfl fl_Mo_146 rfl (SX.o hS rfl) (SX.r hS rfl) ?_
    refine aw_bipush (q := 45) (v := 114) rfl rfl (by decide) ?_
    refine ag_iaload (q := 46) (N := 120) rfl rfl (SX.a hS rfl) (by unfold vp_in; decide) ?_
    refine aw_isub (q := 47) rfl rfl ?_
    refine aw_istore (q := 49) (j := 8) (ls' := [(8, .int _), (7, .int _), (0, .ref _), (1, .int _), (2, .int _), (3, .int _), (4, .int _), (5, .int _), (6, .int _)]) rfl rfl (by decide) rfl ?_
    refine aw_aload_n (q := 50) (j := 0) rfl rfl rfl (List.mem_of_getElem? (i := 2) rfl) ?_
    refine ag_getR (q := 53) rfl rfl fl_Mo_137 rfl (SX.o hS rfl) (SX.r hS rfl) ?_
    refine aw_iconst (q := 54) (v := 0) rfl rfl (by decide) ?_
    refine aw_aload_n (q := 55) (j := 0) rfl rfl rfl (List.mem_of_getElem? (i := 2) rfl) ?_
    refine ag_getR (q := 58) rfl rfl fl_Mo_146 rfl (SX.o hS rfl) (SX.r hS rfl) ?_
    refine aw_bipush (q := 60) (v := 74) rfl rfl (by decide) ?_
    refine aw_iload_n (q := 61) (j := 2) rfl rfl rfl (List.mem_of_getElem? (i := 4) rfl) ?_
    refine aw_iadd (q := 62) rfl rfl ?_
    obtain ⟨bd_4, h⟩ := h
    refine ag_iaload (q := 63) (N := 120) rfl rfl (SX.a hS rfl) bd_4 ?_
    refine ag_iastore (q := 64) (N := 7) rfl rfl (SX.a hS rfl) (by unfold vp_in; decide) ?_
    replace h := h _ rfl
    refine aw_aload_n (q := 65) (j := 0) rfl rfl rfl (List.mem_of_getElem? (i := 2) rfl) ?_
    refine ag_getR (q := 68) rfl rfl fl_Mo_137 rfl (SX.o hS rfl) (SX.r hS rfl) ?_
    refine aw_iconst (q := 69) (v := 1) rfl rfl (by decide) ?_
    refine aw_aload_n (q := 70) (j := 0) rfl rfl rfl (List.mem_of_getElem? (i := 2) rfl) ?_
    refine ag_getR (q := 73) rfl rfl fl_Mo_146 rfl (SX.o hS rfl) (SX.r hS rfl) ?_
    refine aw_bipush (q := 75) (v := 82) rfl rfl (by decide) ?_
    refine aw_iload_n (q := 76) (j := 2) rfl rfl rfl (List.mem_of_getElem? (i := 4) rfl) ?_
    refine aw_iadd (q := 77) rfl rfl ?_
    obtain ⟨bd_5, h⟩ := h
    refine ag_iaload (q := 78) (N := 120) rfl rfl (SX.a hS rfl) bd_5 ?_
    refine ag_iastore (q := 79) (N := 7) rfl rfl (SX.a hS rfl) (by unfold vp_in; decide) ?_
    replace h := h _ rfl
    refine aw_aload_n (q := 80) (j := 0) rfl rfl rfl (List.mem_of_getElem? (i := 2) rfl) ?_
    refine ag_getR (q := 83) rfl rfl fl_Mo_137 rfl (SX.o hS rfl) (SX.r hS rfl) ?_
    refine aw_iconst (q := 84) (v := 2) rfl rfl (by decide) ?_
    refine aw_iload_n (q := 85) (j := 3) rfl rfl rfl (List.mem_of_getElem? (i := 5) rfl) ?_
    refine ag_iastore (q := 86) (N := 7) rfl rfl (SX.a hS rfl) (by unfold vp_in; decide) ?_
    replace h := h _ rfl
    refine aw_aload_n (q := 87) (j := 0) rfl rfl rfl (List.mem_of_getElem? (i := 2) rfl) ?_
    refine ag_getR (q := 90) rfl rfl fl_Mo_137 rfl (SX.o hS rfl) (SX.r hS rfl) ?_
    refine aw_iconst (q := 91) (v := 3) rfl rfl (by decide) ?_
    refine aw_iload (q := 93) (j := 8) rfl rfl (List.mem_of_getElem? (i := 0) rfl) ?_
    refine aw_if_ge (q := 96) (tgt := 100) rfl rfl (by decide) ⟨fun cd_6 => ?_, fun cd_6 => ?_⟩
    · replace h := h.1 cd_6
      refine aw_iload (q := 102) (j := 8) rfl rfl (List.mem_of_getElem? (i := 0) rfl) ?_
      refine ag_iastore (q := 103) (N := 7) rfl rfl (SX.a hS rfl) (by unfold vp_in; decide) ?_
      replace h := h _ rfl
      refine aw_aload_n (q := 104) (j := 0) rfl rfl rfl (List.mem_of_getElem? (i := 2) rfl) ?_
      refine ag_getR (q := 107) rfl rfl fl_Mo_137 rfl (SX.o hS rfl) (SX.r hS rfl) ?_
      refine aw_iconst (q := 108) (v := 4) rfl rfl (by decide) ?_
      refine aw_aload_n (q := 109) (j := 0) rfl rfl rfl (List.mem_of_getElem? (i := 2) rfl) ?_
      refine ag_getR (q := 112) rfl rfl fl_Mo_149 rfl (SX.o hS rfl) (SX.r hS rfl) ?_
      refine aw_aload_n (q := 113) (j := 0) rfl rfl rfl (List.mem_of_getElem? (i := 2) rfl) ?_
      refine ag_getR (q := 116) rfl rfl fl_Mo_73 rfl (SX.o hS rfl) (SX.r hS rfl) ?_
      refine aw_bipush (q := 118) (v := 8) rfl rfl (by decide) ?_
      refine aw_aload_n (q := 119) (j := 0) rfl rfl rfl (List.mem_of_getElem? (i := 2) rfl) ?_
      refine ag_getI (q := 122) rfl rfl fl_Mo_257 rfl (SX.o hS rfl) ?_
      refine aw_imul (q := 123) rfl rfl ?_
      refine aw_iload_n (q := 124) (j := 2) rfl rfl rfl (List.mem_of_getElem? (i := 4) rfl) ?_
      refine aw_iadd (q := 125) rfl rfl ?_
      obtain ⟨bd_7, h⟩ := h
      refine ag_iaload (q := 126) (N := 16) rfl rfl (SX.a hS rfl) bd_7 ?_
      obtain ⟨bd_8, h⟩ := h
      refine ag_iaload (q := 127) (N := 6) rfl rfl (SX.a hS rfl) bd_8 ?_
      refine ag_iastore (q := 128) (N := 7) rfl rfl (SX.a hS rfl) (by unfold vp_in; decide) ?_
      replace h := h _ rfl
      refine aw_aload_n (q := 129) (j := 0) rfl rfl rfl (List.mem_of_getElem? (i := 2) rfl) ?_
      refine ag_getR (q := 132) rfl rfl fl_Mo_137 rfl (SX.o hS rfl) (SX.r hS rfl) ?_
      refine aw_iconst (q := 133) (v := 5) rfl rfl (by decide) ?_
      refine aw_aload_n (q := 134) (j := 0) rfl rfl rfl (List.mem_of_getElem? (i := 2) rfl) ?_
      refine ag_getR (q := 137) rfl rfl fl_Mo_146 rfl (SX.o hS rfl) (SX.r hS rfl) ?_
      refine aw_bipush (q := 139) (v := 90) rfl rfl (by decide) ?_
      refine aw_iload_n (q := 140) (j := 2) rfl rfl rfl (List.mem_of_getElem? (i := 4) rfl) ?_
      refine aw_iadd (q := 141) rfl rfl ?_
      obtain ⟨bd_9, h⟩ := h
      refine ag_iaload (q := 142) (N := 120) rfl rfl (SX.a hS rfl) bd_9 ?_
      refine ag_iastore (q := 143) (N := 7) rfl rfl (SX.a hS rfl) (by unfold vp_in; decide) ?_
      replace h := h _ rfl
      refine aw_aload_n (q := 144) (j := 0) rfl rfl rfl (List.mem_of_getElem? (i := 2) rfl) ?_
      refine ag_getR (q := 147) rfl rfl fl_Mo_137 rfl (SX.o hS rfl) (SX.r hS rfl) ?_
      refine aw_bipush (q := 149) (v := 6) rfl rfl (by decide) ?_
      refine aw_aload_n (q := 150) (j := 0) rfl rfl rfl (List.mem_of_getElem? (i := 2) rfl) ?_
      refine ag_getR (q := 153) rfl rfl fl_Mo_146 rfl (SX.o hS rfl) (SX.r hS rfl) ?_
      refine aw_bipush (q := 155) (v := 98) rfl rfl (by decide) ?_
      refine aw_iload_n (q := 156) (j := 2) rfl rfl rfl (List.mem_of_getElem? (i := 4) rfl) ?_
      refine aw_iadd (q := 157) rfl rfl ?_
      obtain ⟨bd_10, h⟩ := h
      refine ag_iaload (q := 158) (N := 120) rfl rfl (SX.a hS rfl) bd_10 ?_
      refine ag_iastore (q := 159) (N := 7) rfl rfl (SX.a hS rfl) (by unfold vp_in; decide) ?_
      replace h := h _ rfl
      refine aw_aload_n (q := 160) (j := 0) rfl rfl rfl (List.mem_of_getElem? (i := 2) rfl) ?_
      refine aw_iconst (q := 161) (v := 0) rfl rfl (by decide) ?_
      refine ag_putZ (q := 164) rfl rfl fl_Mo_340 rfl rfl (by decide) (SX.o hS rfl) ?_
      replace h := h _ rfl
      refine aw_aload_n (q := 165) (j := 0) rfl rfl rfl (List.mem_of_getElem? (i := 2) rfl) ?_
      refine ag_getR (q := 168) rfl rfl fl_Mo_106 rfl (SX.o hS rfl) (SX.r hS rfl) ?_
      refine aw_iload (q := 170) (j := 7) rfl rfl (List.mem_of_getElem? (i := 1) rfl) ?_
      refine ag_iaload (q := 171) (N := 6) rfl rfl (SX.a hS rfl) bd_1 ?_
      refine aw_istore (q := 173) (j := 9) (ls' := [(9, .int _), (8, .int _), (7, .int _), (0, .ref _), (1, .int _), (2, .int _), (3, .int _), (4, .int _), (5, .int _), (6, .int _)]) rfl rfl (by decide) rfl ?_
      refine aw_ls [3, 4, 5, 6, 7, 8, 9, 2, 1, 0] rfl ?_
      exact h
    · replace h := h.2 cd_6
      refine aw_iconst (q := 97) (v := 0) rfl rfl (by decide) ?_
      refine aw_goto (tgt := 102) rfl (by decide) ?_
      refine ag_iastore (q := 103) (N := 7) rfl rfl (SX.a hS rfl) (by unfold vp_in; decide) ?_
      replace h := h _ rfl
      refine aw_aload_n (q := 104) (j := 0) rfl rfl rfl (List.mem_of_getElem? (i := 2) rfl) ?_
      refine ag_getR (q := 107) rfl rfl fl_Mo_137 rfl (SX.o hS rfl) (SX.r hS rfl) ?_
      refine aw_iconst (q := 108) (v := 4) rfl rfl (by decide) ?_
      refine aw_aload_n (q := 109) (j := 0) rfl rfl rfl (List.mem_of_getElem? (i := 2) rfl) ?_
      refine ag_getR (q := 112) rfl rfl fl_Mo_149 rfl (SX.o hS rfl) (SX.r hS rfl) ?_
      refine aw_aload_n (q := 113) (j := 0) rfl rfl rfl (List.mem_of_getElem? (i := 2) rfl) ?_
      refine ag_getR (q := 116) rfl rfl fl_Mo_73 rfl (SX.o hS rfl) (SX.r hS rfl) ?_
      refine aw_bipush (q := 118) (v := 8) rfl rfl (by decide) ?_
      refine aw_aload_n (q := 119) (j := 0) rfl rfl rfl (List.mem_of_getElem? (i := 2) rfl) ?_
      refine ag_getI (q := 122) rfl rfl fl_Mo_257 rfl (SX.o hS rfl) ?_
      refine aw_imul (q := 123) rfl rfl ?_
      refine aw_iload_n (q := 124) (j := 2) rfl rfl rfl (List.mem_of_getElem? (i := 4) rfl) ?_
      refine aw_iadd (q := 125) rfl rfl ?_
      obtain ⟨bd_11, h⟩ := h
      refine ag_iaload (q := 126) (N := 16) rfl rfl (SX.a hS rfl) bd_11 ?_
      obtain ⟨bd_12, h⟩ := h
      refine ag_iaload (q := 127) (N := 6) rfl rfl (SX.a hS rfl) bd_12 ?_
      refine ag_iastore (q := 128) (N := 7) rfl rfl (SX.a hS rfl) (by unfold vp_in; decide) ?_
      replace h := h _ rfl
      refine aw_aload_n (q := 129) (j := 0) rfl rfl rfl (List.mem_of_getElem? (i := 2) rfl) ?_
      refine ag_getR (q := 132) rfl rfl fl_Mo_137 rfl (SX.o hS rfl) (SX.r hS rfl) ?_
      refine aw_iconst (q := 133) (v := 5) rfl rfl (by decide) ?_
      refine aw_aload_n (q := 134) (j := 0) rfl rfl rfl (List.mem_of_getElem? (i := 2) rfl) ?_
      refine ag_getR (q := 137) rfl rfl fl_Mo_146 rfl (SX.o hS rfl) (SX.r hS rfl) ?_
      refine aw_bipush (q := 139) (v := 90) rfl rfl (by decide) ?_
      refine aw_iload_n (q := 140) (j := 2) rfl rfl rfl (List.mem_of_getElem? (i := 4) rfl) ?_
      refine aw_iadd (q := 141) rfl rfl ?_
      obtain ⟨bd_13, h⟩ := h
      refine ag_iaload (q := 142) (N := 120) rfl rfl (SX.a hS rfl) bd_13 ?_
      refine ag_iastore (q := 143) (N := 7) rfl rfl (SX.a hS rfl) (by unfold vp_in; decide) ?_
      replace h := h _ rfl
      refine aw_aload_n (q := 144) (j := 0) rfl rfl rfl (List.mem_of_getElem? (i := 2) rfl) ?_
      refine ag_getR (q := 147) rfl rfl fl_Mo_137 rfl (SX.o hS rfl) (SX.r hS rfl) ?_
      refine aw_bipush (q := 149) (v := 6) rfl rfl (by decide) ?_
      refine aw_aload_n (q := 150) (j := 0) rfl rfl rfl (List.mem_of_getElem? (i := 2) rfl) ?_
      refine ag_getR (q := 153) rfl rfl fl_Mo_146 rfl (SX.o hS rfl) (SX.r hS rfl) ?_
      refine aw_bipush (q := 155) (v := 98) rfl rfl (by decide) ?_
      refine aw_iload_n (q := 156) (j := 2) rfl rfl rfl (List.mem_of_getElem? (i := 4) rfl) ?_
      refine aw_iadd (q := 157) rfl rfl ?_
      obtain ⟨bd_14, h⟩ := h
      refine ag_iaload (q := 158) (N := 120) rfl rfl (SX.a hS rfl) bd_14 ?_
      refine ag_iastore (q := 159) (N := 7) rfl rfl (SX.a hS rfl) (by unfold vp_in; decide) ?_
      replace h := h _ rfl
      refine aw_aload_n (q := 160) (j := 0) rfl rfl rfl (List.mem_of_getElem? (i := 2) rfl) ?_
      refine aw_iconst (q := 161) (v := 0) rfl rfl (by decide) ?_
      refine ag_putZ (q := 164) rfl rfl fl_Mo_340 rfl rfl (by decide) (SX.o hS rfl) ?_
      replace h := h _ rfl
      refine aw_aload_n (q := 165) (j := 0) rfl rfl rfl (List.mem_of_getElem? (i := 2) rfl) ?_
      refine ag_getR (q := 168) rfl rfl fl_Mo_106 rfl (SX.o hS rfl) (SX.r hS rfl) ?_
      refine aw_iload (q := 170) (j := 7) rfl rfl (List.mem_of_getElem? (i := 1) rfl) ?_
      refine ag_iaload (q := 171) (N := 6) rfl rfl (SX.a hS rfl) bd_1 ?_
      refine aw_istore (q := 173) (j := 9) (ls' := [(9, .int _), (8, .int _), (7, .int _), (0, .ref _), (1, .int _), (2, .int _), (3, .int _), (4, .int _), (5, .int _), (6, .int _)]) rfl rfl (by decide) rfl ?_
      refine aw_ls [3, 4, 5, 6, 7, 8, 9, 2, 1, 0] rfl ?_
      exact h
set_option maxRecDepth 20000 in
theorem v_Mo_termOf_5 {E : EN} {g : GS} {s : MS} {Q : Option Value → SG → Prop} (x1 : Int32) (x2 : Int32) (x3 : Int32) (x4 : Int32) (hS : SX g) (h : ((x2 ≤ x4 → Q (some (.int (s.1 161 0))) (mk g s)) ∧ (¬ x2 ≤ x4 → vp_in x4 840 ∧ ((2 ≤ (s.1 157 ((x4).toNatClampNeg)) → vp_in ((x3 + (-1)) - 1) 400 ∧ vp_in (x3 + (-1)) 400 ∧ (((s.1 157 ((x4).toNatClampNeg)) = 5 → (((s.1 161 ((x3 + (-1)).toNatClampNeg)) = 0 → (∀ s1_, s1_ = wi s 120 58 1 → Q (some (.int 0)) (mk g s1_))) ∧ (¬ (s.1 161 ((x3 + (-1)).toNatClampNeg)) = 0 → (((s.1 157 ((x4).toNatClampNeg)) = 2 → (∀ s2_, s2_ = wi s 161 ((((x3 + (-1)) - 1)).toNatClampNeg) ((s.1 161 ((((x3 + (-1)) - 1)).toNatClampNeg)) + (s.1 161 ((x3 + (-1)).toNatClampNeg))) → AWP E m_Mo_termOf 5 0 0 [(0, .ref 120), (1, .int x1), (2, .int x2), (3, .int (x3 + (-1))), (4, .int (x4 + 1))] [] (mk g s2_) Q)) ∧ (¬ (s.1 157 ((x4).toNatClampNeg)) = 2 → (((s.1 157 ((x4).toNatClampNeg)) = 3 → (∀ s3_, s3_ = wi s 161 ((((x3 + (-1)) - 1)).toNatClampNeg) ((s.1 161 ((((x3 + (-1)) - 1)).toNatClampNeg)) - (s.1 161 ((x3 + (-1)).toNatClampNeg))) → AWP E m_Mo_termOf 5 0 0 [(0, .ref 120), (1, .int x1), (2, .int x2), (3, .int (x3 + (-1))), (4, .int (x4 + 1))] [] (mk g s3_) Q)) ∧ (¬ (s.1 157 ((x4).toNatClampNeg)) = 3 → (((s.1 157 ((x4).toNatClampNeg)) = 4 → (∀ s4_, s4_ = wi s 161 ((((x3 + (-1)) - 1)).toNatClampNeg) ((s.1 161 ((((x3 + (-1)) - 1)).toNatClampNeg)) * (s.1 161 ((x3 + (-1)).toNatClampNeg))) → AWP E m_Mo_termOf 5 0 0 [(0, .ref 120), (1, .int x1), (2, .int x2), (3, .int (x3 + (-1))), (4, .int (x4 + 1))] [] (mk g s4_) Q)) ∧ (¬ (s.1 157 ((x4).toNatClampNeg)) = 4 → ¬ (s.1 161 ((x3 + (-1)).toNatClampNeg)) = 0 ∧ (∀ s5_, s5_ = wi s 161 ((((x3 + (-1)) - 1)).toNatClampNeg) ((s.1 161 ((((x3 + (-1)) - 1)).toNatClampNeg)) / (s.1 161 ((x3 + (-1)).toNatClampNeg))) → AWP E m_Mo_termOf 5 0 0 [(0, .ref 120), (1, .int x1), (2, .int x2), (3, .int (x3 + (-1))), (4, .int (x4 + 1))] [] (mk g s5_) Q)))))))))) ∧ (¬ (s.1 157 ((x4).toNatClampNeg)) = 5 → (((s.1 157 ((x4).toNatClampNeg)) = 2 → (∀ s6_, s6_ = wi s 161 ((((x3 + (-1)) - 1)).toNatClampNeg) ((s.1 161 ((((x3 + (-1)) - 1)).toNatClampNeg)) + (s.1 161 ((x3 + (-1)).toNatClampNeg))) → AWP E m_Mo_termOf 5 0 0 [(0, .ref 120), (1, .int x1), (2, .int x2), (3, .int (x3 + (-1))), (4, .int (x4 + 1))] [] (mk g s6_) Q)) ∧ (¬ (s.1 157 ((x4).toNatClampNeg)) = 2 → (((s.1 157 ((x4).toNatClampNeg)) = 3 → (∀ s7_, s7_ = wi s 161 ((((x3 + (-1)) - 1)).toNatClampNeg) ((s.1 161 ((((x3 + (-1)) - 1)).toNatClampNeg)) - (s.1 161 ((x3 + (-1)).toNatClampNeg))) → AWP E m_Mo_termOf 5 0 0 [(0, .ref 120), (1, .int x1), (2, .int x2), (3, .int (x3 + (-1))), (4, .int (x4 + 1))] [] (mk g s7_) Q)) ∧ (¬ (s.1 157 ((x4).toNatClampNeg)) = 3 → (((s.1 157 ((x4).toNatClampNeg)) = 4 → (∀ s8_, s8_ = wi s 161 ((((x3 + (-1)) - 1)).toNatClampNeg) ((s.1 161 ((((x3 + (-1)) - 1)).toNatClampNeg)) * (s.1 161 ((x3 + (-1)).toNatClampNeg))) → AWP E m_Mo_termOf 5 0 0 [(0, .ref 120), (1, .int x1), (2, .int x2), (3, .int (x3 + (-1))), (4, .int (x4 + 1))] [] (mk g s8_) Q)) ∧ (¬ (s.1 157 ((x4).toNatClampNeg)) = 4 → ¬ (s.1 161 ((x3 + (-1)).toNatClampNeg)) = 0 ∧ (∀ s9_, s9_ = wi s 161 ((((x3 + (-1)) - 1)).toNatClampNeg) ((s.1 161 ((((x3 + (-1)) - 1)).toNatClampNeg)) / (s.1 161 ((x3 + (-1)).toNatClampNeg))) → AWP E m_Mo_termOf 5 0 0 [(0, .ref 120), (1, .int x1), (2, .int x2), (3, .int (x3 + (-1))), (4, .int (x4 + 1))] [] (mk g s9_) Q)))))))))) ∧ (¬ 2 ≤ (s.1 157 ((x4).toNatClampNeg)) → (((s.1 157 ((x4).toNatClampNeg)) = 0 → vp_in x3 400 ∧ (∀ s10_, s10_ = wi s 161 ((x3).toNatClampNeg) (s.1 158 ((x4).toNatClampNeg)) → AWP E m_Mo_termOf 5 0 0 [(0, .ref 120), (1, .int x1), (2, .int x2), (3, .int (x3 + 1)), (4, .int (x4 + 1))] [] (mk g s10_) Q)) ∧ (¬ (s.1 157 ((x4).toNatClampNeg)) = 0 → vp_in (s.1 158 ((x4).toNatClampNeg)) 7 ∧ vp_in x3 400 ∧ (∀ s11_, s11_ = wi s 161 ((x3).toNatClampNeg) (s.1 160 (((s.1 158 ((x4).toNatClampNeg))).toNatClampNeg)) → AWP E m_Mo_termOf 5 0 0 [(0, .ref 120), (1, .int x1), (2, .int x2), (3, .int (x3 + 1)), (4, .int (x4 + 1))] [] (mk g s11_) Q)))))))) : AWP E m_Mo_termOf 5 0 0 [(0, .ref 120), (1, .int x1), (2, .int x2), (3, .int x3), (4, .int x4)] [] (mk g s) Q := by
  refine aw_iload (q := 7) (j := 4) rfl rfl (List.mem_of_getElem? (i := 4) rfl) ?_
  refine aw_iload_n (q := 8) (j := 2) rfl rfl rfl (List.mem_of_getElem? (i := 2) rfl) ?_
  refine aw_icmp_ge (q := 11) (tgt := 165) rfl rfl (by decide) ⟨fun cd_1 => ?_, fun cd_1 => ?_⟩
  · replace h := h.1 cd_1
    refine aw_aload_n (q := 166) (j := 0) rfl rfl rfl (List.mem_of_getElem? (i := 0) rfl) ?_
    refine ag_getR (q := 169) rfl rfl fl_Mo_140 rfl (SX.o hS rfl) (SX.r hS rfl) ?_
    refine aw_iconst (q := 170) (v := 0) rfl rfl (by decide) ?_
    refine ag_iaload (q := 171) (N := 400) rfl rfl (SX.a hS rfl) (by unfold vp_in; decide) ?_
    exact aw_ireturn (ty := .int) rfl rfl rfl (by decide) (by decide) h
  · replace h := h.2 cd_1
    refine aw_aload_n (q := 12) (j := 0) rfl rfl rfl (List.mem_of_getElem? (i := 0) rfl) ?_
    refine ag_getR (q := 15) rfl rfl fl_Mo_128 rfl (SX.o hS rfl) (SX.r hS rfl) ?_
    refine aw_iload (q := 17) (j := 4) rfl rfl (List.mem_of_getElem? (i := 4) rfl) ?_
    obtain ⟨bd_2, h⟩ := h
    refine ag_iaload (q := 18) (N := 840) rfl rfl (SX.a hS rfl) bd_2 ?_
    refine aw_istore (q := 20) (j := 5) (ls' := [(5, .int _), (0, .ref _), (1, .int _), (2, .int _), (3, .int _), (4, .int _)]) rfl rfl (by decide) rfl ?_
    refine aw_iload (q := 22) (j := 5) rfl rfl (List.mem_of_getElem? (i := 0) rfl) ?_
    refine aw_iconst (q := 23) (v := 2) rfl rfl (by decide) ?_
    refine aw_icmp_ge (q := 26) (tgt := 65) rfl rfl (by decide) ⟨fun cd_3 => ?_, fun cd_3 => ?_⟩
    · replace h := h.1 cd_3
      refine aw_iinc (q := 68) (v := _ + (-1)) (ls' := [(3, .int _), (5, .int _), (0, .ref _), (1, .int _), (2, .int _), (4, .int _)]) rfl rfl (List.mem_of_getElem? (i := 4) rfl) rfl (by decide) rfl ?_
      refine aw_aload_n (q := 69) (j := 0) rfl rfl rfl (List.mem_of_getElem? (i := 2) rfl) ?_
      refine ag_getR (q := 72) rfl rfl fl_Mo_140 rfl (SX.o hS rfl) (SX.r hS rfl) ?_
      refine aw_iload_n (q := 73) (j := 3) rfl rfl rfl (List.mem_of_getElem? (i := 0) rfl) ?_
      refine aw_iconst (q := 74) (v := 1) rfl rfl (by decide) ?_
      refine aw_isub (q := 75) rfl rfl ?_
      obtain ⟨bd_4, h⟩ := h
      refine ag_iaload (q := 76) (N := 400) rfl rfl (SX.a hS rfl) bd_4 ?_
      refine aw_istore (q := 78) (j := 6) (ls' := [(6, .int _), (3, .int _), (5, .int _), (0, .ref _), (1, .int _), (2, .int _), (4, .int _)]) rfl rfl (by decide) rfl ?_
      refine aw_aload_n (q := 79) (j := 0) rfl rfl rfl (List.mem_of_getElem? (i := 3) rfl) ?_
      refine ag_getR (q := 82) rfl rfl fl_Mo_140 rfl (SX.o hS rfl) (SX.r hS rfl) ?_
      refine aw_iload_n (q := 83) (j := 3) rfl rfl rfl (List.mem_of_getElem? (i := 1) rfl) ?_
      obtain ⟨bd_5, h⟩ := h
      refine ag_iaload (q := 84) (N := 400) rfl rfl (SX.a hS rfl) bd_5 ?_
      refine aw_istore (q := 86) (j := 7) (ls' := [(7, .int _), (6, .int _), (3, .int _), (5, .int _), (0, .ref _), (1, .int _), (2, .int _), (4, .int _)]) rfl rfl (by decide) rfl ?_
      refine aw_iload (q := 88) (j := 5) rfl rfl (List.mem_of_getElem? (i := 3) rfl) ?_
      refine aw_iconst (q := 89) (v := 5) rfl rfl (by decide) ?_
      refine aw_icmp_ne (q := 92) (tgt := 104) rfl rfl (by decide) ⟨fun cd_6 => ?_, fun cd_6 => ?_⟩
      · replace h := h.1 cd_6
        refine aw_iload (q := 94) (j := 7) rfl rfl (List.mem_of_getElem? (i := 0) rfl) ?_
        refine aw_if_ne (q := 97) (tgt := 104) rfl rfl (by decide) ⟨fun cd_7 => ?_, fun cd_7 => ?_⟩
        · replace h := h.1 cd_7
          refine aw_aload_n (q := 98) (j := 0) rfl rfl rfl (List.mem_of_getElem? (i := 4) rfl) ?_
          refine aw_iconst (q := 99) (v := 1) rfl rfl (by decide) ?_
          refine ag_putZ (q := 102) rfl rfl fl_Mo_340 rfl rfl (by decide) (SX.o hS rfl) ?_
          replace h := h _ rfl
          refine aw_iconst (q := 103) (v := 0) rfl rfl (by decide) ?_
          exact aw_ireturn (ty := .int) rfl rfl rfl (by decide) (by decide) h
        · replace h := h.2 cd_7
          refine aw_aload_n (q := 105) (j := 0) rfl rfl rfl (List.mem_of_getElem? (i := 4) rfl) ?_
          refine ag_getR (q := 108) rfl rfl fl_Mo_140 rfl (SX.o hS rfl) (SX.r hS rfl) ?_
          refine aw_iload_n (q := 109) (j := 3) rfl rfl rfl (List.mem_of_getElem? (i := 2) rfl) ?_
          refine aw_iconst (q := 110) (v := 1) rfl rfl (by decide) ?_
          refine aw_isub (q := 111) rfl rfl ?_
          refine aw_iload (q := 113) (j := 5) rfl rfl (List.mem_of_getElem? (i := 3) rfl) ?_
          refine aw_iconst (q := 114) (v := 2) rfl rfl (by decide) ?_
          refine aw_icmp_ne (q := 117) (tgt := 125) rfl rfl (by decide) ⟨fun cd_8 => ?_, fun cd_8 => ?_⟩
          · replace h := h.1 cd_8
            refine aw_iload (q := 119) (j := 6) rfl rfl (List.mem_of_getElem? (i := 1) rfl) ?_
            refine aw_iload (q := 121) (j := 7) rfl rfl (List.mem_of_getElem? (i := 0) rfl) ?_
            refine aw_iadd (q := 122) rfl rfl ?_
            refine aw_goto (tgt := 158) rfl (by decide) ?_
            refine ag_iastore (q := 159) (N := 400) rfl rfl (SX.a hS rfl) bd_4 ?_
            replace h := h _ rfl
            refine aw_iinc (q := 162) (v := _ + 1) (ls' := [(4, .int _), (7, .int _), (6, .int _), (3, .int _), (5, .int _), (0, .ref _), (1, .int _), (2, .int _)]) rfl rfl (List.mem_of_getElem? (i := 7) rfl) rfl (by decide) rfl ?_
            refine aw_goto (tgt := 5) rfl (by decide) ?_
            refine aw_ls [5, 6, 7, 3, 0] rfl ?_
            exact h
          · replace h := h.2 cd_8
            refine aw_iload (q := 127) (j := 5) rfl rfl (List.mem_of_getElem? (i := 3) rfl) ?_
            refine aw_iconst (q := 128) (v := 3) rfl rfl (by decide) ?_
            refine aw_icmp_ne (q := 131) (tgt := 139) rfl rfl (by decide) ⟨fun cd_9 => ?_, fun cd_9 => ?_⟩
            · replace h := h.1 cd_9
              refine aw_iload (q := 133) (j := 6) rfl rfl (List.mem_of_getElem? (i := 1) rfl) ?_
              refine aw_iload (q := 135) (j := 7) rfl rfl (List.mem_of_getElem? (i := 0) rfl) ?_
              refine aw_isub (q := 136) rfl rfl ?_
              refine aw_goto (tgt := 158) rfl (by decide) ?_
              refine ag_iastore (q := 159) (N := 400) rfl rfl (SX.a hS rfl) bd_4 ?_
              replace h := h _ rfl
              refine aw_iinc (q := 162) (v := _ + 1) (ls' := [(4, .int _), (7, .int _), (6, .int _), (3, .int _), (5, .int _), (0, .ref _), (1, .int _), (2, .int _)]) rfl rfl (List.mem_of_getElem? (i := 7) rfl) rfl (by decide) rfl ?_
              refine aw_goto (tgt := 5) rfl (by decide) ?_
              refine aw_ls [5, 6, 7, 3, 0] rfl ?_
              exact h
            · replace h := h.2 cd_9
              refine aw_iload (q := 141) (j := 5) rfl rfl (List.mem_of_getElem? (i := 3) rfl) ?_
              refine aw_iconst (q := 142) (v := 4) rfl rfl (by decide) ?_
              refine aw_icmp_ne (q := 145) (tgt := 153) rfl rfl (by decide) ⟨fun cd_10 => ?_, fun cd_10 => ?_⟩
              · replace h := h.1 cd_10
                refine aw_iload (q := 147) (j := 6) rfl rfl (List.mem_of_getElem? (i := 1) rfl) ?_
                refine aw_iload (q := 149) (j := 7) rfl rfl (List.mem_of_getElem? (i := 0) rfl) ?_
                refine aw_imul (q := 150) rfl rfl ?_
                refine aw_goto (tgt := 158) rfl (by decide) ?_
                refine ag_iastore (q := 159) (N := 400) rfl rfl (SX.a hS rfl) bd_4 ?_
                replace h := h _ rfl
                refine aw_iinc (q := 162) (v := _ + 1) (ls' := [(4, .int _), (7, .int _), (6, .int _), (3, .int _), (5, .int _), (0, .ref _), (1, .int _), (2, .int _)]) rfl rfl (List.mem_of_getElem? (i := 7) rfl) rfl (by decide) rfl ?_
                refine aw_goto (tgt := 5) rfl (by decide) ?_
                refine aw_ls [5, 6, 7, 3, 0] rfl ?_
                exact h
              · replace h := h.2 cd_10
                refine aw_iload (q := 155) (j := 6) rfl rfl (List.mem_of_getElem? (i := 1) rfl) ?_
                refine aw_iload (q := 157) (j := 7) rfl rfl (List.mem_of_getElem? (i := 0) rfl) ?_
                obtain ⟨zd_11, h⟩ := h
                refine aw_idiv (q := 158) rfl rfl zd_11 ?_
                refine ag_iastore (q := 159) (N := 400) rfl rfl (SX.a hS rfl) bd_4 ?_
                replace h := h _ rfl
                refine aw_iinc (q := 162) (v := _ + 1) (ls' := [(4, .int _), (7, .int _), (6, .int _), (3, .int _), (5, .int _), (0, .ref _), (1, .int _), (2, .int _)]) rfl rfl (List.mem_of_getElem? (i := 7) rfl) rfl (by decide) rfl ?_
                refine aw_goto (tgt := 5) rfl (by decide) ?_
                refine aw_ls [5, 6, 7, 3, 0] rfl ?_
                exact h
      · replace h := h.2 cd_6
        refine aw_aload_n (q := 105) (j := 0) rfl rfl rfl (List.mem_of_getElem? (i := 4) rfl) ?_
        refine ag_getR (q := 108) rfl rfl fl_Mo_140 rfl (SX.o hS rfl) (SX.r hS rfl) ?_
        refine aw_iload_n (q := 109) (j := 3) rfl rfl rfl (List.mem_of_getElem? (i := 2) rfl) ?_
        refine aw_iconst (q := 110) (v := 1) rfl rfl (by decide) ?_
        refine aw_isub (q := 111) rfl rfl ?_
        refine aw_iload (q := 113) (j := 5) rfl rfl (List.mem_of_getElem? (i := 3) rfl) ?_
        refine aw_iconst (q := 114) (v := 2) rfl rfl (by decide) ?_
        refine aw_icmp_ne (q := 117) (tgt := 125) rfl rfl (by decide) ⟨fun cd_12 => ?_, fun cd_12 => ?_⟩
        · replace h := h.1 cd_12
          refine aw_iload (q := 119) (j := 6) rfl rfl (List.mem_of_getElem? (i := 1) rfl) ?_
          refine aw_iload (q := 121) (j := 7) rfl rfl (List.mem_of_getElem? (i := 0) rfl) ?_
          refine aw_iadd (q := 122) rfl rfl ?_
          refine aw_goto (tgt := 158) rfl (by decide) ?_
          refine ag_iastore (q := 159) (N := 400) rfl rfl (SX.a hS rfl) bd_4 ?_
          replace h := h _ rfl
          refine aw_iinc (q := 162) (v := _ + 1) (ls' := [(4, .int _), (7, .int _), (6, .int _), (3, .int _), (5, .int _), (0, .ref _), (1, .int _), (2, .int _)]) rfl rfl (List.mem_of_getElem? (i := 7) rfl) rfl (by decide) rfl ?_
          refine aw_goto (tgt := 5) rfl (by decide) ?_
          refine aw_ls [5, 6, 7, 3, 0] rfl ?_
          exact h
        · replace h := h.2 cd_12
          refine aw_iload (q := 127) (j := 5) rfl rfl (List.mem_of_getElem? (i := 3) rfl) ?_
          refine aw_iconst (q := 128) (v := 3) rfl rfl (by decide) ?_
          refine aw_icmp_ne (q := 131) (tgt := 139) rfl rfl (by decide) ⟨fun cd_13 => ?_, fun cd_13 => ?_⟩
          · replace h := h.1 cd_13
            refine aw_iload (q := 133) (j := 6) rfl rfl (List.mem_of_getElem? (i := 1) rfl) ?_
            refine aw_iload (q := 135) (j := 7) rfl rfl (List.mem_of_getElem? (i := 0) rfl) ?_
            refine aw_isub (q := 136) rfl rfl ?_
            refine aw_goto (tgt := 158) rfl (by decide) ?_
            refine ag_iastore (q := 159) (N := 400) rfl rfl (SX.a hS rfl) bd_4 ?_
            replace h := h _ rfl
            refine aw_iinc (q := 162) (v := _ + 1) (ls' := [(4, .int _), (7, .int _), (6, .int _), (3, .int _), (5, .int _), (0, .ref _), (1, .int _), (2, .int _)]) rfl rfl (List.mem_of_getElem? (i := 7) rfl) rfl (by decide) rfl ?_
            refine aw_goto (tgt := 5) rfl (by decide) ?_
            refine aw_ls [5, 6, 7, 3, 0] rfl ?_
            exact h
          · replace h := h.2 cd_13
            refine aw_iload (q := 141) (j := 5) rfl rfl (List.mem_of_getElem? (i := 3) rfl) ?_
            refine aw_iconst (q := 142) (v := 4) rfl rfl (by decide) ?_
            refine aw_icmp_ne (q := 145) (tgt := 153) rfl rfl (by decide) ⟨fun cd_14 => ?_, fun cd_14 => ?_⟩
            · replace h := h.1 cd_14
              refine aw_iload (q := 147) (j := 6) rfl rfl (List.mem_of_getElem? (i := 1) rfl) ?_
              refine aw_iload (q := 149) (j := 7) rfl rfl (List.mem_of_getElem? (i := 0) rfl) ?_
              refine aw_imul (q := 150) rfl rfl ?_
              refine aw_goto (tgt := 158) rfl (by decide) ?_
              refine ag_iastore (q := 159) (N := 400) rfl rfl (SX.a hS rfl) bd_4 ?_
              replace h := h _ rfl
              refine aw_iinc (q := 162) (v := _ + 1) (ls' := [(4, .int _), (7, .int _), (6, .int _), (3, .int _), (5, .int _), (0, .ref _), (1, .int _), (2, .int _)]) rfl rfl (List.mem_of_getElem? (i := 7) rfl) rfl (by decide) rfl ?_
              refine aw_goto (tgt := 5) rfl (by decide) ?_
              refine aw_ls [5, 6, 7, 3, 0] rfl ?_
              exact h
            · replace h := h.2 cd_14
              refine aw_iload (q := 155) (j := 6) rfl rfl (List.mem_of_getElem? (i := 1) rfl) ?_
              refine aw_iload (q := 157) (j := 7) rfl rfl (List.mem_of_getElem? (i := 0) rfl) ?_
              obtain ⟨zd_15, h⟩ := h
              refine aw_idiv (q := 158) rfl rfl zd_15 ?_
              refine ag_iastore (q := 159) (N := 400) rfl rfl (SX.a hS rfl) bd_4 ?_
              replace h := h _ rfl
              refine aw_iinc (q := 162) (v := _ + 1) (ls' := [(4, .int _), (7, .int _), (6, .int _), (3, .int _), (5, .int _), (0, .ref _), (1, .int _), (2, .int _)]) rfl rfl (List.mem_of_getElem? (i := 7) rfl) rfl (by decide) rfl ?_
              refine aw_goto (tgt := 5) rfl (by decide) ?_
              refine aw_ls [5, 6, 7, 3, 0] rfl ?_
              exact h
    · replace h := h.2 cd_3
      refine aw_aload_n (q := 27) (j := 0) rfl rfl rfl (List.mem_of_getElem? (i := 1) rfl) ?_
      refine ag_getR (q := 30) rfl rfl fl_Mo_140 rfl (SX.o hS rfl) (SX.r hS rfl) ?_
      refine aw_iload_n (q := 31) (j := 3) rfl rfl rfl (List.mem_of_getElem? (i := 4) rfl) ?_
      refine aw_iload (q := 33) (j := 5) rfl rfl (List.mem_of_getElem? (i := 0) rfl) ?_
      refine aw_if_ne (q := 36) (tgt := 46) rfl rfl (by decide) ⟨fun cd_16 => ?_, fun cd_16 => ?_⟩
      · replace h := h.1 cd_16
        refine aw_aload_n (q := 37) (j := 0) rfl rfl rfl (List.mem_of_getElem? (i := 1) rfl) ?_
        refine ag_getR (q := 40) rfl rfl fl_Mo_131 rfl (SX.o hS rfl) (SX.r hS rfl) ?_
        refine aw_iload (q := 42) (j := 4) rfl rfl (List.mem_of_getElem? (i := 5) rfl) ?_
        refine ag_iaload (q := 43) (N := 840) rfl rfl (SX.a hS rfl) bd_2 ?_
        refine aw_goto (tgt := 58) rfl (by decide) ?_
        obtain ⟨bd_17, h⟩ := h
        refine ag_iastore (q := 59) (N := 400) rfl rfl (SX.a hS rfl) bd_17 ?_
        replace h := h _ rfl
        refine aw_iinc (q := 62) (v := _ + 1) (ls' := [(3, .int _), (5, .int _), (0, .ref _), (1, .int _), (2, .int _), (4, .int _)]) rfl rfl (List.mem_of_getElem? (i := 4) rfl) rfl (by decide) rfl ?_
        refine aw_goto (tgt := 159) rfl (by decide) ?_
        refine aw_iinc (q := 162) (v := _ + 1) (ls' := [(4, .int _), (3, .int _), (5, .int _), (0, .ref _), (1, .int _), (2, .int _)]) rfl rfl (List.mem_of_getElem? (i := 5) rfl) rfl (by decide) rfl ?_
        refine aw_goto (tgt := 5) rfl (by decide) ?_
        refine aw_ls [3, 4, 5, 1, 0] rfl ?_
        exact h
      · replace h := h.2 cd_16
        refine aw_aload_n (q := 47) (j := 0) rfl rfl rfl (List.mem_of_getElem? (i := 1) rfl) ?_
        refine ag_getR (q := 50) rfl rfl fl_Mo_137 rfl (SX.o hS rfl) (SX.r hS rfl) ?_
        refine aw_aload_n (q := 51) (j := 0) rfl rfl rfl (List.mem_of_getElem? (i := 1) rfl) ?_
        refine ag_getR (q := 54) rfl rfl fl_Mo_131 rfl (SX.o hS rfl) (SX.r hS rfl) ?_
        refine aw_iload (q := 56) (j := 4) rfl rfl (List.mem_of_getElem? (i := 5) rfl) ?_
        refine ag_iaload (q := 57) (N := 840) rfl rfl (SX.a hS rfl) bd_2 ?_
        obtain ⟨bd_18, h⟩ := h
        refine ag_iaload (q := 58) (N := 7) rfl rfl (SX.a hS rfl) bd_18 ?_
        obtain ⟨bd_19, h⟩ := h
        refine ag_iastore (q := 59) (N := 400) rfl rfl (SX.a hS rfl) bd_19 ?_
        replace h := h _ rfl
        refine aw_iinc (q := 62) (v := _ + 1) (ls' := [(3, .int _), (5, .int _), (0, .ref _), (1, .int _), (2, .int _), (4, .int _)]) rfl rfl (List.mem_of_getElem? (i := 4) rfl) rfl (by decide) rfl ?_
        refine aw_goto (tgt := 159) rfl (by decide) ?_
        refine aw_iinc (q := 162) (v := _ + 1) (ls' := [(4, .int _), (3, .int _), (5, .int _), (0, .ref _), (1, .int _), (2, .int _)]) rfl rfl (List.mem_of_getElem? (i := 5) rfl) rfl (by decide) rfl ?_
        refine aw_goto (tgt := 5) rfl (by decide) ?_
        refine aw_ls [3, 4, 5, 1, 0] rfl ?_
        exact h
set_option maxRecDepth 20000 in
theorem v_Mo_termOf {E : EN} {g : GS} {s : MS} {Q : Option Value → SG → Prop} (x1 : Int32) (x2 : Int32) (h : AWP E m_Mo_termOf 5 0 0 [(0, .ref 120), (1, .int x1), (2, .int x2), (3, .int 0), (4, .int x1)] [] (mk g s) Q) : AMet E m_Mo_termOf [.ref 120, .int x1, .int x2] (mk g s) Q := by
  refine AMet.of (by decide) k_Mo_termOf [(0, .ref 120), (1, .int x1), (2, .int x2)] (Nat.le_of_ble_eq_true rfl) rfl ?_
  refine aw_iconst (q := 1) (v := 0) rfl rfl (by decide) ?_
  refine aw_istore_n (q := 2) (j := 3) (ls' := [(3, .int _), (0, .ref _), (1, .int _), (2, .int _)]) rfl rfl rfl (by decide) rfl ?_
  refine aw_iload_n (q := 3) (j := 1) rfl rfl rfl (List.mem_of_getElem? (i := 2) rfl) ?_
  refine aw_istore (q := 5) (j := 4) (ls' := [(4, .int _), (3, .int _), (0, .ref _), (1, .int _), (2, .int _)]) rfl rfl (by decide) rfl ?_
  refine aw_ls [2, 3, 4, 1, 0] rfl ?_
  exact h
set_option maxRecDepth 20000 in
theorem v_Mo_held {E : EN} {g : GS} {s : MS} {Q : Option Value → SG → Prop} (x0 : Int32) (x1 : Int32) (x2 : Int32) (h : ((x1 ≤ x0 → ((x0 ≤ x2 → Q (some (.int x0)) (mk g s)) ∧ (¬ x0 ≤ x2 → Q (some (.int x2)) (mk g s)))) ∧ (¬ x1 ≤ x0 → Q (some (.int x1)) (mk g s)))) : AMet E m_Mo_held [.int x0, .int x1, .int x2] (mk g s) Q := by
  refine AMet.of (by decide) k_Mo_held [(0, .int x0), (1, .int x1), (2, .int x2)] (Nat.le_of_ble_eq_true rfl) rfl ?_
  refine aw_iload_n (q := 1) (j := 0) rfl rfl rfl (List.mem_of_getElem? (i := 0) rfl) ?_
  refine aw_iload_n (q := 2) (j := 1) rfl rfl rfl (List.mem_of_getElem? (i := 1) rfl) ?_
  refine aw_icmp_ge (q := 5) (tgt := 9) rfl rfl (by decide) ⟨fun cd_1 => ?_, fun cd_1 => ?_⟩
  · replace h := h.1 cd_1
    refine aw_iload_n (q := 10) (j := 0) rfl rfl rfl (List.mem_of_getElem? (i := 0) rfl) ?_
    refine aw_iload_n (q := 11) (j := 2) rfl rfl rfl (List.mem_of_getElem? (i := 2) rfl) ?_
    refine aw_icmp_le (q := 14) (tgt := 18) rfl rfl (by decide) ⟨fun cd_2 => ?_, fun cd_2 => ?_⟩
    · replace h := h.1 cd_2
      refine aw_iload_n (q := 19) (j := 0) rfl rfl rfl (List.mem_of_getElem? (i := 0) rfl) ?_
      exact aw_ireturn (ty := .int) rfl rfl rfl (by decide) (by decide) h
    · replace h := h.2 cd_2
      refine aw_iload_n (q := 15) (j := 2) rfl rfl rfl (List.mem_of_getElem? (i := 2) rfl) ?_
      refine aw_goto (tgt := 19) rfl (by decide) ?_
      exact aw_ireturn (ty := .int) rfl rfl rfl (by decide) (by decide) h
  · replace h := h.2 cd_1
    refine aw_iload_n (q := 6) (j := 1) rfl rfl rfl (List.mem_of_getElem? (i := 1) rfl) ?_
    refine aw_goto (tgt := 19) rfl (by decide) ?_
    exact aw_ireturn (ty := .int) rfl rfl rfl (by decide) (by decide) h
set_option maxRecDepth 20000 in
theorem v_Mo_lotOf {E : EN} {g : GS} {s : MS} {Q : Option Value → SG → Prop} (x1 : Int32) (hS : SX g) (h : GI E m_Mo_mixed [.int (s.1 120 61), .int 39] g s (fun y1_ t1_ => GI E m_Mo_mixed [.int y1_, .int ((8 * (t1_.1 163 114)) + x1)] g t1_ (fun y2_ t2_ => Q (some (.int (((y2_.toUInt32 >>> ((1 : Int32).toUInt32 &&& Int32.toUInt32 31)).toInt32) - ((y2_.toUInt32 >>> ((1 : Int32).toUInt32 &&& Int32.toUInt32 31)).toInt32) / 100 * 100))) (mk g t2_)))) : AMet E m_Mo_lotOf [.ref 120, .int x1] (mk g s) Q := by
  refine AMet.of (by decide) k_Mo_lotOf [(0, .ref 120), (1, .int x1)] (Nat.le_of_ble_eq_true rfl) rfl ?_
  refine aw_aload_n (q := 1) (j := 0) rfl rfl rfl (List.mem_of_getElem? (i := 0) rfl) ?_
  refine ag_getI (q := 4) rfl rfl fl_Mo_344 rfl (SX.o hS rfl) ?_
  refine aw_bipush (q := 6) (v := 39) rfl rfl (by decide) ?_
  refine ag_csI (z := m_Mo_mixed) (av := [.int _, .int _]) (st := []) (q := 9) (k' := 0) (n' := 0) rfl rfl cs_Mo_355 ⟨by decide, by decide⟩ rfl rfl (by decide) (by decide) rfl rfl (Nat.le_of_ble_eq_true rfl) ?_
  refine GI.mono h (fun y1_ t1_ h => ?_)
  refine aw_bipush (q := 11) (v := 8) rfl rfl (by decide) ?_
  refine aw_aload_n (q := 12) (j := 0) rfl rfl rfl (List.mem_of_getElem? (i := 0) rfl) ?_
  refine ag_getR (q := 15) rfl rfl fl_Mo_146 rfl (SX.o hS rfl) (SX.r hS rfl) ?_
  refine aw_bipush (q := 17) (v := 114) rfl rfl (by decide) ?_
  refine ag_iaload (q := 18) (N := 120) rfl rfl (SX.a hS rfl) (by unfold vp_in; decide) ?_
  refine aw_imul (q := 19) rfl rfl ?_
  refine aw_iload_n (q := 20) (j := 1) rfl rfl rfl (List.mem_of_getElem? (i := 1) rfl) ?_
  refine aw_iadd (q := 21) rfl rfl ?_
  refine ag_csI (z := m_Mo_mixed) (av := [.int _, .int _]) (st := []) (q := 24) (k' := 0) (n' := 0) rfl rfl cs_Mo_355 ⟨by decide, by decide⟩ rfl rfl (by decide) (by decide) rfl rfl (Nat.le_of_ble_eq_true rfl) ?_
  refine GI.mono h (fun y2_ t2_ h => ?_)
  refine aw_iconst (q := 25) (v := 1) rfl rfl (by decide) ?_
  refine aw_iushr (q := 26) rfl rfl ?_
  refine aw_bipush (q := 28) (v := 100) rfl rfl (by decide) ?_
  refine aw_irem (q := 29) rfl rfl (by decide) ?_
  exact aw_ireturn (ty := .int) rfl rfl rfl (by decide) (by decide) h
set_option maxRecDepth 20000 in
theorem v_Mo_mixed {E : EN} {g : GS} {s : MS} {Q : Option Value → SG → Prop} (x0 : Int32) (x1 : Int32) (h : Q (some (.int ((((x0 ^^^ x1) * 1103515245) + 12345) ^^^ (((((x0 ^^^ x1) * 1103515245) + 12345).toUInt32 >>> ((15 : Int32).toUInt32 &&& Int32.toUInt32 31)).toInt32)))) (mk g s)) : AMet E m_Mo_mixed [.int x0, .int x1] (mk g s) Q := by
  refine AMet.of (by decide) k_Mo_mixed [(0, .int x0), (1, .int x1)] (Nat.le_of_ble_eq_true rfl) rfl ?_
  refine aw_iload_n (q := 1) (j := 0) rfl rfl rfl (List.mem_of_getElem? (i := 0) rfl) ?_
  refine aw_iload_n (q := 2) (j := 1) rfl rfl rfl (List.mem_of_getElem? (i := 1) rfl) ?_
  refine aw_ixor (q := 3) rfl rfl ?_
  refine aw_ldcw (q := 6) rfl rfl kc_Mo_354 ?_
  refine aw_imul (q := 7) rfl rfl ?_
  refine aw_sipush (q := 10) (v := 12345) rfl rfl (by decide) ?_
  refine aw_iadd (q := 11) rfl rfl ?_
  refine aw_istore_n (q := 12) (j := 2) (ls' := [(2, .int _), (0, .int _), (1, .int _)]) rfl rfl rfl (by decide) rfl ?_
  refine aw_iload_n (q := 13) (j := 2) rfl rfl rfl (List.mem_of_getElem? (i := 0) rfl) ?_
  refine aw_iload_n (q := 14) (j := 2) rfl rfl rfl (List.mem_of_getElem? (i := 0) rfl) ?_
  refine aw_bipush (q := 16) (v := 15) rfl rfl (by decide) ?_
  refine aw_iushr (q := 17) rfl rfl ?_
  refine aw_ixor (q := 18) rfl rfl ?_
  exact aw_ireturn (ty := .int) rfl rfl rfl (by decide) (by decide) h
set_option maxRecDepth 20000 in
theorem v_Mo_drops {E : EN} {g : GS} {s : MS} {Q : Option Value → SG → Prop} (x1 : Int32) (hS : SX g) (h : vp_in (106 + x1) 120 ∧ vp_in (58 + x1) 120 ∧ (((s.1 163 (((58 + x1)).toNatClampNeg)) ≤ 0 → (∀ s1_, s1_ = wi s 163 (((58 + x1)).toNatClampNeg) 0 → vp_in (66 + x1) 120 ∧ (∀ s2_, s2_ = wi s1_ 163 (((66 + x1)).toNatClampNeg) (-2) → (∀ s3_, s3_ = wi s2_ 163 (((106 + x1)).toNatClampNeg) (-2) → vp_in (42 + x1) 120 ∧ (∀ s4_, s4_ = wi s3_ 163 (((42 + x1)).toNatClampNeg) 2 → vp_in (s.1 163 (((106 + x1)).toNatClampNeg)) 6 ∧ vp_in (50 + x1) 120 ∧ (∀ s5_, s5_ = wi s4_ 163 (((50 + x1)).toNatClampNeg) (s.1 164 (((s.1 163 (((106 + x1)).toNatClampNeg))).toNatClampNeg)) → Q none (mk g s5_))))))) ∧ (¬ (s.1 163 (((58 + x1)).toNatClampNeg)) ≤ 0 → vp_in (66 + x1) 120 ∧ vp_in ((6 + (6 * (s.1 163 (((106 + x1)).toNatClampNeg)))) + (s.1 163 (((66 + x1)).toNatClampNeg))) 120 ∧ (∀ s6_, s6_ = wi s 163 ((((6 + (6 * (s.1 163 (((106 + x1)).toNatClampNeg)))) + (s.1 163 (((66 + x1)).toNatClampNeg)))).toNatClampNeg) ((s.1 163 ((((6 + (6 * (s.1 163 (((106 + x1)).toNatClampNeg)))) + (s.1 163 (((66 + x1)).toNatClampNeg)))).toNatClampNeg)) + (s.1 163 (((58 + x1)).toNatClampNeg))) → vp_in (98 + x1) 120 ∧ (∀ s7_, s7_ = wi s6_ 163 (((98 + x1)).toNatClampNeg) ((s6_.1 163 (((98 + x1)).toNatClampNeg)) + 1) → (∀ s8_, s8_ = wi s7_ 163 (((58 + x1)).toNatClampNeg) 0 → (∀ s9_, s9_ = wi s8_ 163 (((66 + x1)).toNatClampNeg) (-2) → (∀ s10_, s10_ = wi s9_ 163 (((106 + x1)).toNatClampNeg) (-2) → vp_in (42 + x1) 120 ∧ (∀ s11_, s11_ = wi s10_ 163 (((42 + x1)).toNatClampNeg) 2 → vp_in (s.1 163 (((106 + x1)).toNatClampNeg)) 6 ∧ vp_in (50 + x1) 120 ∧ (∀ s12_, s12_ = wi s11_ 163 (((50 + x1)).toNatClampNeg) (s.1 164 (((s.1 163 (((106 + x1)).toNatClampNeg))).toNatClampNeg)) → Q none (mk g s12_))))))))))) : AMet E m_Mo_drops [.ref 120, .int x1] (mk g s) Q := by
  refine AMet.of (by decide) k_Mo_drops [(0, .ref 120), (1, .int x1)] (Nat.le_of_ble_eq_true rfl) rfl ?_
  refine aw_aload_n (q := 1) (j := 0) rfl rfl rfl (List.mem_of_getElem? (i := 0) rfl) ?_
  refine ag_getR (q := 4) rfl rfl fl_Mo_146 rfl (SX.o hS rfl) (SX.r hS rfl) ?_
  refine aw_bipush (q := 6) (v := 106) rfl rfl (by decide) ?_
  refine aw_iload_n (q := 7) (j := 1) rfl rfl rfl (List.mem_of_getElem? (i := 1) rfl) ?_
  refine aw_iadd (q := 8) rfl rfl ?_
  obtain ⟨bd_1, h⟩ := h
  refine ag_iaload (q := 9) (N := 120) rfl rfl (SX.a hS rfl) bd_1 ?_
  refine aw_istore_n (q := 10) (j := 2) (ls' := [(2, .int _), (0, .ref _), (1, .int _)]) rfl rfl rfl (by decide) rfl ?_
  refine aw_aload_n (q := 11) (j := 0) rfl rfl rfl (List.mem_of_getElem? (i := 1) rfl) ?_
  refine ag_getR (q := 14) rfl rfl fl_Mo_146 rfl (SX.o hS rfl) (SX.r hS rfl) ?_
  refine aw_bipush (q := 16) (v := 58) rfl rfl (by decide) ?_
  refine aw_iload_n (q := 17) (j := 1) rfl rfl rfl (List.mem_of_getElem? (i := 2) rfl) ?_
  refine aw_iadd (q := 18) rfl rfl ?_
  obtain ⟨bd_2, h⟩ := h
  refine ag_iaload (q := 19) (N := 120) rfl rfl (SX.a hS rfl) bd_2 ?_
  refine aw_if_le (q := 22) (tgt := 69) rfl rfl (by decide) ⟨fun cd_3 => ?_, fun cd_3 => ?_⟩
  · replace h := h.1 cd_3
    refine aw_aload_n (q := 70) (j := 0) rfl rfl rfl (List.mem_of_getElem? (i := 1) rfl) ?_
    refine ag_getR (q := 73) rfl rfl fl_Mo_146 rfl (SX.o hS rfl) (SX.r hS rfl) ?_
    refine aw_bipush (q := 75) (v := 58) rfl rfl (by decide) ?_
    refine aw_iload_n (q := 76) (j := 1) rfl rfl rfl (List.mem_of_getElem? (i := 2) rfl) ?_
    refine aw_iadd (q := 77) rfl rfl ?_
    refine aw_iconst (q := 78) (v := 0) rfl rfl (by decide) ?_
    refine ag_iastore (q := 79) (N := 120) rfl rfl (SX.a hS rfl) bd_2 ?_
    replace h := h _ rfl
    refine aw_aload_n (q := 80) (j := 0) rfl rfl rfl (List.mem_of_getElem? (i := 1) rfl) ?_
    refine ag_getR (q := 83) rfl rfl fl_Mo_146 rfl (SX.o hS rfl) (SX.r hS rfl) ?_
    refine aw_bipush (q := 85) (v := 66) rfl rfl (by decide) ?_
    refine aw_iload_n (q := 86) (j := 1) rfl rfl rfl (List.mem_of_getElem? (i := 2) rfl) ?_
    refine aw_iadd (q := 87) rfl rfl ?_
    refine aw_bipush (q := 89) (v := (-2)) rfl rfl (by decide) ?_
    obtain ⟨bd_4, h⟩ := h
    refine ag_iastore (q := 90) (N := 120) rfl rfl (SX.a hS rfl) bd_4 ?_
    replace h := h _ rfl
    refine aw_aload_n (q := 91) (j := 0) rfl rfl rfl (List.mem_of_getElem? (i := 1) rfl) ?_
    refine ag_getR (q := 94) rfl rfl fl_Mo_146 rfl (SX.o hS rfl) (SX.r hS rfl) ?_
    refine aw_bipush (q := 96) (v := 106) rfl rfl (by decide) ?_
    refine aw_iload_n (q := 97) (j := 1) rfl rfl rfl (List.mem_of_getElem? (i := 2) rfl) ?_
    refine aw_iadd (q := 98) rfl rfl ?_
    refine aw_bipush (q := 100) (v := (-2)) rfl rfl (by decide) ?_
    refine ag_iastore (q := 101) (N := 120) rfl rfl (SX.a hS rfl) bd_1 ?_
    replace h := h _ rfl
    refine aw_aload_n (q := 102) (j := 0) rfl rfl rfl (List.mem_of_getElem? (i := 1) rfl) ?_
    refine ag_getR (q := 105) rfl rfl fl_Mo_146 rfl (SX.o hS rfl) (SX.r hS rfl) ?_
    refine aw_bipush (q := 107) (v := 42) rfl rfl (by decide) ?_
    refine aw_iload_n (q := 108) (j := 1) rfl rfl rfl (List.mem_of_getElem? (i := 2) rfl) ?_
    refine aw_iadd (q := 109) rfl rfl ?_
    refine aw_iconst (q := 110) (v := 2) rfl rfl (by decide) ?_
    obtain ⟨bd_5, h⟩ := h
    refine ag_iastore (q := 111) (N := 120) rfl rfl (SX.a hS rfl) bd_5 ?_
    replace h := h _ rfl
    refine aw_aload_n (q := 112) (j := 0) rfl rfl rfl (List.mem_of_getElem? (i := 1) rfl) ?_
    refine ag_getR (q := 115) rfl rfl fl_Mo_146 rfl (SX.o hS rfl) (SX.r hS rfl) ?_
    refine aw_bipush (q := 117) (v := 50) rfl rfl (by decide) ?_
    refine aw_iload_n (q := 118) (j := 1) rfl rfl rfl (List.mem_of_getElem? (i := 2) rfl) ?_
    refine aw_iadd (q := 119) rfl rfl ?_
    refine aw_aload_n (q := 120) (j := 0) rfl rfl rfl (List.mem_of_getElem? (i := 1) rfl) ?_
    refine ag_getR (q := 123) rfl rfl fl_Mo_149 rfl (SX.o hS rfl) (SX.r hS rfl) ?_
    refine aw_iload_n (q := 124) (j := 2) rfl rfl rfl (List.mem_of_getElem? (i := 0) rfl) ?_
    obtain ⟨bd_6, h⟩ := h
    refine ag_iaload (q := 125) (N := 6) rfl rfl (SX.a hS rfl) bd_6 ?_
    obtain ⟨bd_7, h⟩ := h
    refine ag_iastore (q := 126) (N := 120) rfl rfl (SX.a hS rfl) bd_7 ?_
    replace h := h _ rfl
    exact aw_return rfl rfl (by decide) (by decide) h
  · replace h := h.2 cd_3
    refine aw_aload_n (q := 23) (j := 0) rfl rfl rfl (List.mem_of_getElem? (i := 1) rfl) ?_
    refine ag_getR (q := 26) rfl rfl fl_Mo_146 rfl (SX.o hS rfl) (SX.r hS rfl) ?_
    refine aw_bipush (q := 28) (v := 6) rfl rfl (by decide) ?_
    refine aw_bipush (q := 30) (v := 6) rfl rfl (by decide) ?_
    refine aw_iload_n (q := 31) (j := 2) rfl rfl rfl (List.mem_of_getElem? (i := 0) rfl) ?_
    refine aw_imul (q := 32) rfl rfl ?_
    refine aw_iadd (q := 33) rfl rfl ?_
    refine aw_aload_n (q := 34) (j := 0) rfl rfl rfl (List.mem_of_getElem? (i := 1) rfl) ?_
    refine ag_getR (q := 37) rfl rfl fl_Mo_146 rfl (SX.o hS rfl) (SX.r hS rfl) ?_
    refine aw_bipush (q := 39) (v := 66) rfl rfl (by decide) ?_
    refine aw_iload_n (q := 40) (j := 1) rfl rfl rfl (List.mem_of_getElem? (i := 2) rfl) ?_
    refine aw_iadd (q := 41) rfl rfl ?_
    obtain ⟨bd_8, h⟩ := h
    refine ag_iaload (q := 42) (N := 120) rfl rfl (SX.a hS rfl) bd_8 ?_
    refine aw_iadd (q := 43) rfl rfl ?_
    refine aw_dup2 (q := 44) rfl rfl rfl rfl ?_
    obtain ⟨bd_9, h⟩ := h
    refine ag_iaload (q := 45) (N := 120) rfl rfl (SX.a hS rfl) bd_9 ?_
    refine aw_aload_n (q := 46) (j := 0) rfl rfl rfl (List.mem_of_getElem? (i := 1) rfl) ?_
    refine ag_getR (q := 49) rfl rfl fl_Mo_146 rfl (SX.o hS rfl) (SX.r hS rfl) ?_
    refine aw_bipush (q := 51) (v := 58) rfl rfl (by decide) ?_
    refine aw_iload_n (q := 52) (j := 1) rfl rfl rfl (List.mem_of_getElem? (i := 2) rfl) ?_
    refine aw_iadd (q := 53) rfl rfl ?_
    refine ag_iaload (q := 54) (N := 120) rfl rfl (SX.a hS rfl) bd_2 ?_
    refine aw_iadd (q := 55) rfl rfl ?_
    refine ag_iastore (q := 56) (N := 120) rfl rfl (SX.a hS rfl) bd_9 ?_
    replace h := h _ rfl
    refine aw_aload_n (q := 57) (j := 0) rfl rfl rfl (List.mem_of_getElem? (i := 1) rfl) ?_
    refine ag_getR (q := 60) rfl rfl fl_Mo_146 rfl (SX.o hS rfl) (SX.r hS rfl) ?_
    refine aw_bipush (q := 62) (v := 98) rfl rfl (by decide) ?_
    refine aw_iload_n (q := 63) (j := 1) rfl rfl rfl (List.mem_of_getElem? (i := 2) rfl) ?_
    refine aw_iadd (q := 64) rfl rfl ?_
    refine aw_dup2 (q := 65) rfl rfl rfl rfl ?_
    obtain ⟨bd_10, h⟩ := h
    refine ag_iaload (q := 66) (N := 120) rfl rfl (SX.a hS rfl) bd_10 ?_
    refine aw_iconst (q := 67) (v := 1) rfl rfl (by decide) ?_
    refine aw_iadd (q := 68) rfl rfl ?_
    refine ag_iastore (q := 69) (N := 120) rfl rfl (SX.a hS rfl) bd_10 ?_
    replace h := h _ rfl
    refine aw_aload_n (q := 70) (j := 0) rfl rfl rfl (List.mem_of_getElem? (i := 1) rfl) ?_
    refine ag_getR (q := 73) rfl rfl fl_Mo_146 rfl (SX.o hS rfl) (SX.r hS rfl) ?_
    refine aw_bipush (q := 75) (v := 58) rfl rfl (by decide) ?_
    refine aw_iload_n (q := 76) (j := 1) rfl rfl rfl (List.mem_of_getElem? (i := 2) rfl) ?_
    refine aw_iadd (q := 77) rfl rfl ?_
    refine aw_iconst (q := 78) (v := 0) rfl rfl (by decide) ?_
    refine ag_iastore (q := 79) (N := 120) rfl rfl (SX.a hS rfl) bd_2 ?_
    replace h := h _ rfl
    refine aw_aload_n (q := 80) (j := 0) rfl rfl rfl (List.mem_of_getElem? (i := 1) rfl) ?_
    refine ag_getR (q := 83) rfl rfl fl_Mo_146 rfl (SX.o hS rfl) (SX.r hS rfl) ?_
    refine aw_bipush (q := 85) (v := 66) rfl rfl (by decide) ?_
    refine aw_iload_n (q := 86) (j := 1) rfl rfl rfl (List.mem_of_getElem? (i := 2) rfl) ?_
    refine aw_iadd (q := 87) rfl rfl ?_
    refine aw_bipush (q := 89) (v := (-2)) rfl rfl (by decide) ?_
    refine ag_iastore (q := 90) (N := 120) rfl rfl (SX.a hS rfl) bd_8 ?_
    replace h := h _ rfl
    refine aw_aload_n (q := 91) (j := 0) rfl rfl rfl (List.mem_of_getElem? (i := 1) rfl) ?_
    refine ag_getR (q := 94) rfl rfl fl_Mo_146 rfl (SX.o hS rfl) (SX.r hS rfl) ?_
    refine aw_bipush (q := 96) (v := 106) rfl rfl (by decide) ?_
    refine aw_iload_n (q := 97) (j := 1) rfl rfl rfl (List.mem_of_getElem? (i := 2) rfl) ?_
    refine aw_iadd (q := 98) rfl rfl ?_
    refine aw_bipush (q := 100) (v := (-2)) rfl rfl (by decide) ?_
    refine ag_iastore (q := 101) (N := 120) rfl rfl (SX.a hS rfl) bd_1 ?_
    replace h := h _ rfl
    refine aw_aload_n (q := 102) (j := 0) rfl rfl rfl (List.mem_of_getElem? (i := 1) rfl) ?_
    refine ag_getR (q := 105) rfl rfl fl_Mo_146 rfl (SX.o hS rfl) (SX.r hS rfl) ?_
    refine aw_bipush (q := 107) (v := 42) rfl rfl (by decide) ?_
    refine aw_iload_n (q := 108) (j := 1) rfl rfl rfl (List.mem_of_getElem? (i := 2) rfl) ?_
    refine aw_iadd (q := 109) rfl rfl ?_
    refine aw_iconst (q := 110) (v := 2) rfl rfl (by decide) ?_
    obtain ⟨bd_11, h⟩ := h
    refine ag_iastore (q := 111) (N := 120) rfl rfl (SX.a hS rfl) bd_11 ?_
    replace h := h _ rfl
    refine aw_aload_n (q := 112) (j := 0) rfl rfl rfl (List.mem_of_getElem? (i := 1) rfl) ?_
    refine ag_getR (q := 115) rfl rfl fl_Mo_146 rfl (SX.o hS rfl) (SX.r hS rfl) ?_
    refine aw_bipush (q := 117) (v := 50) rfl rfl (by decide) ?_
    refine aw_iload_n (q := 118) (j := 1) rfl rfl rfl (List.mem_of_getElem? (i := 2) rfl) ?_
    refine aw_iadd (q := 119) rfl rfl ?_
    refine aw_aload_n (q := 120) (j := 0) rfl rfl rfl (List.mem_of_getElem? (i := 1) rfl) ?_
    refine ag_getR (q := 123) rfl rfl fl_Mo_149 rfl (SX.o hS rfl) (SX.r hS rfl) ?_
    refine aw_iload_n (q := 124) (j := 2) rfl rfl rfl (List.mem_of_getElem? (i := 0) rfl) ?_
    obtain ⟨bd_12, h⟩ := h
    refine ag_iaload (q := 125) (N := 6) rfl rfl (SX.a hS rfl) bd_12 ?_
    obtain ⟨bd_13, h⟩ := h
    refine ag_iastore (q := 126) (N := 120) rfl rfl (SX.a hS rfl) bd_13 ?_
    replace h := h _ rfl
    exact aw_return rfl rfl (by decide) (by decide) h
set_option maxRecDepth 20000 in
theorem v_Mo_keeps_11 {E : EN} {g : GS} {s : MS} {Q : Option Value → SG → Prop} (x1 : Int32) (hS : SX g) (h : ((4680 ≤ x1 → (∀ s1_, s1_ = wi s 120 64 ((s.1 120 64) - 1) → AWP E m_Mo_keeps 51 0 0 [(0, .ref 120), (1, .int 0)] [] (mk g s1_) Q)) ∧ (¬ 4680 ≤ x1 → vp_in (x1 + 120) 4800 ∧ vp_in x1 4800 ∧ (∀ s2_, s2_ = wi s 166 ((x1).toNatClampNeg) (s.1 166 (((x1 + 120)).toNatClampNeg)) → AWP E m_Mo_keeps 11 0 0 [(0, .ref 120), (1, .int (x1 + 1))] [] (mk g s2_) Q)))) : AWP E m_Mo_keeps 11 0 0 [(0, .ref 120), (1, .int x1)] [] (mk g s) Q := by
  refine aw_iload_n (q := 12) (j := 1) rfl rfl rfl (List.mem_of_getElem? (i := 1) rfl) ?_
  refine aw_sipush (q := 15) (v := 4680) rfl rfl (by decide) ?_
  refine aw_icmp_ge (q := 18) (tgt := 39) rfl rfl (by decide) ⟨fun cd_1 => ?_, fun cd_1 => ?_⟩
  · replace h := h.1 cd_1
    refine aw_aload_n (q := 40) (j := 0) rfl rfl rfl (List.mem_of_getElem? (i := 0) rfl) ?_
    refine aw_dup (q := 41) rfl rfl rfl ?_
    refine ag_getI (q := 44) rfl rfl fl_Mo_275 rfl (SX.o hS rfl) ?_
    refine aw_iconst (q := 45) (v := 1) rfl rfl (by decide) ?_
    refine aw_isub (q := 46) rfl rfl ?_
    refine ag_putI (q := 49) rfl rfl fl_Mo_275 rfl rfl (SX.o hS rfl) ?_
    replace h := h _ rfl
    refine aw_iconst (q := 50) (v := 0) rfl rfl (by decide) ?_
    refine aw_istore_n (q := 51) (j := 1) (ls' := [(1, .int _), (0, .ref _)]) rfl rfl rfl (by decide) rfl ?_
    refine aw_ls [1, 0] rfl ?_
    exact h
  · replace h := h.2 cd_1
    refine aw_aload_n (q := 19) (j := 0) rfl rfl rfl (List.mem_of_getElem? (i := 0) rfl) ?_
    refine ag_getR (q := 22) rfl rfl fl_Mo_155 rfl (SX.o hS rfl) (SX.r hS rfl) ?_
    refine aw_iload_n (q := 23) (j := 1) rfl rfl rfl (List.mem_of_getElem? (i := 1) rfl) ?_
    refine aw_aload_n (q := 24) (j := 0) rfl rfl rfl (List.mem_of_getElem? (i := 0) rfl) ?_
    refine ag_getR (q := 27) rfl rfl fl_Mo_155 rfl (SX.o hS rfl) (SX.r hS rfl) ?_
    refine aw_iload_n (q := 28) (j := 1) rfl rfl rfl (List.mem_of_getElem? (i := 1) rfl) ?_
    refine aw_bipush (q := 30) (v := 120) rfl rfl (by decide) ?_
    refine aw_iadd (q := 31) rfl rfl ?_
    obtain ⟨bd_2, h⟩ := h
    refine ag_iaload (q := 32) (N := 4800) rfl rfl (SX.a hS rfl) bd_2 ?_
    obtain ⟨bd_3, h⟩ := h
    refine ag_iastore (q := 33) (N := 4800) rfl rfl (SX.a hS rfl) bd_3 ?_
    replace h := h _ rfl
    refine aw_iinc (q := 36) (v := _ + 1) (ls' := [(1, .int _), (0, .ref _)]) rfl rfl (List.mem_of_getElem? (i := 1) rfl) rfl (by decide) rfl ?_
    refine aw_goto (tgt := 11) rfl (by decide) ?_
    refine aw_ls [1, 0] rfl ?_
    exact h
set_option maxRecDepth 20000 in
theorem v_Mo_keeps_51 {E : EN} {g : GS} {s : MS} {Q : Option Value → SG → Prop} (x1 : Int32) (hS : SX g) (h : ((120 ≤ x1 → (∀ s1_, s1_ = wi s 120 64 ((s.1 120 64) + 1) → GV E m_Mo_keepsRow [.ref 120] g s1_ (fun t2_ => Q none (mk g t2_)))) ∧ (¬ 120 ≤ x1 → vp_in x1 120 ∧ vp_in ((120 * (s.1 120 64)) + x1) 4800 ∧ (∀ s3_, s3_ = wi s 166 ((((120 * (s.1 120 64)) + x1)).toNatClampNeg) (s.1 162 ((x1).toNatClampNeg)) → AWP E m_Mo_keeps 51 0 0 [(0, .ref 120), (1, .int (x1 + 1))] [] (mk g s3_) Q)))) : AWP E m_Mo_keeps 51 0 0 [(0, .ref 120), (1, .int x1)] [] (mk g s) Q := by
  refine aw_iload_n (q := 52) (j := 1) rfl rfl rfl (List.mem_of_getElem? (i := 1) rfl) ?_
  refine aw_bipush (q := 54) (v := 120) rfl rfl (by decide) ?_
  refine aw_icmp_ge (q := 57) (tgt := 83) rfl rfl (by decide) ⟨fun cd_1 => ?_, fun cd_1 => ?_⟩
  · replace h := h.1 cd_1
    refine aw_aload_n (q := 84) (j := 0) rfl rfl rfl (List.mem_of_getElem? (i := 0) rfl) ?_
    refine aw_dup (q := 85) rfl rfl rfl ?_
    refine ag_getI (q := 88) rfl rfl fl_Mo_275 rfl (SX.o hS rfl) ?_
    refine aw_iconst (q := 89) (v := 1) rfl rfl (by decide) ?_
    refine aw_iadd (q := 90) rfl rfl ?_
    refine ag_putI (q := 93) rfl rfl fl_Mo_275 rfl rfl (SX.o hS rfl) ?_
    replace h := h _ rfl
    refine aw_aload_n (q := 94) (j := 0) rfl rfl rfl (List.mem_of_getElem? (i := 0) rfl) ?_
    refine ag_cvV (z := m_Mo_keepsRow) (ci := 11) (av := []) (st := []) (q := 97) (k' := 0) (n' := 0) rfl rfl cv_Mo_187 ⟨by decide, by decide⟩ rfl rfl (by decide) (by decide) (SX.o hS rfl) rfl rfl rfl (Nat.le_of_ble_eq_true rfl) ?_
    refine GV.mono h (fun t2_ h => ?_)
    exact aw_return rfl rfl (by decide) (by decide) h
  · replace h := h.2 cd_1
    refine aw_aload_n (q := 58) (j := 0) rfl rfl rfl (List.mem_of_getElem? (i := 0) rfl) ?_
    refine ag_getR (q := 61) rfl rfl fl_Mo_155 rfl (SX.o hS rfl) (SX.r hS rfl) ?_
    refine aw_bipush (q := 63) (v := 120) rfl rfl (by decide) ?_
    refine aw_aload_n (q := 64) (j := 0) rfl rfl rfl (List.mem_of_getElem? (i := 0) rfl) ?_
    refine ag_getI (q := 67) rfl rfl fl_Mo_275 rfl (SX.o hS rfl) ?_
    refine aw_imul (q := 68) rfl rfl ?_
    refine aw_iload_n (q := 69) (j := 1) rfl rfl rfl (List.mem_of_getElem? (i := 1) rfl) ?_
    refine aw_iadd (q := 70) rfl rfl ?_
    refine aw_aload_n (q := 71) (j := 0) rfl rfl rfl (List.mem_of_getElem? (i := 0) rfl) ?_
    refine ag_getR (q := 74) rfl rfl fl_Mo_143 rfl (SX.o hS rfl) (SX.r hS rfl) ?_
    refine aw_iload_n (q := 75) (j := 1) rfl rfl rfl (List.mem_of_getElem? (i := 1) rfl) ?_
    obtain ⟨bd_2, h⟩ := h
    refine ag_iaload (q := 76) (N := 120) rfl rfl (SX.a hS rfl) bd_2 ?_
    obtain ⟨bd_3, h⟩ := h
    refine ag_iastore (q := 77) (N := 4800) rfl rfl (SX.a hS rfl) bd_3 ?_
    replace h := h _ rfl
    refine aw_iinc (q := 80) (v := _ + 1) (ls' := [(1, .int _), (0, .ref _)]) rfl rfl (List.mem_of_getElem? (i := 1) rfl) rfl (by decide) rfl ?_
    refine aw_goto (tgt := 51) rfl (by decide) ?_
    refine aw_ls [1, 0] rfl ?_
    exact h
set_option maxRecDepth 20000 in
theorem v_Mo_keeps {E : EN} {g : GS} {s : MS} {Q : Option Value → SG → Prop}  (hS : SX g) (h : (((s.1 120 64) = 40 → AWP E m_Mo_keeps 11 0 0 [(0, .ref 120), (1, .int 0)] [] (mk g s) Q) ∧ (¬ (s.1 120 64) = 40 → AWP E m_Mo_keeps 51 0 0 [(0, .ref 120), (1, .int 0)] [] (mk g s) Q))) : AMet E m_Mo_keeps [.ref 120] (mk g s) Q := by
  refine AMet.of (by decide) k_Mo_keeps [(0, .ref 120)] (Nat.le_of_ble_eq_true rfl) rfl ?_
  refine aw_aload_n (q := 1) (j := 0) rfl rfl rfl (List.mem_of_getElem? (i := 0) rfl) ?_
  refine ag_getI (q := 4) rfl rfl fl_Mo_275 rfl (SX.o hS rfl) ?_
  refine aw_bipush (q := 6) (v := 40) rfl rfl (by decide) ?_
  refine aw_icmp_ne (q := 9) (tgt := 49) rfl rfl (by decide) ⟨fun cd_1 => ?_, fun cd_1 => ?_⟩
  · replace h := h.1 cd_1
    refine aw_iconst (q := 10) (v := 0) rfl rfl (by decide) ?_
    refine aw_istore_n (q := 11) (j := 1) (ls' := [(1, .int _), (0, .ref _)]) rfl rfl rfl (by decide) rfl ?_
    refine aw_ls [1, 0] rfl ?_
    exact h
  · replace h := h.2 cd_1
    refine aw_iconst (q := 50) (v := 0) rfl rfl (by decide) ?_
    refine aw_istore_n (q := 51) (j := 1) (ls' := [(1, .int _), (0, .ref _)]) rfl rfl rfl (by decide) rfl ?_
    refine aw_ls [1, 0] rfl ?_
    exact h
set_option maxRecDepth 20000 in
theorem v_Mo_pour {E : EN} {g : GS} {s : MS} {Q : Option Value → SG → Prop} (x1 : Int32) (x2 : Int32) (hS : SX g) (h : GI E m_Mo_isGrain [.ref 120, .int x1] g s (fun y1_ t1_ => ((y1_ = 0 → Q (some (.int (-1))) (mk g t1_)) ∧ (¬ y1_ = 0 → GI E m_Mo_in [.int x2, .int 1, .int 9999] g t1_ (fun y2_ t2_ => ((y2_ = 0 → Q (some (.int (-1))) (mk g t2_)) ∧ (¬ y2_ = 0 → vp_in x1 120 ∧ ((((t2_.1 162 ((x1).toNatClampNeg)) + x2) ≤ 9999 → GV E m_Mo_copies [.ref 120] g t2_ (fun t3_ => (∀ s4_, s4_ = wi t3_ 163 ((x1).toNatClampNeg) ((t3_.1 163 ((x1).toNatClampNeg)) + x2) → GV E m_Mo_keeps [.ref 120] g s4_ (fun t5_ => Q (some (.int (t5_.1 162 ((x1).toNatClampNeg)))) (mk g t5_))))) ∧ (¬ ((t2_.1 162 ((x1).toNatClampNeg)) + x2) ≤ 9999 → Q (some (.int (-1))) (mk g t2_)))))))))) : AMet E m_Mo_pour [.ref 120, .int x1, .int x2] (mk g s) Q := by
  refine AMet.of (by decide) k_Mo_pour [(0, .ref 120), (1, .int x1), (2, .int x2)] (Nat.le_of_ble_eq_true rfl) rfl ?_
  refine aw_aload_n (q := 1) (j := 0) rfl rfl rfl (List.mem_of_getElem? (i := 0) rfl) ?_
  refine aw_iload_n (q := 2) (j := 1) rfl rfl rfl (List.mem_of_getElem? (i := 1) rfl) ?_
  refine ag_cvI (z := m_Mo_isGrain) (ci := 11) (av := [.int _]) (st := []) (q := 5) (k' := 0) (n' := 0) rfl rfl cv_Mo_386 ⟨by decide, by decide⟩ rfl rfl (by decide) (by decide) (SX.o hS rfl) rfl rfl rfl (Nat.le_of_ble_eq_true rfl) ?_
  refine GI.mono h (fun y1_ t1_ h => ?_)
  refine aw_if_eq (q := 8) (tgt := 33) rfl rfl (by decide) ⟨fun cd_1 => ?_, fun cd_1 => ?_⟩
  · replace h := h.1 cd_1
    refine aw_iconst (q := 34) (v := (-1)) rfl rfl (by decide) ?_
    exact aw_ireturn (ty := .int) rfl rfl rfl (by decide) (by decide) h
  · replace h := h.2 cd_1
    refine aw_iload_n (q := 9) (j := 2) rfl rfl rfl (List.mem_of_getElem? (i := 2) rfl) ?_
    refine aw_iconst (q := 10) (v := 1) rfl rfl (by decide) ?_
    refine aw_sipush (q := 13) (v := 9999) rfl rfl (by decide) ?_
    refine ag_csI (z := m_Mo_in) (av := [.int _, .int _, .int _]) (st := []) (q := 16) (k' := 0) (n' := 0) rfl rfl cs_Mo_350 ⟨by decide, by decide⟩ rfl rfl (by decide) (by decide) rfl rfl (Nat.le_of_ble_eq_true rfl) ?_
    refine GI.mono h (fun y2_ t2_ h => ?_)
    refine aw_if_eq (q := 19) (tgt := 33) rfl rfl (by decide) ⟨fun cd_2 => ?_, fun cd_2 => ?_⟩
    · replace h := h.1 cd_2
      refine aw_iconst (q := 34) (v := (-1)) rfl rfl (by decide) ?_
      exact aw_ireturn (ty := .int) rfl rfl rfl (by decide) (by decide) h
    · replace h := h.2 cd_2
      refine aw_aload_n (q := 20) (j := 0) rfl rfl rfl (List.mem_of_getElem? (i := 0) rfl) ?_
      refine ag_getR (q := 23) rfl rfl fl_Mo_143 rfl (SX.o hS rfl) (SX.r hS rfl) ?_
      refine aw_iload_n (q := 24) (j := 1) rfl rfl rfl (List.mem_of_getElem? (i := 1) rfl) ?_
      obtain ⟨bd_3, h⟩ := h
      refine ag_iaload (q := 25) (N := 120) rfl rfl (SX.a hS rfl) bd_3 ?_
      refine aw_iload_n (q := 26) (j := 2) rfl rfl rfl (List.mem_of_getElem? (i := 2) rfl) ?_
      refine aw_iadd (q := 27) rfl rfl ?_
      refine aw_sipush (q := 30) (v := 9999) rfl rfl (by decide) ?_
      refine aw_icmp_le (q := 33) (tgt := 35) rfl rfl (by decide) ⟨fun cd_4 => ?_, fun cd_4 => ?_⟩
      · replace h := h.1 cd_4
        refine aw_aload_n (q := 36) (j := 0) rfl rfl rfl (List.mem_of_getElem? (i := 0) rfl) ?_
        refine ag_cvV (z := m_Mo_copies) (ci := 11) (av := []) (st := []) (q := 39) (k' := 0) (n' := 0) rfl rfl cv_Mo_395 ⟨by decide, by decide⟩ rfl rfl (by decide) (by decide) (SX.o hS rfl) rfl rfl rfl (Nat.le_of_ble_eq_true rfl) ?_
        refine GV.mono h (fun t3_ h => ?_)
        refine aw_aload_n (q := 40) (j := 0) rfl rfl rfl (List.mem_of_getElem? (i := 0) rfl) ?_
        refine ag_getR (q := 43) rfl rfl fl_Mo_146 rfl (SX.o hS rfl) (SX.r hS rfl) ?_
        refine aw_iload_n (q := 44) (j := 1) rfl rfl rfl (List.mem_of_getElem? (i := 1) rfl) ?_
        refine aw_dup2 (q := 45) rfl rfl rfl rfl ?_
        refine ag_iaload (q := 46) (N := 120) rfl rfl (SX.a hS rfl) bd_3 ?_
        refine aw_iload_n (q := 47) (j := 2) rfl rfl rfl (List.mem_of_getElem? (i := 2) rfl) ?_
        refine aw_iadd (q := 48) rfl rfl ?_
        refine ag_iastore (q := 49) (N := 120) rfl rfl (SX.a hS rfl) bd_3 ?_
        replace h := h _ rfl
        refine aw_aload_n (q := 50) (j := 0) rfl rfl rfl (List.mem_of_getElem? (i := 0) rfl) ?_
        refine ag_cvV (z := m_Mo_keeps) (ci := 11) (av := []) (st := []) (q := 53) (k' := 0) (n' := 0) rfl rfl cv_Mo_404 ⟨by decide, by decide⟩ rfl rfl (by decide) (by decide) (SX.o hS rfl) rfl rfl rfl (Nat.le_of_ble_eq_true rfl) ?_
        refine GV.mono h (fun t5_ h => ?_)
        refine aw_aload_n (q := 54) (j := 0) rfl rfl rfl (List.mem_of_getElem? (i := 0) rfl) ?_
        refine ag_getR (q := 57) rfl rfl fl_Mo_143 rfl (SX.o hS rfl) (SX.r hS rfl) ?_
        refine aw_iload_n (q := 58) (j := 1) rfl rfl rfl (List.mem_of_getElem? (i := 1) rfl) ?_
        refine ag_iaload (q := 59) (N := 120) rfl rfl (SX.a hS rfl) bd_3 ?_
        exact aw_ireturn (ty := .int) rfl rfl rfl (by decide) (by decide) h
      · replace h := h.2 cd_4
        refine aw_iconst (q := 34) (v := (-1)) rfl rfl (by decide) ?_
        exact aw_ireturn (ty := .int) rfl rfl rfl (by decide) (by decide) h
set_option maxRecDepth 20000 in
theorem v_Mo_swap {E : EN} {g : GS} {s : MS} {Q : Option Value → SG → Prop} (x1 : Int32) (x2 : Int32) (hS : SX g) (h : GI E m_Mo_isHole [.ref 120, .int x1] g s (fun y1_ t1_ => ((y1_ = 0 → Q (some (.int 0)) (mk g t1_)) ∧ (¬ y1_ = 0 → GI E m_Mo_isHole [.ref 120, .int x2] g t1_ (fun y2_ t2_ => ((y2_ = 0 → Q (some (.int 0)) (mk g t2_)) ∧ (¬ y2_ = 0 → ((x1 = x2 → Q (some (.int 0)) (mk g t2_)) ∧ (¬ x1 = x2 → GV E m_Mo_copies [.ref 120] g t2_ (fun t3_ => GV E m_Mo_swaps [.ref 120, .int x1, .int x2] g t3_ (fun t4_ => GV E m_Mo_keeps [.ref 120] g t4_ (fun t5_ => Q (some (.int 1)) (mk g t5_))))))))))))) : AMet E m_Mo_swap [.ref 120, .int x1, .int x2] (mk g s) Q := by
  refine AMet.of (by decide) k_Mo_swap [(0, .ref 120), (1, .int x1), (2, .int x2)] (Nat.le_of_ble_eq_true rfl) rfl ?_
  refine aw_aload_n (q := 1) (j := 0) rfl rfl rfl (List.mem_of_getElem? (i := 0) rfl) ?_
  refine aw_iload_n (q := 2) (j := 1) rfl rfl rfl (List.mem_of_getElem? (i := 1) rfl) ?_
  refine ag_cvI (z := m_Mo_isHole) (ci := 11) (av := [.int _]) (st := []) (q := 5) (k' := 0) (n' := 0) rfl rfl cv_Mo_389 ⟨by decide, by decide⟩ rfl rfl (by decide) (by decide) (SX.o hS rfl) rfl rfl rfl (Nat.le_of_ble_eq_true rfl) ?_
  refine GI.mono h (fun y1_ t1_ h => ?_)
  refine aw_if_eq (q := 8) (tgt := 21) rfl rfl (by decide) ⟨fun cd_1 => ?_, fun cd_1 => ?_⟩
  · replace h := h.1 cd_1
    refine aw_iconst (q := 22) (v := 0) rfl rfl (by decide) ?_
    exact aw_ireturn (ty := .boolean) rfl rfl rfl (by decide) (by decide) h
  · replace h := h.2 cd_1
    refine aw_aload_n (q := 9) (j := 0) rfl rfl rfl (List.mem_of_getElem? (i := 0) rfl) ?_
    refine aw_iload_n (q := 10) (j := 2) rfl rfl rfl (List.mem_of_getElem? (i := 2) rfl) ?_
    refine ag_cvI (z := m_Mo_isHole) (ci := 11) (av := [.int _]) (st := []) (q := 13) (k' := 0) (n' := 0) rfl rfl cv_Mo_389 ⟨by decide, by decide⟩ rfl rfl (by decide) (by decide) (SX.o hS rfl) rfl rfl rfl (Nat.le_of_ble_eq_true rfl) ?_
    refine GI.mono h (fun y2_ t2_ h => ?_)
    refine aw_if_eq (q := 16) (tgt := 21) rfl rfl (by decide) ⟨fun cd_2 => ?_, fun cd_2 => ?_⟩
    · replace h := h.1 cd_2
      refine aw_iconst (q := 22) (v := 0) rfl rfl (by decide) ?_
      exact aw_ireturn (ty := .boolean) rfl rfl rfl (by decide) (by decide) h
    · replace h := h.2 cd_2
      refine aw_iload_n (q := 17) (j := 1) rfl rfl rfl (List.mem_of_getElem? (i := 1) rfl) ?_
      refine aw_iload_n (q := 18) (j := 2) rfl rfl rfl (List.mem_of_getElem? (i := 2) rfl) ?_
      refine aw_icmp_ne (q := 21) (tgt := 23) rfl rfl (by decide) ⟨fun cd_3 => ?_, fun cd_3 => ?_⟩
      · replace h := h.1 cd_3
        refine aw_iconst (q := 22) (v := 0) rfl rfl (by decide) ?_
        exact aw_ireturn (ty := .boolean) rfl rfl rfl (by decide) (by decide) h
      · replace h := h.2 cd_3
        refine aw_aload_n (q := 24) (j := 0) rfl rfl rfl (List.mem_of_getElem? (i := 0) rfl) ?_
        refine ag_cvV (z := m_Mo_copies) (ci := 11) (av := []) (st := []) (q := 27) (k' := 0) (n' := 0) rfl rfl cv_Mo_395 ⟨by decide, by decide⟩ rfl rfl (by decide) (by decide) (SX.o hS rfl) rfl rfl rfl (Nat.le_of_ble_eq_true rfl) ?_
        refine GV.mono h (fun t3_ h => ?_)
        refine aw_aload_n (q := 28) (j := 0) rfl rfl rfl (List.mem_of_getElem? (i := 0) rfl) ?_
        refine aw_iload_n (q := 29) (j := 1) rfl rfl rfl (List.mem_of_getElem? (i := 1) rfl) ?_
        refine aw_iload_n (q := 30) (j := 2) rfl rfl rfl (List.mem_of_getElem? (i := 2) rfl) ?_
        refine ag_cvV (z := m_Mo_swaps) (ci := 11) (av := [.int _, .int _]) (st := []) (q := 33) (k' := 0) (n' := 0) rfl rfl cv_Mo_407 ⟨by decide, by decide⟩ rfl rfl (by decide) (by decide) (SX.o hS rfl) rfl rfl rfl (Nat.le_of_ble_eq_true rfl) ?_
        refine GV.mono h (fun t4_ h => ?_)
        refine aw_aload_n (q := 34) (j := 0) rfl rfl rfl (List.mem_of_getElem? (i := 0) rfl) ?_
        refine ag_cvV (z := m_Mo_keeps) (ci := 11) (av := []) (st := []) (q := 37) (k' := 0) (n' := 0) rfl rfl cv_Mo_404 ⟨by decide, by decide⟩ rfl rfl (by decide) (by decide) (SX.o hS rfl) rfl rfl rfl (Nat.le_of_ble_eq_true rfl) ?_
        refine GV.mono h (fun t5_ h => ?_)
        refine aw_iconst (q := 38) (v := 1) rfl rfl (by decide) ?_
        exact aw_ireturn (ty := .boolean) rfl rfl rfl (by decide) (by decide) h
set_option maxRecDepth 20000 in
theorem v_Mo_swaps_2 {E : EN} {g : GS} {s : MS} {Q : Option Value → SG → Prop} (x1 : Int32) (x2 : Int32) (x3 : Int32) (hS : SX g) (h : ((6 ≤ x3 → Q none (mk g s)) ∧ (¬ 6 ≤ x3 → vp_in ((6 + (6 * x1)) + x3) 120 ∧ vp_in ((6 + (6 * x2)) + x3) 120 ∧ (∀ s1_, s1_ = wi s 163 ((((6 + (6 * x1)) + x3)).toNatClampNeg) (s.1 163 ((((6 + (6 * x2)) + x3)).toNatClampNeg)) → (∀ s2_, s2_ = wi s1_ 163 ((((6 + (6 * x2)) + x3)).toNatClampNeg) (s.1 163 ((((6 + (6 * x1)) + x3)).toNatClampNeg)) → AWP E m_Mo_swaps 2 0 0 [(0, .ref 120), (1, .int x1), (2, .int x2), (3, .int (x3 + 1))] [] (mk g s2_) Q))))) : AWP E m_Mo_swaps 2 0 0 [(0, .ref 120), (1, .int x1), (2, .int x2), (3, .int x3)] [] (mk g s) Q := by
  refine aw_iload_n (q := 3) (j := 3) rfl rfl rfl (List.mem_of_getElem? (i := 3) rfl) ?_
  refine aw_bipush (q := 5) (v := 6) rfl rfl (by decide) ?_
  refine aw_icmp_ge (q := 8) (tgt := 74) rfl rfl (by decide) ⟨fun cd_1 => ?_, fun cd_1 => ?_⟩
  · replace h := h.1 cd_1
    exact aw_return rfl rfl (by decide) (by decide) h
  · replace h := h.2 cd_1
    refine aw_aload_n (q := 9) (j := 0) rfl rfl rfl (List.mem_of_getElem? (i := 0) rfl) ?_
    refine ag_getR (q := 12) rfl rfl fl_Mo_146 rfl (SX.o hS rfl) (SX.r hS rfl) ?_
    refine aw_bipush (q := 14) (v := 6) rfl rfl (by decide) ?_
    refine aw_bipush (q := 16) (v := 6) rfl rfl (by decide) ?_
    refine aw_iload_n (q := 17) (j := 1) rfl rfl rfl (List.mem_of_getElem? (i := 1) rfl) ?_
    refine aw_imul (q := 18) rfl rfl ?_
    refine aw_iadd (q := 19) rfl rfl ?_
    refine aw_iload_n (q := 20) (j := 3) rfl rfl rfl (List.mem_of_getElem? (i := 3) rfl) ?_
    refine aw_iadd (q := 21) rfl rfl ?_
    obtain ⟨bd_2, h⟩ := h
    refine ag_iaload (q := 22) (N := 120) rfl rfl (SX.a hS rfl) bd_2 ?_
    refine aw_istore (q := 24) (j := 4) (ls' := [(4, .int _), (0, .ref _), (1, .int _), (2, .int _), (3, .int _)]) rfl rfl (by decide) rfl ?_
    refine aw_aload_n (q := 25) (j := 0) rfl rfl rfl (List.mem_of_getElem? (i := 1) rfl) ?_
    refine ag_getR (q := 28) rfl rfl fl_Mo_146 rfl (SX.o hS rfl) (SX.r hS rfl) ?_
    refine aw_bipush (q := 30) (v := 6) rfl rfl (by decide) ?_
    refine aw_bipush (q := 32) (v := 6) rfl rfl (by decide) ?_
    refine aw_iload_n (q := 33) (j := 1) rfl rfl rfl (List.mem_of_getElem? (i := 2) rfl) ?_
    refine aw_imul (q := 34) rfl rfl ?_
    refine aw_iadd (q := 35) rfl rfl ?_
    refine aw_iload_n (q := 36) (j := 3) rfl rfl rfl (List.mem_of_getElem? (i := 4) rfl) ?_
    refine aw_iadd (q := 37) rfl rfl ?_
    refine aw_aload_n (q := 38) (j := 0) rfl rfl rfl (List.mem_of_getElem? (i := 1) rfl) ?_
    refine ag_getR (q := 41) rfl rfl fl_Mo_146 rfl (SX.o hS rfl) (SX.r hS rfl) ?_
    refine aw_bipush (q := 43) (v := 6) rfl rfl (by decide) ?_
    refine aw_bipush (q := 45) (v := 6) rfl rfl (by decide) ?_
    refine aw_iload_n (q := 46) (j := 2) rfl rfl rfl (List.mem_of_getElem? (i := 3) rfl) ?_
    refine aw_imul (q := 47) rfl rfl ?_
    refine aw_iadd (q := 48) rfl rfl ?_
    refine aw_iload_n (q := 49) (j := 3) rfl rfl rfl (List.mem_of_getElem? (i := 4) rfl) ?_
    refine aw_iadd (q := 50) rfl rfl ?_
    obtain ⟨bd_3, h⟩ := h
    refine ag_iaload (q := 51) (N := 120) rfl rfl (SX.a hS rfl) bd_3 ?_
    refine ag_iastore (q := 52) (N := 120) rfl rfl (SX.a hS rfl) bd_2 ?_
    replace h := h _ rfl
    refine aw_aload_n (q := 53) (j := 0) rfl rfl rfl (List.mem_of_getElem? (i := 1) rfl) ?_
    refine ag_getR (q := 56) rfl rfl fl_Mo_146 rfl (SX.o hS rfl) (SX.r hS rfl) ?_
    refine aw_bipush (q := 58) (v := 6) rfl rfl (by decide) ?_
    refine aw_bipush (q := 60) (v := 6) rfl rfl (by decide) ?_
    refine aw_iload_n (q := 61) (j := 2) rfl rfl rfl (List.mem_of_getElem? (i := 3) rfl) ?_
    refine aw_imul (q := 62) rfl rfl ?_
    refine aw_iadd (q := 63) rfl rfl ?_
    refine aw_iload_n (q := 64) (j := 3) rfl rfl rfl (List.mem_of_getElem? (i := 4) rfl) ?_
    refine aw_iadd (q := 65) rfl rfl ?_
    refine aw_iload (q := 67) (j := 4) rfl rfl (List.mem_of_getElem? (i := 0) rfl) ?_
    refine ag_iastore (q := 68) (N := 120) rfl rfl (SX.a hS rfl) bd_3 ?_
    replace h := h _ rfl
    refine aw_iinc (q := 71) (v := _ + 1) (ls' := [(3, .int _), (4, .int _), (0, .ref _), (1, .int _), (2, .int _)]) rfl rfl (List.mem_of_getElem? (i := 4) rfl) rfl (by decide) rfl ?_
    refine aw_goto (tgt := 2) rfl (by decide) ?_
    refine aw_ls [2, 3, 4, 0] rfl ?_
    exact h
set_option maxRecDepth 20000 in
theorem v_Mo_swaps {E : EN} {g : GS} {s : MS} {Q : Option Value → SG → Prop} (x1 : Int32) (x2 : Int32) (h : AWP E m_Mo_swaps 2 0 0 [(0, .ref 120), (1, .int x1), (2, .int x2), (3, .int 0)] [] (mk g s) Q) : AMet E m_Mo_swaps [.ref 120, .int x1, .int x2] (mk g s) Q := by
  refine AMet.of (by decide) k_Mo_swaps [(0, .ref 120), (1, .int x1), (2, .int x2)] (Nat.le_of_ble_eq_true rfl) rfl ?_
  refine aw_iconst (q := 1) (v := 0) rfl rfl (by decide) ?_
  refine aw_istore_n (q := 2) (j := 3) (ls' := [(3, .int _), (0, .ref _), (1, .int _), (2, .int _)]) rfl rfl rfl (by decide) rfl ?_
  refine aw_ls [1, 2, 3, 0] rfl ?_
  exact h
set_option maxRecDepth 20000 in
theorem v_Mo_teach {E : EN} {g : GS} {s : MS} {Q : Option Value → SG → Prop} (x1 : Int32) (x2 : Int32) (hS : SX g) (h : GI E m_Mo_isRat [.ref 120, .int x1] g s (fun y1_ t1_ => ((y1_ = 0 → Q (some (.int 0)) (mk g t1_)) ∧ (¬ y1_ = 0 → GI E m_Mo_isGrain [.ref 120, .int x2] g t1_ (fun y2_ t2_ => ((y2_ = 0 → Q (some (.int 0)) (mk g t2_)) ∧ (¬ y2_ = 0 → vp_in (90 + x1) 120 ∧ (((t2_.1 162 (((90 + x1)).toNatClampNeg)) = x2 → Q (some (.int 0)) (mk g t2_)) ∧ (¬ (t2_.1 162 (((90 + x1)).toNatClampNeg)) = x2 → GV E m_Mo_copies [.ref 120] g t2_ (fun t3_ => (∀ s4_, s4_ = wi t3_ 163 (((90 + x1)).toNatClampNeg) x2 → GV E m_Mo_keeps [.ref 120] g s4_ (fun t5_ => Q (some (.int 1)) (mk g t5_))))))))))))) : AMet E m_Mo_teach [.ref 120, .int x1, .int x2] (mk g s) Q := by
  refine AMet.of (by decide) k_Mo_teach [(0, .ref 120), (1, .int x1), (2, .int x2)] (Nat.le_of_ble_eq_true rfl) rfl ?_
  refine aw_aload_n (q := 1) (j := 0) rfl rfl rfl (List.mem_of_getElem? (i := 0) rfl) ?_
  refine aw_iload_n (q := 2) (j := 1) rfl rfl rfl (List.mem_of_getElem? (i := 1) rfl) ?_
  refine ag_cvI (z := m_Mo_isRat) (ci := 11) (av := [.int _]) (st := []) (q := 5) (k' := 0) (n' := 0) rfl rfl cv_Mo_392 ⟨by decide, by decide⟩ rfl rfl (by decide) (by decide) (SX.o hS rfl) rfl rfl rfl (Nat.le_of_ble_eq_true rfl) ?_
  refine GI.mono h (fun y1_ t1_ h => ?_)
  refine aw_if_eq (q := 8) (tgt := 29) rfl rfl (by decide) ⟨fun cd_1 => ?_, fun cd_1 => ?_⟩
  · replace h := h.1 cd_1
    refine aw_iconst (q := 30) (v := 0) rfl rfl (by decide) ?_
    exact aw_ireturn (ty := .boolean) rfl rfl rfl (by decide) (by decide) h
  · replace h := h.2 cd_1
    refine aw_aload_n (q := 9) (j := 0) rfl rfl rfl (List.mem_of_getElem? (i := 0) rfl) ?_
    refine aw_iload_n (q := 10) (j := 2) rfl rfl rfl (List.mem_of_getElem? (i := 2) rfl) ?_
    refine ag_cvI (z := m_Mo_isGrain) (ci := 11) (av := [.int _]) (st := []) (q := 13) (k' := 0) (n' := 0) rfl rfl cv_Mo_386 ⟨by decide, by decide⟩ rfl rfl (by decide) (by decide) (SX.o hS rfl) rfl rfl rfl (Nat.le_of_ble_eq_true rfl) ?_
    refine GI.mono h (fun y2_ t2_ h => ?_)
    refine aw_if_eq (q := 16) (tgt := 29) rfl rfl (by decide) ⟨fun cd_2 => ?_, fun cd_2 => ?_⟩
    · replace h := h.1 cd_2
      refine aw_iconst (q := 30) (v := 0) rfl rfl (by decide) ?_
      exact aw_ireturn (ty := .boolean) rfl rfl rfl (by decide) (by decide) h
    · replace h := h.2 cd_2
      refine aw_aload_n (q := 17) (j := 0) rfl rfl rfl (List.mem_of_getElem? (i := 0) rfl) ?_
      refine ag_getR (q := 20) rfl rfl fl_Mo_143 rfl (SX.o hS rfl) (SX.r hS rfl) ?_
      refine aw_bipush (q := 22) (v := 90) rfl rfl (by decide) ?_
      refine aw_iload_n (q := 23) (j := 1) rfl rfl rfl (List.mem_of_getElem? (i := 1) rfl) ?_
      refine aw_iadd (q := 24) rfl rfl ?_
      obtain ⟨bd_3, h⟩ := h
      refine ag_iaload (q := 25) (N := 120) rfl rfl (SX.a hS rfl) bd_3 ?_
      refine aw_iload_n (q := 26) (j := 2) rfl rfl rfl (List.mem_of_getElem? (i := 2) rfl) ?_
      refine aw_icmp_ne (q := 29) (tgt := 31) rfl rfl (by decide) ⟨fun cd_4 => ?_, fun cd_4 => ?_⟩
      · replace h := h.1 cd_4
        refine aw_iconst (q := 30) (v := 0) rfl rfl (by decide) ?_
        exact aw_ireturn (ty := .boolean) rfl rfl rfl (by decide) (by decide) h
      · replace h := h.2 cd_4
        refine aw_aload_n (q := 32) (j := 0) rfl rfl rfl (List.mem_of_getElem? (i := 0) rfl) ?_
        refine ag_cvV (z := m_Mo_copies) (ci := 11) (av := []) (st := []) (q := 35) (k' := 0) (n' := 0) rfl rfl cv_Mo_395 ⟨by decide, by decide⟩ rfl rfl (by decide) (by decide) (SX.o hS rfl) rfl rfl rfl (Nat.le_of_ble_eq_true rfl) ?_
        refine GV.mono h (fun t3_ h => ?_)
        refine aw_aload_n (q := 36) (j := 0) rfl rfl rfl (List.mem_of_getElem? (i := 0) rfl) ?_
        refine ag_getR (q := 39) rfl rfl fl_Mo_146 rfl (SX.o hS rfl) (SX.r hS rfl) ?_
        refine aw_bipush (q := 41) (v := 90) rfl rfl (by decide) ?_
        refine aw_iload_n (q := 42) (j := 1) rfl rfl rfl (List.mem_of_getElem? (i := 1) rfl) ?_
        refine aw_iadd (q := 43) rfl rfl ?_
        refine aw_iload_n (q := 44) (j := 2) rfl rfl rfl (List.mem_of_getElem? (i := 2) rfl) ?_
        refine ag_iastore (q := 45) (N := 120) rfl rfl (SX.a hS rfl) bd_3 ?_
        replace h := h _ rfl
        refine aw_aload_n (q := 46) (j := 0) rfl rfl rfl (List.mem_of_getElem? (i := 0) rfl) ?_
        refine ag_cvV (z := m_Mo_keeps) (ci := 11) (av := []) (st := []) (q := 49) (k' := 0) (n' := 0) rfl rfl cv_Mo_404 ⟨by decide, by decide⟩ rfl rfl (by decide) (by decide) (SX.o hS rfl) rfl rfl rfl (Nat.le_of_ble_eq_true rfl) ?_
        refine GV.mono h (fun t5_ h => ?_)
        refine aw_iconst (q := 50) (v := 1) rfl rfl (by decide) ?_
        exact aw_ireturn (ty := .boolean) rfl rfl rfl (by decide) (by decide) h
set_option maxRecDepth 20000 in
theorem v_Mo_give {E : EN} {g : GS} {s : MS} {Q : Option Value → SG → Prop} (x1 : Int32) (x2 : Int32) (x3 : Int32) (hS : SX g) (h : GI E m_Mo_isRat [.ref 120, .int x1] g s (fun y1_ t1_ => ((y1_ = 0 → Q (some (.int 0)) (mk g t1_)) ∧ (¬ y1_ = 0 → GI E m_Mo_isGrain [.ref 120, .int x2] g t1_ (fun y2_ t2_ => ((y2_ = 0 → Q (some (.int 0)) (mk g t2_)) ∧ (¬ y2_ = 0 → ((x3 < 1 → Q (some (.int 0)) (mk g t2_)) ∧ (¬ x3 < 1 → vp_in x2 120 ∧ (((t2_.1 162 ((x2).toNatClampNeg)) < x3 → Q (some (.int 0)) (mk g t2_)) ∧ (¬ (t2_.1 162 ((x2).toNatClampNeg)) < x3 → vp_in (42 + x1) 120 ∧ (((t2_.1 162 (((42 + x1)).toNatClampNeg)) = 0 → GV E m_Mo_copies [.ref 120] g t2_ (fun t3_ => (∀ s4_, s4_ = wi t3_ 163 ((x2).toNatClampNeg) ((t3_.1 163 ((x2).toNatClampNeg)) - x3) → (∀ s5_, s5_ = wi s4_ 163 115 ((s4_.1 163 115) + x3) → vp_in (74 + x1) 120 ∧ (∀ s6_, s6_ = wi s5_ 163 (((74 + x1)).toNatClampNeg) 0 → vp_in (82 + x1) 120 ∧ ((9 ≤ (s6_.1 163 (((82 + x1)).toNatClampNeg)) → GV E m_Mo_keeps [.ref 120] g s6_ (fun t7_ => Q (some (.int 1)) (mk g t7_))) ∧ (¬ 9 ≤ (s6_.1 163 (((82 + x1)).toNatClampNeg)) → (∀ s8_, s8_ = wi s6_ 163 (((82 + x1)).toNatClampNeg) ((s6_.1 163 (((82 + x1)).toNatClampNeg)) + 1) → GV E m_Mo_keeps [.ref 120] g s8_ (fun t9_ => Q (some (.int 1)) (mk g t9_)))))))))) ∧ (¬ (t2_.1 162 (((42 + x1)).toNatClampNeg)) = 0 → Q (some (.int 0)) (mk g t2_)))))))))))))) : AMet E m_Mo_give [.ref 120, .int x1, .int x2, .int x3] (mk g s) Q := by
  refine AMet.of (by decide) k_Mo_give [(0, .ref 120), (1, .int x1), (2, .int x2), (3, .int x3)] (Nat.le_of_ble_eq_true rfl) rfl ?_
  refine aw_aload_n (q := 1) (j := 0) rfl rfl rfl (List.mem_of_getElem? (i := 0) rfl) ?_
  refine aw_iload_n (q := 2) (j := 1) rfl rfl rfl (List.mem_of_getElem? (i := 1) rfl) ?_
  refine ag_cvI (z := m_Mo_isRat) (ci := 11) (av := [.int _]) (st := []) (q := 5) (k' := 0) (n' := 0) rfl rfl cv_Mo_392 ⟨by decide, by decide⟩ rfl rfl (by decide) (by decide) (SX.o hS rfl) rfl rfl rfl (Nat.le_of_ble_eq_true rfl) ?_
  refine GI.mono h (fun y1_ t1_ h => ?_)
  refine aw_if_eq (q := 8) (tgt := 43) rfl rfl (by decide) ⟨fun cd_1 => ?_, fun cd_1 => ?_⟩
  · replace h := h.1 cd_1
    refine aw_iconst (q := 44) (v := 0) rfl rfl (by decide) ?_
    exact aw_ireturn (ty := .boolean) rfl rfl rfl (by decide) (by decide) h
  · replace h := h.2 cd_1
    refine aw_aload_n (q := 9) (j := 0) rfl rfl rfl (List.mem_of_getElem? (i := 0) rfl) ?_
    refine aw_iload_n (q := 10) (j := 2) rfl rfl rfl (List.mem_of_getElem? (i := 2) rfl) ?_
    refine ag_cvI (z := m_Mo_isGrain) (ci := 11) (av := [.int _]) (st := []) (q := 13) (k' := 0) (n' := 0) rfl rfl cv_Mo_386 ⟨by decide, by decide⟩ rfl rfl (by decide) (by decide) (SX.o hS rfl) rfl rfl rfl (Nat.le_of_ble_eq_true rfl) ?_
    refine GI.mono h (fun y2_ t2_ h => ?_)
    refine aw_if_eq (q := 16) (tgt := 43) rfl rfl (by decide) ⟨fun cd_2 => ?_, fun cd_2 => ?_⟩
    · replace h := h.1 cd_2
      refine aw_iconst (q := 44) (v := 0) rfl rfl (by decide) ?_
      exact aw_ireturn (ty := .boolean) rfl rfl rfl (by decide) (by decide) h
    · replace h := h.2 cd_2
      refine aw_iload_n (q := 17) (j := 3) rfl rfl rfl (List.mem_of_getElem? (i := 3) rfl) ?_
      refine aw_iconst (q := 18) (v := 1) rfl rfl (by decide) ?_
      refine aw_icmp_lt (q := 21) (tgt := 43) rfl rfl (by decide) ⟨fun cd_3 => ?_, fun cd_3 => ?_⟩
      · replace h := h.1 cd_3
        refine aw_iconst (q := 44) (v := 0) rfl rfl (by decide) ?_
        exact aw_ireturn (ty := .boolean) rfl rfl rfl (by decide) (by decide) h
      · replace h := h.2 cd_3
        refine aw_iload_n (q := 22) (j := 3) rfl rfl rfl (List.mem_of_getElem? (i := 3) rfl) ?_
        refine aw_aload_n (q := 23) (j := 0) rfl rfl rfl (List.mem_of_getElem? (i := 0) rfl) ?_
        refine ag_getR (q := 26) rfl rfl fl_Mo_143 rfl (SX.o hS rfl) (SX.r hS rfl) ?_
        refine aw_iload_n (q := 27) (j := 2) rfl rfl rfl (List.mem_of_getElem? (i := 2) rfl) ?_
        obtain ⟨bd_4, h⟩ := h
        refine ag_iaload (q := 28) (N := 120) rfl rfl (SX.a hS rfl) bd_4 ?_
        refine aw_icmp_gt (q := 31) (tgt := 43) rfl rfl (by decide) ⟨fun cd_5 => ?_, fun cd_5 => ?_⟩
        · replace h := h.1 cd_5
          refine aw_iconst (q := 44) (v := 0) rfl rfl (by decide) ?_
          exact aw_ireturn (ty := .boolean) rfl rfl rfl (by decide) (by decide) h
        · replace h := h.2 cd_5
          refine aw_aload_n (q := 32) (j := 0) rfl rfl rfl (List.mem_of_getElem? (i := 0) rfl) ?_
          refine ag_getR (q := 35) rfl rfl fl_Mo_143 rfl (SX.o hS rfl) (SX.r hS rfl) ?_
          refine aw_bipush (q := 37) (v := 42) rfl rfl (by decide) ?_
          refine aw_iload_n (q := 38) (j := 1) rfl rfl rfl (List.mem_of_getElem? (i := 1) rfl) ?_
          refine aw_iadd (q := 39) rfl rfl ?_
          obtain ⟨bd_6, h⟩ := h
          refine ag_iaload (q := 40) (N := 120) rfl rfl (SX.a hS rfl) bd_6 ?_
          refine aw_if_eq (q := 43) (tgt := 45) rfl rfl (by decide) ⟨fun cd_7 => ?_, fun cd_7 => ?_⟩
          · replace h := h.1 cd_7
            refine aw_aload_n (q := 46) (j := 0) rfl rfl rfl (List.mem_of_getElem? (i := 0) rfl) ?_
            refine ag_cvV (z := m_Mo_copies) (ci := 11) (av := []) (st := []) (q := 49) (k' := 0) (n' := 0) rfl rfl cv_Mo_395 ⟨by decide, by decide⟩ rfl rfl (by decide) (by decide) (SX.o hS rfl) rfl rfl rfl (Nat.le_of_ble_eq_true rfl) ?_
            refine GV.mono h (fun t3_ h => ?_)
            refine aw_aload_n (q := 50) (j := 0) rfl rfl rfl (List.mem_of_getElem? (i := 0) rfl) ?_
            refine ag_getR (q := 53) rfl rfl fl_Mo_146 rfl (SX.o hS rfl) (SX.r hS rfl) ?_
            refine aw_iload_n (q := 54) (j := 2) rfl rfl rfl (List.mem_of_getElem? (i := 2) rfl) ?_
            refine aw_dup2 (q := 55) rfl rfl rfl rfl ?_
            refine ag_iaload (q := 56) (N := 120) rfl rfl (SX.a hS rfl) bd_4 ?_
            refine aw_iload_n (q := 57) (j := 3) rfl rfl rfl (List.mem_of_getElem? (i := 3) rfl) ?_
            refine aw_isub (q := 58) rfl rfl ?_
            refine ag_iastore (q := 59) (N := 120) rfl rfl (SX.a hS rfl) bd_4 ?_
            replace h := h _ rfl
            refine aw_aload_n (q := 60) (j := 0) rfl rfl rfl (List.mem_of_getElem? (i := 0) rfl) ?_
            refine ag_getR (q := 63) rfl rfl fl_Mo_146 rfl (SX.o hS rfl) (SX.r hS rfl) ?_
            refine aw_bipush (q := 65) (v := 115) rfl rfl (by decide) ?_
            refine aw_dup2 (q := 66) rfl rfl rfl rfl ?_
            refine ag_iaload (q := 67) (N := 120) rfl rfl (SX.a hS rfl) (by unfold vp_in; decide) ?_
            refine aw_iload_n (q := 68) (j := 3) rfl rfl rfl (List.mem_of_getElem? (i := 3) rfl) ?_
            refine aw_iadd (q := 69) rfl rfl ?_
            refine ag_iastore (q := 70) (N := 120) rfl rfl (SX.a hS rfl) (by unfold vp_in; decide) ?_
            replace h := h _ rfl
            refine aw_aload_n (q := 71) (j := 0) rfl rfl rfl (List.mem_of_getElem? (i := 0) rfl) ?_
            refine ag_getR (q := 74) rfl rfl fl_Mo_146 rfl (SX.o hS rfl) (SX.r hS rfl) ?_
            refine aw_bipush (q := 76) (v := 74) rfl rfl (by decide) ?_
            refine aw_iload_n (q := 77) (j := 1) rfl rfl rfl (List.mem_of_getElem? (i := 1) rfl) ?_
            refine aw_iadd (q := 78) rfl rfl ?_
            refine aw_iconst (q := 79) (v := 0) rfl rfl (by decide) ?_
            obtain ⟨bd_8, h⟩ := h
            refine ag_iastore (q := 80) (N := 120) rfl rfl (SX.a hS rfl) bd_8 ?_
            replace h := h _ rfl
            refine aw_aload_n (q := 81) (j := 0) rfl rfl rfl (List.mem_of_getElem? (i := 0) rfl) ?_
            refine ag_getR (q := 84) rfl rfl fl_Mo_146 rfl (SX.o hS rfl) (SX.r hS rfl) ?_
            refine aw_bipush (q := 86) (v := 82) rfl rfl (by decide) ?_
            refine aw_iload_n (q := 87) (j := 1) rfl rfl rfl (List.mem_of_getElem? (i := 1) rfl) ?_
            refine aw_iadd (q := 88) rfl rfl ?_
            obtain ⟨bd_9, h⟩ := h
            refine ag_iaload (q := 89) (N := 120) rfl rfl (SX.a hS rfl) bd_9 ?_
            refine aw_bipush (q := 91) (v := 9) rfl rfl (by decide) ?_
            refine aw_icmp_ge (q := 94) (tgt := 107) rfl rfl (by decide) ⟨fun cd_10 => ?_, fun cd_10 => ?_⟩
            · replace h := h.1 cd_10
              refine aw_aload_n (q := 108) (j := 0) rfl rfl rfl (List.mem_of_getElem? (i := 0) rfl) ?_
              refine ag_cvV (z := m_Mo_keeps) (ci := 11) (av := []) (st := []) (q := 111) (k' := 0) (n' := 0) rfl rfl cv_Mo_404 ⟨by decide, by decide⟩ rfl rfl (by decide) (by decide) (SX.o hS rfl) rfl rfl rfl (Nat.le_of_ble_eq_true rfl) ?_
              refine GV.mono h (fun t7_ h => ?_)
              refine aw_iconst (q := 112) (v := 1) rfl rfl (by decide) ?_
              exact aw_ireturn (ty := .boolean) rfl rfl rfl (by decide) (by decide) h
            · replace h := h.2 cd_10
              refine aw_aload_n (q := 95) (j := 0) rfl rfl rfl (List.mem_of_getElem? (i := 0) rfl) ?_
              refine ag_getR (q := 98) rfl rfl fl_Mo_146 rfl (SX.o hS rfl) (SX.r hS rfl) ?_
              refine aw_bipush (q := 100) (v := 82) rfl rfl (by decide) ?_
              refine aw_iload_n (q := 101) (j := 1) rfl rfl rfl (List.mem_of_getElem? (i := 1) rfl) ?_
              refine aw_iadd (q := 102) rfl rfl ?_
              refine aw_dup2 (q := 103) rfl rfl rfl rfl ?_
              refine ag_iaload (q := 104) (N := 120) rfl rfl (SX.a hS rfl) bd_9 ?_
              refine aw_iconst (q := 105) (v := 1) rfl rfl (by decide) ?_
              refine aw_iadd (q := 106) rfl rfl ?_
              refine ag_iastore (q := 107) (N := 120) rfl rfl (SX.a hS rfl) bd_9 ?_
              replace h := h _ rfl
              refine aw_aload_n (q := 108) (j := 0) rfl rfl rfl (List.mem_of_getElem? (i := 0) rfl) ?_
              refine ag_cvV (z := m_Mo_keeps) (ci := 11) (av := []) (st := []) (q := 111) (k' := 0) (n' := 0) rfl rfl cv_Mo_404 ⟨by decide, by decide⟩ rfl rfl (by decide) (by decide) (SX.o hS rfl) rfl rfl rfl (Nat.le_of_ble_eq_true rfl) ?_
              refine GV.mono h (fun t9_ h => ?_)
              refine aw_iconst (q := 112) (v := 1) rfl rfl (by decide) ?_
              exact aw_ireturn (ty := .boolean) rfl rfl rfl (by decide) (by decide) h
          · replace h := h.2 cd_7
            refine aw_iconst (q := 44) (v := 0) rfl rfl (by decide) ?_
            exact aw_ireturn (ty := .boolean) rfl rfl rfl (by decide) (by decide) h
set_option maxRecDepth 20000 in
theorem v_Mo_send {E : EN} {g : GS} {s : MS} {Q : Option Value → SG → Prop} (x1 : Int32) (x2 : Int32) (hS : SX g) (h : GI E m_Mo_isRat [.ref 120, .int x1] g s (fun y1_ t1_ => ((y1_ = 0 → Q (some (.int 0)) (mk g t1_)) ∧ (¬ y1_ = 0 → vp_in (42 + x1) 120 ∧ (((t1_.1 162 (((42 + x1)).toNatClampNeg)) = 3 → ((1 = x2 → Q (some (.int 0)) (mk g t1_)) ∧ (¬ 1 = x2 → GV E m_Mo_copies [.ref 120] g t1_ (fun t2_ => ((x2 = 0 → (∀ s3_, s3_ = wi t2_ 163 (((42 + x1)).toNatClampNeg) 0 → GV E m_Mo_keeps [.ref 120] g s3_ (fun t4_ => Q (some (.int 1)) (mk g t4_)))) ∧ (¬ x2 = 0 → GV E m_Mo_goesHome [.ref 120, .int x1] g t2_ (fun t5_ => GV E m_Mo_keeps [.ref 120] g t5_ (fun t6_ => Q (some (.int 1)) (mk g t6_))))))))) ∧ (¬ (t1_.1 162 (((42 + x1)).toNatClampNeg)) = 3 → ((0 = x2 → Q (some (.int 0)) (mk g t1_)) ∧ (¬ 0 = x2 → GV E m_Mo_copies [.ref 120] g t1_ (fun t7_ => ((x2 = 0 → (∀ s8_, s8_ = wi t7_ 163 (((42 + x1)).toNatClampNeg) 0 → GV E m_Mo_keeps [.ref 120] g s8_ (fun t9_ => Q (some (.int 1)) (mk g t9_)))) ∧ (¬ x2 = 0 → GV E m_Mo_goesHome [.ref 120, .int x1] g t7_ (fun t10_ => GV E m_Mo_keeps [.ref 120] g t10_ (fun t11_ => Q (some (.int 1)) (mk g t11_)))))))))))))) : AMet E m_Mo_send [.ref 120, .int x1, .int x2] (mk g s) Q := by
  refine AMet.of (by decide) k_Mo_send [(0, .ref 120), (1, .int x1), (2, .int x2)] (Nat.le_of_ble_eq_true rfl) rfl ?_
  refine aw_aload_n (q := 1) (j := 0) rfl rfl rfl (List.mem_of_getElem? (i := 0) rfl) ?_
  refine aw_iload_n (q := 2) (j := 1) rfl rfl rfl (List.mem_of_getElem? (i := 1) rfl) ?_
  refine ag_cvI (z := m_Mo_isRat) (ci := 11) (av := [.int _]) (st := []) (q := 5) (k' := 0) (n' := 0) rfl rfl cv_Mo_392 ⟨by decide, by decide⟩ rfl rfl (by decide) (by decide) (SX.o hS rfl) rfl rfl rfl (Nat.le_of_ble_eq_true rfl) ?_
  refine GI.mono h (fun y1_ t1_ h => ?_)
  refine aw_if_eq (q := 8) (tgt := 30) rfl rfl (by decide) ⟨fun cd_1 => ?_, fun cd_1 => ?_⟩
  · replace h := h.1 cd_1
    refine aw_iconst (q := 31) (v := 0) rfl rfl (by decide) ?_
    exact aw_ireturn (ty := .boolean) rfl rfl rfl (by decide) (by decide) h
  · replace h := h.2 cd_1
    refine aw_aload_n (q := 9) (j := 0) rfl rfl rfl (List.mem_of_getElem? (i := 0) rfl) ?_
    refine ag_getR (q := 12) rfl rfl fl_Mo_143 rfl (SX.o hS rfl) (SX.r hS rfl) ?_
    refine aw_bipush (q := 14) (v := 42) rfl rfl (by decide) ?_
    refine aw_iload_n (q := 15) (j := 1) rfl rfl rfl (List.mem_of_getElem? (i := 1) rfl) ?_
    refine aw_iadd (q := 16) rfl rfl ?_
    obtain ⟨bd_2, h⟩ := h
    refine ag_iaload (q := 17) (N := 120) rfl rfl (SX.a hS rfl) bd_2 ?_
    refine aw_iconst (q := 18) (v := 3) rfl rfl (by decide) ?_
    refine aw_icmp_ne (q := 21) (tgt := 25) rfl rfl (by decide) ⟨fun cd_3 => ?_, fun cd_3 => ?_⟩
    · replace h := h.1 cd_3
      refine aw_iconst (q := 22) (v := 1) rfl rfl (by decide) ?_
      refine aw_goto (tgt := 26) rfl (by decide) ?_
      refine aw_iload_n (q := 27) (j := 2) rfl rfl rfl (List.mem_of_getElem? (i := 2) rfl) ?_
      refine aw_icmp_ne (q := 30) (tgt := 32) rfl rfl (by decide) ⟨fun cd_4 => ?_, fun cd_4 => ?_⟩
      · replace h := h.1 cd_4
        refine aw_iconst (q := 31) (v := 0) rfl rfl (by decide) ?_
        exact aw_ireturn (ty := .boolean) rfl rfl rfl (by decide) (by decide) h
      · replace h := h.2 cd_4
        refine aw_aload_n (q := 33) (j := 0) rfl rfl rfl (List.mem_of_getElem? (i := 0) rfl) ?_
        refine ag_cvV (z := m_Mo_copies) (ci := 11) (av := []) (st := []) (q := 36) (k' := 0) (n' := 0) rfl rfl cv_Mo_395 ⟨by decide, by decide⟩ rfl rfl (by decide) (by decide) (SX.o hS rfl) rfl rfl rfl (Nat.le_of_ble_eq_true rfl) ?_
        refine GV.mono h (fun t2_ h => ?_)
        refine aw_iload_n (q := 37) (j := 2) rfl rfl rfl (List.mem_of_getElem? (i := 2) rfl) ?_
        refine aw_if_eq (q := 40) (tgt := 48) rfl rfl (by decide) ⟨fun cd_5 => ?_, fun cd_5 => ?_⟩
        · replace h := h.1 cd_5
          refine aw_aload_n (q := 49) (j := 0) rfl rfl rfl (List.mem_of_getElem? (i := 0) rfl) ?_
          refine ag_getR (q := 52) rfl rfl fl_Mo_146 rfl (SX.o hS rfl) (SX.r hS rfl) ?_
          refine aw_bipush (q := 54) (v := 42) rfl rfl (by decide) ?_
          refine aw_iload_n (q := 55) (j := 1) rfl rfl rfl (List.mem_of_getElem? (i := 1) rfl) ?_
          refine aw_iadd (q := 56) rfl rfl ?_
          refine aw_iconst (q := 57) (v := 0) rfl rfl (by decide) ?_
          refine ag_iastore (q := 58) (N := 120) rfl rfl (SX.a hS rfl) bd_2 ?_
          replace h := h _ rfl
          refine aw_aload_n (q := 59) (j := 0) rfl rfl rfl (List.mem_of_getElem? (i := 0) rfl) ?_
          refine ag_cvV (z := m_Mo_keeps) (ci := 11) (av := []) (st := []) (q := 62) (k' := 0) (n' := 0) rfl rfl cv_Mo_404 ⟨by decide, by decide⟩ rfl rfl (by decide) (by decide) (SX.o hS rfl) rfl rfl rfl (Nat.le_of_ble_eq_true rfl) ?_
          refine GV.mono h (fun t4_ h => ?_)
          refine aw_iconst (q := 63) (v := 1) rfl rfl (by decide) ?_
          exact aw_ireturn (ty := .boolean) rfl rfl rfl (by decide) (by decide) h
        · replace h := h.2 cd_5
          refine aw_aload_n (q := 41) (j := 0) rfl rfl rfl (List.mem_of_getElem? (i := 0) rfl) ?_
          refine aw_iload_n (q := 42) (j := 1) rfl rfl rfl (List.mem_of_getElem? (i := 1) rfl) ?_
          refine ag_cvV (z := m_Mo_goesHome) (ci := 11) (av := [.int _]) (st := []) (q := 45) (k' := 0) (n' := 0) rfl rfl cv_Mo_410 ⟨by decide, by decide⟩ rfl rfl (by decide) (by decide) (SX.o hS rfl) rfl rfl rfl (Nat.le_of_ble_eq_true rfl) ?_
          refine GV.mono h (fun t5_ h => ?_)
          refine aw_goto (tgt := 58) rfl (by decide) ?_
          refine aw_aload_n (q := 59) (j := 0) rfl rfl rfl (List.mem_of_getElem? (i := 0) rfl) ?_
          refine ag_cvV (z := m_Mo_keeps) (ci := 11) (av := []) (st := []) (q := 62) (k' := 0) (n' := 0) rfl rfl cv_Mo_404 ⟨by decide, by decide⟩ rfl rfl (by decide) (by decide) (SX.o hS rfl) rfl rfl rfl (Nat.le_of_ble_eq_true rfl) ?_
          refine GV.mono h (fun t6_ h => ?_)
          refine aw_iconst (q := 63) (v := 1) rfl rfl (by decide) ?_
          exact aw_ireturn (ty := .boolean) rfl rfl rfl (by decide) (by decide) h
    · replace h := h.2 cd_3
      refine aw_iconst (q := 26) (v := 0) rfl rfl (by decide) ?_
      refine aw_iload_n (q := 27) (j := 2) rfl rfl rfl (List.mem_of_getElem? (i := 2) rfl) ?_
      refine aw_icmp_ne (q := 30) (tgt := 32) rfl rfl (by decide) ⟨fun cd_6 => ?_, fun cd_6 => ?_⟩
      · replace h := h.1 cd_6
        refine aw_iconst (q := 31) (v := 0) rfl rfl (by decide) ?_
        exact aw_ireturn (ty := .boolean) rfl rfl rfl (by decide) (by decide) h
      · replace h := h.2 cd_6
        refine aw_aload_n (q := 33) (j := 0) rfl rfl rfl (List.mem_of_getElem? (i := 0) rfl) ?_
        refine ag_cvV (z := m_Mo_copies) (ci := 11) (av := []) (st := []) (q := 36) (k' := 0) (n' := 0) rfl rfl cv_Mo_395 ⟨by decide, by decide⟩ rfl rfl (by decide) (by decide) (SX.o hS rfl) rfl rfl rfl (Nat.le_of_ble_eq_true rfl) ?_
        refine GV.mono h (fun t7_ h => ?_)
        refine aw_iload_n (q := 37) (j := 2) rfl rfl rfl (List.mem_of_getElem? (i := 2) rfl) ?_
        refine aw_if_eq (q := 40) (tgt := 48) rfl rfl (by decide) ⟨fun cd_7 => ?_, fun cd_7 => ?_⟩
        · replace h := h.1 cd_7
          refine aw_aload_n (q := 49) (j := 0) rfl rfl rfl (List.mem_of_getElem? (i := 0) rfl) ?_
          refine ag_getR (q := 52) rfl rfl fl_Mo_146 rfl (SX.o hS rfl) (SX.r hS rfl) ?_
          refine aw_bipush (q := 54) (v := 42) rfl rfl (by decide) ?_
          refine aw_iload_n (q := 55) (j := 1) rfl rfl rfl (List.mem_of_getElem? (i := 1) rfl) ?_
          refine aw_iadd (q := 56) rfl rfl ?_
          refine aw_iconst (q := 57) (v := 0) rfl rfl (by decide) ?_
          refine ag_iastore (q := 58) (N := 120) rfl rfl (SX.a hS rfl) bd_2 ?_
          replace h := h _ rfl
          refine aw_aload_n (q := 59) (j := 0) rfl rfl rfl (List.mem_of_getElem? (i := 0) rfl) ?_
          refine ag_cvV (z := m_Mo_keeps) (ci := 11) (av := []) (st := []) (q := 62) (k' := 0) (n' := 0) rfl rfl cv_Mo_404 ⟨by decide, by decide⟩ rfl rfl (by decide) (by decide) (SX.o hS rfl) rfl rfl rfl (Nat.le_of_ble_eq_true rfl) ?_
          refine GV.mono h (fun t9_ h => ?_)
          refine aw_iconst (q := 63) (v := 1) rfl rfl (by decide) ?_
          exact aw_ireturn (ty := .boolean) rfl rfl rfl (by decide) (by decide) h
        · replace h := h.2 cd_7
          refine aw_aload_n (q := 41) (j := 0) rfl rfl rfl (List.mem_of_getElem? (i := 0) rfl) ?_
          refine aw_iload_n (q := 42) (j := 1) rfl rfl rfl (List.mem_of_getElem? (i := 1) rfl) ?_
          refine ag_cvV (z := m_Mo_goesHome) (ci := 11) (av := [.int _]) (st := []) (q := 45) (k' := 0) (n' := 0) rfl rfl cv_Mo_410 ⟨by decide, by decide⟩ rfl rfl (by decide) (by decide) (SX.o hS rfl) rfl rfl rfl (Nat.le_of_ble_eq_true rfl) ?_
          refine GV.mono h (fun t10_ h => ?_)
          refine aw_goto (tgt := 58) rfl (by decide) ?_
          refine aw_aload_n (q := 59) (j := 0) rfl rfl rfl (List.mem_of_getElem? (i := 0) rfl) ?_
          refine ag_cvV (z := m_Mo_keeps) (ci := 11) (av := []) (st := []) (q := 62) (k' := 0) (n' := 0) rfl rfl cv_Mo_404 ⟨by decide, by decide⟩ rfl rfl (by decide) (by decide) (SX.o hS rfl) rfl rfl rfl (Nat.le_of_ble_eq_true rfl) ?_
          refine GV.mono h (fun t11_ h => ?_)
          refine aw_iconst (q := 63) (v := 1) rfl rfl (by decide) ?_
          exact aw_ireturn (ty := .boolean) rfl rfl rfl (by decide) (by decide) h
set_option maxRecDepth 20000 in
theorem v_Mo_goesHome {E : EN} {g : GS} {s : MS} {Q : Option Value → SG → Prop} (x1 : Int32) (hS : SX g) (h : vp_in (58 + x1) 120 ∧ (((s.1 163 (((58 + x1)).toNatClampNeg)) ≤ 0 → (∀ s1_, s1_ = wi s 163 (((58 + x1)).toNatClampNeg) 0 → vp_in (66 + x1) 120 ∧ (∀ s2_, s2_ = wi s1_ 163 (((66 + x1)).toNatClampNeg) (-2) → vp_in (106 + x1) 120 ∧ (∀ s3_, s3_ = wi s2_ 163 (((106 + x1)).toNatClampNeg) (-2) → vp_in (50 + x1) 120 ∧ (∀ s4_, s4_ = wi s3_ 163 (((50 + x1)).toNatClampNeg) 0 → vp_in (42 + x1) 120 ∧ (∀ s5_, s5_ = wi s4_ 163 (((42 + x1)).toNatClampNeg) 3 → Q none (mk g s5_))))))) ∧ (¬ (s.1 163 (((58 + x1)).toNatClampNeg)) ≤ 0 → vp_in (66 + x1) 120 ∧ vp_in (s.1 163 (((66 + x1)).toNatClampNeg)) 120 ∧ (∀ s6_, s6_ = wi s 163 (((s.1 163 (((66 + x1)).toNatClampNeg))).toNatClampNeg) ((s.1 163 (((s.1 163 (((66 + x1)).toNatClampNeg))).toNatClampNeg)) + (s.1 163 (((58 + x1)).toNatClampNeg))) → (∀ s7_, s7_ = wi s6_ 163 (((58 + x1)).toNatClampNeg) 0 → (∀ s8_, s8_ = wi s7_ 163 (((66 + x1)).toNatClampNeg) (-2) → vp_in (106 + x1) 120 ∧ (∀ s9_, s9_ = wi s8_ 163 (((106 + x1)).toNatClampNeg) (-2) → vp_in (50 + x1) 120 ∧ (∀ s10_, s10_ = wi s9_ 163 (((50 + x1)).toNatClampNeg) 0 → vp_in (42 + x1) 120 ∧ (∀ s11_, s11_ = wi s10_ 163 (((42 + x1)).toNatClampNeg) 3 → Q none (mk g s11_)))))))))) : AMet E m_Mo_goesHome [.ref 120, .int x1] (mk g s) Q := by
  refine AMet.of (by decide) k_Mo_goesHome [(0, .ref 120), (1, .int x1)] (Nat.le_of_ble_eq_true rfl) rfl ?_
  refine aw_aload_n (q := 1) (j := 0) rfl rfl rfl (List.mem_of_getElem? (i := 0) rfl) ?_
  refine ag_getR (q := 4) rfl rfl fl_Mo_146 rfl (SX.o hS rfl) (SX.r hS rfl) ?_
  refine aw_bipush (q := 6) (v := 58) rfl rfl (by decide) ?_
  refine aw_iload_n (q := 7) (j := 1) rfl rfl rfl (List.mem_of_getElem? (i := 1) rfl) ?_
  refine aw_iadd (q := 8) rfl rfl ?_
  obtain ⟨bd_1, h⟩ := h
  refine ag_iaload (q := 9) (N := 120) rfl rfl (SX.a hS rfl) bd_1 ?_
  refine aw_if_le (q := 12) (tgt := 38) rfl rfl (by decide) ⟨fun cd_2 => ?_, fun cd_2 => ?_⟩
  · replace h := h.1 cd_2
    refine aw_aload_n (q := 39) (j := 0) rfl rfl rfl (List.mem_of_getElem? (i := 0) rfl) ?_
    refine ag_getR (q := 42) rfl rfl fl_Mo_146 rfl (SX.o hS rfl) (SX.r hS rfl) ?_
    refine aw_bipush (q := 44) (v := 58) rfl rfl (by decide) ?_
    refine aw_iload_n (q := 45) (j := 1) rfl rfl rfl (List.mem_of_getElem? (i := 1) rfl) ?_
    refine aw_iadd (q := 46) rfl rfl ?_
    refine aw_iconst (q := 47) (v := 0) rfl rfl (by decide) ?_
    refine ag_iastore (q := 48) (N := 120) rfl rfl (SX.a hS rfl) bd_1 ?_
    replace h := h _ rfl
    refine aw_aload_n (q := 49) (j := 0) rfl rfl rfl (List.mem_of_getElem? (i := 0) rfl) ?_
    refine ag_getR (q := 52) rfl rfl fl_Mo_146 rfl (SX.o hS rfl) (SX.r hS rfl) ?_
    refine aw_bipush (q := 54) (v := 66) rfl rfl (by decide) ?_
    refine aw_iload_n (q := 55) (j := 1) rfl rfl rfl (List.mem_of_getElem? (i := 1) rfl) ?_
    refine aw_iadd (q := 56) rfl rfl ?_
    refine aw_bipush (q := 58) (v := (-2)) rfl rfl (by decide) ?_
    obtain ⟨bd_3, h⟩ := h
    refine ag_iastore (q := 59) (N := 120) rfl rfl (SX.a hS rfl) bd_3 ?_
    replace h := h _ rfl
    refine aw_aload_n (q := 60) (j := 0) rfl rfl rfl (List.mem_of_getElem? (i := 0) rfl) ?_
    refine ag_getR (q := 63) rfl rfl fl_Mo_146 rfl (SX.o hS rfl) (SX.r hS rfl) ?_
    refine aw_bipush (q := 65) (v := 106) rfl rfl (by decide) ?_
    refine aw_iload_n (q := 66) (j := 1) rfl rfl rfl (List.mem_of_getElem? (i := 1) rfl) ?_
    refine aw_iadd (q := 67) rfl rfl ?_
    refine aw_bipush (q := 69) (v := (-2)) rfl rfl (by decide) ?_
    obtain ⟨bd_4, h⟩ := h
    refine ag_iastore (q := 70) (N := 120) rfl rfl (SX.a hS rfl) bd_4 ?_
    replace h := h _ rfl
    refine aw_aload_n (q := 71) (j := 0) rfl rfl rfl (List.mem_of_getElem? (i := 0) rfl) ?_
    refine ag_getR (q := 74) rfl rfl fl_Mo_146 rfl (SX.o hS rfl) (SX.r hS rfl) ?_
    refine aw_bipush (q := 76) (v := 50) rfl rfl (by decide) ?_
    refine aw_iload_n (q := 77) (j := 1) rfl rfl rfl (List.mem_of_getElem? (i := 1) rfl) ?_
    refine aw_iadd (q := 78) rfl rfl ?_
    refine aw_iconst (q := 79) (v := 0) rfl rfl (by decide) ?_
    obtain ⟨bd_5, h⟩ := h
    refine ag_iastore (q := 80) (N := 120) rfl rfl (SX.a hS rfl) bd_5 ?_
    replace h := h _ rfl
    refine aw_aload_n (q := 81) (j := 0) rfl rfl rfl (List.mem_of_getElem? (i := 0) rfl) ?_
    refine ag_getR (q := 84) rfl rfl fl_Mo_146 rfl (SX.o hS rfl) (SX.r hS rfl) ?_
    refine aw_bipush (q := 86) (v := 42) rfl rfl (by decide) ?_
    refine aw_iload_n (q := 87) (j := 1) rfl rfl rfl (List.mem_of_getElem? (i := 1) rfl) ?_
    refine aw_iadd (q := 88) rfl rfl ?_
    refine aw_iconst (q := 89) (v := 3) rfl rfl (by decide) ?_
    obtain ⟨bd_6, h⟩ := h
    refine ag_iastore (q := 90) (N := 120) rfl rfl (SX.a hS rfl) bd_6 ?_
    replace h := h _ rfl
    exact aw_return rfl rfl (by decide) (by decide) h
  · replace h := h.2 cd_2
    refine aw_aload_n (q := 13) (j := 0) rfl rfl rfl (List.mem_of_getElem? (i := 0) rfl) ?_
    refine ag_getR (q := 16) rfl rfl fl_Mo_146 rfl (SX.o hS rfl) (SX.r hS rfl) ?_
    refine aw_aload_n (q := 17) (j := 0) rfl rfl rfl (List.mem_of_getElem? (i := 0) rfl) ?_
    refine ag_getR (q := 20) rfl rfl fl_Mo_146 rfl (SX.o hS rfl) (SX.r hS rfl) ?_
    refine aw_bipush (q := 22) (v := 66) rfl rfl (by decide) ?_
    refine aw_iload_n (q := 23) (j := 1) rfl rfl rfl (List.mem_of_getElem? (i := 1) rfl) ?_
    refine aw_iadd (q := 24) rfl rfl ?_
    obtain ⟨bd_7, h⟩ := h
    refine ag_iaload (q := 25) (N := 120) rfl rfl (SX.a hS rfl) bd_7 ?_
    refine aw_dup2 (q := 26) rfl rfl rfl rfl ?_
    obtain ⟨bd_8, h⟩ := h
    refine ag_iaload (q := 27) (N := 120) rfl rfl (SX.a hS rfl) bd_8 ?_
    refine aw_aload_n (q := 28) (j := 0) rfl rfl rfl (List.mem_of_getElem? (i := 0) rfl) ?_
    refine ag_getR (q := 31) rfl rfl fl_Mo_146 rfl (SX.o hS rfl) (SX.r hS rfl) ?_
    refine aw_bipush (q := 33) (v := 58) rfl rfl (by decide) ?_
    refine aw_iload_n (q := 34) (j := 1) rfl rfl rfl (List.mem_of_getElem? (i := 1) rfl) ?_
    refine aw_iadd (q := 35) rfl rfl ?_
    refine ag_iaload (q := 36) (N := 120) rfl rfl (SX.a hS rfl) bd_1 ?_
    refine aw_iadd (q := 37) rfl rfl ?_
    refine ag_iastore (q := 38) (N := 120) rfl rfl (SX.a hS rfl) bd_8 ?_
    replace h := h _ rfl
    refine aw_aload_n (q := 39) (j := 0) rfl rfl rfl (List.mem_of_getElem? (i := 0) rfl) ?_
    refine ag_getR (q := 42) rfl rfl fl_Mo_146 rfl (SX.o hS rfl) (SX.r hS rfl) ?_
    refine aw_bipush (q := 44) (v := 58) rfl rfl (by decide) ?_
    refine aw_iload_n (q := 45) (j := 1) rfl rfl rfl (List.mem_of_getElem? (i := 1) rfl) ?_
    refine aw_iadd (q := 46) rfl rfl ?_
    refine aw_iconst (q := 47) (v := 0) rfl rfl (by decide) ?_
    refine ag_iastore (q := 48) (N := 120) rfl rfl (SX.a hS rfl) bd_1 ?_
    replace h := h _ rfl
    refine aw_aload_n (q := 49) (j := 0) rfl rfl rfl (List.mem_of_getElem? (i := 0) rfl) ?_
    refine ag_getR (q := 52) rfl rfl fl_Mo_146 rfl (SX.o hS rfl) (SX.r hS rfl) ?_
    refine aw_bipush (q := 54) (v := 66) rfl rfl (by decide) ?_
    refine aw_iload_n (q := 55) (j := 1) rfl rfl rfl (List.mem_of_getElem? (i := 1) rfl) ?_
    refine aw_iadd (q := 56) rfl rfl ?_
    refine aw_bipush (q := 58) (v := (-2)) rfl rfl (by decide) ?_
    refine ag_iastore (q := 59) (N := 120) rfl rfl (SX.a hS rfl) bd_7 ?_
    replace h := h _ rfl
    refine aw_aload_n (q := 60) (j := 0) rfl rfl rfl (List.mem_of_getElem? (i := 0) rfl) ?_
    refine ag_getR (q := 63) rfl rfl fl_Mo_146 rfl (SX.o hS rfl) (SX.r hS rfl) ?_
    refine aw_bipush (q := 65) (v := 106) rfl rfl (by decide) ?_
    refine aw_iload_n (q := 66) (j := 1) rfl rfl rfl (List.mem_of_getElem? (i := 1) rfl) ?_
    refine aw_iadd (q := 67) rfl rfl ?_
    refine aw_bipush (q := 69) (v := (-2)) rfl rfl (by decide) ?_
    obtain ⟨bd_9, h⟩ := h
    refine ag_iastore (q := 70) (N := 120) rfl rfl (SX.a hS rfl) bd_9 ?_
    replace h := h _ rfl
    refine aw_aload_n (q := 71) (j := 0) rfl rfl rfl (List.mem_of_getElem? (i := 0) rfl) ?_
    refine ag_getR (q := 74) rfl rfl fl_Mo_146 rfl (SX.o hS rfl) (SX.r hS rfl) ?_
    refine aw_bipush (q := 76) (v := 50) rfl rfl (by decide) ?_
    refine aw_iload_n (q := 77) (j := 1) rfl rfl rfl (List.mem_of_getElem? (i := 1) rfl) ?_
    refine aw_iadd (q := 78) rfl rfl ?_
    refine aw_iconst (q := 79) (v := 0) rfl rfl (by decide) ?_
    obtain ⟨bd_10, h⟩ := h
    refine ag_iastore (q := 80) (N := 120) rfl rfl (SX.a hS rfl) bd_10 ?_
    replace h := h _ rfl
    refine aw_aload_n (q := 81) (j := 0) rfl rfl rfl (List.mem_of_getElem? (i := 0) rfl) ?_
    refine ag_getR (q := 84) rfl rfl fl_Mo_146 rfl (SX.o hS rfl) (SX.r hS rfl) ?_
    refine aw_bipush (q := 86) (v := 42) rfl rfl (by decide) ?_
    refine aw_iload_n (q := 87) (j := 1) rfl rfl rfl (List.mem_of_getElem? (i := 1) rfl) ?_
    refine aw_iadd (q := 88) rfl rfl ?_
    refine aw_iconst (q := 89) (v := 3) rfl rfl (by decide) ?_
    obtain ⟨bd_11, h⟩ := h
    refine ag_iastore (q := 90) (N := 120) rfl rfl (SX.a hS rfl) bd_11 ?_
    replace h := h _ rfl
    exact aw_return rfl rfl (by decide) (by decide) h
set_option maxRecDepth 20000 in
theorem v_Mo_cat {E : EN} {g : GS} {s : MS} {Q : Option Value → SG → Prop} (x1 : Int32) (hS : SX g) (h : GI E m_Mo_in [.int x1, .int 1, .int 99] g s (fun y1_ t1_ => ((y1_ = 0 → Q (some (.int (-1))) (mk g t1_)) ∧ (¬ y1_ = 0 → ((((t1_.1 162 118) + x1) ≤ 999 → GV E m_Mo_copies [.ref 120] g t1_ (fun t2_ => (∀ s3_, s3_ = wi t2_ 163 118 ((t2_.1 163 118) + x1) → GV E m_Mo_keeps [.ref 120] g s3_ (fun t4_ => Q (some (.int (t4_.1 162 118))) (mk g t4_))))) ∧ (¬ ((t1_.1 162 118) + x1) ≤ 999 → Q (some (.int (-1))) (mk g t1_))))))) : AMet E m_Mo_cat [.ref 120, .int x1] (mk g s) Q := by
  refine AMet.of (by decide) k_Mo_cat [(0, .ref 120), (1, .int x1)] (Nat.le_of_ble_eq_true rfl) rfl ?_
  refine aw_iload_n (q := 1) (j := 1) rfl rfl rfl (List.mem_of_getElem? (i := 1) rfl) ?_
  refine aw_iconst (q := 2) (v := 1) rfl rfl (by decide) ?_
  refine aw_bipush (q := 4) (v := 99) rfl rfl (by decide) ?_
  refine ag_csI (z := m_Mo_in) (av := [.int _, .int _, .int _]) (st := []) (q := 7) (k' := 0) (n' := 0) rfl rfl cs_Mo_350 ⟨by decide, by decide⟩ rfl rfl (by decide) (by decide) rfl rfl (Nat.le_of_ble_eq_true rfl) ?_
  refine GI.mono h (fun y1_ t1_ h => ?_)
  refine aw_if_eq (q := 10) (tgt := 25) rfl rfl (by decide) ⟨fun cd_1 => ?_, fun cd_1 => ?_⟩
  · replace h := h.1 cd_1
    refine aw_iconst (q := 26) (v := (-1)) rfl rfl (by decide) ?_
    exact aw_ireturn (ty := .int) rfl rfl rfl (by decide) (by decide) h
  · replace h := h.2 cd_1
    refine aw_aload_n (q := 11) (j := 0) rfl rfl rfl (List.mem_of_getElem? (i := 0) rfl) ?_
    refine ag_getR (q := 14) rfl rfl fl_Mo_143 rfl (SX.o hS rfl) (SX.r hS rfl) ?_
    refine aw_bipush (q := 16) (v := 118) rfl rfl (by decide) ?_
    refine ag_iaload (q := 17) (N := 120) rfl rfl (SX.a hS rfl) (by unfold vp_in; decide) ?_
    refine aw_iload_n (q := 18) (j := 1) rfl rfl rfl (List.mem_of_getElem? (i := 1) rfl) ?_
    refine aw_iadd (q := 19) rfl rfl ?_
    refine aw_sipush (q := 22) (v := 999) rfl rfl (by decide) ?_
    refine aw_icmp_le (q := 25) (tgt := 27) rfl rfl (by decide) ⟨fun cd_2 => ?_, fun cd_2 => ?_⟩
    · replace h := h.1 cd_2
      refine aw_aload_n (q := 28) (j := 0) rfl rfl rfl (List.mem_of_getElem? (i := 0) rfl) ?_
      refine ag_cvV (z := m_Mo_copies) (ci := 11) (av := []) (st := []) (q := 31) (k' := 0) (n' := 0) rfl rfl cv_Mo_395 ⟨by decide, by decide⟩ rfl rfl (by decide) (by decide) (SX.o hS rfl) rfl rfl rfl (Nat.le_of_ble_eq_true rfl) ?_
      refine GV.mono h (fun t2_ h => ?_)
      refine aw_aload_n (q := 32) (j := 0) rfl rfl rfl (List.mem_of_getElem? (i := 0) rfl) ?_
      refine ag_getR (q := 35) rfl rfl fl_Mo_146 rfl (SX.o hS rfl) (SX.r hS rfl) ?_
      refine aw_bipush (q := 37) (v := 118) rfl rfl (by decide) ?_
      refine aw_dup2 (q := 38) rfl rfl rfl rfl ?_
      refine ag_iaload (q := 39) (N := 120) rfl rfl (SX.a hS rfl) (by unfold vp_in; decide) ?_
      refine aw_iload_n (q := 40) (j := 1) rfl rfl rfl (List.mem_of_getElem? (i := 1) rfl) ?_
      refine aw_iadd (q := 41) rfl rfl ?_
      refine ag_iastore (q := 42) (N := 120) rfl rfl (SX.a hS rfl) (by unfold vp_in; decide) ?_
      replace h := h _ rfl
      refine aw_aload_n (q := 43) (j := 0) rfl rfl rfl (List.mem_of_getElem? (i := 0) rfl) ?_
      refine ag_cvV (z := m_Mo_keeps) (ci := 11) (av := []) (st := []) (q := 46) (k' := 0) (n' := 0) rfl rfl cv_Mo_404 ⟨by decide, by decide⟩ rfl rfl (by decide) (by decide) (SX.o hS rfl) rfl rfl rfl (Nat.le_of_ble_eq_true rfl) ?_
      refine GV.mono h (fun t4_ h => ?_)
      refine aw_aload_n (q := 47) (j := 0) rfl rfl rfl (List.mem_of_getElem? (i := 0) rfl) ?_
      refine ag_getR (q := 50) rfl rfl fl_Mo_143 rfl (SX.o hS rfl) (SX.r hS rfl) ?_
      refine aw_bipush (q := 52) (v := 118) rfl rfl (by decide) ?_
      refine ag_iaload (q := 53) (N := 120) rfl rfl (SX.a hS rfl) (by unfold vp_in; decide) ?_
      exact aw_ireturn (ty := .int) rfl rfl rfl (by decide) (by decide) h
    · replace h := h.2 cd_2
      refine aw_iconst (q := 26) (v := (-1)) rfl rfl (by decide) ?_
      exact aw_ireturn (ty := .int) rfl rfl rfl (by decide) (by decide) h
set_option maxRecDepth 20000 in
theorem v_Mo_sell_54 {E : EN} {g : GS} {s : MS} {Q : Option Value → SG → Prop} (x1 : Int32) (x2 : Int32) (hS : SX g) (h : ((6 ≤ x2 → vp_in ((5 * (s.1 120 18)) + x1) 10 ∧ (∀ s1_, s1_ = wi s 163 116 ((s.1 163 116) + (s.1 143 ((((5 * (s.1 120 18)) + x1)).toNatClampNeg))) → (∀ s2_, s2_ = wi s1_ 163 117 ((s.1 163 117) ||| (1 <<< (x1 &&& 31))) → GV E m_Mo_keeps [.ref 120] g s2_ (fun t3_ => Q (some (.int 1)) (mk g t3_))))) ∧ (¬ 6 ≤ x2 → GI E m_Mo_wantedBy [.ref 120, .int (1 <<< (x1 &&& 31)), .int x2] g s (fun y4_ t4_ => AWP E m_Mo_sell 72 0 0 [(0, .ref 120), (1, .int x1), (2, .int x2), (3, .int y4_), (4, .int 0)] [] (mk g t4_) Q)))) : AWP E m_Mo_sell 54 0 0 [(0, .ref 120), (1, .int x1), (2, .int x2)] [] (mk g s) Q := by
  refine aw_iload_n (q := 55) (j := 2) rfl rfl rfl (List.mem_of_getElem? (i := 2) rfl) ?_
  refine aw_bipush (q := 57) (v := 6) rfl rfl (by decide) ?_
  refine aw_icmp_ge (q := 60) (tgt := 185) rfl rfl (by decide) ⟨fun cd_1 => ?_, fun cd_1 => ?_⟩
  · replace h := h.1 cd_1
    refine aw_aload_n (q := 186) (j := 0) rfl rfl rfl (List.mem_of_getElem? (i := 0) rfl) ?_
    refine ag_getR (q := 189) rfl rfl fl_Mo_146 rfl (SX.o hS rfl) (SX.r hS rfl) ?_
    refine aw_bipush (q := 191) (v := 116) rfl rfl (by decide) ?_
    refine aw_dup2 (q := 192) rfl rfl rfl rfl ?_
    refine ag_iaload (q := 193) (N := 120) rfl rfl (SX.a hS rfl) (by unfold vp_in; decide) ?_
    refine aw_aload_n (q := 194) (j := 0) rfl rfl rfl (List.mem_of_getElem? (i := 0) rfl) ?_
    refine ag_getR (q := 197) rfl rfl fl_Mo_85 rfl (SX.o hS rfl) (SX.r hS rfl) ?_
    refine aw_iconst (q := 198) (v := 5) rfl rfl (by decide) ?_
    refine aw_aload_n (q := 199) (j := 0) rfl rfl rfl (List.mem_of_getElem? (i := 0) rfl) ?_
    refine ag_getI (q := 202) rfl rfl fl_Mo_257 rfl (SX.o hS rfl) ?_
    refine aw_imul (q := 203) rfl rfl ?_
    refine aw_iload_n (q := 204) (j := 1) rfl rfl rfl (List.mem_of_getElem? (i := 1) rfl) ?_
    refine aw_iadd (q := 205) rfl rfl ?_
    obtain ⟨bd_2, h⟩ := h
    refine ag_iaload (q := 206) (N := 10) rfl rfl (SX.a hS rfl) bd_2 ?_
    refine aw_iadd (q := 207) rfl rfl ?_
    refine ag_iastore (q := 208) (N := 120) rfl rfl (SX.a hS rfl) (by unfold vp_in; decide) ?_
    replace h := h _ rfl
    refine aw_aload_n (q := 209) (j := 0) rfl rfl rfl (List.mem_of_getElem? (i := 0) rfl) ?_
    refine ag_getR (q := 212) rfl rfl fl_Mo_146 rfl (SX.o hS rfl) (SX.r hS rfl) ?_
    refine aw_bipush (q := 214) (v := 117) rfl rfl (by decide) ?_
    refine aw_dup2 (q := 215) rfl rfl rfl rfl ?_
    refine ag_iaload (q := 216) (N := 120) rfl rfl (SX.a hS rfl) (by unfold vp_in; decide) ?_
    refine aw_iconst (q := 217) (v := 1) rfl rfl (by decide) ?_
    refine aw_iload_n (q := 218) (j := 1) rfl rfl rfl (List.mem_of_getElem? (i := 1) rfl) ?_
    refine aw_ishl (q := 219) rfl rfl ?_
    refine aw_ior (q := 220) rfl rfl ?_
    refine ag_iastore (q := 221) (N := 120) rfl rfl (SX.a hS rfl) (by unfold vp_in; decide) ?_
    replace h := h _ rfl
    refine aw_aload_n (q := 222) (j := 0) rfl rfl rfl (List.mem_of_getElem? (i := 0) rfl) ?_
    refine ag_cvV (z := m_Mo_keeps) (ci := 11) (av := []) (st := []) (q := 225) (k' := 0) (n' := 0) rfl rfl cv_Mo_404 ⟨by decide, by decide⟩ rfl rfl (by decide) (by decide) (SX.o hS rfl) rfl rfl rfl (Nat.le_of_ble_eq_true rfl) ?_
    refine GV.mono h (fun t3_ h => ?_)
    refine aw_iconst (q := 226) (v := 1) rfl rfl (by decide) ?_
    exact aw_ireturn (ty := .boolean) rfl rfl rfl (by decide) (by decide) h
  · replace h := h.2 cd_1
    refine aw_aload_n (q := 61) (j := 0) rfl rfl rfl (List.mem_of_getElem? (i := 0) rfl) ?_
    refine aw_iconst (q := 62) (v := 1) rfl rfl (by decide) ?_
    refine aw_iload_n (q := 63) (j := 1) rfl rfl rfl (List.mem_of_getElem? (i := 1) rfl) ?_
    refine aw_ishl (q := 64) rfl rfl ?_
    refine aw_iload_n (q := 65) (j := 2) rfl rfl rfl (List.mem_of_getElem? (i := 2) rfl) ?_
    refine ag_cvI (z := m_Mo_wantedBy) (ci := 11) (av := [.int _, .int _]) (st := []) (q := 68) (k' := 0) (n' := 0) rfl rfl cv_Mo_413 ⟨by decide, by decide⟩ rfl rfl (by decide) (by decide) (SX.o hS rfl) rfl rfl rfl (Nat.le_of_ble_eq_true rfl) ?_
    refine GI.mono h (fun y4_ t4_ h => ?_)
    refine aw_istore_n (q := 69) (j := 3) (ls' := [(3, .int _), (0, .ref _), (1, .int _), (2, .int _)]) rfl rfl rfl (by decide) rfl ?_
    refine aw_iconst (q := 70) (v := 0) rfl rfl (by decide) ?_
    refine aw_istore (q := 72) (j := 4) (ls' := [(4, .int _), (3, .int _), (0, .ref _), (1, .int _), (2, .int _)]) rfl rfl (by decide) rfl ?_
    refine aw_ls [2, 3, 4, 1, 0] rfl ?_
    exact h
set_option maxRecDepth 20000 in
theorem v_Mo_sell_72 {E : EN} {g : GS} {s : MS} {Q : Option Value → SG → Prop} (x1 : Int32) (x2 : Int32) (x3 : Int32) (x4 : Int32) (hS : SX g) (h : vp_in (s.1 120 18) 2 ∧ (((s.1 134 (((s.1 120 18)).toNatClampNeg)) ≤ x4 → AWP E m_Mo_sell 54 0 0 [(0, .ref 120), (1, .int x1), (2, .int (x2 + 1))] [] (mk g s) Q) ∧ (¬ (s.1 134 (((s.1 120 18)).toNatClampNeg)) ≤ x4 → vp_in ((6 * (s.1 120 18)) + x4) 12 ∧ (((s.1 136 ((((6 * (s.1 120 18)) + x4)).toNatClampNeg)) = x2 → vp_in ((6 + (6 * x4)) + x2) 120 ∧ ((x3 ≤ (s.1 163 ((((6 + (6 * x4)) + x2)).toNatClampNeg)) → (∀ s1_, s1_ = wi s 163 ((((6 + (6 * x4)) + x2)).toNatClampNeg) ((s.1 163 ((((6 + (6 * x4)) + x2)).toNatClampNeg)) - x3) → AWP E m_Mo_sell 72 0 0 [(0, .ref 120), (1, .int x1), (2, .int x2), (3, .int (x3 - x3)), (4, .int (x4 + 1))] [] (mk g s1_) Q)) ∧ (¬ x3 ≤ (s.1 163 ((((6 + (6 * x4)) + x2)).toNatClampNeg)) → (∀ s2_, s2_ = wi s 163 ((((6 + (6 * x4)) + x2)).toNatClampNeg) ((s.1 163 ((((6 + (6 * x4)) + x2)).toNatClampNeg)) - (s.1 163 ((((6 + (6 * x4)) + x2)).toNatClampNeg))) → AWP E m_Mo_sell 72 0 0 [(0, .ref 120), (1, .int x1), (2, .int x2), (3, .int (x3 - (s.1 163 ((((6 + (6 * x4)) + x2)).toNatClampNeg)))), (4, .int (x4 + 1))] [] (mk g s2_) Q)))) ∧ (¬ (s.1 136 ((((6 * (s.1 120 18)) + x4)).toNatClampNeg)) = x2 → AWP E m_Mo_sell 72 0 0 [(0, .ref 120), (1, .int x1), (2, .int x2), (3, .int x3), (4, .int (x4 + 1))] [] (mk g s) Q))))) : AWP E m_Mo_sell 72 0 0 [(0, .ref 120), (1, .int x1), (2, .int x2), (3, .int x3), (4, .int x4)] [] (mk g s) Q := by
  refine aw_iload (q := 74) (j := 4) rfl rfl (List.mem_of_getElem? (i := 4) rfl) ?_
  refine aw_aload_n (q := 75) (j := 0) rfl rfl rfl (List.mem_of_getElem? (i := 0) rfl) ?_
  refine ag_getR (q := 78) rfl rfl fl_Mo_58 rfl (SX.o hS rfl) (SX.r hS rfl) ?_
  refine aw_aload_n (q := 79) (j := 0) rfl rfl rfl (List.mem_of_getElem? (i := 0) rfl) ?_
  refine ag_getI (q := 82) rfl rfl fl_Mo_257 rfl (SX.o hS rfl) ?_
  obtain ⟨bd_1, h⟩ := h
  refine ag_iaload (q := 83) (N := 2) rfl rfl (SX.a hS rfl) bd_1 ?_
  refine aw_icmp_ge (q := 86) (tgt := 179) rfl rfl (by decide) ⟨fun cd_2 => ?_, fun cd_2 => ?_⟩
  · replace h := h.1 cd_2
    refine aw_iinc (q := 182) (v := _ + 1) (ls' := [(2, .int _), (0, .ref _), (1, .int _), (3, .int _), (4, .int _)]) rfl rfl (List.mem_of_getElem? (i := 2) rfl) rfl (by decide) rfl ?_
    refine aw_goto (tgt := 54) rfl (by decide) ?_
    refine aw_ls [1, 2, 0] rfl ?_
    exact h
  · replace h := h.2 cd_2
    refine aw_aload_n (q := 87) (j := 0) rfl rfl rfl (List.mem_of_getElem? (i := 0) rfl) ?_
    refine ag_getR (q := 90) rfl rfl fl_Mo_64 rfl (SX.o hS rfl) (SX.r hS rfl) ?_
    refine aw_bipush (q := 92) (v := 6) rfl rfl (by decide) ?_
    refine aw_aload_n (q := 93) (j := 0) rfl rfl rfl (List.mem_of_getElem? (i := 0) rfl) ?_
    refine ag_getI (q := 96) rfl rfl fl_Mo_257 rfl (SX.o hS rfl) ?_
    refine aw_imul (q := 97) rfl rfl ?_
    refine aw_iload (q := 99) (j := 4) rfl rfl (List.mem_of_getElem? (i := 4) rfl) ?_
    refine aw_iadd (q := 100) rfl rfl ?_
    obtain ⟨bd_3, h⟩ := h
    refine ag_iaload (q := 101) (N := 12) rfl rfl (SX.a hS rfl) bd_3 ?_
    refine aw_iload_n (q := 102) (j := 2) rfl rfl rfl (List.mem_of_getElem? (i := 2) rfl) ?_
    refine aw_icmp_eq (q := 105) (tgt := 108) rfl rfl (by decide) ⟨fun cd_4 => ?_, fun cd_4 => ?_⟩
    · replace h := h.1 cd_4
      refine aw_aload_n (q := 109) (j := 0) rfl rfl rfl (List.mem_of_getElem? (i := 0) rfl) ?_
      refine ag_getR (q := 112) rfl rfl fl_Mo_146 rfl (SX.o hS rfl) (SX.r hS rfl) ?_
      refine aw_bipush (q := 114) (v := 6) rfl rfl (by decide) ?_
      refine aw_bipush (q := 116) (v := 6) rfl rfl (by decide) ?_
      refine aw_iload (q := 118) (j := 4) rfl rfl (List.mem_of_getElem? (i := 4) rfl) ?_
      refine aw_imul (q := 119) rfl rfl ?_
      refine aw_iadd (q := 120) rfl rfl ?_
      refine aw_iload_n (q := 121) (j := 2) rfl rfl rfl (List.mem_of_getElem? (i := 2) rfl) ?_
      refine aw_iadd (q := 122) rfl rfl ?_
      obtain ⟨bd_5, h⟩ := h
      refine ag_iaload (q := 123) (N := 120) rfl rfl (SX.a hS rfl) bd_5 ?_
      refine aw_iload_n (q := 124) (j := 3) rfl rfl rfl (List.mem_of_getElem? (i := 3) rfl) ?_
      refine aw_icmp_ge (q := 127) (tgt := 145) rfl rfl (by decide) ⟨fun cd_6 => ?_, fun cd_6 => ?_⟩
      · replace h := h.1 cd_6
        refine aw_iload_n (q := 146) (j := 3) rfl rfl rfl (List.mem_of_getElem? (i := 3) rfl) ?_
        refine aw_istore (q := 148) (j := 5) (ls' := [(5, .int _), (0, .ref _), (1, .int _), (2, .int _), (3, .int _), (4, .int _)]) rfl rfl (by decide) rfl ?_
        refine aw_aload_n (q := 149) (j := 0) rfl rfl rfl (List.mem_of_getElem? (i := 1) rfl) ?_
        refine ag_getR (q := 152) rfl rfl fl_Mo_146 rfl (SX.o hS rfl) (SX.r hS rfl) ?_
        refine aw_bipush (q := 154) (v := 6) rfl rfl (by decide) ?_
        refine aw_bipush (q := 156) (v := 6) rfl rfl (by decide) ?_
        refine aw_iload (q := 158) (j := 4) rfl rfl (List.mem_of_getElem? (i := 5) rfl) ?_
        refine aw_imul (q := 159) rfl rfl ?_
        refine aw_iadd (q := 160) rfl rfl ?_
        refine aw_iload_n (q := 161) (j := 2) rfl rfl rfl (List.mem_of_getElem? (i := 3) rfl) ?_
        refine aw_iadd (q := 162) rfl rfl ?_
        refine aw_dup2 (q := 163) rfl rfl rfl rfl ?_
        refine ag_iaload (q := 164) (N := 120) rfl rfl (SX.a hS rfl) bd_5 ?_
        refine aw_iload (q := 166) (j := 5) rfl rfl (List.mem_of_getElem? (i := 0) rfl) ?_
        refine aw_isub (q := 167) rfl rfl ?_
        refine ag_iastore (q := 168) (N := 120) rfl rfl (SX.a hS rfl) bd_5 ?_
        replace h := h _ rfl
        refine aw_iload_n (q := 169) (j := 3) rfl rfl rfl (List.mem_of_getElem? (i := 4) rfl) ?_
        refine aw_iload (q := 171) (j := 5) rfl rfl (List.mem_of_getElem? (i := 0) rfl) ?_
        refine aw_isub (q := 172) rfl rfl ?_
        refine aw_istore_n (q := 173) (j := 3) (ls' := [(3, .int _), (5, .int _), (0, .ref _), (1, .int _), (2, .int _), (4, .int _)]) rfl rfl rfl (by decide) rfl ?_
        refine aw_iinc (q := 176) (v := _ + 1) (ls' := [(4, .int _), (3, .int _), (5, .int _), (0, .ref _), (1, .int _), (2, .int _)]) rfl rfl (List.mem_of_getElem? (i := 5) rfl) rfl (by decide) rfl ?_
        refine aw_goto (tgt := 72) rfl (by decide) ?_
        refine aw_ls [3, 4, 5, 1, 0] rfl ?_
        exact h
      · replace h := h.2 cd_6
        refine aw_aload_n (q := 128) (j := 0) rfl rfl rfl (List.mem_of_getElem? (i := 0) rfl) ?_
        refine ag_getR (q := 131) rfl rfl fl_Mo_146 rfl (SX.o hS rfl) (SX.r hS rfl) ?_
        refine aw_bipush (q := 133) (v := 6) rfl rfl (by decide) ?_
        refine aw_bipush (q := 135) (v := 6) rfl rfl (by decide) ?_
        refine aw_iload (q := 137) (j := 4) rfl rfl (List.mem_of_getElem? (i := 4) rfl) ?_
        refine aw_imul (q := 138) rfl rfl ?_
        refine aw_iadd (q := 139) rfl rfl ?_
        refine aw_iload_n (q := 140) (j := 2) rfl rfl rfl (List.mem_of_getElem? (i := 2) rfl) ?_
        refine aw_iadd (q := 141) rfl rfl ?_
        refine ag_iaload (q := 142) (N := 120) rfl rfl (SX.a hS rfl) bd_5 ?_
        refine aw_goto (tgt := 146) rfl (by decide) ?_
        refine aw_istore (q := 148) (j := 5) (ls' := [(5, .int _), (0, .ref _), (1, .int _), (2, .int _), (3, .int _), (4, .int _)]) rfl rfl (by decide) rfl ?_
        refine aw_aload_n (q := 149) (j := 0) rfl rfl rfl (List.mem_of_getElem? (i := 1) rfl) ?_
        refine ag_getR (q := 152) rfl rfl fl_Mo_146 rfl (SX.o hS rfl) (SX.r hS rfl) ?_
        refine aw_bipush (q := 154) (v := 6) rfl rfl (by decide) ?_
        refine aw_bipush (q := 156) (v := 6) rfl rfl (by decide) ?_
        refine aw_iload (q := 158) (j := 4) rfl rfl (List.mem_of_getElem? (i := 5) rfl) ?_
        refine aw_imul (q := 159) rfl rfl ?_
        refine aw_iadd (q := 160) rfl rfl ?_
        refine aw_iload_n (q := 161) (j := 2) rfl rfl rfl (List.mem_of_getElem? (i := 3) rfl) ?_
        refine aw_iadd (q := 162) rfl rfl ?_
        refine aw_dup2 (q := 163) rfl rfl rfl rfl ?_
        refine ag_iaload (q := 164) (N := 120) rfl rfl (SX.a hS rfl) bd_5 ?_
        refine aw_iload (q := 166) (j := 5) rfl rfl (List.mem_of_getElem? (i := 0) rfl) ?_
        refine aw_isub (q := 167) rfl rfl ?_
        refine ag_iastore (q := 168) (N := 120) rfl rfl (SX.a hS rfl) bd_5 ?_
        replace h := h _ rfl
        refine aw_iload_n (q := 169) (j := 3) rfl rfl rfl (List.mem_of_getElem? (i := 4) rfl) ?_
        refine aw_iload (q := 171) (j := 5) rfl rfl (List.mem_of_getElem? (i := 0) rfl) ?_
        refine aw_isub (q := 172) rfl rfl ?_
        refine aw_istore_n (q := 173) (j := 3) (ls' := [(3, .int _), (5, .int _), (0, .ref _), (1, .int _), (2, .int _), (4, .int _)]) rfl rfl rfl (by decide) rfl ?_
        refine aw_iinc (q := 176) (v := _ + 1) (ls' := [(4, .int _), (3, .int _), (5, .int _), (0, .ref _), (1, .int _), (2, .int _)]) rfl rfl (List.mem_of_getElem? (i := 5) rfl) rfl (by decide) rfl ?_
        refine aw_goto (tgt := 72) rfl (by decide) ?_
        refine aw_ls [3, 4, 5, 1, 0] rfl ?_
        exact h
    · replace h := h.2 cd_4
      refine aw_goto (tgt := 173) rfl (by decide) ?_
      refine aw_iinc (q := 176) (v := _ + 1) (ls' := [(4, .int _), (0, .ref _), (1, .int _), (2, .int _), (3, .int _)]) rfl rfl (List.mem_of_getElem? (i := 4) rfl) rfl (by decide) rfl ?_
      refine aw_goto (tgt := 72) rfl (by decide) ?_
      refine aw_ls [1, 2, 3, 4, 0] rfl ?_
      exact h
set_option maxRecDepth 20000 in
theorem v_Mo_sell {E : EN} {g : GS} {s : MS} {Q : Option Value → SG → Prop} (x1 : Int32) (hS : SX g) (h : vp_in (s.1 120 18) 2 ∧ GI E m_Mo_in [.int x1, .int 0, .int ((s.1 142 (((s.1 120 18)).toNatClampNeg)) - 1)] g s (fun y1_ t1_ => ((y1_ = 0 → Q (some (.int 0)) (mk g t1_)) ∧ (¬ y1_ = 0 → (((((t1_.1 162 117) >>> (x1 &&& 31)) &&& 1) = 1 → Q (some (.int 0)) (mk g t1_)) ∧ (¬ (((t1_.1 162 117) >>> (x1 &&& 31)) &&& 1) = 1 → GV E m_Mo_copies [.ref 120] g t1_ (fun t2_ => GI E m_Mo_isEnough [.ref 120, .int (1 <<< (x1 &&& 31))] g t2_ (fun y3_ t3_ => ((y3_ = 0 → Q (some (.int 0)) (mk g t3_)) ∧ (¬ y3_ = 0 → AWP E m_Mo_sell 54 0 0 [(0, .ref 120), (1, .int x1), (2, .int 0)] [] (mk g t3_) Q)))))))))) : AMet E m_Mo_sell [.ref 120, .int x1] (mk g s) Q := by
  refine AMet.of (by decide) k_Mo_sell [(0, .ref 120), (1, .int x1)] (Nat.le_of_ble_eq_true rfl) rfl ?_
  refine aw_iload_n (q := 1) (j := 1) rfl rfl rfl (List.mem_of_getElem? (i := 1) rfl) ?_
  refine aw_iconst (q := 2) (v := 0) rfl rfl (by decide) ?_
  refine aw_aload_n (q := 3) (j := 0) rfl rfl rfl (List.mem_of_getElem? (i := 0) rfl) ?_
  refine ag_getR (q := 6) rfl rfl fl_Mo_82 rfl (SX.o hS rfl) (SX.r hS rfl) ?_
  refine aw_aload_n (q := 7) (j := 0) rfl rfl rfl (List.mem_of_getElem? (i := 0) rfl) ?_
  refine ag_getI (q := 10) rfl rfl fl_Mo_257 rfl (SX.o hS rfl) ?_
  obtain ⟨bd_1, h⟩ := h
  refine ag_iaload (q := 11) (N := 2) rfl rfl (SX.a hS rfl) bd_1 ?_
  refine aw_iconst (q := 12) (v := 1) rfl rfl (by decide) ?_
  refine aw_isub (q := 13) rfl rfl ?_
  refine ag_csI (z := m_Mo_in) (av := [.int _, .int _, .int _]) (st := []) (q := 16) (k' := 0) (n' := 0) rfl rfl cs_Mo_350 ⟨by decide, by decide⟩ rfl rfl (by decide) (by decide) rfl rfl (Nat.le_of_ble_eq_true rfl) ?_
  refine GI.mono h (fun y1_ t1_ h => ?_)
  refine aw_if_eq (q := 19) (tgt := 34) rfl rfl (by decide) ⟨fun cd_2 => ?_, fun cd_2 => ?_⟩
  · replace h := h.1 cd_2
    refine aw_iconst (q := 35) (v := 0) rfl rfl (by decide) ?_
    exact aw_ireturn (ty := .boolean) rfl rfl rfl (by decide) (by decide) h
  · replace h := h.2 cd_2
    refine aw_aload_n (q := 20) (j := 0) rfl rfl rfl (List.mem_of_getElem? (i := 0) rfl) ?_
    refine ag_getR (q := 23) rfl rfl fl_Mo_143 rfl (SX.o hS rfl) (SX.r hS rfl) ?_
    refine aw_bipush (q := 25) (v := 117) rfl rfl (by decide) ?_
    refine ag_iaload (q := 26) (N := 120) rfl rfl (SX.a hS rfl) (by unfold vp_in; decide) ?_
    refine aw_iload_n (q := 27) (j := 1) rfl rfl rfl (List.mem_of_getElem? (i := 1) rfl) ?_
    refine aw_ishr (q := 28) rfl rfl ?_
    refine aw_iconst (q := 29) (v := 1) rfl rfl (by decide) ?_
    refine aw_iand (q := 30) rfl rfl ?_
    refine aw_iconst (q := 31) (v := 1) rfl rfl (by decide) ?_
    refine aw_icmp_ne (q := 34) (tgt := 36) rfl rfl (by decide) ⟨fun cd_3 => ?_, fun cd_3 => ?_⟩
    · replace h := h.1 cd_3
      refine aw_iconst (q := 35) (v := 0) rfl rfl (by decide) ?_
      exact aw_ireturn (ty := .boolean) rfl rfl rfl (by decide) (by decide) h
    · replace h := h.2 cd_3
      refine aw_aload_n (q := 37) (j := 0) rfl rfl rfl (List.mem_of_getElem? (i := 0) rfl) ?_
      refine ag_cvV (z := m_Mo_copies) (ci := 11) (av := []) (st := []) (q := 40) (k' := 0) (n' := 0) rfl rfl cv_Mo_395 ⟨by decide, by decide⟩ rfl rfl (by decide) (by decide) (SX.o hS rfl) rfl rfl rfl (Nat.le_of_ble_eq_true rfl) ?_
      refine GV.mono h (fun t2_ h => ?_)
      refine aw_aload_n (q := 41) (j := 0) rfl rfl rfl (List.mem_of_getElem? (i := 0) rfl) ?_
      refine aw_iconst (q := 42) (v := 1) rfl rfl (by decide) ?_
      refine aw_iload_n (q := 43) (j := 1) rfl rfl rfl (List.mem_of_getElem? (i := 1) rfl) ?_
      refine aw_ishl (q := 44) rfl rfl ?_
      refine ag_cvI (z := m_Mo_isEnough) (ci := 11) (av := [.int _]) (st := []) (q := 47) (k' := 0) (n' := 0) rfl rfl cv_Mo_416 ⟨by decide, by decide⟩ rfl rfl (by decide) (by decide) (SX.o hS rfl) rfl rfl rfl (Nat.le_of_ble_eq_true rfl) ?_
      refine GI.mono h (fun y3_ t3_ h => ?_)
      refine aw_if_ne (q := 50) (tgt := 52) rfl rfl (by decide) ⟨fun cd_4 => ?_, fun cd_4 => ?_⟩
      · replace h := h.1 cd_4
        refine aw_iconst (q := 51) (v := 0) rfl rfl (by decide) ?_
        exact aw_ireturn (ty := .boolean) rfl rfl rfl (by decide) (by decide) h
      · replace h := h.2 cd_4
        refine aw_iconst (q := 53) (v := 0) rfl rfl (by decide) ?_
        refine aw_istore_n (q := 54) (j := 2) (ls' := [(2, .int _), (0, .ref _), (1, .int _)]) rfl rfl rfl (by decide) rfl ?_
        refine aw_ls [1, 2, 0] rfl ?_
        exact h
set_option maxRecDepth 20000 in
theorem v_Mo_isEnough_2 {E : EN} {g : GS} {s : MS} {Q : Option Value → SG → Prop} (x1 : Int32) (x2 : Int32) (h : ((6 ≤ x2 → Q (some (.int 1)) (mk g s)) ∧ (¬ 6 ≤ x2 → AWP E m_Mo_isEnough 13 0 0 [(0, .ref 120), (1, .int x1), (2, .int x2), (3, .int 0), (4, .int 0)] [] (mk g s) Q))) : AWP E m_Mo_isEnough 2 0 0 [(0, .ref 120), (1, .int x1), (2, .int x2)] [] (mk g s) Q := by
  refine aw_iload_n (q := 3) (j := 2) rfl rfl rfl (List.mem_of_getElem? (i := 2) rfl) ?_
  refine aw_bipush (q := 5) (v := 6) rfl rfl (by decide) ?_
  refine aw_icmp_ge (q := 8) (tgt := 88) rfl rfl (by decide) ⟨fun cd_1 => ?_, fun cd_1 => ?_⟩
  · replace h := h.1 cd_1
    refine aw_iconst (q := 89) (v := 1) rfl rfl (by decide) ?_
    exact aw_ireturn (ty := .boolean) rfl rfl rfl (by decide) (by decide) h
  · replace h := h.2 cd_1
    refine aw_iconst (q := 9) (v := 0) rfl rfl (by decide) ?_
    refine aw_istore_n (q := 10) (j := 3) (ls' := [(3, .int _), (0, .ref _), (1, .int _), (2, .int _)]) rfl rfl rfl (by decide) rfl ?_
    refine aw_iconst (q := 11) (v := 0) rfl rfl (by decide) ?_
    refine aw_istore (q := 13) (j := 4) (ls' := [(4, .int _), (3, .int _), (0, .ref _), (1, .int _), (2, .int _)]) rfl rfl (by decide) rfl ?_
    refine aw_ls [2, 3, 4, 1, 0] rfl ?_
    exact h
set_option maxRecDepth 20000 in
theorem v_Mo_isEnough_13 {E : EN} {g : GS} {s : MS} {Q : Option Value → SG → Prop} (x1 : Int32) (x2 : Int32) (x3 : Int32) (x4 : Int32) (hS : SX g) (h : vp_in (s.1 120 18) 2 ∧ (((s.1 134 (((s.1 120 18)).toNatClampNeg)) ≤ x4 → GI E m_Mo_wantedBy [.ref 120, .int x1, .int x2] g s (fun y1_ t1_ => ((y1_ ≤ x3 → AWP E m_Mo_isEnough 2 0 0 [(0, .ref 120), (1, .int x1), (2, .int (x2 + 1))] [] (mk g t1_) Q) ∧ (¬ y1_ ≤ x3 → Q (some (.int 0)) (mk g t1_))))) ∧ (¬ (s.1 134 (((s.1 120 18)).toNatClampNeg)) ≤ x4 → vp_in ((6 * (s.1 120 18)) + x4) 12 ∧ (((s.1 136 ((((6 * (s.1 120 18)) + x4)).toNatClampNeg)) = x2 → vp_in ((6 + (6 * x4)) + x2) 120 ∧ AWP E m_Mo_isEnough 13 0 0 [(0, .ref 120), (1, .int x1), (2, .int x2), (3, .int (x3 + (s.1 163 ((((6 + (6 * x4)) + x2)).toNatClampNeg)))), (4, .int (x4 + 1))] [] (mk g s) Q) ∧ (¬ (s.1 136 ((((6 * (s.1 120 18)) + x4)).toNatClampNeg)) = x2 → AWP E m_Mo_isEnough 13 0 0 [(0, .ref 120), (1, .int x1), (2, .int x2), (3, .int x3), (4, .int (x4 + 1))] [] (mk g s) Q))))) : AWP E m_Mo_isEnough 13 0 0 [(0, .ref 120), (1, .int x1), (2, .int x2), (3, .int x3), (4, .int x4)] [] (mk g s) Q := by
  refine aw_iload (q := 15) (j := 4) rfl rfl (List.mem_of_getElem? (i := 4) rfl) ?_
  refine aw_aload_n (q := 16) (j := 0) rfl rfl rfl (List.mem_of_getElem? (i := 0) rfl) ?_
  refine ag_getR (q := 19) rfl rfl fl_Mo_58 rfl (SX.o hS rfl) (SX.r hS rfl) ?_
  refine aw_aload_n (q := 20) (j := 0) rfl rfl rfl (List.mem_of_getElem? (i := 0) rfl) ?_
  refine ag_getI (q := 23) rfl rfl fl_Mo_257 rfl (SX.o hS rfl) ?_
  obtain ⟨bd_1, h⟩ := h
  refine ag_iaload (q := 24) (N := 2) rfl rfl (SX.a hS rfl) bd_1 ?_
  refine aw_icmp_ge (q := 27) (tgt := 70) rfl rfl (by decide) ⟨fun cd_2 => ?_, fun cd_2 => ?_⟩
  · replace h := h.1 cd_2
    refine aw_iload_n (q := 71) (j := 3) rfl rfl rfl (List.mem_of_getElem? (i := 3) rfl) ?_
    refine aw_aload_n (q := 72) (j := 0) rfl rfl rfl (List.mem_of_getElem? (i := 0) rfl) ?_
    refine aw_iload_n (q := 73) (j := 1) rfl rfl rfl (List.mem_of_getElem? (i := 1) rfl) ?_
    refine aw_iload_n (q := 74) (j := 2) rfl rfl rfl (List.mem_of_getElem? (i := 2) rfl) ?_
    refine ag_cvI (z := m_Mo_wantedBy) (ci := 11) (av := [.int _, .int _]) (st := [.int _]) (q := 77) (k' := 0) (n' := 0) rfl rfl cv_Mo_413 ⟨by decide, by decide⟩ rfl rfl (by decide) (by decide) (SX.o hS rfl) rfl rfl rfl (Nat.le_of_ble_eq_true rfl) ?_
    refine GI.mono h (fun y1_ t1_ h => ?_)
    refine aw_icmp_ge (q := 80) (tgt := 82) rfl rfl (by decide) ⟨fun cd_3 => ?_, fun cd_3 => ?_⟩
    · replace h := h.1 cd_3
      refine aw_iinc (q := 85) (v := _ + 1) (ls' := [(2, .int _), (0, .ref _), (1, .int _), (3, .int _), (4, .int _)]) rfl rfl (List.mem_of_getElem? (i := 2) rfl) rfl (by decide) rfl ?_
      refine aw_goto (tgt := 2) rfl (by decide) ?_
      refine aw_ls [1, 2, 0] rfl ?_
      exact h
    · replace h := h.2 cd_3
      refine aw_iconst (q := 81) (v := 0) rfl rfl (by decide) ?_
      exact aw_ireturn (ty := .boolean) rfl rfl rfl (by decide) (by decide) h
  · replace h := h.2 cd_2
    refine aw_aload_n (q := 28) (j := 0) rfl rfl rfl (List.mem_of_getElem? (i := 0) rfl) ?_
    refine ag_getR (q := 31) rfl rfl fl_Mo_64 rfl (SX.o hS rfl) (SX.r hS rfl) ?_
    refine aw_bipush (q := 33) (v := 6) rfl rfl (by decide) ?_
    refine aw_aload_n (q := 34) (j := 0) rfl rfl rfl (List.mem_of_getElem? (i := 0) rfl) ?_
    refine ag_getI (q := 37) rfl rfl fl_Mo_257 rfl (SX.o hS rfl) ?_
    refine aw_imul (q := 38) rfl rfl ?_
    refine aw_iload (q := 40) (j := 4) rfl rfl (List.mem_of_getElem? (i := 4) rfl) ?_
    refine aw_iadd (q := 41) rfl rfl ?_
    obtain ⟨bd_4, h⟩ := h
    refine ag_iaload (q := 42) (N := 12) rfl rfl (SX.a hS rfl) bd_4 ?_
    refine aw_iload_n (q := 43) (j := 2) rfl rfl rfl (List.mem_of_getElem? (i := 2) rfl) ?_
    refine aw_icmp_ne (q := 46) (tgt := 64) rfl rfl (by decide) ⟨fun cd_5 => ?_, fun cd_5 => ?_⟩
    · replace h := h.1 cd_5
      refine aw_iload_n (q := 47) (j := 3) rfl rfl rfl (List.mem_of_getElem? (i := 3) rfl) ?_
      refine aw_aload_n (q := 48) (j := 0) rfl rfl rfl (List.mem_of_getElem? (i := 0) rfl) ?_
      refine ag_getR (q := 51) rfl rfl fl_Mo_146 rfl (SX.o hS rfl) (SX.r hS rfl) ?_
      refine aw_bipush (q := 53) (v := 6) rfl rfl (by decide) ?_
      refine aw_bipush (q := 55) (v := 6) rfl rfl (by decide) ?_
      refine aw_iload (q := 57) (j := 4) rfl rfl (List.mem_of_getElem? (i := 4) rfl) ?_
      refine aw_imul (q := 58) rfl rfl ?_
      refine aw_iadd (q := 59) rfl rfl ?_
      refine aw_iload_n (q := 60) (j := 2) rfl rfl rfl (List.mem_of_getElem? (i := 2) rfl) ?_
      refine aw_iadd (q := 61) rfl rfl ?_
      obtain ⟨bd_6, h⟩ := h
      refine ag_iaload (q := 62) (N := 120) rfl rfl (SX.a hS rfl) bd_6 ?_
      refine aw_iadd (q := 63) rfl rfl ?_
      refine aw_istore_n (q := 64) (j := 3) (ls' := [(3, .int _), (0, .ref _), (1, .int _), (2, .int _), (4, .int _)]) rfl rfl rfl (by decide) rfl ?_
      refine aw_iinc (q := 67) (v := _ + 1) (ls' := [(4, .int _), (3, .int _), (0, .ref _), (1, .int _), (2, .int _)]) rfl rfl (List.mem_of_getElem? (i := 4) rfl) rfl (by decide) rfl ?_
      refine aw_goto (tgt := 13) rfl (by decide) ?_
      refine aw_ls [2, 3, 4, 1, 0] rfl ?_
      exact h
    · replace h := h.2 cd_5
      refine aw_iinc (q := 67) (v := _ + 1) (ls' := [(4, .int _), (0, .ref _), (1, .int _), (2, .int _), (3, .int _)]) rfl rfl (List.mem_of_getElem? (i := 4) rfl) rfl (by decide) rfl ?_
      refine aw_goto (tgt := 13) rfl (by decide) ?_
      refine aw_ls [1, 2, 3, 4, 0] rfl ?_
      exact h
set_option maxRecDepth 20000 in
theorem v_Mo_isEnough {E : EN} {g : GS} {s : MS} {Q : Option Value → SG → Prop} (x1 : Int32) (h : AWP E m_Mo_isEnough 2 0 0 [(0, .ref 120), (1, .int x1), (2, .int 0)] [] (mk g s) Q) : AMet E m_Mo_isEnough [.ref 120, .int x1] (mk g s) Q := by
  refine AMet.of (by decide) k_Mo_isEnough [(0, .ref 120), (1, .int x1)] (Nat.le_of_ble_eq_true rfl) rfl ?_
  refine aw_iconst (q := 1) (v := 0) rfl rfl (by decide) ?_
  refine aw_istore_n (q := 2) (j := 2) (ls' := [(2, .int _), (0, .ref _), (1, .int _)]) rfl rfl rfl (by decide) rfl ?_
  refine aw_ls [1, 2, 0] rfl ?_
  exact h
set_option maxRecDepth 20000 in
theorem v_Mo_wantedBy_5 {E : EN} {g : GS} {s : MS} {Q : Option Value → SG → Prop} (x1 : Int32) (x2 : Int32) (x3 : Int32) (x4 : Int32) (hS : SX g) (h : vp_in (s.1 120 18) 2 ∧ (((s.1 142 (((s.1 120 18)).toNatClampNeg)) ≤ x4 → Q (some (.int x3)) (mk g s)) ∧ (¬ (s.1 142 (((s.1 120 18)).toNatClampNeg)) ≤ x4 → ((((x1 >>> (x4 &&& 31)) &&& 1) = 0 → AWP E m_Mo_wantedBy 5 0 0 [(0, .ref 120), (1, .int x1), (2, .int x2), (3, .int x3), (4, .int (x4 + 1))] [] (mk g s) Q) ∧ (¬ ((x1 >>> (x4 &&& 31)) &&& 1) = 0 → AWP E m_Mo_wantedBy 34 0 0 [(0, .ref 120), (1, .int x1), (2, .int x2), (3, .int x3), (4, .int x4), (5, .int 0)] [] (mk g s) Q))))) : AWP E m_Mo_wantedBy 5 0 0 [(0, .ref 120), (1, .int x1), (2, .int x2), (3, .int x3), (4, .int x4)] [] (mk g s) Q := by
  refine aw_iload (q := 7) (j := 4) rfl rfl (List.mem_of_getElem? (i := 4) rfl) ?_
  refine aw_aload_n (q := 8) (j := 0) rfl rfl rfl (List.mem_of_getElem? (i := 0) rfl) ?_
  refine ag_getR (q := 11) rfl rfl fl_Mo_82 rfl (SX.o hS rfl) (SX.r hS rfl) ?_
  refine aw_aload_n (q := 12) (j := 0) rfl rfl rfl (List.mem_of_getElem? (i := 0) rfl) ?_
  refine ag_getI (q := 15) rfl rfl fl_Mo_257 rfl (SX.o hS rfl) ?_
  obtain ⟨bd_1, h⟩ := h
  refine ag_iaload (q := 16) (N := 2) rfl rfl (SX.a hS rfl) bd_1 ?_
  refine aw_icmp_ge (q := 19) (tgt := 110) rfl rfl (by decide) ⟨fun cd_2 => ?_, fun cd_2 => ?_⟩
  · replace h := h.1 cd_2
    refine aw_iload_n (q := 111) (j := 3) rfl rfl rfl (List.mem_of_getElem? (i := 3) rfl) ?_
    exact aw_ireturn (ty := .int) rfl rfl rfl (by decide) (by decide) h
  · replace h := h.2 cd_2
    refine aw_iload_n (q := 20) (j := 1) rfl rfl rfl (List.mem_of_getElem? (i := 1) rfl) ?_
    refine aw_iload (q := 22) (j := 4) rfl rfl (List.mem_of_getElem? (i := 4) rfl) ?_
    refine aw_ishr (q := 23) rfl rfl ?_
    refine aw_iconst (q := 24) (v := 1) rfl rfl (by decide) ?_
    refine aw_iand (q := 25) rfl rfl ?_
    refine aw_if_ne (q := 28) (tgt := 31) rfl rfl (by decide) ⟨fun cd_3 => ?_, fun cd_3 => ?_⟩
    · replace h := h.1 cd_3
      refine aw_goto (tgt := 104) rfl (by decide) ?_
      refine aw_iinc (q := 107) (v := _ + 1) (ls' := [(4, .int _), (0, .ref _), (1, .int _), (2, .int _), (3, .int _)]) rfl rfl (List.mem_of_getElem? (i := 4) rfl) rfl (by decide) rfl ?_
      refine aw_goto (tgt := 5) rfl (by decide) ?_
      refine aw_ls [1, 2, 3, 4, 0] rfl ?_
      exact h
    · replace h := h.2 cd_3
      refine aw_iconst (q := 32) (v := 0) rfl rfl (by decide) ?_
      refine aw_istore (q := 34) (j := 5) (ls' := [(5, .int _), (0, .ref _), (1, .int _), (2, .int _), (3, .int _), (4, .int _)]) rfl rfl (by decide) rfl ?_
      refine aw_ls [1, 2, 3, 4, 5, 0] rfl ?_
      exact h
set_option maxRecDepth 20000 in
theorem v_Mo_wantedBy_34 {E : EN} {g : GS} {s : MS} {Q : Option Value → SG → Prop} (x1 : Int32) (x2 : Int32) (x3 : Int32) (x4 : Int32) (x5 : Int32) (hS : SX g) (h : vp_in ((5 * (s.1 120 18)) + x4) 10 ∧ (((s.1 144 ((((5 * (s.1 120 18)) + x4)).toNatClampNeg)) ≤ x5 → AWP E m_Mo_wantedBy 5 0 0 [(0, .ref 120), (1, .int x1), (2, .int x2), (3, .int x3), (4, .int (x4 + 1))] [] (mk g s) Q) ∧ (¬ (s.1 144 ((((5 * (s.1 120 18)) + x4)).toNatClampNeg)) ≤ x5 → vp_in ((4 * ((5 * (s.1 120 18)) + x4)) + x5) 40 ∧ (((s.1 145 ((((4 * ((5 * (s.1 120 18)) + x4)) + x5)).toNatClampNeg)) = x2 → AWP E m_Mo_wantedBy 34 0 0 [(0, .ref 120), (1, .int x1), (2, .int x2), (3, .int (x3 + (s.1 146 ((((4 * ((5 * (s.1 120 18)) + x4)) + x5)).toNatClampNeg)))), (4, .int x4), (5, .int (x5 + 1))] [] (mk g s) Q) ∧ (¬ (s.1 145 ((((4 * ((5 * (s.1 120 18)) + x4)) + x5)).toNatClampNeg)) = x2 → AWP E m_Mo_wantedBy 34 0 0 [(0, .ref 120), (1, .int x1), (2, .int x2), (3, .int x3), (4, .int x4), (5, .int (x5 + 1))] [] (mk g s) Q))))) : AWP E m_Mo_wantedBy 34 0 0 [(0, .ref 120), (1, .int x1), (2, .int x2), (3, .int x3), (4, .int x4), (5, .int x5)] [] (mk g s) Q := by
  refine aw_iload (q := 36) (j := 5) rfl rfl (List.mem_of_getElem? (i := 5) rfl) ?_
  refine aw_aload_n (q := 37) (j := 0) rfl rfl rfl (List.mem_of_getElem? (i := 0) rfl) ?_
  refine ag_getR (q := 40) rfl rfl fl_Mo_88 rfl (SX.o hS rfl) (SX.r hS rfl) ?_
  refine aw_iconst (q := 41) (v := 5) rfl rfl (by decide) ?_
  refine aw_aload_n (q := 42) (j := 0) rfl rfl rfl (List.mem_of_getElem? (i := 0) rfl) ?_
  refine ag_getI (q := 45) rfl rfl fl_Mo_257 rfl (SX.o hS rfl) ?_
  refine aw_imul (q := 46) rfl rfl ?_
  refine aw_iload (q := 48) (j := 4) rfl rfl (List.mem_of_getElem? (i := 4) rfl) ?_
  refine aw_iadd (q := 49) rfl rfl ?_
  obtain ⟨bd_1, h⟩ := h
  refine ag_iaload (q := 50) (N := 10) rfl rfl (SX.a hS rfl) bd_1 ?_
  refine aw_icmp_ge (q := 53) (tgt := 104) rfl rfl (by decide) ⟨fun cd_2 => ?_, fun cd_2 => ?_⟩
  · replace h := h.1 cd_2
    refine aw_iinc (q := 107) (v := _ + 1) (ls' := [(4, .int _), (0, .ref _), (1, .int _), (2, .int _), (3, .int _), (5, .int _)]) rfl rfl (List.mem_of_getElem? (i := 4) rfl) rfl (by decide) rfl ?_
    refine aw_goto (tgt := 5) rfl (by decide) ?_
    refine aw_ls [1, 2, 3, 4, 0] rfl ?_
    exact h
  · replace h := h.2 cd_2
    refine aw_aload_n (q := 54) (j := 0) rfl rfl rfl (List.mem_of_getElem? (i := 0) rfl) ?_
    refine ag_getR (q := 57) rfl rfl fl_Mo_91 rfl (SX.o hS rfl) (SX.r hS rfl) ?_
    refine aw_iconst (q := 58) (v := 4) rfl rfl (by decide) ?_
    refine aw_iconst (q := 59) (v := 5) rfl rfl (by decide) ?_
    refine aw_aload_n (q := 60) (j := 0) rfl rfl rfl (List.mem_of_getElem? (i := 0) rfl) ?_
    refine ag_getI (q := 63) rfl rfl fl_Mo_257 rfl (SX.o hS rfl) ?_
    refine aw_imul (q := 64) rfl rfl ?_
    refine aw_iload (q := 66) (j := 4) rfl rfl (List.mem_of_getElem? (i := 4) rfl) ?_
    refine aw_iadd (q := 67) rfl rfl ?_
    refine aw_imul (q := 68) rfl rfl ?_
    refine aw_iload (q := 70) (j := 5) rfl rfl (List.mem_of_getElem? (i := 5) rfl) ?_
    refine aw_iadd (q := 71) rfl rfl ?_
    obtain ⟨bd_3, h⟩ := h
    refine ag_iaload (q := 72) (N := 40) rfl rfl (SX.a hS rfl) bd_3 ?_
    refine aw_iload_n (q := 73) (j := 2) rfl rfl rfl (List.mem_of_getElem? (i := 2) rfl) ?_
    refine aw_icmp_ne (q := 76) (tgt := 98) rfl rfl (by decide) ⟨fun cd_4 => ?_, fun cd_4 => ?_⟩
    · replace h := h.1 cd_4
      refine aw_iload_n (q := 77) (j := 3) rfl rfl rfl (List.mem_of_getElem? (i := 3) rfl) ?_
      refine aw_aload_n (q := 78) (j := 0) rfl rfl rfl (List.mem_of_getElem? (i := 0) rfl) ?_
      refine ag_getR (q := 81) rfl rfl fl_Mo_94 rfl (SX.o hS rfl) (SX.r hS rfl) ?_
      refine aw_iconst (q := 82) (v := 4) rfl rfl (by decide) ?_
      refine aw_iconst (q := 83) (v := 5) rfl rfl (by decide) ?_
      refine aw_aload_n (q := 84) (j := 0) rfl rfl rfl (List.mem_of_getElem? (i := 0) rfl) ?_
      refine ag_getI (q := 87) rfl rfl fl_Mo_257 rfl (SX.o hS rfl) ?_
      refine aw_imul (q := 88) rfl rfl ?_
      refine aw_iload (q := 90) (j := 4) rfl rfl (List.mem_of_getElem? (i := 4) rfl) ?_
      refine aw_iadd (q := 91) rfl rfl ?_
      refine aw_imul (q := 92) rfl rfl ?_
      refine aw_iload (q := 94) (j := 5) rfl rfl (List.mem_of_getElem? (i := 5) rfl) ?_
      refine aw_iadd (q := 95) rfl rfl ?_
      refine ag_iaload (q := 96) (N := 40) rfl rfl (SX.a hS rfl) bd_3 ?_
      refine aw_iadd (q := 97) rfl rfl ?_
      refine aw_istore_n (q := 98) (j := 3) (ls' := [(3, .int _), (0, .ref _), (1, .int _), (2, .int _), (4, .int _), (5, .int _)]) rfl rfl rfl (by decide) rfl ?_
      refine aw_iinc (q := 101) (v := _ + 1) (ls' := [(5, .int _), (3, .int _), (0, .ref _), (1, .int _), (2, .int _), (4, .int _)]) rfl rfl (List.mem_of_getElem? (i := 5) rfl) rfl (by decide) rfl ?_
      refine aw_goto (tgt := 34) rfl (by decide) ?_
      refine aw_ls [2, 3, 4, 1, 5, 0] rfl ?_
      exact h
    · replace h := h.2 cd_4
      refine aw_iinc (q := 101) (v := _ + 1) (ls' := [(5, .int _), (0, .ref _), (1, .int _), (2, .int _), (3, .int _), (4, .int _)]) rfl rfl (List.mem_of_getElem? (i := 5) rfl) rfl (by decide) rfl ?_
      refine aw_goto (tgt := 34) rfl (by decide) ?_
      refine aw_ls [1, 2, 3, 4, 5, 0] rfl ?_
      exact h
set_option maxRecDepth 20000 in
theorem v_Mo_wantedBy {E : EN} {g : GS} {s : MS} {Q : Option Value → SG → Prop} (x1 : Int32) (x2 : Int32) (h : AWP E m_Mo_wantedBy 5 0 0 [(0, .ref 120), (1, .int x1), (2, .int x2), (3, .int 0), (4, .int 0)] [] (mk g s) Q) : AMet E m_Mo_wantedBy [.ref 120, .int x1, .int x2] (mk g s) Q := by
  refine AMet.of (by decide) k_Mo_wantedBy [(0, .ref 120), (1, .int x1), (2, .int x2)] (Nat.le_of_ble_eq_true rfl) rfl ?_
  refine aw_iconst (q := 1) (v := 0) rfl rfl (by decide) ?_
  refine aw_istore_n (q := 2) (j := 3) (ls' := [(3, .int _), (0, .ref _), (1, .int _), (2, .int _)]) rfl rfl rfl (by decide) rfl ?_
  refine aw_iconst (q := 3) (v := 0) rfl rfl (by decide) ?_
  refine aw_istore (q := 5) (j := 4) (ls' := [(4, .int _), (3, .int _), (0, .ref _), (1, .int _), (2, .int _)]) rfl rfl (by decide) rfl ?_
  refine aw_ls [2, 3, 4, 1, 0] rfl ?_
  exact h
set_option maxRecDepth 20000 in
theorem v_Mo_sales_19 {E : EN} {g : GS} {s : MS} {Q : Option Value → SG → Prop} (x1 : Int32) (x2 : Int32) (x3 : Int32) (hS : SX g) (h : vp_in (s.1 120 18) 2 ∧ (((1 <<< ((s.1 142 (((s.1 120 18)).toNatClampNeg)) &&& 31)) ≤ x3 → ((x1 = 0 → GI E m_Mo_paysOf [.ref 120, .int x2] g s (fun y1_ t1_ => Q (some (.int y1_)) (mk g t1_))) ∧ (¬ x1 = 0 → Q (some (.int x2)) (mk g s)))) ∧ (¬ (1 <<< ((s.1 142 (((s.1 120 18)).toNatClampNeg)) &&& 31)) ≤ x3 → (((x3 &&& (s.1 163 117)) = 0 → GI E m_Mo_isEnough [.ref 120, .int x3] g s (fun y2_ t2_ => ((y2_ = 0 → AWP E m_Mo_sales 19 0 0 [(0, .ref 120), (1, .int x1), (2, .int x2), (3, .int (x3 + 1))] [] (mk g t2_) Q) ∧ (¬ y2_ = 0 → GI E m_Mo_paysOf [.ref 120, .int x3] g t2_ (fun y3_ t3_ => GI E m_Mo_paysOf [.ref 120, .int x2] g t3_ (fun y4_ t4_ => ((y3_ ≤ y4_ → AWP E m_Mo_sales 19 0 0 [(0, .ref 120), (1, .int x1), (2, .int x2), (3, .int (x3 + 1))] [] (mk g t4_) Q) ∧ (¬ y3_ ≤ y4_ → AWP E m_Mo_sales 19 0 0 [(0, .ref 120), (1, .int x1), (2, .int x3), (3, .int (x3 + 1))] [] (mk g t4_) Q)))))))) ∧ (¬ (x3 &&& (s.1 163 117)) = 0 → AWP E m_Mo_sales 19 0 0 [(0, .ref 120), (1, .int x1), (2, .int x2), (3, .int (x3 + 1))] [] (mk g s) Q))))) : AWP E m_Mo_sales 19 0 0 [(0, .ref 120), (1, .int x1), (2, .int x2), (3, .int x3)] [] (mk g s) Q := by
  refine aw_iload_n (q := 20) (j := 3) rfl rfl rfl (List.mem_of_getElem? (i := 3) rfl) ?_
  refine aw_iconst (q := 21) (v := 1) rfl rfl (by decide) ?_
  refine aw_aload_n (q := 22) (j := 0) rfl rfl rfl (List.mem_of_getElem? (i := 0) rfl) ?_
  refine ag_getR (q := 25) rfl rfl fl_Mo_82 rfl (SX.o hS rfl) (SX.r hS rfl) ?_
  refine aw_aload_n (q := 26) (j := 0) rfl rfl rfl (List.mem_of_getElem? (i := 0) rfl) ?_
  refine ag_getI (q := 29) rfl rfl fl_Mo_257 rfl (SX.o hS rfl) ?_
  obtain ⟨bd_1, h⟩ := h
  refine ag_iaload (q := 30) (N := 2) rfl rfl (SX.a hS rfl) bd_1 ?_
  refine aw_ishl (q := 31) rfl rfl ?_
  refine aw_icmp_ge (q := 34) (tgt := 75) rfl rfl (by decide) ⟨fun cd_2 => ?_, fun cd_2 => ?_⟩
  · replace h := h.1 cd_2
    refine aw_iload_n (q := 76) (j := 1) rfl rfl rfl (List.mem_of_getElem? (i := 1) rfl) ?_
    refine aw_if_ne (q := 79) (tgt := 87) rfl rfl (by decide) ⟨fun cd_3 => ?_, fun cd_3 => ?_⟩
    · replace h := h.1 cd_3
      refine aw_aload_n (q := 80) (j := 0) rfl rfl rfl (List.mem_of_getElem? (i := 0) rfl) ?_
      refine aw_iload_n (q := 81) (j := 2) rfl rfl rfl (List.mem_of_getElem? (i := 2) rfl) ?_
      refine ag_cvI (z := m_Mo_paysOf) (ci := 11) (av := [.int _]) (st := []) (q := 84) (k' := 0) (n' := 0) rfl rfl cv_Mo_419 ⟨by decide, by decide⟩ rfl rfl (by decide) (by decide) (SX.o hS rfl) rfl rfl rfl (Nat.le_of_ble_eq_true rfl) ?_
      refine GI.mono h (fun y1_ t1_ h => ?_)
      refine aw_goto (tgt := 88) rfl (by decide) ?_
      exact aw_ireturn (ty := .int) rfl rfl rfl (by decide) (by decide) h
    · replace h := h.2 cd_3
      refine aw_iload_n (q := 88) (j := 2) rfl rfl rfl (List.mem_of_getElem? (i := 2) rfl) ?_
      exact aw_ireturn (ty := .int) rfl rfl rfl (by decide) (by decide) h
  · replace h := h.2 cd_2
    refine aw_iload_n (q := 35) (j := 3) rfl rfl rfl (List.mem_of_getElem? (i := 3) rfl) ?_
    refine aw_aload_n (q := 36) (j := 0) rfl rfl rfl (List.mem_of_getElem? (i := 0) rfl) ?_
    refine ag_getR (q := 39) rfl rfl fl_Mo_146 rfl (SX.o hS rfl) (SX.r hS rfl) ?_
    refine aw_bipush (q := 41) (v := 117) rfl rfl (by decide) ?_
    refine ag_iaload (q := 42) (N := 120) rfl rfl (SX.a hS rfl) (by unfold vp_in; decide) ?_
    refine aw_iand (q := 43) rfl rfl ?_
    refine aw_if_ne (q := 46) (tgt := 69) rfl rfl (by decide) ⟨fun cd_4 => ?_, fun cd_4 => ?_⟩
    · replace h := h.1 cd_4
      refine aw_aload_n (q := 47) (j := 0) rfl rfl rfl (List.mem_of_getElem? (i := 0) rfl) ?_
      refine aw_iload_n (q := 48) (j := 3) rfl rfl rfl (List.mem_of_getElem? (i := 3) rfl) ?_
      refine ag_cvI (z := m_Mo_isEnough) (ci := 11) (av := [.int _]) (st := []) (q := 51) (k' := 0) (n' := 0) rfl rfl cv_Mo_416 ⟨by decide, by decide⟩ rfl rfl (by decide) (by decide) (SX.o hS rfl) rfl rfl rfl (Nat.le_of_ble_eq_true rfl) ?_
      refine GI.mono h (fun y2_ t2_ h => ?_)
      refine aw_if_eq (q := 54) (tgt := 69) rfl rfl (by decide) ⟨fun cd_5 => ?_, fun cd_5 => ?_⟩
      · replace h := h.1 cd_5
        refine aw_iinc (q := 72) (v := _ + 1) (ls' := [(3, .int _), (0, .ref _), (1, .int _), (2, .int _)]) rfl rfl (List.mem_of_getElem? (i := 3) rfl) rfl (by decide) rfl ?_
        refine aw_goto (tgt := 19) rfl (by decide) ?_
        refine aw_ls [1, 2, 3, 0] rfl ?_
        exact h
      · replace h := h.2 cd_5
        refine aw_aload_n (q := 55) (j := 0) rfl rfl rfl (List.mem_of_getElem? (i := 0) rfl) ?_
        refine aw_iload_n (q := 56) (j := 3) rfl rfl rfl (List.mem_of_getElem? (i := 3) rfl) ?_
        refine ag_cvI (z := m_Mo_paysOf) (ci := 11) (av := [.int _]) (st := []) (q := 59) (k' := 0) (n' := 0) rfl rfl cv_Mo_419 ⟨by decide, by decide⟩ rfl rfl (by decide) (by decide) (SX.o hS rfl) rfl rfl rfl (Nat.le_of_ble_eq_true rfl) ?_
        refine GI.mono h (fun y3_ t3_ h => ?_)
        refine aw_aload_n (q := 60) (j := 0) rfl rfl rfl (List.mem_of_getElem? (i := 0) rfl) ?_
        refine aw_iload_n (q := 61) (j := 2) rfl rfl rfl (List.mem_of_getElem? (i := 2) rfl) ?_
        refine ag_cvI (z := m_Mo_paysOf) (ci := 11) (av := [.int _]) (st := [.int _]) (q := 64) (k' := 0) (n' := 0) rfl rfl cv_Mo_419 ⟨by decide, by decide⟩ rfl rfl (by decide) (by decide) (SX.o hS rfl) rfl rfl rfl (Nat.le_of_ble_eq_true rfl) ?_
        refine GI.mono h (fun y4_ t4_ h => ?_)
        refine aw_icmp_le (q := 67) (tgt := 69) rfl rfl (by decide) ⟨fun cd_6 => ?_, fun cd_6 => ?_⟩
        · replace h := h.1 cd_6
          refine aw_iinc (q := 72) (v := _ + 1) (ls' := [(3, .int _), (0, .ref _), (1, .int _), (2, .int _)]) rfl rfl (List.mem_of_getElem? (i := 3) rfl) rfl (by decide) rfl ?_
          refine aw_goto (tgt := 19) rfl (by decide) ?_
          refine aw_ls [1, 2, 3, 0] rfl ?_
          exact h
        · replace h := h.2 cd_6
          refine aw_iload_n (q := 68) (j := 3) rfl rfl rfl (List.mem_of_getElem? (i := 3) rfl) ?_
          refine aw_istore_n (q := 69) (j := 2) (ls' := [(2, .int _), (0, .ref _), (1, .int _), (3, .int _)]) rfl rfl rfl (by decide) rfl ?_
          refine aw_iinc (q := 72) (v := _ + 1) (ls' := [(3, .int _), (2, .int _), (0, .ref _), (1, .int _)]) rfl rfl (List.mem_of_getElem? (i := 3) rfl) rfl (by decide) rfl ?_
          refine aw_goto (tgt := 19) rfl (by decide) ?_
          refine aw_ls [2, 3, 1, 0] rfl ?_
          exact h
    · replace h := h.2 cd_4
      refine aw_iinc (q := 72) (v := _ + 1) (ls' := [(3, .int _), (0, .ref _), (1, .int _), (2, .int _)]) rfl rfl (List.mem_of_getElem? (i := 3) rfl) rfl (by decide) rfl ?_
      refine aw_goto (tgt := 19) rfl (by decide) ?_
      refine aw_ls [1, 2, 3, 0] rfl ?_
      exact h
set_option maxRecDepth 20000 in
theorem v_Mo_sales {E : EN} {g : GS} {s : MS} {Q : Option Value → SG → Prop} (x1 : Int32) (hS : SX g) (h : GI E m_Mo_in [.int x1, .int 0, .int 1] g s (fun y1_ t1_ => ((y1_ = 0 → Q (some (.int (-1))) (mk g t1_)) ∧ (¬ y1_ = 0 → GV E m_Mo_copies [.ref 120] g t1_ (fun t2_ => AWP E m_Mo_sales 19 0 0 [(0, .ref 120), (1, .int x1), (2, .int 0), (3, .int 1)] [] (mk g t2_) Q))))) : AMet E m_Mo_sales [.ref 120, .int x1] (mk g s) Q := by
  refine AMet.of (by decide) k_Mo_sales [(0, .ref 120), (1, .int x1)] (Nat.le_of_ble_eq_true rfl) rfl ?_
  refine aw_iload_n (q := 1) (j := 1) rfl rfl rfl (List.mem_of_getElem? (i := 1) rfl) ?_
  refine aw_iconst (q := 2) (v := 0) rfl rfl (by decide) ?_
  refine aw_iconst (q := 3) (v := 1) rfl rfl (by decide) ?_
  refine ag_csI (z := m_Mo_in) (av := [.int _, .int _, .int _]) (st := []) (q := 6) (k' := 0) (n' := 0) rfl rfl cs_Mo_350 ⟨by decide, by decide⟩ rfl rfl (by decide) (by decide) rfl rfl (Nat.le_of_ble_eq_true rfl) ?_
  refine GI.mono h (fun y1_ t1_ h => ?_)
  refine aw_if_ne (q := 9) (tgt := 11) rfl rfl (by decide) ⟨fun cd_1 => ?_, fun cd_1 => ?_⟩
  · replace h := h.1 cd_1
    refine aw_iconst (q := 10) (v := (-1)) rfl rfl (by decide) ?_
    exact aw_ireturn (ty := .int) rfl rfl rfl (by decide) (by decide) h
  · replace h := h.2 cd_1
    refine aw_aload_n (q := 12) (j := 0) rfl rfl rfl (List.mem_of_getElem? (i := 0) rfl) ?_
    refine ag_cvV (z := m_Mo_copies) (ci := 11) (av := []) (st := []) (q := 15) (k' := 0) (n' := 0) rfl rfl cv_Mo_395 ⟨by decide, by decide⟩ rfl rfl (by decide) (by decide) (SX.o hS rfl) rfl rfl rfl (Nat.le_of_ble_eq_true rfl) ?_
    refine GV.mono h (fun t2_ h => ?_)
    refine aw_iconst (q := 16) (v := 0) rfl rfl (by decide) ?_
    refine aw_istore_n (q := 17) (j := 2) (ls' := [(2, .int _), (0, .ref _), (1, .int _)]) rfl rfl rfl (by decide) rfl ?_
    refine aw_iconst (q := 18) (v := 1) rfl rfl (by decide) ?_
    refine aw_istore_n (q := 19) (j := 3) (ls' := [(3, .int _), (2, .int _), (0, .ref _), (1, .int _)]) rfl rfl rfl (by decide) rfl ?_
    refine aw_ls [2, 3, 1, 0] rfl ?_
    exact h
set_option maxRecDepth 20000 in
theorem v_Mo_paysOf_4 {E : EN} {g : GS} {s : MS} {Q : Option Value → SG → Prop} (x1 : Int32) (x2 : Int32) (x3 : Int32) (hS : SX g) (h : vp_in (s.1 120 18) 2 ∧ (((s.1 142 (((s.1 120 18)).toNatClampNeg)) ≤ x3 → Q (some (.int x2)) (mk g s)) ∧ (¬ (s.1 142 (((s.1 120 18)).toNatClampNeg)) ≤ x3 → ((((x1 >>> (x3 &&& 31)) &&& 1) = 1 → vp_in ((5 * (s.1 120 18)) + x3) 10 ∧ AWP E m_Mo_paysOf 4 0 0 [(0, .ref 120), (1, .int x1), (2, .int (x2 + (s.1 143 ((((5 * (s.1 120 18)) + x3)).toNatClampNeg)))), (3, .int (x3 + 1))] [] (mk g s) Q) ∧ (¬ ((x1 >>> (x3 &&& 31)) &&& 1) = 1 → AWP E m_Mo_paysOf 4 0 0 [(0, .ref 120), (1, .int x1), (2, .int x2), (3, .int (x3 + 1))] [] (mk g s) Q))))) : AWP E m_Mo_paysOf 4 0 0 [(0, .ref 120), (1, .int x1), (2, .int x2), (3, .int x3)] [] (mk g s) Q := by
  refine aw_iload_n (q := 5) (j := 3) rfl rfl rfl (List.mem_of_getElem? (i := 3) rfl) ?_
  refine aw_aload_n (q := 6) (j := 0) rfl rfl rfl (List.mem_of_getElem? (i := 0) rfl) ?_
  refine ag_getR (q := 9) rfl rfl fl_Mo_82 rfl (SX.o hS rfl) (SX.r hS rfl) ?_
  refine aw_aload_n (q := 10) (j := 0) rfl rfl rfl (List.mem_of_getElem? (i := 0) rfl) ?_
  refine ag_getI (q := 13) rfl rfl fl_Mo_257 rfl (SX.o hS rfl) ?_
  obtain ⟨bd_1, h⟩ := h
  refine ag_iaload (q := 14) (N := 2) rfl rfl (SX.a hS rfl) bd_1 ?_
  refine aw_icmp_ge (q := 17) (tgt := 48) rfl rfl (by decide) ⟨fun cd_2 => ?_, fun cd_2 => ?_⟩
  · replace h := h.1 cd_2
    refine aw_iload_n (q := 49) (j := 2) rfl rfl rfl (List.mem_of_getElem? (i := 2) rfl) ?_
    exact aw_ireturn (ty := .int) rfl rfl rfl (by decide) (by decide) h
  · replace h := h.2 cd_2
    refine aw_iload_n (q := 18) (j := 1) rfl rfl rfl (List.mem_of_getElem? (i := 1) rfl) ?_
    refine aw_iload_n (q := 19) (j := 3) rfl rfl rfl (List.mem_of_getElem? (i := 3) rfl) ?_
    refine aw_ishr (q := 20) rfl rfl ?_
    refine aw_iconst (q := 21) (v := 1) rfl rfl (by decide) ?_
    refine aw_iand (q := 22) rfl rfl ?_
    refine aw_iconst (q := 23) (v := 1) rfl rfl (by decide) ?_
    refine aw_icmp_ne (q := 26) (tgt := 42) rfl rfl (by decide) ⟨fun cd_3 => ?_, fun cd_3 => ?_⟩
    · replace h := h.1 cd_3
      refine aw_iload_n (q := 27) (j := 2) rfl rfl rfl (List.mem_of_getElem? (i := 2) rfl) ?_
      refine aw_aload_n (q := 28) (j := 0) rfl rfl rfl (List.mem_of_getElem? (i := 0) rfl) ?_
      refine ag_getR (q := 31) rfl rfl fl_Mo_85 rfl (SX.o hS rfl) (SX.r hS rfl) ?_
      refine aw_iconst (q := 32) (v := 5) rfl rfl (by decide) ?_
      refine aw_aload_n (q := 33) (j := 0) rfl rfl rfl (List.mem_of_getElem? (i := 0) rfl) ?_
      refine ag_getI (q := 36) rfl rfl fl_Mo_257 rfl (SX.o hS rfl) ?_
      refine aw_imul (q := 37) rfl rfl ?_
      refine aw_iload_n (q := 38) (j := 3) rfl rfl rfl (List.mem_of_getElem? (i := 3) rfl) ?_
      refine aw_iadd (q := 39) rfl rfl ?_
      obtain ⟨bd_4, h⟩ := h
      refine ag_iaload (q := 40) (N := 10) rfl rfl (SX.a hS rfl) bd_4 ?_
      refine aw_iadd (q := 41) rfl rfl ?_
      refine aw_istore_n (q := 42) (j := 2) (ls' := [(2, .int _), (0, .ref _), (1, .int _), (3, .int _)]) rfl rfl rfl (by decide) rfl ?_
      refine aw_iinc (q := 45) (v := _ + 1) (ls' := [(3, .int _), (2, .int _), (0, .ref _), (1, .int _)]) rfl rfl (List.mem_of_getElem? (i := 3) rfl) rfl (by decide) rfl ?_
      refine aw_goto (tgt := 4) rfl (by decide) ?_
      refine aw_ls [2, 3, 1, 0] rfl ?_
      exact h
    · replace h := h.2 cd_3
      refine aw_iinc (q := 45) (v := _ + 1) (ls' := [(3, .int _), (0, .ref _), (1, .int _), (2, .int _)]) rfl rfl (List.mem_of_getElem? (i := 3) rfl) rfl (by decide) rfl ?_
      refine aw_goto (tgt := 4) rfl (by decide) ?_
      refine aw_ls [1, 2, 3, 0] rfl ?_
      exact h
set_option maxRecDepth 20000 in
theorem v_Mo_paysOf {E : EN} {g : GS} {s : MS} {Q : Option Value → SG → Prop} (x1 : Int32) (h : AWP E m_Mo_paysOf 4 0 0 [(0, .ref 120), (1, .int x1), (2, .int 0), (3, .int 0)] [] (mk g s) Q) : AMet E m_Mo_paysOf [.ref 120, .int x1] (mk g s) Q := by
  refine AMet.of (by decide) k_Mo_paysOf [(0, .ref 120), (1, .int x1)] (Nat.le_of_ble_eq_true rfl) rfl ?_
  refine aw_iconst (q := 1) (v := 0) rfl rfl (by decide) ?_
  refine aw_istore_n (q := 2) (j := 2) (ls' := [(2, .int _), (0, .ref _), (1, .int _)]) rfl rfl rfl (by decide) rfl ?_
  refine aw_iconst (q := 3) (v := 0) rfl rfl (by decide) ?_
  refine aw_istore_n (q := 4) (j := 3) (ls' := [(3, .int _), (2, .int _), (0, .ref _), (1, .int _)]) rfl rfl rfl (by decide) rfl ?_
  refine aw_ls [2, 3, 1, 0] rfl ?_
  exact h
set_option maxRecDepth 20000 in
theorem v_Mo_undo_21 {E : EN} {g : GS} {s : MS} {Q : Option Value → SG → Prop} (x1 : Int32) (hS : SX g) (h : ((120 ≤ x1 → Q (some (.int 1)) (mk g s)) ∧ (¬ 120 ≤ x1 → vp_in ((120 * (s.1 120 64)) + x1) 4800 ∧ vp_in x1 120 ∧ (∀ s1_, s1_ = wi s 162 ((x1).toNatClampNeg) (s.1 166 ((((120 * (s.1 120 64)) + x1)).toNatClampNeg)) → AWP E m_Mo_undo 21 0 0 [(0, .ref 120), (1, .int (x1 + 1))] [] (mk g s1_) Q)))) : AWP E m_Mo_undo 21 0 0 [(0, .ref 120), (1, .int x1)] [] (mk g s) Q := by
  refine aw_iload_n (q := 22) (j := 1) rfl rfl rfl (List.mem_of_getElem? (i := 1) rfl) ?_
  refine aw_bipush (q := 24) (v := 120) rfl rfl (by decide) ?_
  refine aw_icmp_ge (q := 27) (tgt := 53) rfl rfl (by decide) ⟨fun cd_1 => ?_, fun cd_1 => ?_⟩
  · replace h := h.1 cd_1
    refine aw_iconst (q := 54) (v := 1) rfl rfl (by decide) ?_
    exact aw_ireturn (ty := .boolean) rfl rfl rfl (by decide) (by decide) h
  · replace h := h.2 cd_1
    refine aw_aload_n (q := 28) (j := 0) rfl rfl rfl (List.mem_of_getElem? (i := 0) rfl) ?_
    refine ag_getR (q := 31) rfl rfl fl_Mo_143 rfl (SX.o hS rfl) (SX.r hS rfl) ?_
    refine aw_iload_n (q := 32) (j := 1) rfl rfl rfl (List.mem_of_getElem? (i := 1) rfl) ?_
    refine aw_aload_n (q := 33) (j := 0) rfl rfl rfl (List.mem_of_getElem? (i := 0) rfl) ?_
    refine ag_getR (q := 36) rfl rfl fl_Mo_155 rfl (SX.o hS rfl) (SX.r hS rfl) ?_
    refine aw_bipush (q := 38) (v := 120) rfl rfl (by decide) ?_
    refine aw_aload_n (q := 39) (j := 0) rfl rfl rfl (List.mem_of_getElem? (i := 0) rfl) ?_
    refine ag_getI (q := 42) rfl rfl fl_Mo_275 rfl (SX.o hS rfl) ?_
    refine aw_imul (q := 43) rfl rfl ?_
    refine aw_iload_n (q := 44) (j := 1) rfl rfl rfl (List.mem_of_getElem? (i := 1) rfl) ?_
    refine aw_iadd (q := 45) rfl rfl ?_
    obtain ⟨bd_2, h⟩ := h
    refine ag_iaload (q := 46) (N := 4800) rfl rfl (SX.a hS rfl) bd_2 ?_
    obtain ⟨bd_3, h⟩ := h
    refine ag_iastore (q := 47) (N := 120) rfl rfl (SX.a hS rfl) bd_3 ?_
    replace h := h _ rfl
    refine aw_iinc (q := 50) (v := _ + 1) (ls' := [(1, .int _), (0, .ref _)]) rfl rfl (List.mem_of_getElem? (i := 1) rfl) rfl (by decide) rfl ?_
    refine aw_goto (tgt := 21) rfl (by decide) ?_
    refine aw_ls [1, 0] rfl ?_
    exact h
set_option maxRecDepth 20000 in
theorem v_Mo_undo {E : EN} {g : GS} {s : MS} {Q : Option Value → SG → Prop}  (hS : SX g) (h : (((s.1 120 64) = 0 → Q (some (.int 0)) (mk g s)) ∧ (¬ (s.1 120 64) = 0 → (∀ s1_, s1_ = wi s 120 64 ((s.1 120 64) - 1) → AWP E m_Mo_undo 21 0 0 [(0, .ref 120), (1, .int 0)] [] (mk g s1_) Q)))) : AMet E m_Mo_undo [.ref 120] (mk g s) Q := by
  refine AMet.of (by decide) k_Mo_undo [(0, .ref 120)] (Nat.le_of_ble_eq_true rfl) rfl ?_
  refine aw_aload_n (q := 1) (j := 0) rfl rfl rfl (List.mem_of_getElem? (i := 0) rfl) ?_
  refine ag_getI (q := 4) rfl rfl fl_Mo_275 rfl (SX.o hS rfl) ?_
  refine aw_if_ne (q := 7) (tgt := 9) rfl rfl (by decide) ⟨fun cd_1 => ?_, fun cd_1 => ?_⟩
  · replace h := h.1 cd_1
    refine aw_iconst (q := 8) (v := 0) rfl rfl (by decide) ?_
    exact aw_ireturn (ty := .boolean) rfl rfl rfl (by decide) (by decide) h
  · replace h := h.2 cd_1
    refine aw_aload_n (q := 10) (j := 0) rfl rfl rfl (List.mem_of_getElem? (i := 0) rfl) ?_
    refine aw_dup (q := 11) rfl rfl rfl ?_
    refine ag_getI (q := 14) rfl rfl fl_Mo_275 rfl (SX.o hS rfl) ?_
    refine aw_iconst (q := 15) (v := 1) rfl rfl (by decide) ?_
    refine aw_isub (q := 16) rfl rfl ?_
    refine ag_putI (q := 19) rfl rfl fl_Mo_275 rfl rfl (SX.o hS rfl) ?_
    replace h := h _ rfl
    refine aw_iconst (q := 20) (v := 0) rfl rfl (by decide) ?_
    refine aw_istore_n (q := 21) (j := 1) (ls' := [(1, .int _), (0, .ref _)]) rfl rfl rfl (by decide) rfl ?_
    refine aw_ls [1, 0] rfl ?_
    exact h
set_option maxRecDepth 20000 in
theorem v_Mo_isClean {E : EN} {g : GS} {s : MS} {Q : Option Value → SG → Prop}  (hS : SX g) (h : GV E m_Mo_copies [.ref 120] g s (fun t1_ => GI E m_Mo_isCleanNow [.ref 120, .int 0] g t1_ (fun y2_ t2_ => (y2_ = 0 ∨ y2_ = 1) ∧ Q (some (.int y2_)) (mk g t2_)))) : AMet E m_Mo_isClean [.ref 120] (mk g s) Q := by
  refine AMet.of (by decide) k_Mo_isClean [(0, .ref 120)] (Nat.le_of_ble_eq_true rfl) rfl ?_
  refine aw_aload_n (q := 1) (j := 0) rfl rfl rfl (List.mem_of_getElem? (i := 0) rfl) ?_
  refine ag_cvV (z := m_Mo_copies) (ci := 11) (av := []) (st := []) (q := 4) (k' := 0) (n' := 0) rfl rfl cv_Mo_395 ⟨by decide, by decide⟩ rfl rfl (by decide) (by decide) (SX.o hS rfl) rfl rfl rfl (Nat.le_of_ble_eq_true rfl) ?_
  refine GV.mono h (fun t1_ h => ?_)
  refine aw_aload_n (q := 5) (j := 0) rfl rfl rfl (List.mem_of_getElem? (i := 0) rfl) ?_
  refine aw_iconst (q := 6) (v := 0) rfl rfl (by decide) ?_
  refine ag_cvI (z := m_Mo_isCleanNow) (ci := 11) (av := [.int _]) (st := []) (q := 9) (k' := 0) (n' := 0) rfl rfl cv_Mo_422 ⟨by decide, by decide⟩ rfl rfl (by decide) (by decide) (SX.o hS rfl) rfl rfl rfl (Nat.le_of_ble_eq_true rfl) ?_
  refine GI.mono h (fun y2_ t2_ h => ?_)
  obtain ⟨bd_1, h⟩ := h
  exact aw_ireturn (ty := .boolean) rfl rfl (nar_z bd_1) (by decide) (by decide) h
set_option maxRecDepth 20000 in
theorem v_Mo_isCleanNow_2 {E : EN} {g : GS} {s : MS} {Q : Option Value → SG → Prop} (x1 : Int32) (x2 : Int32) (hS : SX g) (h : vp_in (s.1 120 18) 2 ∧ (((s.1 137 (((s.1 120 18)).toNatClampNeg)) ≤ x2 → Q (some (.int 1)) (mk g s)) ∧ (¬ (s.1 137 (((s.1 120 18)).toNatClampNeg)) ≤ x2 → vp_in (42 + x2) 120 ∧ (((s.1 163 (((42 + x2)).toNatClampNeg)) = 1 → Q (some (.int 0)) (mk g s)) ∧ (¬ (s.1 163 (((42 + x2)).toNatClampNeg)) = 1 → ((x1 = 0 → (((s.1 163 (((42 + x2)).toNatClampNeg)) = 3 → AWP E m_Mo_isCleanNow 2 0 0 [(0, .ref 120), (1, .int x1), (2, .int (x2 + 1))] [] (mk g s) Q) ∧ (¬ (s.1 163 (((42 + x2)).toNatClampNeg)) = 3 → vp_in (90 + x2) 120 ∧ vp_in (s.1 163 (((90 + x2)).toNatClampNeg)) 120 ∧ (((s.1 163 (((s.1 163 (((90 + x2)).toNatClampNeg))).toNatClampNeg)) ≤ 0 → AWP E m_Mo_isCleanNow 2 0 0 [(0, .ref 120), (1, .int x1), (2, .int (x2 + 1))] [] (mk g s) Q) ∧ (¬ (s.1 163 (((s.1 163 (((90 + x2)).toNatClampNeg))).toNatClampNeg)) ≤ 0 → Q (some (.int 0)) (mk g s)))))) ∧ (¬ x1 = 0 → vp_in (90 + x2) 120 ∧ vp_in (s.1 163 (((90 + x2)).toNatClampNeg)) 120 ∧ (((s.1 163 (((s.1 163 (((90 + x2)).toNatClampNeg))).toNatClampNeg)) ≤ 0 → AWP E m_Mo_isCleanNow 2 0 0 [(0, .ref 120), (1, .int x1), (2, .int (x2 + 1))] [] (mk g s) Q) ∧ (¬ (s.1 163 (((s.1 163 (((90 + x2)).toNatClampNeg))).toNatClampNeg)) ≤ 0 → Q (some (.int 0)) (mk g s)))))))))) : AWP E m_Mo_isCleanNow 2 0 0 [(0, .ref 120), (1, .int x1), (2, .int x2)] [] (mk g s) Q := by
  refine aw_iload_n (q := 3) (j := 2) rfl rfl rfl (List.mem_of_getElem? (i := 2) rfl) ?_
  refine aw_aload_n (q := 4) (j := 0) rfl rfl rfl (List.mem_of_getElem? (i := 0) rfl) ?_
  refine ag_getR (q := 7) rfl rfl fl_Mo_67 rfl (SX.o hS rfl) (SX.r hS rfl) ?_
  refine aw_aload_n (q := 8) (j := 0) rfl rfl rfl (List.mem_of_getElem? (i := 0) rfl) ?_
  refine ag_getI (q := 11) rfl rfl fl_Mo_257 rfl (SX.o hS rfl) ?_
  obtain ⟨bd_1, h⟩ := h
  refine ag_iaload (q := 12) (N := 2) rfl rfl (SX.a hS rfl) bd_1 ?_
  refine aw_icmp_ge (q := 15) (tgt := 72) rfl rfl (by decide) ⟨fun cd_2 => ?_, fun cd_2 => ?_⟩
  · replace h := h.1 cd_2
    refine aw_iconst (q := 73) (v := 1) rfl rfl (by decide) ?_
    exact aw_ireturn (ty := .boolean) rfl rfl rfl (by decide) (by decide) h
  · replace h := h.2 cd_2
    refine aw_aload_n (q := 16) (j := 0) rfl rfl rfl (List.mem_of_getElem? (i := 0) rfl) ?_
    refine ag_getR (q := 19) rfl rfl fl_Mo_146 rfl (SX.o hS rfl) (SX.r hS rfl) ?_
    refine aw_bipush (q := 21) (v := 42) rfl rfl (by decide) ?_
    refine aw_iload_n (q := 22) (j := 2) rfl rfl rfl (List.mem_of_getElem? (i := 2) rfl) ?_
    refine aw_iadd (q := 23) rfl rfl ?_
    obtain ⟨bd_3, h⟩ := h
    refine ag_iaload (q := 24) (N := 120) rfl rfl (SX.a hS rfl) bd_3 ?_
    refine aw_iconst (q := 25) (v := 1) rfl rfl (by decide) ?_
    refine aw_icmp_ne (q := 28) (tgt := 30) rfl rfl (by decide) ⟨fun cd_4 => ?_, fun cd_4 => ?_⟩
    · replace h := h.1 cd_4
      refine aw_iconst (q := 29) (v := 0) rfl rfl (by decide) ?_
      exact aw_ireturn (ty := .boolean) rfl rfl rfl (by decide) (by decide) h
    · replace h := h.2 cd_4
      refine aw_iload_n (q := 31) (j := 1) rfl rfl rfl (List.mem_of_getElem? (i := 1) rfl) ?_
      refine aw_if_ne (q := 34) (tgt := 47) rfl rfl (by decide) ⟨fun cd_5 => ?_, fun cd_5 => ?_⟩
      · replace h := h.1 cd_5
        refine aw_aload_n (q := 35) (j := 0) rfl rfl rfl (List.mem_of_getElem? (i := 0) rfl) ?_
        refine ag_getR (q := 38) rfl rfl fl_Mo_146 rfl (SX.o hS rfl) (SX.r hS rfl) ?_
        refine aw_bipush (q := 40) (v := 42) rfl rfl (by decide) ?_
        refine aw_iload_n (q := 41) (j := 2) rfl rfl rfl (List.mem_of_getElem? (i := 2) rfl) ?_
        refine aw_iadd (q := 42) rfl rfl ?_
        refine ag_iaload (q := 43) (N := 120) rfl rfl (SX.a hS rfl) bd_3 ?_
        refine aw_iconst (q := 44) (v := 3) rfl rfl (by decide) ?_
        refine aw_icmp_eq (q := 47) (tgt := 66) rfl rfl (by decide) ⟨fun cd_6 => ?_, fun cd_6 => ?_⟩
        · replace h := h.1 cd_6
          refine aw_iinc (q := 69) (v := _ + 1) (ls' := [(2, .int _), (0, .ref _), (1, .int _)]) rfl rfl (List.mem_of_getElem? (i := 2) rfl) rfl (by decide) rfl ?_
          refine aw_goto (tgt := 2) rfl (by decide) ?_
          refine aw_ls [1, 2, 0] rfl ?_
          exact h
        · replace h := h.2 cd_6
          refine aw_aload_n (q := 48) (j := 0) rfl rfl rfl (List.mem_of_getElem? (i := 0) rfl) ?_
          refine ag_getR (q := 51) rfl rfl fl_Mo_146 rfl (SX.o hS rfl) (SX.r hS rfl) ?_
          refine aw_aload_n (q := 52) (j := 0) rfl rfl rfl (List.mem_of_getElem? (i := 0) rfl) ?_
          refine ag_getR (q := 55) rfl rfl fl_Mo_146 rfl (SX.o hS rfl) (SX.r hS rfl) ?_
          refine aw_bipush (q := 57) (v := 90) rfl rfl (by decide) ?_
          refine aw_iload_n (q := 58) (j := 2) rfl rfl rfl (List.mem_of_getElem? (i := 2) rfl) ?_
          refine aw_iadd (q := 59) rfl rfl ?_
          obtain ⟨bd_7, h⟩ := h
          refine ag_iaload (q := 60) (N := 120) rfl rfl (SX.a hS rfl) bd_7 ?_
          obtain ⟨bd_8, h⟩ := h
          refine ag_iaload (q := 61) (N := 120) rfl rfl (SX.a hS rfl) bd_8 ?_
          refine aw_if_le (q := 64) (tgt := 66) rfl rfl (by decide) ⟨fun cd_9 => ?_, fun cd_9 => ?_⟩
          · replace h := h.1 cd_9
            refine aw_iinc (q := 69) (v := _ + 1) (ls' := [(2, .int _), (0, .ref _), (1, .int _)]) rfl rfl (List.mem_of_getElem? (i := 2) rfl) rfl (by decide) rfl ?_
            refine aw_goto (tgt := 2) rfl (by decide) ?_
            refine aw_ls [1, 2, 0] rfl ?_
            exact h
          · replace h := h.2 cd_9
            refine aw_iconst (q := 65) (v := 0) rfl rfl (by decide) ?_
            exact aw_ireturn (ty := .boolean) rfl rfl rfl (by decide) (by decide) h
      · replace h := h.2 cd_5
        refine aw_aload_n (q := 48) (j := 0) rfl rfl rfl (List.mem_of_getElem? (i := 0) rfl) ?_
        refine ag_getR (q := 51) rfl rfl fl_Mo_146 rfl (SX.o hS rfl) (SX.r hS rfl) ?_
        refine aw_aload_n (q := 52) (j := 0) rfl rfl rfl (List.mem_of_getElem? (i := 0) rfl) ?_
        refine ag_getR (q := 55) rfl rfl fl_Mo_146 rfl (SX.o hS rfl) (SX.r hS rfl) ?_
        refine aw_bipush (q := 57) (v := 90) rfl rfl (by decide) ?_
        refine aw_iload_n (q := 58) (j := 2) rfl rfl rfl (List.mem_of_getElem? (i := 2) rfl) ?_
        refine aw_iadd (q := 59) rfl rfl ?_
        obtain ⟨bd_10, h⟩ := h
        refine ag_iaload (q := 60) (N := 120) rfl rfl (SX.a hS rfl) bd_10 ?_
        obtain ⟨bd_11, h⟩ := h
        refine ag_iaload (q := 61) (N := 120) rfl rfl (SX.a hS rfl) bd_11 ?_
        refine aw_if_le (q := 64) (tgt := 66) rfl rfl (by decide) ⟨fun cd_12 => ?_, fun cd_12 => ?_⟩
        · replace h := h.1 cd_12
          refine aw_iinc (q := 69) (v := _ + 1) (ls' := [(2, .int _), (0, .ref _), (1, .int _)]) rfl rfl (List.mem_of_getElem? (i := 2) rfl) rfl (by decide) rfl ?_
          refine aw_goto (tgt := 2) rfl (by decide) ?_
          refine aw_ls [1, 2, 0] rfl ?_
          exact h
        · replace h := h.2 cd_12
          refine aw_iconst (q := 65) (v := 0) rfl rfl (by decide) ?_
          exact aw_ireturn (ty := .boolean) rfl rfl rfl (by decide) (by decide) h
set_option maxRecDepth 20000 in
theorem v_Mo_isCleanNow {E : EN} {g : GS} {s : MS} {Q : Option Value → SG → Prop} (x1 : Int32) (h : AWP E m_Mo_isCleanNow 2 0 0 [(0, .ref 120), (1, .int x1), (2, .int 0)] [] (mk g s) Q) : AMet E m_Mo_isCleanNow [.ref 120, .int x1] (mk g s) Q := by
  refine AMet.of (by decide) k_Mo_isCleanNow [(0, .ref 120), (1, .int x1)] (Nat.le_of_ble_eq_true rfl) rfl ?_
  refine aw_iconst (q := 1) (v := 0) rfl rfl (by decide) ?_
  refine aw_istore_n (q := 2) (j := 2) (ls' := [(2, .int _), (0, .ref _), (1, .int _)]) rfl rfl rfl (by decide) rfl ?_
  refine aw_ls [1, 2, 0] rfl ?_
  exact h
set_option maxRecDepth 20000 in
theorem v_Mo_clean {E : EN} {g : GS} {s : MS} {Q : Option Value → SG → Prop}  (hS : SX g) (h : GV E m_Mo_copies [.ref 120] g s (fun t1_ => GI E m_Mo_cleanBy [.ref 120] g t1_ (fun y2_ t2_ => Q (some (.int y2_)) (mk g t2_)))) : AMet E m_Mo_clean [.ref 120] (mk g s) Q := by
  refine AMet.of (by decide) k_Mo_clean [(0, .ref 120)] (Nat.le_of_ble_eq_true rfl) rfl ?_
  refine aw_aload_n (q := 1) (j := 0) rfl rfl rfl (List.mem_of_getElem? (i := 0) rfl) ?_
  refine ag_cvV (z := m_Mo_copies) (ci := 11) (av := []) (st := []) (q := 4) (k' := 0) (n' := 0) rfl rfl cv_Mo_395 ⟨by decide, by decide⟩ rfl rfl (by decide) (by decide) (SX.o hS rfl) rfl rfl rfl (Nat.le_of_ble_eq_true rfl) ?_
  refine GV.mono h (fun t1_ h => ?_)
  refine aw_aload_n (q := 5) (j := 0) rfl rfl rfl (List.mem_of_getElem? (i := 0) rfl) ?_
  refine ag_cvI (z := m_Mo_cleanBy) (ci := 11) (av := []) (st := []) (q := 8) (k' := 0) (n' := 0) rfl rfl cv_Mo_426 ⟨by decide, by decide⟩ rfl rfl (by decide) (by decide) (SX.o hS rfl) rfl rfl rfl (Nat.le_of_ble_eq_true rfl) ?_
  refine GI.mono h (fun y2_ t2_ h => ?_)
  exact aw_ireturn (ty := .int) rfl rfl rfl (by decide) (by decide) h
