/-! walks of the methods, by program (vcgen.py) -/
theorem nar_z {v : Int32} (h : v = 0 ∨ v = 1) : narrow .boolean (.int v) = .int v := by rcases h with rfl | rfl <;> decide
set_option maxRecDepth 20000 in
theorem v_Int_bitCount {E : EN} {g : GS} {s : MS} {Q : Option Value → SG → Prop} (x0 : Int32) (h : Q (some (.int ((((((((x0 - (((x0.toUInt32 >>> ((1 : Int32).toUInt32 &&& Int32.toUInt32 31)).toInt32) &&& 1431655765)) &&& 858993459) + ((((x0 - (((x0.toUInt32 >>> ((1 : Int32).toUInt32 &&& Int32.toUInt32 31)).toInt32) &&& 1431655765)).toUInt32 >>> ((2 : Int32).toUInt32 &&& Int32.toUInt32 31)).toInt32) &&& 858993459)) + (((((x0 - (((x0.toUInt32 >>> ((1 : Int32).toUInt32 &&& Int32.toUInt32 31)).toInt32) &&& 1431655765)) &&& 858993459) + ((((x0 - (((x0.toUInt32 >>> ((1 : Int32).toUInt32 &&& Int32.toUInt32 31)).toInt32) &&& 1431655765)).toUInt32 >>> ((2 : Int32).toUInt32 &&& Int32.toUInt32 31)).toInt32) &&& 858993459)).toUInt32 >>> ((4 : Int32).toUInt32 &&& Int32.toUInt32 31)).toInt32)) &&& 252645135) + (((((((x0 - (((x0.toUInt32 >>> ((1 : Int32).toUInt32 &&& Int32.toUInt32 31)).toInt32) &&& 1431655765)) &&& 858993459) + ((((x0 - (((x0.toUInt32 >>> ((1 : Int32).toUInt32 &&& Int32.toUInt32 31)).toInt32) &&& 1431655765)).toUInt32 >>> ((2 : Int32).toUInt32 &&& Int32.toUInt32 31)).toInt32) &&& 858993459)) + (((((x0 - (((x0.toUInt32 >>> ((1 : Int32).toUInt32 &&& Int32.toUInt32 31)).toInt32) &&& 1431655765)) &&& 858993459) + ((((x0 - (((x0.toUInt32 >>> ((1 : Int32).toUInt32 &&& Int32.toUInt32 31)).toInt32) &&& 1431655765)).toUInt32 >>> ((2 : Int32).toUInt32 &&& Int32.toUInt32 31)).toInt32) &&& 858993459)).toUInt32 >>> ((4 : Int32).toUInt32 &&& Int32.toUInt32 31)).toInt32)) &&& 252645135).toUInt32 >>> ((8 : Int32).toUInt32 &&& Int32.toUInt32 31)).toInt32)) + ((((((((x0 - (((x0.toUInt32 >>> ((1 : Int32).toUInt32 &&& Int32.toUInt32 31)).toInt32) &&& 1431655765)) &&& 858993459) + ((((x0 - (((x0.toUInt32 >>> ((1 : Int32).toUInt32 &&& Int32.toUInt32 31)).toInt32) &&& 1431655765)).toUInt32 >>> ((2 : Int32).toUInt32 &&& Int32.toUInt32 31)).toInt32) &&& 858993459)) + (((((x0 - (((x0.toUInt32 >>> ((1 : Int32).toUInt32 &&& Int32.toUInt32 31)).toInt32) &&& 1431655765)) &&& 858993459) + ((((x0 - (((x0.toUInt32 >>> ((1 : Int32).toUInt32 &&& Int32.toUInt32 31)).toInt32) &&& 1431655765)).toUInt32 >>> ((2 : Int32).toUInt32 &&& Int32.toUInt32 31)).toInt32) &&& 858993459)).toUInt32 >>> ((4 : Int32).toUInt32 &&& Int32.toUInt32 31)).toInt32)) &&& 252645135) + (((((((x0 - (((x0.toUInt32 >>> ((1 : Int32).toUInt32 &&& Int32.toUInt32 31)).toInt32) &&& 1431655765)) &&& 858993459) + ((((x0 - (((x0.toUInt32 >>> ((1 : Int32).toUInt32 &&& Int32.toUInt32 31)).toInt32) &&& 1431655765)).toUInt32 >>> ((2 : Int32).toUInt32 &&& Int32.toUInt32 31)).toInt32) &&& 858993459)) + (((((x0 - (((x0.toUInt32 >>> ((1 : Int32).toUInt32 &&& Int32.toUInt32 31)).toInt32) &&& 1431655765)) &&& 858993459) + ((((x0 - (((x0.toUInt32 >>> ((1 : Int32).toUInt32 &&& Int32.toUInt32 31)).toInt32) &&& 1431655765)).toUInt32 >>> ((2 : Int32).toUInt32 &&& Int32.toUInt32 31)).toInt32) &&& 858993459)).toUInt32 >>> ((4 : Int32).toUInt32 &&& Int32.toUInt32 31)).toInt32)) &&& 252645135).toUInt32 >>> ((8 : Int32).toUInt32 &&& Int32.toUInt32 31)).toInt32)).toUInt32 >>> ((16 : Int32).toUInt32 &&& Int32.toUInt32 31)).toInt32)) &&& 63))) (mk g s)) : AMet E m_Int_bitCount [.int x0] (mk g s) Q := by
  refine AMet.of (by decide) k_Int_bitCount [(0, .int x0)] (Nat.le_of_ble_eq_true rfl) rfl ?_
  refine aw_iload_n (q := 1) (j := 0) rfl rfl rfl (List.mem_of_getElem? (i := 0) rfl) ?_
  refine aw_iload_n (q := 2) (j := 0) rfl rfl rfl (List.mem_of_getElem? (i := 0) rfl) ?_
  refine aw_iconst (q := 3) (v := 1) rfl rfl (by decide) ?_
  refine aw_iushr (q := 4) rfl rfl ?_
  refine aw_ldcw (q := 7) rfl rfl kc_Int_265 ?_
  refine aw_iand (q := 8) rfl rfl ?_
  refine aw_isub (q := 9) rfl rfl ?_
  refine aw_istore_n (q := 10) (j := 0) (ls' := [(0, .int _)]) rfl rfl rfl (by decide) rfl ?_
  refine aw_iload_n (q := 11) (j := 0) rfl rfl rfl (List.mem_of_getElem? (i := 0) rfl) ?_
  refine aw_ldcw (q := 14) rfl rfl kc_Int_266 ?_
  refine aw_iand (q := 15) rfl rfl ?_
  refine aw_iload_n (q := 16) (j := 0) rfl rfl rfl (List.mem_of_getElem? (i := 0) rfl) ?_
  refine aw_iconst (q := 17) (v := 2) rfl rfl (by decide) ?_
  refine aw_iushr (q := 18) rfl rfl ?_
  refine aw_ldcw (q := 21) rfl rfl kc_Int_266 ?_
  refine aw_iand (q := 22) rfl rfl ?_
  refine aw_iadd (q := 23) rfl rfl ?_
  refine aw_istore_n (q := 24) (j := 0) (ls' := [(0, .int _)]) rfl rfl rfl (by decide) rfl ?_
  refine aw_iload_n (q := 25) (j := 0) rfl rfl rfl (List.mem_of_getElem? (i := 0) rfl) ?_
  refine aw_iload_n (q := 26) (j := 0) rfl rfl rfl (List.mem_of_getElem? (i := 0) rfl) ?_
  refine aw_iconst (q := 27) (v := 4) rfl rfl (by decide) ?_
  refine aw_iushr (q := 28) rfl rfl ?_
  refine aw_iadd (q := 29) rfl rfl ?_
  refine aw_ldcw (q := 32) rfl rfl kc_Int_267 ?_
  refine aw_iand (q := 33) rfl rfl ?_
  refine aw_istore_n (q := 34) (j := 0) (ls' := [(0, .int _)]) rfl rfl rfl (by decide) rfl ?_
  refine aw_iload_n (q := 35) (j := 0) rfl rfl rfl (List.mem_of_getElem? (i := 0) rfl) ?_
  refine aw_iload_n (q := 36) (j := 0) rfl rfl rfl (List.mem_of_getElem? (i := 0) rfl) ?_
  refine aw_bipush (q := 38) (v := 8) rfl rfl (by decide) ?_
  refine aw_iushr (q := 39) rfl rfl ?_
  refine aw_iadd (q := 40) rfl rfl ?_
  refine aw_istore_n (q := 41) (j := 0) (ls' := [(0, .int _)]) rfl rfl rfl (by decide) rfl ?_
  refine aw_iload_n (q := 42) (j := 0) rfl rfl rfl (List.mem_of_getElem? (i := 0) rfl) ?_
  refine aw_iload_n (q := 43) (j := 0) rfl rfl rfl (List.mem_of_getElem? (i := 0) rfl) ?_
  refine aw_bipush (q := 45) (v := 16) rfl rfl (by decide) ?_
  refine aw_iushr (q := 46) rfl rfl ?_
  refine aw_iadd (q := 47) rfl rfl ?_
  refine aw_istore_n (q := 48) (j := 0) (ls' := [(0, .int _)]) rfl rfl rfl (by decide) rfl ?_
  refine aw_iload_n (q := 49) (j := 0) rfl rfl rfl (List.mem_of_getElem? (i := 0) rfl) ?_
  refine aw_bipush (q := 51) (v := 63) rfl rfl (by decide) ?_
  refine aw_iand (q := 52) rfl rfl ?_
  exact aw_ireturn (ty := .int) rfl rfl rfl (by decide) (by decide) h
set_option maxRecDepth 20000 in
theorem v_Lat_charAt {E : EN} {g : GS} {s : MS} {Q : Option Value → SG → Prop} (i : Nat) (x1 : Int32) (h_i : i < 6) (h : GV E m_Str_checkIndex [.int x1, .int (Int32.ofNat (strN.getD i 0))] g s (fun t1_ => vp_in x1 (strN.getD i 0) ∧ narrow .char (.int (((Int32.toUInt32 (((strBs.getD i []).getD (x1).toNatClampNeg 0) &&& 255)) % 65536).toInt32)) = .int (((Int32.toUInt32 (((strBs.getD i []).getD (x1).toNatClampNeg 0) &&& 255)) % 65536).toInt32) ∧ Q (some (.int (((Int32.toUInt32 (((strBs.getD i []).getD (x1).toNatClampNeg 0) &&& 255)) % 65536).toInt32))) (mk g t1_))) : AMet E m_Lat_charAt [.ref (8 + i), .int x1] (mk g s) Q := by
  refine AMet.of (by decide) k_Lat_charAt [(0, .ref (8 + i)), (1, .int x1)] (Nat.le_of_ble_eq_true rfl) rfl ?_
  refine aw_iload_n (q := 1) (j := 1) rfl rfl rfl (List.mem_of_getElem? (i := 1) rfl) ?_
  refine aw_aload_n (q := 2) (j := 0) rfl rfl rfl (List.mem_of_getElem? (i := 0) rfl) ?_
  refine aw_slen (q := 3) (i := i) rfl rfl h_i rfl rfl ?_
  refine ag_csV (z := m_Str_checkIndex) (av := [.int _, .int _]) (st := []) (q := 6) (k' := 0) (n' := 0) rfl rfl cs_Lat_9 ⟨by decide, by decide⟩ rfl rfl (by decide) (by decide) rfl rfl (Nat.le_of_ble_eq_true rfl) ?_
  refine GV.mono h (fun t1_ h => ?_)
  refine aw_aload_n (q := 7) (j := 0) rfl rfl rfl (List.mem_of_getElem? (i := 0) rfl) ?_
  refine aw_iload_n (q := 8) (j := 1) rfl rfl rfl (List.mem_of_getElem? (i := 1) rfl) ?_
  obtain ⟨bd_1, h⟩ := h
  refine aw_sbal (q := 9) (i := i) rfl rfl h_i rfl bd_1 ?_
  refine aw_sipush (q := 12) (v := 255) rfl rfl (by decide) ?_
  refine aw_iand (q := 13) rfl rfl ?_
  refine aw_i2c (q := 14) rfl rfl ?_
  obtain ⟨bd_2, h⟩ := h
  exact aw_ireturn (ty := .char) rfl rfl bd_2 (by decide) (by decide) h
set_option maxRecDepth 20000 in
theorem v_Lat_indexOf {E : EN} {g : GS} {s : MS} {Q : Option Value → SG → Prop} (i : Nat) (x1 : Int32) (x2 : Int32) (x3 : Int32) (h_i : i < 6) (h : GI E m_Lat_canEncode [.int x1] g s (fun y1_ t1_ => ((y1_ = 0 → Q (some (.int (-1))) (mk g t1_)) ∧ (¬ y1_ = 0 → (((if x2 < 0 then 0 else x2) < (if (Int32.ofNat (strN.getD i 0)) < x3 then (Int32.ofNat (strN.getD i 0)) else x3) → GI E m_Lat_indexOfChar [.ref (8 + i), .int x1, .int (if x2 < 0 then 0 else x2), .int (if (Int32.ofNat (strN.getD i 0)) < x3 then (Int32.ofNat (strN.getD i 0)) else x3)] g t1_ (fun y2_ t2_ => Q (some (.int y2_)) (mk g t2_))) ∧ (¬ (if x2 < 0 then 0 else x2) < (if (Int32.ofNat (strN.getD i 0)) < x3 then (Int32.ofNat (strN.getD i 0)) else x3) → Q (some (.int (-1))) (mk g t1_))))))) : AMet E m_Lat_indexOf [.ref (8 + i), .int x1, .int x2, .int x3] (mk g s) Q := by
  refine AMet.of (by decide) k_Lat_indexOf [(0, .ref (8 + i)), (1, .int x1), (2, .int x2), (3, .int x3)] (Nat.le_of_ble_eq_true rfl) rfl ?_
  refine aw_iload_n (q := 1) (j := 1) rfl rfl rfl (List.mem_of_getElem? (i := 1) rfl) ?_
  refine ag_csI (z := m_Lat_canEncode) (av := [.int _]) (st := []) (q := 4) (k' := 0) (n' := 0) rfl rfl cs_Lat_88 ⟨by decide, by decide⟩ rfl rfl (by decide) (by decide) rfl rfl (Nat.le_of_ble_eq_true rfl) ?_
  refine GI.mono h (fun y1_ t1_ h => ?_)
  refine aw_if_ne (q := 7) (tgt := 9) rfl rfl (by decide) ⟨fun cd_1 => ?_, fun cd_1 => ?_⟩
  · replace h := h.1 cd_1
    refine aw_iconst (q := 8) (v := (-1)) rfl rfl (by decide) ?_
    exact aw_ireturn (ty := .int) rfl rfl rfl (by decide) (by decide) h
  · replace h := h.2 cd_1
    refine aw_iload_n (q := 10) (j := 2) rfl rfl rfl (List.mem_of_getElem? (i := 2) rfl) ?_
    refine aw_iconst (q := 11) (v := 0) rfl rfl (by decide) ?_
    refine aw_mmax (q := 14) rfl rfl (tb_c3 175 rfl rfl) (tb_c3 176 rfl rfl) (tb_c1 18 rfl rfl) (tb_c3 177 rfl rfl) (by decide) (by decide) (by decide) (by decide) (Nat.le_of_ble_eq_true rfl) ?_
    refine aw_istore_n (q := 15) (j := 2) (ls' := [(2, .int _), (0, .ref _), (1, .int _), (3, .int _)]) rfl rfl rfl (by decide) rfl ?_
    refine aw_iload_n (q := 16) (j := 3) rfl rfl rfl (List.mem_of_getElem? (i := 3) rfl) ?_
    refine aw_aload_n (q := 17) (j := 0) rfl rfl rfl (List.mem_of_getElem? (i := 1) rfl) ?_
    refine aw_slen (q := 18) (i := i) rfl rfl h_i rfl rfl ?_
    refine aw_mmin (q := 21) rfl rfl (tb_c3 178 rfl rfl) (tb_c3 142 rfl rfl) (tb_c1 18 rfl rfl) (tb_c3 143 rfl rfl) (by decide) (by decide) (by decide) (by decide) (Nat.le_of_ble_eq_true rfl) ?_
    refine aw_istore_n (q := 22) (j := 3) (ls' := [(3, .int _), (2, .int _), (0, .ref _), (1, .int _)]) rfl rfl rfl (by decide) rfl ?_
    refine aw_iload_n (q := 23) (j := 2) rfl rfl rfl (List.mem_of_getElem? (i := 1) rfl) ?_
    refine aw_iload_n (q := 24) (j := 3) rfl rfl rfl (List.mem_of_getElem? (i := 0) rfl) ?_
    refine aw_icmp_lt (q := 27) (tgt := 29) rfl rfl (by decide) ⟨fun cd_2 => ?_, fun cd_2 => ?_⟩
    · replace h := h.1 cd_2
      refine aw_aload_n (q := 30) (j := 0) rfl rfl rfl (List.mem_of_getElem? (i := 2) rfl) ?_
      refine aw_iload_n (q := 31) (j := 1) rfl rfl rfl (List.mem_of_getElem? (i := 3) rfl) ?_
      refine aw_iload_n (q := 32) (j := 2) rfl rfl rfl (List.mem_of_getElem? (i := 1) rfl) ?_
      refine aw_iload_n (q := 33) (j := 3) rfl rfl rfl (List.mem_of_getElem? (i := 0) rfl) ?_
      refine ag_csI (z := m_Lat_indexOfChar) (av := [.ref _, .int _, .int _, .int _]) (st := []) (q := 36) (k' := 0) (n' := 0) rfl rfl cs_Lat_95 ⟨by decide, by decide⟩ rfl rfl (by decide) (by decide) rfl rfl (Nat.le_of_ble_eq_true rfl) ?_
      refine GI.mono h (fun y2_ t2_ h => ?_)
      exact aw_ireturn (ty := .int) rfl rfl rfl (by decide) (by decide) h
    · replace h := h.2 cd_2
      refine aw_iconst (q := 28) (v := (-1)) rfl rfl (by decide) ?_
      exact aw_ireturn (ty := .int) rfl rfl rfl (by decide) (by decide) h
set_option maxRecDepth 20000 in
theorem v_Lat_canEncode {E : EN} {g : GS} {s : MS} {Q : Option Value → SG → Prop} (x0 : Int32) (h : ((x0 < 0 → Q (some (.int 0)) (mk g s)) ∧ (¬ x0 < 0 → ((255 < x0 → Q (some (.int 0)) (mk g s)) ∧ (¬ 255 < x0 → Q (some (.int 1)) (mk g s)))))) : AMet E m_Lat_canEncode [.int x0] (mk g s) Q := by
  refine AMet.of (by decide) k_Lat_canEncode [(0, .int x0)] (Nat.le_of_ble_eq_true rfl) rfl ?_
  refine aw_iload_n (q := 1) (j := 0) rfl rfl rfl (List.mem_of_getElem? (i := 0) rfl) ?_
  refine aw_if_lt (q := 4) (tgt := 15) rfl rfl (by decide) ⟨fun cd_1 => ?_, fun cd_1 => ?_⟩
  · replace h := h.1 cd_1
    refine aw_iconst (q := 16) (v := 0) rfl rfl (by decide) ?_
    exact aw_ireturn (ty := .boolean) rfl rfl rfl (by decide) (by decide) h
  · replace h := h.2 cd_1
    refine aw_iload_n (q := 5) (j := 0) rfl rfl rfl (List.mem_of_getElem? (i := 0) rfl) ?_
    refine aw_sipush (q := 8) (v := 255) rfl rfl (by decide) ?_
    refine aw_icmp_gt (q := 11) (tgt := 15) rfl rfl (by decide) ⟨fun cd_2 => ?_, fun cd_2 => ?_⟩
    · replace h := h.1 cd_2
      refine aw_iconst (q := 16) (v := 0) rfl rfl (by decide) ?_
      exact aw_ireturn (ty := .boolean) rfl rfl rfl (by decide) (by decide) h
    · replace h := h.2 cd_2
      refine aw_iconst (q := 12) (v := 1) rfl rfl (by decide) ?_
      refine aw_goto (tgt := 16) rfl (by decide) ?_
      exact aw_ireturn (ty := .boolean) rfl rfl rfl (by decide) (by decide) h
set_option maxRecDepth 20000 in
theorem v_Lat_indexOfChar_7 {E : EN} {g : GS} {s : MS} {Q : Option Value → SG → Prop} (i : Nat) (x1 : Int32) (x2 : Int32) (x3 : Int32) (x4 : Int32) (x5 : Int32) (h_i : i < 6) (h : ((x3 ≤ x5 → Q (some (.int (-1))) (mk g s)) ∧ (¬ x3 ≤ x5 → vp_in x5 (strN.getD i 0) ∧ ((((strBs.getD i []).getD (x5).toNatClampNeg 0) = x4 → Q (some (.int x5)) (mk g s)) ∧ (¬ ((strBs.getD i []).getD (x5).toNatClampNeg 0) = x4 → AWP E m_Lat_indexOfChar 7 0 0 [(0, .ref (8 + i)), (1, .int x1), (2, .int x2), (3, .int x3), (4, .int x4), (5, .int (x5 + 1))] [] (mk g s) Q))))) : AWP E m_Lat_indexOfChar 7 0 0 [(0, .ref (8 + i)), (1, .int x1), (2, .int x2), (3, .int x3), (4, .int x4), (5, .int x5)] [] (mk g s) Q := by
  refine aw_iload (q := 9) (j := 5) rfl rfl (List.mem_of_getElem? (i := 5) rfl) ?_
  refine aw_iload_n (q := 10) (j := 3) rfl rfl rfl (List.mem_of_getElem? (i := 3) rfl) ?_
  refine aw_icmp_ge (q := 13) (tgt := 31) rfl rfl (by decide) ⟨fun cd_1 => ?_, fun cd_1 => ?_⟩
  · replace h := h.1 cd_1
    refine aw_iconst (q := 32) (v := (-1)) rfl rfl (by decide) ?_
    exact aw_ireturn (ty := .int) rfl rfl rfl (by decide) (by decide) h
  · replace h := h.2 cd_1
    refine aw_aload_n (q := 14) (j := 0) rfl rfl rfl (List.mem_of_getElem? (i := 0) rfl) ?_
    refine aw_iload (q := 16) (j := 5) rfl rfl (List.mem_of_getElem? (i := 5) rfl) ?_
    obtain ⟨bd_2, h⟩ := h
    refine aw_sbal (q := 17) (i := i) rfl rfl h_i rfl bd_2 ?_
    refine aw_iload (q := 19) (j := 4) rfl rfl (List.mem_of_getElem? (i := 4) rfl) ?_
    refine aw_icmp_ne (q := 22) (tgt := 25) rfl rfl (by decide) ⟨fun cd_3 => ?_, fun cd_3 => ?_⟩
    · replace h := h.1 cd_3
      refine aw_iload (q := 24) (j := 5) rfl rfl (List.mem_of_getElem? (i := 5) rfl) ?_
      exact aw_ireturn (ty := .int) rfl rfl rfl (by decide) (by decide) h
    · replace h := h.2 cd_3
      refine aw_iinc (q := 28) (v := _ + 1) (ls' := [(5, .int _), (0, .ref _), (1, .int _), (2, .int _), (3, .int _), (4, .int _)]) rfl rfl (List.mem_of_getElem? (i := 5) rfl) rfl (by decide) rfl ?_
      refine aw_goto (tgt := 7) rfl (by decide) ?_
      refine aw_ls [1, 2, 3, 4, 5, 0] rfl ?_
      exact h
set_option maxRecDepth 20000 in
theorem v_Lat_indexOfChar {E : EN} {g : GS} {s : MS} {Q : Option Value → SG → Prop} (i : Nat) (x1 : Int32) (x2 : Int32) (x3 : Int32) (h : AWP E m_Lat_indexOfChar 7 0 0 [(0, .ref (8 + i)), (1, .int x1), (2, .int x2), (3, .int x3), (4, .int ((Int32.toInt8 x1).toInt32)), (5, .int x2)] [] (mk g s) Q) : AMet E m_Lat_indexOfChar [.ref (8 + i), .int x1, .int x2, .int x3] (mk g s) Q := by
  refine AMet.of (by decide) k_Lat_indexOfChar [(0, .ref (8 + i)), (1, .int x1), (2, .int x2), (3, .int x3)] (Nat.le_of_ble_eq_true rfl) rfl ?_
  refine aw_iload_n (q := 1) (j := 1) rfl rfl rfl (List.mem_of_getElem? (i := 1) rfl) ?_
  refine aw_i2b (q := 2) rfl rfl ?_
  refine aw_istore (q := 4) (j := 4) (ls' := [(4, .int _), (0, .ref _), (1, .int _), (2, .int _), (3, .int _)]) rfl rfl (by decide) rfl ?_
  refine aw_iload_n (q := 5) (j := 2) rfl rfl rfl (List.mem_of_getElem? (i := 3) rfl) ?_
  refine aw_istore (q := 7) (j := 5) (ls' := [(5, .int _), (4, .int _), (0, .ref _), (1, .int _), (2, .int _), (3, .int _)]) rfl rfl (by decide) rfl ?_
  refine aw_ls [2, 3, 4, 5, 1, 0] rfl ?_
  exact h
set_option maxRecDepth 20000 in
theorem v_Str_charAt {E : EN} {g : GS} {s : MS} {Q : Option Value → SG → Prop} (i : Nat) (x1 : Int32) (h_i : i < 6) (h : GI E m_Str_isLatin1 [.ref (2 + i)] g s (fun y1_ t1_ => ((y1_ = 0 → False) ∧ (¬ y1_ = 0 → GI E m_Lat_charAt [.ref (8 + i), .int x1] g t1_ (fun y2_ t2_ => narrow .char (.int y2_) = .int y2_ ∧ Q (some (.int y2_)) (mk g t2_)))))) : AMet E m_Str_charAt [.ref (2 + i), .int x1] (mk g s) Q := by
  refine AMet.of (by decide) k_Str_charAt [(0, .ref (2 + i)), (1, .int x1)] (Nat.le_of_ble_eq_true rfl) rfl ?_
  refine aw_aload_n (q := 1) (j := 0) rfl rfl rfl (List.mem_of_getElem? (i := 0) rfl) ?_
  refine ag_cvS (z := m_Str_isLatin1) (av := []) (st := []) (i := i) (q := 4) (k' := 0) (n' := 0) rfl rfl cv_Str_492 ⟨by decide, by decide⟩ rfl rfl (by decide) (by decide) h_i rfl rfl rfl (Nat.le_of_ble_eq_true rfl) ?_
  refine GI.mono h (fun y1_ t1_ h => ?_)
  refine aw_if_eq (q := 7) (tgt := 16) rfl rfl (by decide) ⟨fun cd_1 => ?_, fun cd_1 => ?_⟩
  · replace h := h.1 cd_1
    refine aw_aload_n (q := 17) (j := 0) rfl rfl rfl (List.mem_of_getElem? (i := 0) rfl) ?_
    refine aw_sval (q := 20) (i := i) rfl rfl h_i (tb_c8 191 rfl rfl) ?_
    refine aw_iload_n (q := 21) (j := 1) rfl rfl rfl (List.mem_of_getElem? (i := 1) rfl) ?_
    exact h.elim
  · replace h := h.2 cd_1
    refine aw_aload_n (q := 8) (j := 0) rfl rfl rfl (List.mem_of_getElem? (i := 0) rfl) ?_
    refine aw_sval (q := 11) (i := i) rfl rfl h_i (tb_c8 191 rfl rfl) ?_
    refine aw_iload_n (q := 12) (j := 1) rfl rfl rfl (List.mem_of_getElem? (i := 1) rfl) ?_
    refine ag_csI (z := m_Lat_charAt) (av := [.ref _, .int _]) (st := []) (q := 15) (k' := 0) (n' := 0) rfl rfl cs_Str_495 ⟨by decide, by decide⟩ rfl rfl (by decide) (by decide) rfl rfl (Nat.le_of_ble_eq_true rfl) ?_
    refine GI.mono h (fun y2_ t2_ h => ?_)
    obtain ⟨bd_2, h⟩ := h
    exact aw_ireturn (ty := .char) rfl rfl bd_2 (by decide) (by decide) h
set_option maxRecDepth 20000 in
theorem v_Str_isLatin1 {E : EN} {g : GS} {s : MS} {Q : Option Value → SG → Prop} (i : Nat) (h_i : i < 6) (h : Q (some (.int 1)) (mk g s)) : AMet E m_Str_isLatin1 [.ref (2 + i)] (mk g s) Q := by
  refine AMet.of (by decide) k_Str_isLatin1 [(0, .ref (2 + i))] (Nat.le_of_ble_eq_true rfl) rfl ?_
  refine aw_compact (q := 3) rfl rfl (tb_c3 109 rfl rfl) ?_
  refine aw_if_eq (q := 6) (tgt := 17) rfl rfl (by decide) ⟨fun c => absurd c (by decide), fun _ => ?_⟩
  refine aw_aload_n (q := 7) (j := 0) rfl rfl rfl (List.mem_of_getElem? (i := 0) rfl) ?_
  refine aw_scod (q := 10) (i := i) rfl rfl h_i (tb_c8 190 rfl rfl) ?_
  refine aw_if_ne (q := 13) (tgt := 17) rfl rfl (by decide) ⟨fun _ => ?_, fun c => absurd (by decide) c⟩
  refine aw_iconst (q := 14) (v := 1) rfl rfl (by decide) ?_
  refine aw_goto (tgt := 18) rfl (by decide) ?_
  exact aw_ireturn (ty := .boolean) rfl rfl rfl (by decide) (by decide) h
set_option maxRecDepth 20000 in
theorem v_Str_indexOf {E : EN} {g : GS} {s : MS} {Q : Option Value → SG → Prop} (i : Nat) (x1 : Int32) (h_i : i < 6) (h : GI E m_Str_indexOf2 [.ref (2 + i), .int x1, .int 0] g s (fun y1_ t1_ => Q (some (.int y1_)) (mk g t1_))) : AMet E m_Str_indexOf [.ref (2 + i), .int x1] (mk g s) Q := by
  refine AMet.of (by decide) k_Str_indexOf [(0, .ref (2 + i)), (1, .int x1)] (Nat.le_of_ble_eq_true rfl) rfl ?_
  refine aw_aload_n (q := 1) (j := 0) rfl rfl rfl (List.mem_of_getElem? (i := 0) rfl) ?_
  refine aw_iload_n (q := 2) (j := 1) rfl rfl rfl (List.mem_of_getElem? (i := 1) rfl) ?_
  refine aw_iconst (q := 3) (v := 0) rfl rfl (by decide) ?_
  refine ag_cvS (z := m_Str_indexOf2) (av := [.int _, .int _]) (st := []) (i := i) (q := 6) (k' := 0) (n' := 0) rfl rfl cv_Str_633 ⟨by decide, by decide⟩ rfl rfl (by decide) (by decide) h_i rfl rfl rfl (Nat.le_of_ble_eq_true rfl) ?_
  refine GI.mono h (fun y1_ t1_ h => ?_)
  exact aw_ireturn (ty := .int) rfl rfl rfl (by decide) (by decide) h
set_option maxRecDepth 20000 in
theorem v_Str_indexOf2 {E : EN} {g : GS} {s : MS} {Q : Option Value → SG → Prop} (i : Nat) (x1 : Int32) (x2 : Int32) (h_i : i < 6) (h : GI E m_Str_isLatin1 [.ref (2 + i)] g s (fun y1_ t1_ => ((y1_ = 0 → GI E m_Str_length [.ref (2 + i)] g t1_ (fun y2_ t2_ => False)) ∧ (¬ y1_ = 0 → GI E m_Str_length [.ref (2 + i)] g t1_ (fun y3_ t3_ => GI E m_Lat_indexOf [.ref (8 + i), .int x1, .int x2, .int y3_] g t3_ (fun y4_ t4_ => Q (some (.int y4_)) (mk g t4_))))))) : AMet E m_Str_indexOf2 [.ref (2 + i), .int x1, .int x2] (mk g s) Q := by
  refine AMet.of (by decide) k_Str_indexOf2 [(0, .ref (2 + i)), (1, .int x1), (2, .int x2)] (Nat.le_of_ble_eq_true rfl) rfl ?_
  refine aw_aload_n (q := 1) (j := 0) rfl rfl rfl (List.mem_of_getElem? (i := 0) rfl) ?_
  refine ag_cvS (z := m_Str_isLatin1) (av := []) (st := []) (i := i) (q := 4) (k' := 0) (n' := 0) rfl rfl cv_Str_492 ⟨by decide, by decide⟩ rfl rfl (by decide) (by decide) h_i rfl rfl rfl (Nat.le_of_ble_eq_true rfl) ?_
  refine GI.mono h (fun y1_ t1_ h => ?_)
  refine aw_if_eq (q := 7) (tgt := 23) rfl rfl (by decide) ⟨fun cd_1 => ?_, fun cd_1 => ?_⟩
  · replace h := h.1 cd_1
    refine aw_aload_n (q := 24) (j := 0) rfl rfl rfl (List.mem_of_getElem? (i := 0) rfl) ?_
    refine aw_sval (q := 27) (i := i) rfl rfl h_i (tb_c8 191 rfl rfl) ?_
    refine aw_iload_n (q := 28) (j := 1) rfl rfl rfl (List.mem_of_getElem? (i := 1) rfl) ?_
    refine aw_iload_n (q := 29) (j := 2) rfl rfl rfl (List.mem_of_getElem? (i := 2) rfl) ?_
    refine aw_aload_n (q := 30) (j := 0) rfl rfl rfl (List.mem_of_getElem? (i := 0) rfl) ?_
    refine ag_cvS (z := m_Str_length) (av := []) (st := [.int _, .int _, .ref _]) (i := i) (q := 33) (k' := 0) (n' := 0) rfl rfl cv_Str_505 ⟨by decide, by decide⟩ rfl rfl (by decide) (by decide) h_i rfl rfl rfl (Nat.le_of_ble_eq_true rfl) ?_
    refine GI.mono h (fun y2_ t2_ h => ?_)
    exact h.elim
  · replace h := h.2 cd_1
    refine aw_aload_n (q := 8) (j := 0) rfl rfl rfl (List.mem_of_getElem? (i := 0) rfl) ?_
    refine aw_sval (q := 11) (i := i) rfl rfl h_i (tb_c8 191 rfl rfl) ?_
    refine aw_iload_n (q := 12) (j := 1) rfl rfl rfl (List.mem_of_getElem? (i := 1) rfl) ?_
    refine aw_iload_n (q := 13) (j := 2) rfl rfl rfl (List.mem_of_getElem? (i := 2) rfl) ?_
    refine aw_aload_n (q := 14) (j := 0) rfl rfl rfl (List.mem_of_getElem? (i := 0) rfl) ?_
    refine ag_cvS (z := m_Str_length) (av := []) (st := [.int _, .int _, .ref _]) (i := i) (q := 17) (k' := 0) (n' := 0) rfl rfl cv_Str_505 ⟨by decide, by decide⟩ rfl rfl (by decide) (by decide) h_i rfl rfl rfl (Nat.le_of_ble_eq_true rfl) ?_
    refine GI.mono h (fun y3_ t3_ h => ?_)
    refine ag_csI (z := m_Lat_indexOf) (av := [.ref _, .int _, .int _, .int _]) (st := []) (q := 20) (k' := 0) (n' := 0) rfl rfl cs_Str_637 ⟨by decide, by decide⟩ rfl rfl (by decide) (by decide) rfl rfl (Nat.le_of_ble_eq_true rfl) ?_
    refine GI.mono h (fun y4_ t4_ h => ?_)
    refine aw_goto (tgt := 36) rfl (by decide) ?_
    exact aw_ireturn (ty := .int) rfl rfl rfl (by decide) (by decide) h
set_option maxRecDepth 20000 in
theorem v_Str_length {E : EN} {g : GS} {s : MS} {Q : Option Value → SG → Prop} (i : Nat) (h_i : i < 6) (h : GI E m_Str_coder [.ref (2 + i)] g s (fun y1_ t1_ => Q (some (.int ((Int32.ofNat (strN.getD i 0)) >>> (y1_ &&& 31)))) (mk g t1_))) : AMet E m_Str_length [.ref (2 + i)] (mk g s) Q := by
  refine AMet.of (by decide) k_Str_length [(0, .ref (2 + i))] (Nat.le_of_ble_eq_true rfl) rfl ?_
  refine aw_aload_n (q := 1) (j := 0) rfl rfl rfl (List.mem_of_getElem? (i := 0) rfl) ?_
  refine aw_sval (q := 4) (i := i) rfl rfl h_i (tb_c8 191 rfl rfl) ?_
  refine aw_slen (q := 5) (i := i) rfl rfl h_i rfl rfl ?_
  refine aw_aload_n (q := 6) (j := 0) rfl rfl rfl (List.mem_of_getElem? (i := 0) rfl) ?_
  refine ag_cvS (z := m_Str_coder) (av := []) (st := [.int _]) (i := i) (q := 9) (k' := 0) (n' := 0) rfl rfl cv_Str_335 ⟨by decide, by decide⟩ rfl rfl (by decide) (by decide) h_i rfl rfl rfl (Nat.le_of_ble_eq_true rfl) ?_
  refine GI.mono h (fun y1_ t1_ h => ?_)
  refine aw_ishr (q := 10) rfl rfl ?_
  exact aw_ireturn (ty := .int) rfl rfl rfl (by decide) (by decide) h
set_option maxRecDepth 20000 in
theorem v_Str_coder {E : EN} {g : GS} {s : MS} {Q : Option Value → SG → Prop} (i : Nat) (h_i : i < 6) (h : narrow .byte (.int 0) = .int 0 ∧ Q (some (.int 0)) (mk g s)) : AMet E m_Str_coder [.ref (2 + i)] (mk g s) Q := by
  refine AMet.of (by decide) k_Str_coder [(0, .ref (2 + i))] (Nat.le_of_ble_eq_true rfl) rfl ?_
  refine aw_compact (q := 3) rfl rfl (tb_c3 109 rfl rfl) ?_
  refine aw_if_eq (q := 6) (tgt := 13) rfl rfl (by decide) ⟨fun c => absurd c (by decide), fun _ => ?_⟩
  refine aw_aload_n (q := 7) (j := 0) rfl rfl rfl (List.mem_of_getElem? (i := 0) rfl) ?_
  refine aw_scod (q := 10) (i := i) rfl rfl h_i (tb_c8 190 rfl rfl) ?_
  refine aw_goto (tgt := 14) rfl (by decide) ?_
  obtain ⟨bd_1, h⟩ := h
  exact aw_ireturn (ty := .byte) rfl rfl bd_1 (by decide) (by decide) h
set_option maxRecDepth 20000 in
theorem v_Rat_begin {E : EN} {g : GS} {s : MS} {Q : Option Value → SG → Prop} (r : Nat) (x1 : Int32) (x2 : Int32) (h_r : OG g r 6) (h : (∀ s1_, s1_ = wi s r 0 0 → (∀ s2_, s2_ = wi s1_ r 1 0 → (∀ s3_, s3_ = wi s2_ r 2 0 → (∀ s4_, s4_ = wi s3_ r 3 0 → (∀ s5_, s5_ = wi s4_ r 4 0 → (∀ s6_, s6_ = wi s5_ r 5 x2 → (∀ s7_, s7_ = wi s6_ r 6 x1 → (∀ s8_, s8_ = wi s7_ r 7 0 → (∀ s9_, s9_ = wi s8_ r 8 0 → Q none (mk g s9_))))))))))) : AMet E m_Rat_begin [.ref r, .int x1, .int x2] (mk g s) Q := by
  refine AMet.of (by decide) k_Rat_begin [(0, .ref r), (1, .int x1), (2, .int x2)] (Nat.le_of_ble_eq_true rfl) rfl ?_
  refine aw_aload_n (q := 1) (j := 0) rfl rfl rfl (List.mem_of_getElem? (i := 0) rfl) ?_
  refine aw_iconst (q := 2) (v := 0) rfl rfl (by decide) ?_
  refine ag_putI (q := 5) rfl rfl fl_Rat_9 rfl rfl h_r ?_
  replace h := h _ rfl
  refine aw_aload_n (q := 6) (j := 0) rfl rfl rfl (List.mem_of_getElem? (i := 0) rfl) ?_
  refine aw_iconst (q := 7) (v := 0) rfl rfl (by decide) ?_
  refine ag_putI (q := 10) rfl rfl fl_Rat_13 rfl rfl h_r ?_
  replace h := h _ rfl
  refine aw_aload_n (q := 11) (j := 0) rfl rfl rfl (List.mem_of_getElem? (i := 0) rfl) ?_
  refine aw_iconst (q := 12) (v := 0) rfl rfl (by decide) ?_
  refine ag_putI (q := 15) rfl rfl fl_Rat_16 rfl rfl h_r ?_
  replace h := h _ rfl
  refine aw_aload_n (q := 16) (j := 0) rfl rfl rfl (List.mem_of_getElem? (i := 0) rfl) ?_
  refine aw_iconst (q := 17) (v := 0) rfl rfl (by decide) ?_
  refine ag_putI (q := 20) rfl rfl fl_Rat_19 rfl rfl h_r ?_
  replace h := h _ rfl
  refine aw_aload_n (q := 21) (j := 0) rfl rfl rfl (List.mem_of_getElem? (i := 0) rfl) ?_
  refine aw_iconst (q := 22) (v := 0) rfl rfl (by decide) ?_
  refine ag_putI (q := 25) rfl rfl fl_Rat_22 rfl rfl h_r ?_
  replace h := h _ rfl
  refine aw_aload_n (q := 26) (j := 0) rfl rfl rfl (List.mem_of_getElem? (i := 0) rfl) ?_
  refine aw_iload_n (q := 27) (j := 2) rfl rfl rfl (List.mem_of_getElem? (i := 2) rfl) ?_
  refine ag_putI (q := 30) rfl rfl fl_Rat_25 rfl rfl h_r ?_
  replace h := h _ rfl
  refine aw_aload_n (q := 31) (j := 0) rfl rfl rfl (List.mem_of_getElem? (i := 0) rfl) ?_
  refine aw_iload_n (q := 32) (j := 1) rfl rfl rfl (List.mem_of_getElem? (i := 1) rfl) ?_
  refine ag_putI (q := 35) rfl rfl fl_Rat_28 rfl rfl h_r ?_
  replace h := h _ rfl
  refine aw_aload_n (q := 36) (j := 0) rfl rfl rfl (List.mem_of_getElem? (i := 0) rfl) ?_
  refine aw_iconst (q := 37) (v := 0) rfl rfl (by decide) ?_
  refine ag_putI (q := 40) rfl rfl fl_Rat_31 rfl rfl h_r ?_
  replace h := h _ rfl
  refine aw_aload_n (q := 41) (j := 0) rfl rfl rfl (List.mem_of_getElem? (i := 0) rfl) ?_
  refine aw_iconst (q := 42) (v := 0) rfl rfl (by decide) ?_
  refine ag_putI (q := 45) rfl rfl fl_Rat_34 rfl rfl h_r ?_
  replace h := h _ rfl
  exact aw_return rfl rfl (by decide) (by decide) h
set_option maxRecDepth 20000 in
theorem v_Rat_take {E : EN} {g : GS} {s : MS} {Q : Option Value → SG → Prop} (r : Nat) (r2 : Nat) (h_r : OG g r 6) (h_r2 : OG g r2 6) (h : (∀ s1_, s1_ = wi s r 0 (s.1 r2 0) → (∀ s2_, s2_ = wi s1_ r 1 (s1_.1 r2 1) → (∀ s3_, s3_ = wi s2_ r 2 (s2_.1 r2 2) → (∀ s4_, s4_ = wi s3_ r 3 (s3_.1 r2 3) → (∀ s5_, s5_ = wi s4_ r 4 (s4_.1 r2 4) → (∀ s6_, s6_ = wi s5_ r 5 (s5_.1 r2 5) → (∀ s7_, s7_ = wi s6_ r 6 (s6_.1 r2 6) → (∀ s8_, s8_ = wi s7_ r 7 (s7_.1 r2 7) → (∀ s9_, s9_ = wi s8_ r 8 (s8_.1 r2 8) → Q none (mk g s9_))))))))))) : AMet E m_Rat_take [.ref r, .ref r2] (mk g s) Q := by
  refine AMet.of (by decide) k_Rat_take [(0, .ref r), (1, .ref r2)] (Nat.le_of_ble_eq_true rfl) rfl ?_
  refine aw_aload_n (q := 1) (j := 0) rfl rfl rfl (List.mem_of_getElem? (i := 0) rfl) ?_
  refine aw_aload_n (q := 2) (j := 1) rfl rfl rfl (List.mem_of_getElem? (i := 1) rfl) ?_
  refine ag_getI (q := 5) rfl rfl fl_Rat_9 rfl h_r2 ?_
  refine ag_putI (q := 8) rfl rfl fl_Rat_9 rfl rfl h_r ?_
  replace h := h _ rfl
  refine aw_aload_n (q := 9) (j := 0) rfl rfl rfl (List.mem_of_getElem? (i := 0) rfl) ?_
  refine aw_aload_n (q := 10) (j := 1) rfl rfl rfl (List.mem_of_getElem? (i := 1) rfl) ?_
  refine ag_getI (q := 13) rfl rfl fl_Rat_13 rfl h_r2 ?_
  refine ag_putI (q := 16) rfl rfl fl_Rat_13 rfl rfl h_r ?_
  replace h := h _ rfl
  refine aw_aload_n (q := 17) (j := 0) rfl rfl rfl (List.mem_of_getElem? (i := 0) rfl) ?_
  refine aw_aload_n (q := 18) (j := 1) rfl rfl rfl (List.mem_of_getElem? (i := 1) rfl) ?_
  refine ag_getI (q := 21) rfl rfl fl_Rat_16 rfl h_r2 ?_
  refine ag_putI (q := 24) rfl rfl fl_Rat_16 rfl rfl h_r ?_
  replace h := h _ rfl
  refine aw_aload_n (q := 25) (j := 0) rfl rfl rfl (List.mem_of_getElem? (i := 0) rfl) ?_
  refine aw_aload_n (q := 26) (j := 1) rfl rfl rfl (List.mem_of_getElem? (i := 1) rfl) ?_
  refine ag_getI (q := 29) rfl rfl fl_Rat_19 rfl h_r2 ?_
  refine ag_putI (q := 32) rfl rfl fl_Rat_19 rfl rfl h_r ?_
  replace h := h _ rfl
  refine aw_aload_n (q := 33) (j := 0) rfl rfl rfl (List.mem_of_getElem? (i := 0) rfl) ?_
  refine aw_aload_n (q := 34) (j := 1) rfl rfl rfl (List.mem_of_getElem? (i := 1) rfl) ?_
  refine ag_getI (q := 37) rfl rfl fl_Rat_22 rfl h_r2 ?_
  refine ag_putI (q := 40) rfl rfl fl_Rat_22 rfl rfl h_r ?_
  replace h := h _ rfl
  refine aw_aload_n (q := 41) (j := 0) rfl rfl rfl (List.mem_of_getElem? (i := 0) rfl) ?_
  refine aw_aload_n (q := 42) (j := 1) rfl rfl rfl (List.mem_of_getElem? (i := 1) rfl) ?_
  refine ag_getI (q := 45) rfl rfl fl_Rat_25 rfl h_r2 ?_
  refine ag_putI (q := 48) rfl rfl fl_Rat_25 rfl rfl h_r ?_
  replace h := h _ rfl
  refine aw_aload_n (q := 49) (j := 0) rfl rfl rfl (List.mem_of_getElem? (i := 0) rfl) ?_
  refine aw_aload_n (q := 50) (j := 1) rfl rfl rfl (List.mem_of_getElem? (i := 1) rfl) ?_
  refine ag_getI (q := 53) rfl rfl fl_Rat_28 rfl h_r2 ?_
  refine ag_putI (q := 56) rfl rfl fl_Rat_28 rfl rfl h_r ?_
  replace h := h _ rfl
  refine aw_aload_n (q := 57) (j := 0) rfl rfl rfl (List.mem_of_getElem? (i := 0) rfl) ?_
  refine aw_aload_n (q := 58) (j := 1) rfl rfl rfl (List.mem_of_getElem? (i := 1) rfl) ?_
  refine ag_getI (q := 61) rfl rfl fl_Rat_31 rfl h_r2 ?_
  refine ag_putI (q := 64) rfl rfl fl_Rat_31 rfl rfl h_r ?_
  replace h := h _ rfl
  refine aw_aload_n (q := 65) (j := 0) rfl rfl rfl (List.mem_of_getElem? (i := 0) rfl) ?_
  refine aw_aload_n (q := 66) (j := 1) rfl rfl rfl (List.mem_of_getElem? (i := 1) rfl) ?_
  refine ag_getI (q := 69) rfl rfl fl_Rat_34 rfl h_r2 ?_
  refine ag_putI (q := 72) rfl rfl fl_Rat_34 rfl rfl h_r ?_
  replace h := h _ rfl
  exact aw_return rfl rfl (by decide) (by decide) h
set_option maxRecDepth 20000 in
theorem v_Tokens_scan_15 {E : EN} {g : GS} {s : MS} {Q : Option Value → SG → Prop} (x2 : Int32) (x3 : Int32) (x4 : Int32) (hS : SX g) (h : ((400 < x4 → vp_in (s.1 18 3) 402 ∧ (∀ s1_, s1_ = wi s 19 (((s.1 18 3)).toNatClampNeg) 0 → (∀ s2_, s2_ = wi s1_ 20 (((s.1 18 3)).toNatClampNeg) x2 → Q none (mk g s2_)))) ∧ (¬ 400 < x4 → ((x2 ≤ x3 → vp_in (s.1 18 3) 402 ∧ (∀ s3_, s3_ = wi s 19 (((s.1 18 3)).toNatClampNeg) 0 → (∀ s4_, s4_ = wi s3_ 20 (((s.1 18 3)).toNatClampNeg) x2 → Q none (mk g s4_)))) ∧ (¬ x2 ≤ x3 → GI E m_Tokens_endOf [.ref 17, .int x3, .int x2] g s (fun y5_ t5_ => GV E m_Tokens_add [.ref 18, .ref 17, .int x3, .int y5_] g t5_ (fun t6_ => GI E m_Tokens_behindBlanks [.ref 17, .int y5_, .int x2] g t6_ (fun y7_ t7_ => AWP E m_Tokens_scan 15 0 0 [(0, .ref 18), (1, .ref 17), (2, .int x2), (3, .int y7_), (4, .int (x4 + 1))] [] (mk g t7_) Q)))))))) : AWP E m_Tokens_scan 15 0 0 [(0, .ref 18), (1, .ref 17), (2, .int x2), (3, .int x3), (4, .int x4)] [] (mk g s) Q := by
  refine aw_iload (q := 17) (j := 4) rfl rfl (List.mem_of_getElem? (i := 4) rfl) ?_
  refine aw_sipush (q := 20) (v := 400) rfl rfl (by decide) ?_
  refine aw_icmp_gt (q := 23) (tgt := 58) rfl rfl (by decide) ⟨fun cd_1 => ?_, fun cd_1 => ?_⟩
  · replace h := h.1 cd_1
    refine aw_aload_n (q := 59) (j := 0) rfl rfl rfl (List.mem_of_getElem? (i := 0) rfl) ?_
    refine ag_getR (q := 62) rfl rfl fl_Tokens_9 rfl (SX.o hS rfl) (SX.r hS rfl) ?_
    refine aw_aload_n (q := 63) (j := 0) rfl rfl rfl (List.mem_of_getElem? (i := 0) rfl) ?_
    refine ag_getI (q := 66) rfl rfl fl_Tokens_22 rfl (SX.o hS rfl) ?_
    refine aw_iconst (q := 67) (v := 0) rfl rfl (by decide) ?_
    obtain ⟨bd_2, h⟩ := h
    refine ag_iastore (q := 68) (N := 402) rfl rfl (SX.a hS rfl) bd_2 ?_
    replace h := h _ rfl
    refine aw_aload_n (q := 69) (j := 0) rfl rfl rfl (List.mem_of_getElem? (i := 0) rfl) ?_
    refine ag_getR (q := 72) rfl rfl fl_Tokens_15 rfl (SX.o hS rfl) (SX.r hS rfl) ?_
    refine aw_aload_n (q := 73) (j := 0) rfl rfl rfl (List.mem_of_getElem? (i := 0) rfl) ?_
    refine ag_getI (q := 76) rfl rfl fl_Tokens_22 rfl (SX.o hS rfl) ?_
    refine aw_iload_n (q := 77) (j := 2) rfl rfl rfl (List.mem_of_getElem? (i := 2) rfl) ?_
    refine ag_iastore (q := 78) (N := 402) rfl rfl (SX.a hS rfl) bd_2 ?_
    replace h := h _ rfl
    exact aw_return rfl rfl (by decide) (by decide) h
  · replace h := h.2 cd_1
    refine aw_iload_n (q := 24) (j := 3) rfl rfl rfl (List.mem_of_getElem? (i := 3) rfl) ?_
    refine aw_iload_n (q := 25) (j := 2) rfl rfl rfl (List.mem_of_getElem? (i := 2) rfl) ?_
    refine aw_icmp_ge (q := 28) (tgt := 58) rfl rfl (by decide) ⟨fun cd_3 => ?_, fun cd_3 => ?_⟩
    · replace h := h.1 cd_3
      refine aw_aload_n (q := 59) (j := 0) rfl rfl rfl (List.mem_of_getElem? (i := 0) rfl) ?_
      refine ag_getR (q := 62) rfl rfl fl_Tokens_9 rfl (SX.o hS rfl) (SX.r hS rfl) ?_
      refine aw_aload_n (q := 63) (j := 0) rfl rfl rfl (List.mem_of_getElem? (i := 0) rfl) ?_
      refine ag_getI (q := 66) rfl rfl fl_Tokens_22 rfl (SX.o hS rfl) ?_
      refine aw_iconst (q := 67) (v := 0) rfl rfl (by decide) ?_
      obtain ⟨bd_4, h⟩ := h
      refine ag_iastore (q := 68) (N := 402) rfl rfl (SX.a hS rfl) bd_4 ?_
      replace h := h _ rfl
      refine aw_aload_n (q := 69) (j := 0) rfl rfl rfl (List.mem_of_getElem? (i := 0) rfl) ?_
      refine ag_getR (q := 72) rfl rfl fl_Tokens_15 rfl (SX.o hS rfl) (SX.r hS rfl) ?_
      refine aw_aload_n (q := 73) (j := 0) rfl rfl rfl (List.mem_of_getElem? (i := 0) rfl) ?_
      refine ag_getI (q := 76) rfl rfl fl_Tokens_22 rfl (SX.o hS rfl) ?_
      refine aw_iload_n (q := 77) (j := 2) rfl rfl rfl (List.mem_of_getElem? (i := 2) rfl) ?_
      refine ag_iastore (q := 78) (N := 402) rfl rfl (SX.a hS rfl) bd_4 ?_
      replace h := h _ rfl
      exact aw_return rfl rfl (by decide) (by decide) h
    · replace h := h.2 cd_3
      refine aw_aload_n (q := 29) (j := 1) rfl rfl rfl (List.mem_of_getElem? (i := 1) rfl) ?_
      refine aw_iload_n (q := 30) (j := 3) rfl rfl rfl (List.mem_of_getElem? (i := 3) rfl) ?_
      refine aw_iload_n (q := 31) (j := 2) rfl rfl rfl (List.mem_of_getElem? (i := 2) rfl) ?_
      refine ag_csI (z := m_Tokens_endOf) (av := [.ref _, .int _, .int _]) (st := []) (q := 34) (k' := 0) (n' := 0) rfl rfl cs_Tokens_30 ⟨by decide, by decide⟩ rfl rfl (by decide) (by decide) rfl rfl (Nat.le_of_ble_eq_true rfl) ?_
      refine GI.mono h (fun y5_ t5_ h => ?_)
      refine aw_istore (q := 36) (j := 5) (ls' := [(5, .int _), (0, .ref _), (1, .ref _), (2, .int _), (3, .int _), (4, .int _)]) rfl rfl (by decide) rfl ?_
      refine aw_aload_n (q := 37) (j := 0) rfl rfl rfl (List.mem_of_getElem? (i := 1) rfl) ?_
      refine aw_aload_n (q := 38) (j := 1) rfl rfl rfl (List.mem_of_getElem? (i := 2) rfl) ?_
      refine aw_iload_n (q := 39) (j := 3) rfl rfl rfl (List.mem_of_getElem? (i := 4) rfl) ?_
      refine aw_iload (q := 41) (j := 5) rfl rfl (List.mem_of_getElem? (i := 0) rfl) ?_
      refine ag_cvV (z := m_Tokens_add) (ci := 9) (av := [.ref _, .int _, .int _]) (st := []) (q := 44) (k' := 0) (n' := 0) rfl rfl cv_Tokens_33 ⟨by decide, by decide⟩ rfl rfl (by decide) (by decide) (SX.o hS rfl) rfl rfl rfl (Nat.le_of_ble_eq_true rfl) ?_
      refine GV.mono h (fun t6_ h => ?_)
      refine aw_aload_n (q := 45) (j := 1) rfl rfl rfl (List.mem_of_getElem? (i := 2) rfl) ?_
      refine aw_iload (q := 47) (j := 5) rfl rfl (List.mem_of_getElem? (i := 0) rfl) ?_
      refine aw_iload_n (q := 48) (j := 2) rfl rfl rfl (List.mem_of_getElem? (i := 3) rfl) ?_
      refine ag_csI (z := m_Tokens_behindBlanks) (av := [.ref _, .int _, .int _]) (st := []) (q := 51) (k' := 0) (n' := 0) rfl rfl cs_Tokens_26 ⟨by decide, by decide⟩ rfl rfl (by decide) (by decide) rfl rfl (Nat.le_of_ble_eq_true rfl) ?_
      refine GI.mono h (fun y7_ t7_ h => ?_)
      refine aw_istore_n (q := 52) (j := 3) (ls' := [(3, .int _), (5, .int _), (0, .ref _), (1, .ref _), (2, .int _), (4, .int _)]) rfl rfl rfl (by decide) rfl ?_
      refine aw_iinc (q := 55) (v := _ + 1) (ls' := [(4, .int _), (3, .int _), (5, .int _), (0, .ref _), (1, .ref _), (2, .int _)]) rfl rfl (List.mem_of_getElem? (i := 5) rfl) rfl (by decide) rfl ?_
      refine aw_goto (tgt := 15) rfl (by decide) ?_
      refine aw_ls [3, 4, 5, 1, 0] rfl ?_
      exact h
set_option maxRecDepth 20000 in
theorem v_Tokens_scan {E : EN} {g : GS} {s : MS} {Q : Option Value → SG → Prop} (x2 : Int32) (hS : SX g) (h : (∀ s1_, s1_ = wi s 18 3 0 → GI E m_Tokens_behindBlanks [.ref 17, .int 0, .int x2] g s1_ (fun y2_ t2_ => AWP E m_Tokens_scan 15 0 0 [(0, .ref 18), (1, .ref 17), (2, .int x2), (3, .int y2_), (4, .int 0)] [] (mk g t2_) Q))) : AMet E m_Tokens_scan [.ref 18, .ref 17, .int x2] (mk g s) Q := by
  refine AMet.of (by decide) k_Tokens_scan [(0, .ref 18), (1, .ref 17), (2, .int x2)] (Nat.le_of_ble_eq_true rfl) rfl ?_
  refine aw_aload_n (q := 1) (j := 0) rfl rfl rfl (List.mem_of_getElem? (i := 0) rfl) ?_
  refine aw_iconst (q := 2) (v := 0) rfl rfl (by decide) ?_
  refine ag_putI (q := 5) rfl rfl fl_Tokens_22 rfl rfl (SX.o hS rfl) ?_
  replace h := h _ rfl
  refine aw_aload_n (q := 6) (j := 1) rfl rfl rfl (List.mem_of_getElem? (i := 1) rfl) ?_
  refine aw_iconst (q := 7) (v := 0) rfl rfl (by decide) ?_
  refine aw_iload_n (q := 8) (j := 2) rfl rfl rfl (List.mem_of_getElem? (i := 2) rfl) ?_
  refine ag_csI (z := m_Tokens_behindBlanks) (av := [.ref _, .int _, .int _]) (st := []) (q := 11) (k' := 0) (n' := 0) rfl rfl cs_Tokens_26 ⟨by decide, by decide⟩ rfl rfl (by decide) (by decide) rfl rfl (Nat.le_of_ble_eq_true rfl) ?_
  refine GI.mono h (fun y2_ t2_ h => ?_)
  refine aw_istore_n (q := 12) (j := 3) (ls' := [(3, .int _), (0, .ref _), (1, .ref _), (2, .int _)]) rfl rfl rfl (by decide) rfl ?_
  refine aw_iconst (q := 13) (v := 0) rfl rfl (by decide) ?_
  refine aw_istore (q := 15) (j := 4) (ls' := [(4, .int _), (3, .int _), (0, .ref _), (1, .ref _), (2, .int _)]) rfl rfl (by decide) rfl ?_
  refine aw_ls [2, 3, 4, 1, 0] rfl ?_
  exact h
set_option maxRecDepth 20000 in
theorem v_Tokens_behindBlanks_2 {E : EN} {g : GS} {s : MS} {Q : Option Value → SG → Prop} (x1 : Int32) (x2 : Int32) (x3 : Int32) (hS : SX g) (h : ((x2 ≤ x3 → Q (some (.int x3)) (mk g s)) ∧ (¬ x2 ≤ x3 → vp_in x3 2000 ∧ GI E m_Tokens_isBlank [.int (s.1 17 ((x3).toNatClampNeg))] g s (fun y1_ t1_ => ((y1_ = 0 → Q (some (.int x3)) (mk g t1_)) ∧ (¬ y1_ = 0 → AWP E m_Tokens_behindBlanks 2 0 0 [(0, .ref 17), (1, .int x1), (2, .int x2), (3, .int (x3 + 1))] [] (mk g t1_) Q)))))) : AWP E m_Tokens_behindBlanks 2 0 0 [(0, .ref 17), (1, .int x1), (2, .int x2), (3, .int x3)] [] (mk g s) Q := by
  refine aw_iload_n (q := 3) (j := 3) rfl rfl rfl (List.mem_of_getElem? (i := 3) rfl) ?_
  refine aw_iload_n (q := 4) (j := 2) rfl rfl rfl (List.mem_of_getElem? (i := 2) rfl) ?_
  refine aw_icmp_ge (q := 7) (tgt := 22) rfl rfl (by decide) ⟨fun cd_1 => ?_, fun cd_1 => ?_⟩
  · replace h := h.1 cd_1
    refine aw_iload_n (q := 23) (j := 3) rfl rfl rfl (List.mem_of_getElem? (i := 3) rfl) ?_
    exact aw_ireturn (ty := .int) rfl rfl rfl (by decide) (by decide) h
  · replace h := h.2 cd_1
    refine aw_aload_n (q := 8) (j := 0) rfl rfl rfl (List.mem_of_getElem? (i := 0) rfl) ?_
    refine aw_iload_n (q := 9) (j := 3) rfl rfl rfl (List.mem_of_getElem? (i := 3) rfl) ?_
    obtain ⟨bd_2, h⟩ := h
    refine ag_caload (q := 10) (N := 2000) rfl rfl (SX.a hS rfl) bd_2 ?_
    refine ag_csI (z := m_Tokens_isBlank) (av := [.int _]) (st := []) (q := 13) (k' := 0) (n' := 0) rfl rfl cs_Tokens_68 ⟨by decide, by decide⟩ rfl rfl (by decide) (by decide) rfl rfl (Nat.le_of_ble_eq_true rfl) ?_
    refine GI.mono h (fun y1_ t1_ h => ?_)
    refine aw_if_eq (q := 16) (tgt := 22) rfl rfl (by decide) ⟨fun cd_3 => ?_, fun cd_3 => ?_⟩
    · replace h := h.1 cd_3
      refine aw_iload_n (q := 23) (j := 3) rfl rfl rfl (List.mem_of_getElem? (i := 3) rfl) ?_
      exact aw_ireturn (ty := .int) rfl rfl rfl (by decide) (by decide) h
    · replace h := h.2 cd_3
      refine aw_iinc (q := 19) (v := _ + 1) (ls' := [(3, .int _), (0, .ref _), (1, .int _), (2, .int _)]) rfl rfl (List.mem_of_getElem? (i := 3) rfl) rfl (by decide) rfl ?_
      refine aw_goto (tgt := 2) rfl (by decide) ?_
      refine aw_ls [1, 2, 3, 0] rfl ?_
      exact h
set_option maxRecDepth 20000 in
theorem v_Tokens_behindBlanks {E : EN} {g : GS} {s : MS} {Q : Option Value → SG → Prop} (x1 : Int32) (x2 : Int32) (h : AWP E m_Tokens_behindBlanks 2 0 0 [(0, .ref 17), (1, .int x1), (2, .int x2), (3, .int x1)] [] (mk g s) Q) : AMet E m_Tokens_behindBlanks [.ref 17, .int x1, .int x2] (mk g s) Q := by
  refine AMet.of (by decide) k_Tokens_behindBlanks [(0, .ref 17), (1, .int x1), (2, .int x2)] (Nat.le_of_ble_eq_true rfl) rfl ?_
  refine aw_iload_n (q := 1) (j := 1) rfl rfl rfl (List.mem_of_getElem? (i := 1) rfl) ?_
  refine aw_istore_n (q := 2) (j := 3) (ls' := [(3, .int _), (0, .ref _), (1, .int _), (2, .int _)]) rfl rfl rfl (by decide) rfl ?_
  refine aw_ls [1, 2, 3, 0] rfl ?_
  exact h
set_option maxRecDepth 20000 in
theorem v_Tokens_isBlank {E : EN} {g : GS} {s : MS} {Q : Option Value → SG → Prop} (x0 : Int32) (h : ((x0 = 9 → Q (some (.int 1)) (mk g s)) ∧ (¬ x0 = 9 → ((x0 = 10 → Q (some (.int 1)) (mk g s)) ∧ (¬ x0 = 10 → ((x0 = 13 → Q (some (.int 1)) (mk g s)) ∧ (¬ x0 = 13 → ((x0 = 32 → Q (some (.int 1)) (mk g s)) ∧ (¬ x0 = 32 → Q (some (.int 0)) (mk g s)))))))))) : AMet E m_Tokens_isBlank [.int x0] (mk g s) Q := by
  refine AMet.of (by decide) k_Tokens_isBlank [(0, .int x0)] (Nat.le_of_ble_eq_true rfl) rfl ?_
  refine aw_iload_n (q := 1) (j := 0) rfl rfl rfl (List.mem_of_getElem? (i := 0) rfl) ?_
  refine aw_bipush (q := 3) (v := 9) rfl rfl (by decide) ?_
  refine aw_icmp_eq (q := 6) (tgt := 24) rfl rfl (by decide) ⟨fun cd_1 => ?_, fun cd_1 => ?_⟩
  · replace h := h.1 cd_1
    refine aw_iconst (q := 25) (v := 1) rfl rfl (by decide) ?_
    refine aw_goto (tgt := 29) rfl (by decide) ?_
    exact aw_ireturn (ty := .boolean) rfl rfl rfl (by decide) (by decide) h
  · replace h := h.2 cd_1
    refine aw_iload_n (q := 7) (j := 0) rfl rfl rfl (List.mem_of_getElem? (i := 0) rfl) ?_
    refine aw_bipush (q := 9) (v := 10) rfl rfl (by decide) ?_
    refine aw_icmp_eq (q := 12) (tgt := 24) rfl rfl (by decide) ⟨fun cd_2 => ?_, fun cd_2 => ?_⟩
    · replace h := h.1 cd_2
      refine aw_iconst (q := 25) (v := 1) rfl rfl (by decide) ?_
      refine aw_goto (tgt := 29) rfl (by decide) ?_
      exact aw_ireturn (ty := .boolean) rfl rfl rfl (by decide) (by decide) h
    · replace h := h.2 cd_2
      refine aw_iload_n (q := 13) (j := 0) rfl rfl rfl (List.mem_of_getElem? (i := 0) rfl) ?_
      refine aw_bipush (q := 15) (v := 13) rfl rfl (by decide) ?_
      refine aw_icmp_eq (q := 18) (tgt := 24) rfl rfl (by decide) ⟨fun cd_3 => ?_, fun cd_3 => ?_⟩
      · replace h := h.1 cd_3
        refine aw_iconst (q := 25) (v := 1) rfl rfl (by decide) ?_
        refine aw_goto (tgt := 29) rfl (by decide) ?_
        exact aw_ireturn (ty := .boolean) rfl rfl rfl (by decide) (by decide) h
      · replace h := h.2 cd_3
        refine aw_iload_n (q := 19) (j := 0) rfl rfl rfl (List.mem_of_getElem? (i := 0) rfl) ?_
        refine aw_bipush (q := 21) (v := 32) rfl rfl (by decide) ?_
        refine aw_icmp_ne (q := 24) (tgt := 28) rfl rfl (by decide) ⟨fun cd_4 => ?_, fun cd_4 => ?_⟩
        · replace h := h.1 cd_4
          refine aw_iconst (q := 25) (v := 1) rfl rfl (by decide) ?_
          refine aw_goto (tgt := 29) rfl (by decide) ?_
          exact aw_ireturn (ty := .boolean) rfl rfl rfl (by decide) (by decide) h
        · replace h := h.2 cd_4
          refine aw_iconst (q := 29) (v := 0) rfl rfl (by decide) ?_
          exact aw_ireturn (ty := .boolean) rfl rfl rfl (by decide) (by decide) h
set_option maxRecDepth 20000 in
theorem v_Tokens_endOf_13 {E : EN} {g : GS} {s : MS} {Q : Option Value → SG → Prop} (x1 : Int32) (x2 : Int32) (x3 : Int32) (hS : SX g) (h : ((x2 ≤ x3 → Q (some (.int x3)) (mk g s)) ∧ (¬ x2 ≤ x3 → vp_in x3 2000 ∧ GI E m_Tokens_isLetter [.int (s.1 17 ((x3).toNatClampNeg))] g s (fun y1_ t1_ => ((y1_ = 0 → Q (some (.int x3)) (mk g t1_)) ∧ (¬ y1_ = 0 → AWP E m_Tokens_endOf 13 0 0 [(0, .ref 17), (1, .int x1), (2, .int x2), (3, .int (x3 + 1))] [] (mk g t1_) Q)))))) : AWP E m_Tokens_endOf 13 0 0 [(0, .ref 17), (1, .int x1), (2, .int x2), (3, .int x3)] [] (mk g s) Q := by
  refine aw_iload_n (q := 14) (j := 3) rfl rfl rfl (List.mem_of_getElem? (i := 3) rfl) ?_
  refine aw_iload_n (q := 15) (j := 2) rfl rfl rfl (List.mem_of_getElem? (i := 2) rfl) ?_
  refine aw_icmp_ge (q := 18) (tgt := 62) rfl rfl (by decide) ⟨fun cd_1 => ?_, fun cd_1 => ?_⟩
  · replace h := h.1 cd_1
    refine aw_iload_n (q := 63) (j := 3) rfl rfl rfl (List.mem_of_getElem? (i := 3) rfl) ?_
    exact aw_ireturn (ty := .int) rfl rfl rfl (by decide) (by decide) h
  · replace h := h.2 cd_1
    refine aw_aload_n (q := 19) (j := 0) rfl rfl rfl (List.mem_of_getElem? (i := 0) rfl) ?_
    refine aw_iload_n (q := 20) (j := 3) rfl rfl rfl (List.mem_of_getElem? (i := 3) rfl) ?_
    obtain ⟨bd_2, h⟩ := h
    refine ag_caload (q := 21) (N := 2000) rfl rfl (SX.a hS rfl) bd_2 ?_
    refine ag_csI (z := m_Tokens_isLetter) (av := [.int _]) (st := []) (q := 24) (k' := 0) (n' := 0) rfl rfl cs_Tokens_37 ⟨by decide, by decide⟩ rfl rfl (by decide) (by decide) rfl rfl (Nat.le_of_ble_eq_true rfl) ?_
    refine GI.mono h (fun y1_ t1_ h => ?_)
    refine aw_if_eq (q := 27) (tgt := 62) rfl rfl (by decide) ⟨fun cd_3 => ?_, fun cd_3 => ?_⟩
    · replace h := h.1 cd_3
      refine aw_iload_n (q := 63) (j := 3) rfl rfl rfl (List.mem_of_getElem? (i := 3) rfl) ?_
      exact aw_ireturn (ty := .int) rfl rfl rfl (by decide) (by decide) h
    · replace h := h.2 cd_3
      refine aw_iinc (q := 30) (v := _ + 1) (ls' := [(3, .int _), (0, .ref _), (1, .int _), (2, .int _)]) rfl rfl (List.mem_of_getElem? (i := 3) rfl) rfl (by decide) rfl ?_
      refine aw_goto (tgt := 13) rfl (by decide) ?_
      refine aw_ls [1, 2, 3, 0] rfl ?_
      exact h
set_option maxRecDepth 20000 in
theorem v_Tokens_endOf_42 {E : EN} {g : GS} {s : MS} {Q : Option Value → SG → Prop} (x1 : Int32) (x2 : Int32) (x3 : Int32) (hS : SX g) (h : ((x2 ≤ x3 → Q (some (.int x3)) (mk g s)) ∧ (¬ x2 ≤ x3 → vp_in x3 2000 ∧ GI E m_Tokens_isDigit [.int (s.1 17 ((x3).toNatClampNeg))] g s (fun y1_ t1_ => ((y1_ = 0 → Q (some (.int x3)) (mk g t1_)) ∧ (¬ y1_ = 0 → AWP E m_Tokens_endOf 42 0 0 [(0, .ref 17), (1, .int x1), (2, .int x2), (3, .int (x3 + 1))] [] (mk g t1_) Q)))))) : AWP E m_Tokens_endOf 42 0 0 [(0, .ref 17), (1, .int x1), (2, .int x2), (3, .int x3)] [] (mk g s) Q := by
  refine aw_iload_n (q := 43) (j := 3) rfl rfl rfl (List.mem_of_getElem? (i := 3) rfl) ?_
  refine aw_iload_n (q := 44) (j := 2) rfl rfl rfl (List.mem_of_getElem? (i := 2) rfl) ?_
  refine aw_icmp_ge (q := 47) (tgt := 62) rfl rfl (by decide) ⟨fun cd_1 => ?_, fun cd_1 => ?_⟩
  · replace h := h.1 cd_1
    refine aw_iload_n (q := 63) (j := 3) rfl rfl rfl (List.mem_of_getElem? (i := 3) rfl) ?_
    exact aw_ireturn (ty := .int) rfl rfl rfl (by decide) (by decide) h
  · replace h := h.2 cd_1
    refine aw_aload_n (q := 48) (j := 0) rfl rfl rfl (List.mem_of_getElem? (i := 0) rfl) ?_
    refine aw_iload_n (q := 49) (j := 3) rfl rfl rfl (List.mem_of_getElem? (i := 3) rfl) ?_
    obtain ⟨bd_2, h⟩ := h
    refine ag_caload (q := 50) (N := 2000) rfl rfl (SX.a hS rfl) bd_2 ?_
    refine ag_csI (z := m_Tokens_isDigit) (av := [.int _]) (st := []) (q := 53) (k' := 0) (n' := 0) rfl rfl cs_Tokens_54 ⟨by decide, by decide⟩ rfl rfl (by decide) (by decide) rfl rfl (Nat.le_of_ble_eq_true rfl) ?_
    refine GI.mono h (fun y1_ t1_ h => ?_)
    refine aw_if_eq (q := 56) (tgt := 62) rfl rfl (by decide) ⟨fun cd_3 => ?_, fun cd_3 => ?_⟩
    · replace h := h.1 cd_3
      refine aw_iload_n (q := 63) (j := 3) rfl rfl rfl (List.mem_of_getElem? (i := 3) rfl) ?_
      exact aw_ireturn (ty := .int) rfl rfl rfl (by decide) (by decide) h
    · replace h := h.2 cd_3
      refine aw_iinc (q := 59) (v := _ + 1) (ls' := [(3, .int _), (0, .ref _), (1, .int _), (2, .int _)]) rfl rfl (List.mem_of_getElem? (i := 3) rfl) rfl (by decide) rfl ?_
      refine aw_goto (tgt := 42) rfl (by decide) ?_
      refine aw_ls [1, 2, 3, 0] rfl ?_
      exact h
set_option maxRecDepth 20000 in
theorem v_Tokens_endOf {E : EN} {g : GS} {s : MS} {Q : Option Value → SG → Prop} (x1 : Int32) (x2 : Int32) (hS : SX g) (h : vp_in x1 2000 ∧ GI E m_Tokens_isLetter [.int (s.1 17 ((x1).toNatClampNeg))] g s (fun y1_ t1_ => ((y1_ = 0 → GI E m_Tokens_isDigit [.int (t1_.1 17 ((x1).toNatClampNeg))] g t1_ (fun y2_ t2_ => ((y2_ = 0 → Q (some (.int (x1 + 1))) (mk g t2_)) ∧ (¬ y2_ = 0 → AWP E m_Tokens_endOf 42 0 0 [(0, .ref 17), (1, .int x1), (2, .int x2), (3, .int (x1 + 1))] [] (mk g t2_) Q)))) ∧ (¬ y1_ = 0 → AWP E m_Tokens_endOf 13 0 0 [(0, .ref 17), (1, .int x1), (2, .int x2), (3, .int (x1 + 1))] [] (mk g t1_) Q)))) : AMet E m_Tokens_endOf [.ref 17, .int x1, .int x2] (mk g s) Q := by
  refine AMet.of (by decide) k_Tokens_endOf [(0, .ref 17), (1, .int x1), (2, .int x2)] (Nat.le_of_ble_eq_true rfl) rfl ?_
  refine aw_iload_n (q := 1) (j := 1) rfl rfl rfl (List.mem_of_getElem? (i := 1) rfl) ?_
  refine aw_iconst (q := 2) (v := 1) rfl rfl (by decide) ?_
  refine aw_iadd (q := 3) rfl rfl ?_
  refine aw_istore_n (q := 4) (j := 3) (ls' := [(3, .int _), (0, .ref _), (1, .int _), (2, .int _)]) rfl rfl rfl (by decide) rfl ?_
  refine aw_aload_n (q := 5) (j := 0) rfl rfl rfl (List.mem_of_getElem? (i := 1) rfl) ?_
  refine aw_iload_n (q := 6) (j := 1) rfl rfl rfl (List.mem_of_getElem? (i := 2) rfl) ?_
  obtain ⟨bd_1, h⟩ := h
  refine ag_caload (q := 7) (N := 2000) rfl rfl (SX.a hS rfl) bd_1 ?_
  refine ag_csI (z := m_Tokens_isLetter) (av := [.int _]) (st := []) (q := 10) (k' := 0) (n' := 0) rfl rfl cs_Tokens_37 ⟨by decide, by decide⟩ rfl rfl (by decide) (by decide) rfl rfl (Nat.le_of_ble_eq_true rfl) ?_
  refine GI.mono h (fun y1_ t1_ h => ?_)
  refine aw_if_eq (q := 13) (tgt := 33) rfl rfl (by decide) ⟨fun cd_2 => ?_, fun cd_2 => ?_⟩
  · replace h := h.1 cd_2
    refine aw_aload_n (q := 34) (j := 0) rfl rfl rfl (List.mem_of_getElem? (i := 1) rfl) ?_
    refine aw_iload_n (q := 35) (j := 1) rfl rfl rfl (List.mem_of_getElem? (i := 2) rfl) ?_
    refine ag_caload (q := 36) (N := 2000) rfl rfl (SX.a hS rfl) bd_1 ?_
    refine ag_csI (z := m_Tokens_isDigit) (av := [.int _]) (st := []) (q := 39) (k' := 0) (n' := 0) rfl rfl cs_Tokens_54 ⟨by decide, by decide⟩ rfl rfl (by decide) (by decide) rfl rfl (Nat.le_of_ble_eq_true rfl) ?_
    refine GI.mono h (fun y2_ t2_ h => ?_)
    refine aw_if_eq (q := 42) (tgt := 62) rfl rfl (by decide) ⟨fun cd_3 => ?_, fun cd_3 => ?_⟩
    · replace h := h.1 cd_3
      refine aw_iload_n (q := 63) (j := 3) rfl rfl rfl (List.mem_of_getElem? (i := 0) rfl) ?_
      exact aw_ireturn (ty := .int) rfl rfl rfl (by decide) (by decide) h
    · replace h := h.2 cd_3
      refine aw_ls [1, 2, 3, 0] rfl ?_
      exact h
  · replace h := h.2 cd_2
    refine aw_ls [1, 2, 3, 0] rfl ?_
    exact h
set_option maxRecDepth 20000 in
theorem v_Tokens_isLetter {E : EN} {g : GS} {s : MS} {Q : Option Value → SG → Prop} (x0 : Int32) (h : ((x0 < 97 → Q (some (.int 0)) (mk g s)) ∧ (¬ x0 < 97 → ((122 < x0 → Q (some (.int 0)) (mk g s)) ∧ (¬ 122 < x0 → Q (some (.int 1)) (mk g s)))))) : AMet E m_Tokens_isLetter [.int x0] (mk g s) Q := by
  refine AMet.of (by decide) k_Tokens_isLetter [(0, .int x0)] (Nat.le_of_ble_eq_true rfl) rfl ?_
  refine aw_iload_n (q := 1) (j := 0) rfl rfl rfl (List.mem_of_getElem? (i := 0) rfl) ?_
  refine aw_bipush (q := 3) (v := 97) rfl rfl (by decide) ?_
  refine aw_icmp_lt (q := 6) (tgt := 16) rfl rfl (by decide) ⟨fun cd_1 => ?_, fun cd_1 => ?_⟩
  · replace h := h.1 cd_1
    refine aw_iconst (q := 17) (v := 0) rfl rfl (by decide) ?_
    exact aw_ireturn (ty := .boolean) rfl rfl rfl (by decide) (by decide) h
  · replace h := h.2 cd_1
    refine aw_iload_n (q := 7) (j := 0) rfl rfl rfl (List.mem_of_getElem? (i := 0) rfl) ?_
    refine aw_bipush (q := 9) (v := 122) rfl rfl (by decide) ?_
    refine aw_icmp_gt (q := 12) (tgt := 16) rfl rfl (by decide) ⟨fun cd_2 => ?_, fun cd_2 => ?_⟩
    · replace h := h.1 cd_2
      refine aw_iconst (q := 17) (v := 0) rfl rfl (by decide) ?_
      exact aw_ireturn (ty := .boolean) rfl rfl rfl (by decide) (by decide) h
    · replace h := h.2 cd_2
      refine aw_iconst (q := 13) (v := 1) rfl rfl (by decide) ?_
      refine aw_goto (tgt := 17) rfl (by decide) ?_
      exact aw_ireturn (ty := .boolean) rfl rfl rfl (by decide) (by decide) h
set_option maxRecDepth 20000 in
theorem v_Tokens_isDigit {E : EN} {g : GS} {s : MS} {Q : Option Value → SG → Prop} (x0 : Int32) (h : ((x0 < 48 → Q (some (.int 0)) (mk g s)) ∧ (¬ x0 < 48 → ((57 < x0 → Q (some (.int 0)) (mk g s)) ∧ (¬ 57 < x0 → Q (some (.int 1)) (mk g s)))))) : AMet E m_Tokens_isDigit [.int x0] (mk g s) Q := by
  refine AMet.of (by decide) k_Tokens_isDigit [(0, .int x0)] (Nat.le_of_ble_eq_true rfl) rfl ?_
  refine aw_iload_n (q := 1) (j := 0) rfl rfl rfl (List.mem_of_getElem? (i := 0) rfl) ?_
  refine aw_bipush (q := 3) (v := 48) rfl rfl (by decide) ?_
  refine aw_icmp_lt (q := 6) (tgt := 16) rfl rfl (by decide) ⟨fun cd_1 => ?_, fun cd_1 => ?_⟩
  · replace h := h.1 cd_1
    refine aw_iconst (q := 17) (v := 0) rfl rfl (by decide) ?_
    exact aw_ireturn (ty := .boolean) rfl rfl rfl (by decide) (by decide) h
  · replace h := h.2 cd_1
    refine aw_iload_n (q := 7) (j := 0) rfl rfl rfl (List.mem_of_getElem? (i := 0) rfl) ?_
    refine aw_bipush (q := 9) (v := 57) rfl rfl (by decide) ?_
    refine aw_icmp_gt (q := 12) (tgt := 16) rfl rfl (by decide) ⟨fun cd_2 => ?_, fun cd_2 => ?_⟩
    · replace h := h.1 cd_2
      refine aw_iconst (q := 17) (v := 0) rfl rfl (by decide) ?_
      exact aw_ireturn (ty := .boolean) rfl rfl rfl (by decide) (by decide) h
    · replace h := h.2 cd_2
      refine aw_iconst (q := 13) (v := 1) rfl rfl (by decide) ?_
      refine aw_goto (tgt := 17) rfl (by decide) ?_
      exact aw_ireturn (ty := .boolean) rfl rfl rfl (by decide) (by decide) h
set_option maxRecDepth 20000 in
theorem v_Tokens_add {E : EN} {g : GS} {s : MS} {Q : Option Value → SG → Prop} (x2 : Int32) (x3 : Int32) (hS : SX g) (h : vp_in (s.1 18 3) 402 ∧ (∀ s1_, s1_ = wi s 20 (((s.1 18 3)).toNatClampNeg) x2 → (∀ s2_, s2_ = wl s1_ 21 (((s.1 18 3)).toNatClampNeg) 0 → vp_in x2 2000 ∧ GI E m_Tokens_isLetter [.int (s.1 17 ((x2).toNatClampNeg))] g s2_ (fun y3_ t3_ => ((y3_ = 0 → GI E m_Tokens_isDigit [.int (s.1 17 ((x2).toNatClampNeg))] g t3_ (fun y4_ t4_ => ((y4_ = 0 → GI E m_Str_indexOf [.ref 3, .int (s.1 17 ((x2).toNatClampNeg))] g t4_ (fun y5_ t5_ => (((0 : Int32) ≤ y5_ → vp_in (t5_.1 18 3) 402 ∧ (∀ s6_, s6_ = wi t5_ 19 (((t5_.1 18 3)).toNatClampNeg) (24 + y5_) → (∀ s7_, s7_ = wi s6_ 18 3 ((t5_.1 18 3) + 1) → Q none (mk g s7_)))) ∧ (¬ (0 : Int32) ≤ y5_ → vp_in (t5_.1 18 3) 402 ∧ (∀ s8_, s8_ = wi t5_ 19 (((t5_.1 18 3)).toNatClampNeg) 1 → (∀ s9_, s9_ = wi s8_ 18 3 ((t5_.1 18 3) + 1) → Q none (mk g s9_))))))) ∧ (¬ y4_ = 0 → (((x3 - x2) ≤ 4 → vp_in (t4_.1 18 3) 402 ∧ (∀ s10_, s10_ = wi t4_ 19 (((t4_.1 18 3)).toNatClampNeg) 3 → GL E m_Tokens_numberOf [.ref 17, .int x2, .int (if (x2 + 4) < x3 then (x2 + 4) else x3)] g s10_ (fun y11_ t11_ => (∀ s12_, s12_ = wl t11_ 21 (((t4_.1 18 3)).toNatClampNeg) y11_ → (∀ s13_, s13_ = wi s12_ 18 3 ((t11_.1 18 3) + 1) → Q none (mk g s13_)))))) ∧ (¬ (x3 - x2) ≤ 4 → vp_in (t4_.1 18 3) 402 ∧ (∀ s14_, s14_ = wi t4_ 19 (((t4_.1 18 3)).toNatClampNeg) 1 → GL E m_Tokens_numberOf [.ref 17, .int x2, .int (if (x2 + 4) < x3 then (x2 + 4) else x3)] g s14_ (fun y15_ t15_ => (∀ s16_, s16_ = wl t15_ 21 (((t4_.1 18 3)).toNatClampNeg) y15_ → (∀ s17_, s17_ = wi s16_ 18 3 ((t15_.1 18 3) + 1) → Q none (mk g s17_))))))))))) ∧ (¬ y3_ = 0 → (((x3 - x2) ≤ 8 → GI E m_Tokens_wordOf [.ref 17, .int x2, .int x3] g t3_ (fun y18_ t18_ => vp_in (t3_.1 18 3) 402 ∧ (∀ s19_, s19_ = wi t18_ 19 (((t3_.1 18 3)).toNatClampNeg) y18_ → GL E m_Tokens_nameOf [.ref 17, .int x2, .int (if (x2 + 8) < x3 then (x2 + 8) else x3)] g s19_ (fun y20_ t20_ => vp_in (t18_.1 18 3) 402 ∧ (∀ s21_, s21_ = wl t20_ 21 (((t18_.1 18 3)).toNatClampNeg) y20_ → (∀ s22_, s22_ = wi s21_ 18 3 ((t20_.1 18 3) + 1) → Q none (mk g s22_))))))) ∧ (¬ (x3 - x2) ≤ 8 → vp_in (t3_.1 18 3) 402 ∧ (∀ s23_, s23_ = wi t3_ 19 (((t3_.1 18 3)).toNatClampNeg) 1 → GL E m_Tokens_nameOf [.ref 17, .int x2, .int (if (x2 + 8) < x3 then (x2 + 8) else x3)] g s23_ (fun y24_ t24_ => (∀ s25_, s25_ = wl t24_ 21 (((t3_.1 18 3)).toNatClampNeg) y24_ → (∀ s26_, s26_ = wi s25_ 18 3 ((t24_.1 18 3) + 1) → Q none (mk g s26_))))))))))))) : AMet E m_Tokens_add [.ref 18, .ref 17, .int x2, .int x3] (mk g s) Q := by
  refine AMet.of (by decide) k_Tokens_add [(0, .ref 18), (1, .ref 17), (2, .int x2), (3, .int x3)] (Nat.le_of_ble_eq_true rfl) rfl ?_
  refine aw_aload_n (q := 1) (j := 0) rfl rfl rfl (List.mem_of_getElem? (i := 0) rfl) ?_
  refine ag_getR (q := 4) rfl rfl fl_Tokens_15 rfl (SX.o hS rfl) (SX.r hS rfl) ?_
  refine aw_aload_n (q := 5) (j := 0) rfl rfl rfl (List.mem_of_getElem? (i := 0) rfl) ?_
  refine ag_getI (q := 8) rfl rfl fl_Tokens_22 rfl (SX.o hS rfl) ?_
  refine aw_iload_n (q := 9) (j := 2) rfl rfl rfl (List.mem_of_getElem? (i := 2) rfl) ?_
  obtain ⟨bd_1, h⟩ := h
  refine ag_iastore (q := 10) (N := 402) rfl rfl (SX.a hS rfl) bd_1 ?_
  replace h := h _ rfl
  refine aw_aload_n (q := 11) (j := 0) rfl rfl rfl (List.mem_of_getElem? (i := 0) rfl) ?_
  refine ag_getR (q := 14) rfl rfl fl_Tokens_18 rfl (SX.o hS rfl) (SX.r hS rfl) ?_
  refine aw_aload_n (q := 15) (j := 0) rfl rfl rfl (List.mem_of_getElem? (i := 0) rfl) ?_
  refine ag_getI (q := 18) rfl rfl fl_Tokens_22 rfl (SX.o hS rfl) ?_
  refine aw_lconst (q := 19) (v := 0) rfl rfl (by decide) ?_
  refine ag_lastore (q := 20) (N := 402) rfl rfl (SX.a hS rfl) bd_1 ?_
  replace h := h _ rfl
  refine aw_aload_n (q := 21) (j := 1) rfl rfl rfl (List.mem_of_getElem? (i := 1) rfl) ?_
  refine aw_iload_n (q := 22) (j := 2) rfl rfl rfl (List.mem_of_getElem? (i := 2) rfl) ?_
  obtain ⟨bd_2, h⟩ := h
  refine ag_caload (q := 23) (N := 2000) rfl rfl (SX.a hS rfl) bd_2 ?_
  refine aw_istore (q := 25) (j := 4) (ls' := [(4, .int _), (0, .ref _), (1, .ref _), (2, .int _), (3, .int _)]) rfl rfl (by decide) rfl ?_
  refine aw_iload (q := 27) (j := 4) rfl rfl (List.mem_of_getElem? (i := 0) rfl) ?_
  refine ag_csI (z := m_Tokens_isLetter) (av := [.int _]) (st := []) (q := 30) (k' := 0) (n' := 0) rfl rfl cs_Tokens_37 ⟨by decide, by decide⟩ rfl rfl (by decide) (by decide) rfl rfl (Nat.le_of_ble_eq_true rfl) ?_
  refine GI.mono h (fun y3_ t3_ h => ?_)
  refine aw_if_eq (q := 33) (tgt := 85) rfl rfl (by decide) ⟨fun cd_3 => ?_, fun cd_3 => ?_⟩
  · replace h := h.1 cd_3
    refine aw_iload (q := 87) (j := 4) rfl rfl (List.mem_of_getElem? (i := 0) rfl) ?_
    refine ag_csI (z := m_Tokens_isDigit) (av := [.int _]) (st := []) (q := 90) (k' := 0) (n' := 0) rfl rfl cs_Tokens_54 ⟨by decide, by decide⟩ rfl rfl (by decide) (by decide) rfl rfl (Nat.le_of_ble_eq_true rfl) ?_
    refine GI.mono h (fun y4_ t4_ h => ?_)
    refine aw_if_eq (q := 93) (tgt := 138) rfl rfl (by decide) ⟨fun cd_4 => ?_, fun cd_4 => ?_⟩
    · replace h := h.1 cd_4
      refine aw_ldcS (q := 140) (i := 1) rfl rfl rfl ?_
      refine aw_iload (q := 142) (j := 4) rfl rfl (List.mem_of_getElem? (i := 0) rfl) ?_
      refine ag_cvS (z := m_Str_indexOf) (av := [.int _]) (st := []) (i := 1) (q := 145) (k' := 0) (n' := 0) rfl rfl cv_Tokens_62 ⟨by decide, by decide⟩ rfl rfl (by decide) (by decide) (by decide) rfl rfl rfl (Nat.le_of_ble_eq_true rfl) ?_
      refine GI.mono h (fun y5_ t5_ h => ?_)
      refine aw_istore (q := 147) (j := 5) (ls' := [(5, .int _), (4, .int _), (0, .ref _), (1, .ref _), (2, .int _), (3, .int _)]) rfl rfl (by decide) rfl ?_
      refine aw_aload_n (q := 148) (j := 0) rfl rfl rfl (List.mem_of_getElem? (i := 2) rfl) ?_
      refine ag_getR (q := 151) rfl rfl fl_Tokens_9 rfl (SX.o hS rfl) (SX.r hS rfl) ?_
      refine aw_aload_n (q := 152) (j := 0) rfl rfl rfl (List.mem_of_getElem? (i := 2) rfl) ?_
      refine ag_getI (q := 155) rfl rfl fl_Tokens_22 rfl (SX.o hS rfl) ?_
      refine aw_iload (q := 157) (j := 5) rfl rfl (List.mem_of_getElem? (i := 0) rfl) ?_
      refine aw_if_ge (q := 160) (tgt := 164) rfl rfl (by decide) ⟨fun cd_5 => ?_, fun cd_5 => ?_⟩
      · replace h := h.1 cd_5
        refine aw_bipush (q := 166) (v := 24) rfl rfl (by decide) ?_
        refine aw_iload (q := 168) (j := 5) rfl rfl (List.mem_of_getElem? (i := 0) rfl) ?_
        refine aw_iadd (q := 169) rfl rfl ?_
        obtain ⟨bd_6, h⟩ := h
        refine ag_iastore (q := 170) (N := 402) rfl rfl (SX.a hS rfl) bd_6 ?_
        replace h := h _ rfl
        refine aw_aload_n (q := 171) (j := 0) rfl rfl rfl (List.mem_of_getElem? (i := 2) rfl) ?_
        refine aw_dup (q := 172) rfl rfl rfl ?_
        refine ag_getI (q := 175) rfl rfl fl_Tokens_22 rfl (SX.o hS rfl) ?_
        refine aw_iconst (q := 176) (v := 1) rfl rfl (by decide) ?_
        refine aw_iadd (q := 177) rfl rfl ?_
        refine ag_putI (q := 180) rfl rfl fl_Tokens_22 rfl rfl (SX.o hS rfl) ?_
        replace h := h _ rfl
        exact aw_return rfl rfl (by decide) (by decide) h
      · replace h := h.2 cd_5
        refine aw_iconst (q := 161) (v := 1) rfl rfl (by decide) ?_
        refine aw_goto (tgt := 169) rfl (by decide) ?_
        obtain ⟨bd_7, h⟩ := h
        refine ag_iastore (q := 170) (N := 402) rfl rfl (SX.a hS rfl) bd_7 ?_
        replace h := h _ rfl
        refine aw_aload_n (q := 171) (j := 0) rfl rfl rfl (List.mem_of_getElem? (i := 2) rfl) ?_
        refine aw_dup (q := 172) rfl rfl rfl ?_
        refine ag_getI (q := 175) rfl rfl fl_Tokens_22 rfl (SX.o hS rfl) ?_
        refine aw_iconst (q := 176) (v := 1) rfl rfl (by decide) ?_
        refine aw_iadd (q := 177) rfl rfl ?_
        refine ag_putI (q := 180) rfl rfl fl_Tokens_22 rfl rfl (SX.o hS rfl) ?_
        replace h := h _ rfl
        exact aw_return rfl rfl (by decide) (by decide) h
    · replace h := h.2 cd_4
      refine aw_aload_n (q := 94) (j := 0) rfl rfl rfl (List.mem_of_getElem? (i := 1) rfl) ?_
      refine ag_getR (q := 97) rfl rfl fl_Tokens_9 rfl (SX.o hS rfl) (SX.r hS rfl) ?_
      refine aw_aload_n (q := 98) (j := 0) rfl rfl rfl (List.mem_of_getElem? (i := 1) rfl) ?_
      refine ag_getI (q := 101) rfl rfl fl_Tokens_22 rfl (SX.o hS rfl) ?_
      refine aw_iload_n (q := 102) (j := 3) rfl rfl rfl (List.mem_of_getElem? (i := 4) rfl) ?_
      refine aw_iload_n (q := 103) (j := 2) rfl rfl rfl (List.mem_of_getElem? (i := 3) rfl) ?_
      refine aw_isub (q := 104) rfl rfl ?_
      refine aw_iconst (q := 105) (v := 4) rfl rfl (by decide) ?_
      refine aw_icmp_le (q := 108) (tgt := 112) rfl rfl (by decide) ⟨fun cd_8 => ?_, fun cd_8 => ?_⟩
      · replace h := h.1 cd_8
        refine aw_iconst (q := 113) (v := 3) rfl rfl (by decide) ?_
        obtain ⟨bd_9, h⟩ := h
        refine ag_iastore (q := 114) (N := 402) rfl rfl (SX.a hS rfl) bd_9 ?_
        replace h := h _ rfl
        refine aw_aload_n (q := 115) (j := 0) rfl rfl rfl (List.mem_of_getElem? (i := 1) rfl) ?_
        refine ag_getR (q := 118) rfl rfl fl_Tokens_18 rfl (SX.o hS rfl) (SX.r hS rfl) ?_
        refine aw_aload_n (q := 119) (j := 0) rfl rfl rfl (List.mem_of_getElem? (i := 1) rfl) ?_
        refine ag_getI (q := 122) rfl rfl fl_Tokens_22 rfl (SX.o hS rfl) ?_
        refine aw_aload_n (q := 123) (j := 1) rfl rfl rfl (List.mem_of_getElem? (i := 2) rfl) ?_
        refine aw_iload_n (q := 124) (j := 2) rfl rfl rfl (List.mem_of_getElem? (i := 3) rfl) ?_
        refine aw_iload_n (q := 125) (j := 3) rfl rfl rfl (List.mem_of_getElem? (i := 4) rfl) ?_
        refine aw_iload_n (q := 126) (j := 2) rfl rfl rfl (List.mem_of_getElem? (i := 3) rfl) ?_
        refine aw_iconst (q := 127) (v := 4) rfl rfl (by decide) ?_
        refine aw_iadd (q := 128) rfl rfl ?_
        refine aw_mmin (q := 131) rfl rfl (tb_c3 141 rfl rfl) (tb_c3 142 rfl rfl) (tb_c1 18 rfl rfl) (tb_c3 143 rfl rfl) (by decide) (by decide) (by decide) (by decide) (Nat.le_of_ble_eq_true rfl) ?_
        refine ag_csL (z := m_Tokens_numberOf) (av := [.ref _, .int _, .int _]) (st := [.int _, .ref _]) (q := 134) (k' := 0) (n' := 0) rfl rfl cs_Tokens_57 ⟨by decide, by decide⟩ rfl rfl (by decide) (by decide) rfl rfl (Nat.le_of_ble_eq_true rfl) ?_
        refine GL.mono h (fun y11_ t11_ h => ?_)
        refine ag_lastore (q := 135) (N := 402) rfl rfl (SX.a hS rfl) bd_9 ?_
        replace h := h _ rfl
        refine aw_goto (tgt := 170) rfl (by decide) ?_
        refine aw_aload_n (q := 171) (j := 0) rfl rfl rfl (List.mem_of_getElem? (i := 1) rfl) ?_
        refine aw_dup (q := 172) rfl rfl rfl ?_
        refine ag_getI (q := 175) rfl rfl fl_Tokens_22 rfl (SX.o hS rfl) ?_
        refine aw_iconst (q := 176) (v := 1) rfl rfl (by decide) ?_
        refine aw_iadd (q := 177) rfl rfl ?_
        refine ag_putI (q := 180) rfl rfl fl_Tokens_22 rfl rfl (SX.o hS rfl) ?_
        replace h := h _ rfl
        exact aw_return rfl rfl (by decide) (by decide) h
      · replace h := h.2 cd_8
        refine aw_iconst (q := 109) (v := 1) rfl rfl (by decide) ?_
        refine aw_goto (tgt := 113) rfl (by decide) ?_
        obtain ⟨bd_10, h⟩ := h
        refine ag_iastore (q := 114) (N := 402) rfl rfl (SX.a hS rfl) bd_10 ?_
        replace h := h _ rfl
        refine aw_aload_n (q := 115) (j := 0) rfl rfl rfl (List.mem_of_getElem? (i := 1) rfl) ?_
        refine ag_getR (q := 118) rfl rfl fl_Tokens_18 rfl (SX.o hS rfl) (SX.r hS rfl) ?_
        refine aw_aload_n (q := 119) (j := 0) rfl rfl rfl (List.mem_of_getElem? (i := 1) rfl) ?_
        refine ag_getI (q := 122) rfl rfl fl_Tokens_22 rfl (SX.o hS rfl) ?_
        refine aw_aload_n (q := 123) (j := 1) rfl rfl rfl (List.mem_of_getElem? (i := 2) rfl) ?_
        refine aw_iload_n (q := 124) (j := 2) rfl rfl rfl (List.mem_of_getElem? (i := 3) rfl) ?_
        refine aw_iload_n (q := 125) (j := 3) rfl rfl rfl (List.mem_of_getElem? (i := 4) rfl) ?_
        refine aw_iload_n (q := 126) (j := 2) rfl rfl rfl (List.mem_of_getElem? (i := 3) rfl) ?_
        refine aw_iconst (q := 127) (v := 4) rfl rfl (by decide) ?_
        refine aw_iadd (q := 128) rfl rfl ?_
        refine aw_mmin (q := 131) rfl rfl (tb_c3 141 rfl rfl) (tb_c3 142 rfl rfl) (tb_c1 18 rfl rfl) (tb_c3 143 rfl rfl) (by decide) (by decide) (by decide) (by decide) (Nat.le_of_ble_eq_true rfl) ?_
        refine ag_csL (z := m_Tokens_numberOf) (av := [.ref _, .int _, .int _]) (st := [.int _, .ref _]) (q := 134) (k' := 0) (n' := 0) rfl rfl cs_Tokens_57 ⟨by decide, by decide⟩ rfl rfl (by decide) (by decide) rfl rfl (Nat.le_of_ble_eq_true rfl) ?_
        refine GL.mono h (fun y15_ t15_ h => ?_)
        refine ag_lastore (q := 135) (N := 402) rfl rfl (SX.a hS rfl) bd_10 ?_
        replace h := h _ rfl
        refine aw_goto (tgt := 170) rfl (by decide) ?_
        refine aw_aload_n (q := 171) (j := 0) rfl rfl rfl (List.mem_of_getElem? (i := 1) rfl) ?_
        refine aw_dup (q := 172) rfl rfl rfl ?_
        refine ag_getI (q := 175) rfl rfl fl_Tokens_22 rfl (SX.o hS rfl) ?_
        refine aw_iconst (q := 176) (v := 1) rfl rfl (by decide) ?_
        refine aw_iadd (q := 177) rfl rfl ?_
        refine ag_putI (q := 180) rfl rfl fl_Tokens_22 rfl rfl (SX.o hS rfl) ?_
        replace h := h _ rfl
        exact aw_return rfl rfl (by decide) (by decide) h
  · replace h := h.2 cd_3
    refine aw_aload_n (q := 34) (j := 0) rfl rfl rfl (List.mem_of_getElem? (i := 1) rfl) ?_
    refine ag_getR (q := 37) rfl rfl fl_Tokens_9 rfl (SX.o hS rfl) (SX.r hS rfl) ?_
    refine aw_aload_n (q := 38) (j := 0) rfl rfl rfl (List.mem_of_getElem? (i := 1) rfl) ?_
    refine ag_getI (q := 41) rfl rfl fl_Tokens_22 rfl (SX.o hS rfl) ?_
    refine aw_iload_n (q := 42) (j := 3) rfl rfl rfl (List.mem_of_getElem? (i := 4) rfl) ?_
    refine aw_iload_n (q := 43) (j := 2) rfl rfl rfl (List.mem_of_getElem? (i := 3) rfl) ?_
    refine aw_isub (q := 44) rfl rfl ?_
    refine aw_bipush (q := 46) (v := 8) rfl rfl (by decide) ?_
    refine aw_icmp_le (q := 49) (tgt := 53) rfl rfl (by decide) ⟨fun cd_11 => ?_, fun cd_11 => ?_⟩
    · replace h := h.1 cd_11
      refine aw_aload_n (q := 54) (j := 1) rfl rfl rfl (List.mem_of_getElem? (i := 2) rfl) ?_
      refine aw_iload_n (q := 55) (j := 2) rfl rfl rfl (List.mem_of_getElem? (i := 3) rfl) ?_
      refine aw_iload_n (q := 56) (j := 3) rfl rfl rfl (List.mem_of_getElem? (i := 4) rfl) ?_
      refine ag_csI (z := m_Tokens_wordOf) (av := [.ref _, .int _, .int _]) (st := [.int _, .ref _]) (q := 59) (k' := 0) (n' := 0) rfl rfl cs_Tokens_41 ⟨by decide, by decide⟩ rfl rfl (by decide) (by decide) rfl rfl (Nat.le_of_ble_eq_true rfl) ?_
      refine GI.mono h (fun y18_ t18_ h => ?_)
      obtain ⟨bd_12, h⟩ := h
      refine ag_iastore (q := 60) (N := 402) rfl rfl (SX.a hS rfl) bd_12 ?_
      replace h := h _ rfl
      refine aw_aload_n (q := 61) (j := 0) rfl rfl rfl (List.mem_of_getElem? (i := 1) rfl) ?_
      refine ag_getR (q := 64) rfl rfl fl_Tokens_18 rfl (SX.o hS rfl) (SX.r hS rfl) ?_
      refine aw_aload_n (q := 65) (j := 0) rfl rfl rfl (List.mem_of_getElem? (i := 1) rfl) ?_
      refine ag_getI (q := 68) rfl rfl fl_Tokens_22 rfl (SX.o hS rfl) ?_
      refine aw_aload_n (q := 69) (j := 1) rfl rfl rfl (List.mem_of_getElem? (i := 2) rfl) ?_
      refine aw_iload_n (q := 70) (j := 2) rfl rfl rfl (List.mem_of_getElem? (i := 3) rfl) ?_
      refine aw_iload_n (q := 71) (j := 3) rfl rfl rfl (List.mem_of_getElem? (i := 4) rfl) ?_
      refine aw_iload_n (q := 72) (j := 2) rfl rfl rfl (List.mem_of_getElem? (i := 3) rfl) ?_
      refine aw_bipush (q := 74) (v := 8) rfl rfl (by decide) ?_
      refine aw_iadd (q := 75) rfl rfl ?_
      refine aw_mmin (q := 78) rfl rfl (tb_c3 141 rfl rfl) (tb_c3 142 rfl rfl) (tb_c1 18 rfl rfl) (tb_c3 143 rfl rfl) (by decide) (by decide) (by decide) (by decide) (Nat.le_of_ble_eq_true rfl) ?_
      refine ag_csL (z := m_Tokens_nameOf) (av := [.ref _, .int _, .int _]) (st := [.int _, .ref _]) (q := 81) (k' := 0) (n' := 0) rfl rfl cs_Tokens_50 ⟨by decide, by decide⟩ rfl rfl (by decide) (by decide) rfl rfl (Nat.le_of_ble_eq_true rfl) ?_
      refine GL.mono h (fun y20_ t20_ h => ?_)
      obtain ⟨bd_13, h⟩ := h
      refine ag_lastore (q := 82) (N := 402) rfl rfl (SX.a hS rfl) bd_13 ?_
      replace h := h _ rfl
      refine aw_goto (tgt := 170) rfl (by decide) ?_
      refine aw_aload_n (q := 171) (j := 0) rfl rfl rfl (List.mem_of_getElem? (i := 1) rfl) ?_
      refine aw_dup (q := 172) rfl rfl rfl ?_
      refine ag_getI (q := 175) rfl rfl fl_Tokens_22 rfl (SX.o hS rfl) ?_
      refine aw_iconst (q := 176) (v := 1) rfl rfl (by decide) ?_
      refine aw_iadd (q := 177) rfl rfl ?_
      refine ag_putI (q := 180) rfl rfl fl_Tokens_22 rfl rfl (SX.o hS rfl) ?_
      replace h := h _ rfl
      exact aw_return rfl rfl (by decide) (by decide) h
    · replace h := h.2 cd_11
      refine aw_iconst (q := 50) (v := 1) rfl rfl (by decide) ?_
      refine aw_goto (tgt := 59) rfl (by decide) ?_
      obtain ⟨bd_14, h⟩ := h
      refine ag_iastore (q := 60) (N := 402) rfl rfl (SX.a hS rfl) bd_14 ?_
      replace h := h _ rfl
      refine aw_aload_n (q := 61) (j := 0) rfl rfl rfl (List.mem_of_getElem? (i := 1) rfl) ?_
      refine ag_getR (q := 64) rfl rfl fl_Tokens_18 rfl (SX.o hS rfl) (SX.r hS rfl) ?_
      refine aw_aload_n (q := 65) (j := 0) rfl rfl rfl (List.mem_of_getElem? (i := 1) rfl) ?_
      refine ag_getI (q := 68) rfl rfl fl_Tokens_22 rfl (SX.o hS rfl) ?_
      refine aw_aload_n (q := 69) (j := 1) rfl rfl rfl (List.mem_of_getElem? (i := 2) rfl) ?_
      refine aw_iload_n (q := 70) (j := 2) rfl rfl rfl (List.mem_of_getElem? (i := 3) rfl) ?_
      refine aw_iload_n (q := 71) (j := 3) rfl rfl rfl (List.mem_of_getElem? (i := 4) rfl) ?_
      refine aw_iload_n (q := 72) (j := 2) rfl rfl rfl (List.mem_of_getElem? (i := 3) rfl) ?_
      refine aw_bipush (q := 74) (v := 8) rfl rfl (by decide) ?_
      refine aw_iadd (q := 75) rfl rfl ?_
      refine aw_mmin (q := 78) rfl rfl (tb_c3 141 rfl rfl) (tb_c3 142 rfl rfl) (tb_c1 18 rfl rfl) (tb_c3 143 rfl rfl) (by decide) (by decide) (by decide) (by decide) (Nat.le_of_ble_eq_true rfl) ?_
      refine ag_csL (z := m_Tokens_nameOf) (av := [.ref _, .int _, .int _]) (st := [.int _, .ref _]) (q := 81) (k' := 0) (n' := 0) rfl rfl cs_Tokens_50 ⟨by decide, by decide⟩ rfl rfl (by decide) (by decide) rfl rfl (Nat.le_of_ble_eq_true rfl) ?_
      refine GL.mono h (fun y24_ t24_ h => ?_)
      refine ag_lastore (q := 82) (N := 402) rfl rfl (SX.a hS rfl) bd_14 ?_
      replace h := h _ rfl
      refine aw_goto (tgt := 170) rfl (by decide) ?_
      refine aw_aload_n (q := 171) (j := 0) rfl rfl rfl (List.mem_of_getElem? (i := 1) rfl) ?_
      refine aw_dup (q := 172) rfl rfl rfl ?_
      refine ag_getI (q := 175) rfl rfl fl_Tokens_22 rfl (SX.o hS rfl) ?_
      refine aw_iconst (q := 176) (v := 1) rfl rfl (by decide) ?_
      refine aw_iadd (q := 177) rfl rfl ?_
      refine ag_putI (q := 180) rfl rfl fl_Tokens_22 rfl rfl (SX.o hS rfl) ?_
      replace h := h _ rfl
      exact aw_return rfl rfl (by decide) (by decide) h
set_option maxRecDepth 20000 in
theorem v_Tokens_wordOf_2 {E : EN} {g : GS} {s : MS} {Q : Option Value → SG → Prop} (x1 : Int32) (x2 : Int32) (x3 : Int32) (h : ((20 ≤ x3 → Q (some (.int 2)) (mk g s)) ∧ (¬ 20 ≤ x3 → GI E m_Tokens_isWord [.int x3, .ref 17, .int x1, .int x2] g s (fun y1_ t1_ => ((y1_ = 0 → AWP E m_Tokens_wordOf 2 0 0 [(0, .ref 17), (1, .int x1), (2, .int x2), (3, .int (x3 + 1))] [] (mk g t1_) Q) ∧ (¬ y1_ = 0 → Q (some (.int (4 + x3))) (mk g t1_))))))) : AWP E m_Tokens_wordOf 2 0 0 [(0, .ref 17), (1, .int x1), (2, .int x2), (3, .int x3)] [] (mk g s) Q := by
  refine aw_iload_n (q := 3) (j := 3) rfl rfl rfl (List.mem_of_getElem? (i := 3) rfl) ?_
  refine aw_bipush (q := 5) (v := 20) rfl rfl (by decide) ?_
  refine aw_icmp_ge (q := 8) (tgt := 28) rfl rfl (by decide) ⟨fun cd_1 => ?_, fun cd_1 => ?_⟩
  · replace h := h.1 cd_1
    refine aw_iconst (q := 29) (v := 2) rfl rfl (by decide) ?_
    exact aw_ireturn (ty := .int) rfl rfl rfl (by decide) (by decide) h
  · replace h := h.2 cd_1
    refine aw_iload_n (q := 9) (j := 3) rfl rfl rfl (List.mem_of_getElem? (i := 3) rfl) ?_
    refine aw_aload_n (q := 10) (j := 0) rfl rfl rfl (List.mem_of_getElem? (i := 0) rfl) ?_
    refine aw_iload_n (q := 11) (j := 1) rfl rfl rfl (List.mem_of_getElem? (i := 1) rfl) ?_
    refine aw_iload_n (q := 12) (j := 2) rfl rfl rfl (List.mem_of_getElem? (i := 2) rfl) ?_
    refine ag_csI (z := m_Tokens_isWord) (av := [.int _, .ref _, .int _, .int _]) (st := []) (q := 15) (k' := 0) (n' := 0) rfl rfl cs_Tokens_71 ⟨by decide, by decide⟩ rfl rfl (by decide) (by decide) rfl rfl (Nat.le_of_ble_eq_true rfl) ?_
    refine GI.mono h (fun y1_ t1_ h => ?_)
    refine aw_if_eq (q := 18) (tgt := 22) rfl rfl (by decide) ⟨fun cd_2 => ?_, fun cd_2 => ?_⟩
    · replace h := h.1 cd_2
      refine aw_iinc (q := 25) (v := _ + 1) (ls' := [(3, .int _), (0, .ref _), (1, .int _), (2, .int _)]) rfl rfl (List.mem_of_getElem? (i := 3) rfl) rfl (by decide) rfl ?_
      refine aw_goto (tgt := 2) rfl (by decide) ?_
      refine aw_ls [1, 2, 3, 0] rfl ?_
      exact h
    · replace h := h.2 cd_2
      refine aw_iconst (q := 19) (v := 4) rfl rfl (by decide) ?_
      refine aw_iload_n (q := 20) (j := 3) rfl rfl rfl (List.mem_of_getElem? (i := 3) rfl) ?_
      refine aw_iadd (q := 21) rfl rfl ?_
      exact aw_ireturn (ty := .int) rfl rfl rfl (by decide) (by decide) h
set_option maxRecDepth 20000 in
theorem v_Tokens_wordOf {E : EN} {g : GS} {s : MS} {Q : Option Value → SG → Prop} (x1 : Int32) (x2 : Int32) (h : AWP E m_Tokens_wordOf 2 0 0 [(0, .ref 17), (1, .int x1), (2, .int x2), (3, .int 0)] [] (mk g s) Q) : AMet E m_Tokens_wordOf [.ref 17, .int x1, .int x2] (mk g s) Q := by
  refine AMet.of (by decide) k_Tokens_wordOf [(0, .ref 17), (1, .int x1), (2, .int x2)] (Nat.le_of_ble_eq_true rfl) rfl ?_
  refine aw_iconst (q := 1) (v := 0) rfl rfl (by decide) ?_
  refine aw_istore_n (q := 2) (j := 3) (ls' := [(3, .int _), (0, .ref _), (1, .int _), (2, .int _)]) rfl rfl rfl (by decide) rfl ?_
  refine aw_ls [1, 2, 3, 0] rfl ?_
  exact h
set_option maxRecDepth 20000 in
theorem v_Tokens_isWord_23 {E : EN} {g : GS} {s : MS} {Q : Option Value → SG → Prop} (x0 : Int32) (x2 : Int32) (x3 : Int32) (x4 : Int32) (x5 : Int32) (x6 : Int32) (hS : SX g) (h : ((x4 ≤ x6 → GI E m_Str_charAt [.ref 2, .int (x5 + x4)] g s (fun y1_ t1_ => ((y1_ = 32 → Q (some (.int 1)) (mk g t1_)) ∧ (¬ y1_ = 32 → Q (some (.int 0)) (mk g t1_))))) ∧ (¬ x4 ≤ x6 → GI E m_Str_charAt [.ref 2, .int (x5 + x6)] g s (fun y2_ t2_ => vp_in (x2 + x6) 2000 ∧ ((y2_ = (t2_.1 17 (((x2 + x6)).toNatClampNeg)) → AWP E m_Tokens_isWord 23 0 0 [(0, .int x0), (1, .ref 17), (2, .int x2), (3, .int x3), (4, .int x4), (5, .int x5), (6, .int (x6 + 1))] [] (mk g t2_) Q) ∧ (¬ y2_ = (t2_.1 17 (((x2 + x6)).toNatClampNeg)) → Q (some (.int 0)) (mk g t2_))))))) : AWP E m_Tokens_isWord 23 0 0 [(0, .int x0), (1, .ref 17), (2, .int x2), (3, .int x3), (4, .int x4), (5, .int x5), (6, .int x6)] [] (mk g s) Q := by
  refine aw_iload (q := 25) (j := 6) rfl rfl (List.mem_of_getElem? (i := 6) rfl) ?_
  refine aw_iload (q := 27) (j := 4) rfl rfl (List.mem_of_getElem? (i := 4) rfl) ?_
  refine aw_icmp_ge (q := 30) (tgt := 57) rfl rfl (by decide) ⟨fun cd_1 => ?_, fun cd_1 => ?_⟩
  · replace h := h.1 cd_1
    refine aw_ldcS (q := 59) (i := 0) rfl rfl rfl ?_
    refine aw_iload (q := 61) (j := 5) rfl rfl (List.mem_of_getElem? (i := 5) rfl) ?_
    refine aw_iload (q := 63) (j := 4) rfl rfl (List.mem_of_getElem? (i := 4) rfl) ?_
    refine aw_iadd (q := 64) rfl rfl ?_
    refine ag_cvS (z := m_Str_charAt) (av := [.int _]) (st := []) (i := 0) (q := 67) (k' := 0) (n' := 0) rfl rfl cv_Tokens_77 ⟨by decide, by decide⟩ rfl rfl (by decide) (by decide) (by decide) rfl rfl rfl (Nat.le_of_ble_eq_true rfl) ?_
    refine GI.mono h (fun y1_ t1_ h => ?_)
    refine aw_bipush (q := 69) (v := 32) rfl rfl (by decide) ?_
    refine aw_icmp_ne (q := 72) (tgt := 76) rfl rfl (by decide) ⟨fun cd_2 => ?_, fun cd_2 => ?_⟩
    · replace h := h.1 cd_2
      refine aw_iconst (q := 73) (v := 1) rfl rfl (by decide) ?_
      refine aw_goto (tgt := 77) rfl (by decide) ?_
      exact aw_ireturn (ty := .boolean) rfl rfl rfl (by decide) (by decide) h
    · replace h := h.2 cd_2
      refine aw_iconst (q := 77) (v := 0) rfl rfl (by decide) ?_
      exact aw_ireturn (ty := .boolean) rfl rfl rfl (by decide) (by decide) h
  · replace h := h.2 cd_1
    refine aw_ldcS (q := 32) (i := 0) rfl rfl rfl ?_
    refine aw_iload (q := 34) (j := 5) rfl rfl (List.mem_of_getElem? (i := 5) rfl) ?_
    refine aw_iload (q := 36) (j := 6) rfl rfl (List.mem_of_getElem? (i := 6) rfl) ?_
    refine aw_iadd (q := 37) rfl rfl ?_
    refine ag_cvS (z := m_Str_charAt) (av := [.int _]) (st := []) (i := 0) (q := 40) (k' := 0) (n' := 0) rfl rfl cv_Tokens_77 ⟨by decide, by decide⟩ rfl rfl (by decide) (by decide) (by decide) rfl rfl rfl (Nat.le_of_ble_eq_true rfl) ?_
    refine GI.mono h (fun y2_ t2_ h => ?_)
    refine aw_aload_n (q := 41) (j := 1) rfl rfl rfl (List.mem_of_getElem? (i := 1) rfl) ?_
    refine aw_iload_n (q := 42) (j := 2) rfl rfl rfl (List.mem_of_getElem? (i := 2) rfl) ?_
    refine aw_iload (q := 44) (j := 6) rfl rfl (List.mem_of_getElem? (i := 6) rfl) ?_
    refine aw_iadd (q := 45) rfl rfl ?_
    obtain ⟨bd_3, h⟩ := h
    refine ag_caload (q := 46) (N := 2000) rfl rfl (SX.a hS rfl) bd_3 ?_
    refine aw_icmp_eq (q := 49) (tgt := 51) rfl rfl (by decide) ⟨fun cd_4 => ?_, fun cd_4 => ?_⟩
    · replace h := h.1 cd_4
      refine aw_iinc (q := 54) (v := _ + 1) (ls' := [(6, .int _), (0, .int _), (1, .ref _), (2, .int _), (3, .int _), (4, .int _), (5, .int _)]) rfl rfl (List.mem_of_getElem? (i := 6) rfl) rfl (by decide) rfl ?_
      refine aw_goto (tgt := 23) rfl (by decide) ?_
      refine aw_ls [1, 2, 3, 4, 5, 6, 0] rfl ?_
      exact h
    · replace h := h.2 cd_4
      refine aw_iconst (q := 50) (v := 0) rfl rfl (by decide) ?_
      exact aw_ireturn (ty := .boolean) rfl rfl rfl (by decide) (by decide) h
set_option maxRecDepth 20000 in
theorem v_Tokens_isWord {E : EN} {g : GS} {s : MS} {Q : Option Value → SG → Prop} (x0 : Int32) (x2 : Int32) (x3 : Int32) (h : (((x3 - x2) < 7 → AWP E m_Tokens_isWord 23 0 0 [(0, .int x0), (1, .ref 17), (2, .int x2), (3, .int x3), (4, .int (x3 - x2)), (5, .int (x0 * 7)), (6, .int 0)] [] (mk g s) Q) ∧ (¬ (x3 - x2) < 7 → Q (some (.int 0)) (mk g s)))) : AMet E m_Tokens_isWord [.int x0, .ref 17, .int x2, .int x3] (mk g s) Q := by
  refine AMet.of (by decide) k_Tokens_isWord [(0, .int x0), (1, .ref 17), (2, .int x2), (3, .int x3)] (Nat.le_of_ble_eq_true rfl) rfl ?_
  refine aw_iload_n (q := 1) (j := 3) rfl rfl rfl (List.mem_of_getElem? (i := 3) rfl) ?_
  refine aw_iload_n (q := 2) (j := 2) rfl rfl rfl (List.mem_of_getElem? (i := 2) rfl) ?_
  refine aw_isub (q := 3) rfl rfl ?_
  refine aw_istore (q := 5) (j := 4) (ls' := [(4, .int _), (0, .int _), (1, .ref _), (2, .int _), (3, .int _)]) rfl rfl (by decide) rfl ?_
  refine aw_iload (q := 7) (j := 4) rfl rfl (List.mem_of_getElem? (i := 0) rfl) ?_
  refine aw_bipush (q := 9) (v := 7) rfl rfl (by decide) ?_
  refine aw_icmp_lt (q := 12) (tgt := 14) rfl rfl (by decide) ⟨fun cd_1 => ?_, fun cd_1 => ?_⟩
  · replace h := h.1 cd_1
    refine aw_iload_n (q := 15) (j := 0) rfl rfl rfl (List.mem_of_getElem? (i := 1) rfl) ?_
    refine aw_bipush (q := 17) (v := 7) rfl rfl (by decide) ?_
    refine aw_imul (q := 18) rfl rfl ?_
    refine aw_istore (q := 20) (j := 5) (ls' := [(5, .int _), (4, .int _), (0, .int _), (1, .ref _), (2, .int _), (3, .int _)]) rfl rfl (by decide) rfl ?_
    refine aw_iconst (q := 21) (v := 0) rfl rfl (by decide) ?_
    refine aw_istore (q := 23) (j := 6) (ls' := [(6, .int _), (5, .int _), (4, .int _), (0, .int _), (1, .ref _), (2, .int _), (3, .int _)]) rfl rfl (by decide) rfl ?_
    refine aw_ls [3, 4, 5, 6, 2, 1, 0] rfl ?_
    exact h
  · replace h := h.2 cd_1
    refine aw_iconst (q := 13) (v := 0) rfl rfl (by decide) ?_
    exact aw_ireturn (ty := .boolean) rfl rfl rfl (by decide) (by decide) h
set_option maxRecDepth 20000 in
theorem v_Tokens_nameOf_5 {E : EN} {g : GS} {s : MS} {Q : Option Value → SG → Prop} (x1 : Int32) (x2 : Int32) (l3 : Int64) (x5 : Int32) (hS : SX g) (h : ((x2 ≤ x5 → Q (some (.long l3)) (mk g s)) ∧ (¬ x2 ≤ x5 → vp_in x5 2000 ∧ AWP E m_Tokens_nameOf 5 0 0 [(0, .ref 17), (1, .int x1), (2, .int x2), (3, .long ((l3 * 27) + (Int32.toInt64 (((s.1 17 ((x5).toNatClampNeg)) - 97) + 1)))), (5, .int (x5 + 1))] [] (mk g s) Q))) : AWP E m_Tokens_nameOf 5 0 0 [(0, .ref 17), (1, .int x1), (2, .int x2), (3, .long l3), (5, .int x5)] [] (mk g s) Q := by
  refine aw_iload (q := 7) (j := 5) rfl rfl (List.mem_of_getElem? (i := 4) rfl) ?_
  refine aw_iload_n (q := 8) (j := 2) rfl rfl rfl (List.mem_of_getElem? (i := 2) rfl) ?_
  refine aw_icmp_ge (q := 11) (tgt := 34) rfl rfl (by decide) ⟨fun cd_1 => ?_, fun cd_1 => ?_⟩
  · replace h := h.1 cd_1
    refine aw_lload_n (q := 35) (j := 3) rfl rfl rfl (List.mem_of_getElem? (i := 3) rfl) ?_
    exact aw_lreturn rfl rfl (by decide) (by decide) h
  · replace h := h.2 cd_1
    refine aw_lload_n (q := 12) (j := 3) rfl rfl rfl (List.mem_of_getElem? (i := 3) rfl) ?_
    refine aw_ldc2 (q := 15) rfl rfl kl_Tokens_81 ?_
    refine aw_lmul (q := 16) rfl rfl ?_
    refine aw_aload_n (q := 17) (j := 0) rfl rfl rfl (List.mem_of_getElem? (i := 0) rfl) ?_
    refine aw_iload (q := 19) (j := 5) rfl rfl (List.mem_of_getElem? (i := 4) rfl) ?_
    obtain ⟨bd_2, h⟩ := h
    refine ag_caload (q := 20) (N := 2000) rfl rfl (SX.a hS rfl) bd_2 ?_
    refine aw_bipush (q := 22) (v := 97) rfl rfl (by decide) ?_
    refine aw_isub (q := 23) rfl rfl ?_
    refine aw_iconst (q := 24) (v := 1) rfl rfl (by decide) ?_
    refine aw_iadd (q := 25) rfl rfl ?_
    refine aw_i2l (q := 26) rfl rfl ?_
    refine aw_ladd (q := 27) rfl rfl ?_
    refine aw_lstore_n (q := 28) (j := 3) (ls' := [(3, .long _), (0, .ref _), (1, .int _), (2, .int _), (5, .int _)]) rfl rfl rfl (by decide) rfl ?_
    refine aw_iinc (q := 31) (v := _ + 1) (ls' := [(5, .int _), (3, .long _), (0, .ref _), (1, .int _), (2, .int _)]) rfl rfl (List.mem_of_getElem? (i := 4) rfl) rfl (by decide) rfl ?_
    refine aw_goto (tgt := 5) rfl (by decide) ?_
    refine aw_ls [2, 3, 4, 1, 0] rfl ?_
    exact h
set_option maxRecDepth 20000 in
theorem v_Tokens_nameOf {E : EN} {g : GS} {s : MS} {Q : Option Value → SG → Prop} (x1 : Int32) (x2 : Int32) (h : AWP E m_Tokens_nameOf 5 0 0 [(0, .ref 17), (1, .int x1), (2, .int x2), (3, .long 0), (5, .int x1)] [] (mk g s) Q) : AMet E m_Tokens_nameOf [.ref 17, .int x1, .int x2] (mk g s) Q := by
  refine AMet.of (by decide) k_Tokens_nameOf [(0, .ref 17), (1, .int x1), (2, .int x2)] (Nat.le_of_ble_eq_true rfl) rfl ?_
  refine aw_lconst (q := 1) (v := 0) rfl rfl (by decide) ?_
  refine aw_lstore_n (q := 2) (j := 3) (ls' := [(3, .long _), (0, .ref _), (1, .int _), (2, .int _)]) rfl rfl rfl (by decide) rfl ?_
  refine aw_iload_n (q := 3) (j := 1) rfl rfl rfl (List.mem_of_getElem? (i := 2) rfl) ?_
  refine aw_istore (q := 5) (j := 5) (ls' := [(5, .int _), (3, .long _), (0, .ref _), (1, .int _), (2, .int _)]) rfl rfl (by decide) rfl ?_
  refine aw_ls [2, 3, 4, 1, 0] rfl ?_
  exact h
set_option maxRecDepth 20000 in
theorem v_Tokens_numberOf_5 {E : EN} {g : GS} {s : MS} {Q : Option Value → SG → Prop} (x1 : Int32) (x2 : Int32) (l3 : Int64) (x5 : Int32) (hS : SX g) (h : ((x2 ≤ x5 → Q (some (.long l3)) (mk g s)) ∧ (¬ x2 ≤ x5 → vp_in x5 2000 ∧ AWP E m_Tokens_numberOf 5 0 0 [(0, .ref 17), (1, .int x1), (2, .int x2), (3, .long ((l3 * 10) + (Int32.toInt64 ((s.1 17 ((x5).toNatClampNeg)) - 48)))), (5, .int (x5 + 1))] [] (mk g s) Q))) : AWP E m_Tokens_numberOf 5 0 0 [(0, .ref 17), (1, .int x1), (2, .int x2), (3, .long l3), (5, .int x5)] [] (mk g s) Q := by
  refine aw_iload (q := 7) (j := 5) rfl rfl (List.mem_of_getElem? (i := 4) rfl) ?_
  refine aw_iload_n (q := 8) (j := 2) rfl rfl rfl (List.mem_of_getElem? (i := 2) rfl) ?_
  refine aw_icmp_ge (q := 11) (tgt := 32) rfl rfl (by decide) ⟨fun cd_1 => ?_, fun cd_1 => ?_⟩
  · replace h := h.1 cd_1
    refine aw_lload_n (q := 33) (j := 3) rfl rfl rfl (List.mem_of_getElem? (i := 3) rfl) ?_
    exact aw_lreturn rfl rfl (by decide) (by decide) h
  · replace h := h.2 cd_1
    refine aw_lload_n (q := 12) (j := 3) rfl rfl rfl (List.mem_of_getElem? (i := 3) rfl) ?_
    refine aw_ldc2 (q := 15) rfl rfl kl_Tokens_83 ?_
    refine aw_lmul (q := 16) rfl rfl ?_
    refine aw_aload_n (q := 17) (j := 0) rfl rfl rfl (List.mem_of_getElem? (i := 0) rfl) ?_
    refine aw_iload (q := 19) (j := 5) rfl rfl (List.mem_of_getElem? (i := 4) rfl) ?_
    obtain ⟨bd_2, h⟩ := h
    refine ag_caload (q := 20) (N := 2000) rfl rfl (SX.a hS rfl) bd_2 ?_
    refine aw_bipush (q := 22) (v := 48) rfl rfl (by decide) ?_
    refine aw_isub (q := 23) rfl rfl ?_
    refine aw_i2l (q := 24) rfl rfl ?_
    refine aw_ladd (q := 25) rfl rfl ?_
    refine aw_lstore_n (q := 26) (j := 3) (ls' := [(3, .long _), (0, .ref _), (1, .int _), (2, .int _), (5, .int _)]) rfl rfl rfl (by decide) rfl ?_
    refine aw_iinc (q := 29) (v := _ + 1) (ls' := [(5, .int _), (3, .long _), (0, .ref _), (1, .int _), (2, .int _)]) rfl rfl (List.mem_of_getElem? (i := 4) rfl) rfl (by decide) rfl ?_
    refine aw_goto (tgt := 5) rfl (by decide) ?_
    refine aw_ls [2, 3, 4, 1, 0] rfl ?_
    exact h
set_option maxRecDepth 20000 in
theorem v_Tokens_numberOf {E : EN} {g : GS} {s : MS} {Q : Option Value → SG → Prop} (x1 : Int32) (x2 : Int32) (h : AWP E m_Tokens_numberOf 5 0 0 [(0, .ref 17), (1, .int x1), (2, .int x2), (3, .long 0), (5, .int x1)] [] (mk g s) Q) : AMet E m_Tokens_numberOf [.ref 17, .int x1, .int x2] (mk g s) Q := by
  refine AMet.of (by decide) k_Tokens_numberOf [(0, .ref 17), (1, .int x1), (2, .int x2)] (Nat.le_of_ble_eq_true rfl) rfl ?_
  refine aw_lconst (q := 1) (v := 0) rfl rfl (by decide) ?_
  refine aw_lstore_n (q := 2) (j := 3) (ls' := [(3, .long _), (0, .ref _), (1, .int _), (2, .int _)]) rfl rfl rfl (by decide) rfl ?_
  refine aw_iload_n (q := 3) (j := 1) rfl rfl rfl (List.mem_of_getElem? (i := 2) rfl) ?_
  refine aw_istore (q := 5) (j := 5) (ls' := [(5, .int _), (3, .long _), (0, .ref _), (1, .int _), (2, .int _)]) rfl rfl (by decide) rfl ?_
  refine aw_ls [2, 3, 4, 1, 0] rfl ?_
  exact h
set_option maxRecDepth 20000 in
theorem v_Tokens_kindOf {E : EN} {g : GS} {s : MS} {Q : Option Value → SG → Prop} (x1 : Int32) (hS : SX g) (h : ((x1 < 0 → Q (some (.int 0)) (mk g s)) ∧ (¬ x1 < 0 → (((s.1 18 3) < x1 → Q (some (.int 0)) (mk g s)) ∧ (¬ (s.1 18 3) < x1 → vp_in x1 402 ∧ Q (some (.int (s.1 19 ((x1).toNatClampNeg)))) (mk g s)))))) : AMet E m_Tokens_kindOf [.ref 18, .int x1] (mk g s) Q := by
  refine AMet.of (by decide) k_Tokens_kindOf [(0, .ref 18), (1, .int x1)] (Nat.le_of_ble_eq_true rfl) rfl ?_
  refine aw_iload_n (q := 1) (j := 1) rfl rfl rfl (List.mem_of_getElem? (i := 1) rfl) ?_
  refine aw_if_lt (q := 4) (tgt := 21) rfl rfl (by decide) ⟨fun cd_1 => ?_, fun cd_1 => ?_⟩
  · replace h := h.1 cd_1
    refine aw_iconst (q := 22) (v := 0) rfl rfl (by decide) ?_
    exact aw_ireturn (ty := .int) rfl rfl rfl (by decide) (by decide) h
  · replace h := h.2 cd_1
    refine aw_iload_n (q := 5) (j := 1) rfl rfl rfl (List.mem_of_getElem? (i := 1) rfl) ?_
    refine aw_aload_n (q := 6) (j := 0) rfl rfl rfl (List.mem_of_getElem? (i := 0) rfl) ?_
    refine ag_getI (q := 9) rfl rfl fl_Tokens_22 rfl (SX.o hS rfl) ?_
    refine aw_icmp_gt (q := 12) (tgt := 21) rfl rfl (by decide) ⟨fun cd_2 => ?_, fun cd_2 => ?_⟩
    · replace h := h.1 cd_2
      refine aw_iconst (q := 22) (v := 0) rfl rfl (by decide) ?_
      exact aw_ireturn (ty := .int) rfl rfl rfl (by decide) (by decide) h
    · replace h := h.2 cd_2
      refine aw_aload_n (q := 13) (j := 0) rfl rfl rfl (List.mem_of_getElem? (i := 0) rfl) ?_
      refine ag_getR (q := 16) rfl rfl fl_Tokens_9 rfl (SX.o hS rfl) (SX.r hS rfl) ?_
      refine aw_iload_n (q := 17) (j := 1) rfl rfl rfl (List.mem_of_getElem? (i := 1) rfl) ?_
      obtain ⟨bd_3, h⟩ := h
      refine ag_iaload (q := 18) (N := 402) rfl rfl (SX.a hS rfl) bd_3 ?_
      refine aw_goto (tgt := 22) rfl (by decide) ?_
      exact aw_ireturn (ty := .int) rfl rfl rfl (by decide) (by decide) h
set_option maxRecDepth 20000 in
theorem v_Tokens_placeOf {E : EN} {g : GS} {s : MS} {Q : Option Value → SG → Prop} (x1 : Int32) (hS : SX g) (h : ((x1 < 0 → Q (some (.int (-1))) (mk g s)) ∧ (¬ x1 < 0 → (((s.1 18 3) < x1 → Q (some (.int (-1))) (mk g s)) ∧ (¬ (s.1 18 3) < x1 → vp_in x1 402 ∧ Q (some (.int (s.1 20 ((x1).toNatClampNeg)))) (mk g s)))))) : AMet E m_Tokens_placeOf [.ref 18, .int x1] (mk g s) Q := by
  refine AMet.of (by decide) k_Tokens_placeOf [(0, .ref 18), (1, .int x1)] (Nat.le_of_ble_eq_true rfl) rfl ?_
  refine aw_iload_n (q := 1) (j := 1) rfl rfl rfl (List.mem_of_getElem? (i := 1) rfl) ?_
  refine aw_if_lt (q := 4) (tgt := 21) rfl rfl (by decide) ⟨fun cd_1 => ?_, fun cd_1 => ?_⟩
  · replace h := h.1 cd_1
    refine aw_iconst (q := 22) (v := (-1)) rfl rfl (by decide) ?_
    exact aw_ireturn (ty := .int) rfl rfl rfl (by decide) (by decide) h
  · replace h := h.2 cd_1
    refine aw_iload_n (q := 5) (j := 1) rfl rfl rfl (List.mem_of_getElem? (i := 1) rfl) ?_
    refine aw_aload_n (q := 6) (j := 0) rfl rfl rfl (List.mem_of_getElem? (i := 0) rfl) ?_
    refine ag_getI (q := 9) rfl rfl fl_Tokens_22 rfl (SX.o hS rfl) ?_
    refine aw_icmp_gt (q := 12) (tgt := 21) rfl rfl (by decide) ⟨fun cd_2 => ?_, fun cd_2 => ?_⟩
    · replace h := h.1 cd_2
      refine aw_iconst (q := 22) (v := (-1)) rfl rfl (by decide) ?_
      exact aw_ireturn (ty := .int) rfl rfl rfl (by decide) (by decide) h
    · replace h := h.2 cd_2
      refine aw_aload_n (q := 13) (j := 0) rfl rfl rfl (List.mem_of_getElem? (i := 0) rfl) ?_
      refine ag_getR (q := 16) rfl rfl fl_Tokens_15 rfl (SX.o hS rfl) (SX.r hS rfl) ?_
      refine aw_iload_n (q := 17) (j := 1) rfl rfl rfl (List.mem_of_getElem? (i := 1) rfl) ?_
      obtain ⟨bd_3, h⟩ := h
      refine ag_iaload (q := 18) (N := 402) rfl rfl (SX.a hS rfl) bd_3 ?_
      refine aw_goto (tgt := 22) rfl (by decide) ?_
      exact aw_ireturn (ty := .int) rfl rfl rfl (by decide) (by decide) h
set_option maxRecDepth 20000 in
theorem v_Grammar_check_12 {E : EN} {g : GS} {s : MS} {Q : Option Value → SG → Prop} (x1 : Int32) (hS : SX g) (h : ((14 ≤ x1 → AWP E m_Grammar_check 36 0 0 [(0, .ref 22), (1, .int 0)] [] (mk g s) Q) ∧ (¬ 14 ≤ x1 → vp_in x1 14 ∧ (∀ s1_, s1_ = wi s 23 ((x1).toNatClampNeg) 0 → AWP E m_Grammar_check 12 0 0 [(0, .ref 22), (1, .int (x1 + 1))] [] (mk g s1_) Q)))) : AWP E m_Grammar_check 12 0 0 [(0, .ref 22), (1, .int x1)] [] (mk g s) Q := by
  refine aw_iload_n (q := 13) (j := 1) rfl rfl rfl (List.mem_of_getElem? (i := 1) rfl) ?_
  refine aw_aload_n (q := 14) (j := 0) rfl rfl rfl (List.mem_of_getElem? (i := 0) rfl) ?_
  refine ag_getR (q := 17) rfl rfl fl_Grammar_11 rfl (SX.o hS rfl) (SX.r hS rfl) ?_
  refine ag_alen (q := 18) (t := 0) (N := 14) (v := 14) rfl rfl (by decide) (SX.a hS rfl) (by decide) ?_
  refine aw_icmp_ge (q := 21) (tgt := 34) rfl rfl (by decide) ⟨fun cd_1 => ?_, fun cd_1 => ?_⟩
  · replace h := h.1 cd_1
    refine aw_iconst (q := 35) (v := 0) rfl rfl (by decide) ?_
    refine aw_istore_n (q := 36) (j := 1) (ls' := [(1, .int _), (0, .ref _)]) rfl rfl rfl (by decide) rfl ?_
    refine aw_ls [1, 0] rfl ?_
    exact h
  · replace h := h.2 cd_1
    refine aw_aload_n (q := 22) (j := 0) rfl rfl rfl (List.mem_of_getElem? (i := 0) rfl) ?_
    refine ag_getR (q := 25) rfl rfl fl_Grammar_11 rfl (SX.o hS rfl) (SX.r hS rfl) ?_
    refine aw_iload_n (q := 26) (j := 1) rfl rfl rfl (List.mem_of_getElem? (i := 1) rfl) ?_
    refine aw_iconst (q := 27) (v := 0) rfl rfl (by decide) ?_
    obtain ⟨bd_2, h⟩ := h
    refine ag_iastore (q := 28) (N := 14) rfl rfl (SX.a hS rfl) bd_2 ?_
    replace h := h _ rfl
    refine aw_iinc (q := 31) (v := _ + 1) (ls' := [(1, .int _), (0, .ref _)]) rfl rfl (List.mem_of_getElem? (i := 1) rfl) rfl (by decide) rfl ?_
    refine aw_goto (tgt := 12) rfl (by decide) ?_
    refine aw_ls [1, 0] rfl ?_
    exact h
set_option maxRecDepth 20000 in
theorem v_Grammar_check_36 {E : EN} {g : GS} {s : MS} {Q : Option Value → SG → Prop} (x1 : Int32) (hS : SX g) (h : ((400 < x1 → Q (some (.int (s.1 22 2))) (mk g s)) ∧ (¬ 400 < x1 → (((s.1 22 2) = 0 → GI E m_Grammar_kind [.ref 22] g s (fun y1_ t1_ => ((y1_ = 0 → Q (some (.int (t1_.1 22 2))) (mk g t1_)) ∧ (¬ y1_ = 0 → GV E m_Grammar_checkTell [.ref 22] g t1_ (fun t2_ => AWP E m_Grammar_check 36 0 0 [(0, .ref 22), (1, .int (x1 + 1))] [] (mk g t2_) Q))))) ∧ (¬ (s.1 22 2) = 0 → Q (some (.int (s.1 22 2))) (mk g s)))))) : AWP E m_Grammar_check 36 0 0 [(0, .ref 22), (1, .int x1)] [] (mk g s) Q := by
  refine aw_iload_n (q := 37) (j := 1) rfl rfl rfl (List.mem_of_getElem? (i := 1) rfl) ?_
  refine aw_sipush (q := 40) (v := 400) rfl rfl (by decide) ?_
  refine aw_icmp_gt (q := 43) (tgt := 67) rfl rfl (by decide) ⟨fun cd_1 => ?_, fun cd_1 => ?_⟩
  · replace h := h.1 cd_1
    refine aw_aload_n (q := 68) (j := 0) rfl rfl rfl (List.mem_of_getElem? (i := 0) rfl) ?_
    refine ag_getI (q := 71) rfl rfl fl_Grammar_25 rfl (SX.o hS rfl) ?_
    exact aw_ireturn (ty := .int) rfl rfl rfl (by decide) (by decide) h
  · replace h := h.2 cd_1
    refine aw_aload_n (q := 44) (j := 0) rfl rfl rfl (List.mem_of_getElem? (i := 0) rfl) ?_
    refine ag_getI (q := 47) rfl rfl fl_Grammar_25 rfl (SX.o hS rfl) ?_
    refine aw_if_ne (q := 50) (tgt := 67) rfl rfl (by decide) ⟨fun cd_2 => ?_, fun cd_2 => ?_⟩
    · replace h := h.1 cd_2
      refine aw_aload_n (q := 51) (j := 0) rfl rfl rfl (List.mem_of_getElem? (i := 0) rfl) ?_
      refine ag_cvI (z := m_Grammar_kind) (ci := 1) (av := []) (st := []) (q := 54) (k' := 0) (n' := 0) rfl rfl cv_Grammar_28 ⟨by decide, by decide⟩ rfl rfl (by decide) (by decide) (SX.o hS rfl) rfl rfl rfl (Nat.le_of_ble_eq_true rfl) ?_
      refine GI.mono h (fun y1_ t1_ h => ?_)
      refine aw_if_eq (q := 57) (tgt := 67) rfl rfl (by decide) ⟨fun cd_3 => ?_, fun cd_3 => ?_⟩
      · replace h := h.1 cd_3
        refine aw_aload_n (q := 68) (j := 0) rfl rfl rfl (List.mem_of_getElem? (i := 0) rfl) ?_
        refine ag_getI (q := 71) rfl rfl fl_Grammar_25 rfl (SX.o hS rfl) ?_
        exact aw_ireturn (ty := .int) rfl rfl rfl (by decide) (by decide) h
      · replace h := h.2 cd_3
        refine aw_aload_n (q := 58) (j := 0) rfl rfl rfl (List.mem_of_getElem? (i := 0) rfl) ?_
        refine ag_cvV (z := m_Grammar_checkTell) (ci := 1) (av := []) (st := []) (q := 61) (k' := 0) (n' := 0) rfl rfl cv_Grammar_32 ⟨by decide, by decide⟩ rfl rfl (by decide) (by decide) (SX.o hS rfl) rfl rfl rfl (Nat.le_of_ble_eq_true rfl) ?_
        refine GV.mono h (fun t2_ h => ?_)
        refine aw_iinc (q := 64) (v := _ + 1) (ls' := [(1, .int _), (0, .ref _)]) rfl rfl (List.mem_of_getElem? (i := 1) rfl) rfl (by decide) rfl ?_
        refine aw_goto (tgt := 36) rfl (by decide) ?_
        refine aw_ls [1, 0] rfl ?_
        exact h
    · replace h := h.2 cd_2
      refine aw_aload_n (q := 68) (j := 0) rfl rfl rfl (List.mem_of_getElem? (i := 0) rfl) ?_
      refine ag_getI (q := 71) rfl rfl fl_Grammar_25 rfl (SX.o hS rfl) ?_
      exact aw_ireturn (ty := .int) rfl rfl rfl (by decide) (by decide) h
set_option maxRecDepth 20000 in
theorem v_Grammar_check {E : EN} {g : GS} {s : MS} {Q : Option Value → SG → Prop}  (hS : SX g) (h : (∀ s1_, s1_ = wi s 22 1 0 → (∀ s2_, s2_ = wi s1_ 22 2 0 → AWP E m_Grammar_check 12 0 0 [(0, .ref 22), (1, .int 0)] [] (mk g s2_) Q))) : AMet E m_Grammar_check [.ref 22] (mk g s) Q := by
  refine AMet.of (by decide) k_Grammar_check [(0, .ref 22)] (Nat.le_of_ble_eq_true rfl) rfl ?_
  refine aw_aload_n (q := 1) (j := 0) rfl rfl rfl (List.mem_of_getElem? (i := 0) rfl) ?_
  refine aw_iconst (q := 2) (v := 0) rfl rfl (by decide) ?_
  refine ag_putI (q := 5) rfl rfl fl_Grammar_21 rfl rfl (SX.o hS rfl) ?_
  replace h := h _ rfl
  refine aw_aload_n (q := 6) (j := 0) rfl rfl rfl (List.mem_of_getElem? (i := 0) rfl) ?_
  refine aw_iconst (q := 7) (v := 0) rfl rfl (by decide) ?_
  refine ag_putI (q := 10) rfl rfl fl_Grammar_25 rfl rfl (SX.o hS rfl) ?_
  replace h := h _ rfl
  refine aw_iconst (q := 11) (v := 0) rfl rfl (by decide) ?_
  refine aw_istore_n (q := 12) (j := 1) (ls' := [(1, .int _), (0, .ref _)]) rfl rfl rfl (by decide) rfl ?_
  refine aw_ls [1, 0] rfl ?_
  exact h
set_option maxRecDepth 20000 in
theorem v_Grammar_kind {E : EN} {g : GS} {s : MS} {Q : Option Value → SG → Prop}  (hS : SX g) (hk : g.2.2 22 0 = some 18) (h : GI E m_Tokens_kindOf [.ref 18, .int (s.1 22 1)] g s (fun y1_ t1_ => Q (some (.int y1_)) (mk g t1_))) : AMet E m_Grammar_kind [.ref 22] (mk g s) Q := by
  refine AMet.of (by decide) k_Grammar_kind [(0, .ref 22)] (Nat.le_of_ble_eq_true rfl) rfl ?_
  refine aw_aload_n (q := 1) (j := 0) rfl rfl rfl (List.mem_of_getElem? (i := 0) rfl) ?_
  refine ag_getR (q := 4) rfl rfl fl_Grammar_17 rfl (SX.o hS rfl) hk ?_
  refine aw_aload_n (q := 5) (j := 0) rfl rfl rfl (List.mem_of_getElem? (i := 0) rfl) ?_
  refine ag_getI (q := 8) rfl rfl fl_Grammar_21 rfl (SX.o hS rfl) ?_
  refine ag_cvI (z := m_Tokens_kindOf) (ci := 9) (av := [.int _]) (st := []) (q := 11) (k' := 0) (n' := 0) rfl rfl cv_Grammar_35 ⟨by decide, by decide⟩ rfl rfl (by decide) (by decide) (SX.o hS rfl) rfl rfl rfl (Nat.le_of_ble_eq_true rfl) ?_
  refine GI.mono h (fun y1_ t1_ h => ?_)
  exact aw_ireturn (ty := .int) rfl rfl rfl (by decide) (by decide) h
set_option maxRecDepth 20000 in
theorem v_Grammar_checkTell_20 {E : EN} {g : GS} {s : MS} {Q : Option Value → SG → Prop} (x1 : Int32) (h : AWP E m_Grammar_checkTell 22 0 0 [(0, .ref 22), (1, .int x1), (2, .int 0)] [] (mk g s) Q) : AWP E m_Grammar_checkTell 20 0 0 [(0, .ref 22), (1, .int x1)] [] (mk g s) Q := by
  refine aw_iconst (q := 21) (v := 0) rfl rfl (by decide) ?_
  refine aw_istore_n (q := 22) (j := 2) (ls' := [(2, .int _), (0, .ref _), (1, .int _)]) rfl rfl rfl (by decide) rfl ?_
  refine aw_ls [1, 2, 0] rfl ?_
  exact h
set_option maxRecDepth 20000 in
theorem v_Grammar_checkTell_22 {E : EN} {g : GS} {s : MS} {Q : Option Value → SG → Prop} (x1 : Int32) (x2 : Int32) (hS : SX g) (h : ((x2 = 0 → GV E m_Grammar_pass [.ref 22, .int x2, .int 0] g s (fun t1_ => AWP E m_Grammar_checkTell 49 0 0 [(0, .ref 22), (1, .int x1), (2, .int x2)] [] (mk g t1_) Q)) ∧ (¬ x2 = 0 → vp_in x1 14 ∧ GI E m_Grammar_mostOf [.int x1] g s (fun y2_ t2_ => ((y2_ ≤ (s.1 23 ((x1).toNatClampNeg)) → GV E m_Grammar_pass [.ref 22, .int x2, .int 0] g t2_ (fun t3_ => AWP E m_Grammar_checkTell 49 0 0 [(0, .ref 22), (1, .int x1), (2, .int x2)] [] (mk g t3_) Q)) ∧ (¬ y2_ ≤ (s.1 23 ((x1).toNatClampNeg)) → GV E m_Grammar_pass [.ref 22, .int x2, .int 1] g t2_ (fun t4_ => AWP E m_Grammar_checkTell 49 0 0 [(0, .ref 22), (1, .int x1), (2, .int x2)] [] (mk g t4_) Q))))))) : AWP E m_Grammar_checkTell 22 0 0 [(0, .ref 22), (1, .int x1), (2, .int x2)] [] (mk g s) Q := by
  refine aw_aload_n (q := 23) (j := 0) rfl rfl rfl (List.mem_of_getElem? (i := 0) rfl) ?_
  refine aw_iload_n (q := 24) (j := 2) rfl rfl rfl (List.mem_of_getElem? (i := 2) rfl) ?_
  refine aw_iload_n (q := 25) (j := 2) rfl rfl rfl (List.mem_of_getElem? (i := 2) rfl) ?_
  refine aw_if_eq (q := 28) (tgt := 45) rfl rfl (by decide) ⟨fun cd_1 => ?_, fun cd_1 => ?_⟩
  · replace h := h.1 cd_1
    refine aw_iconst (q := 46) (v := 0) rfl rfl (by decide) ?_
    refine ag_cvV (z := m_Grammar_pass) (ci := 1) (av := [.int _, .int _]) (st := []) (q := 49) (k' := 0) (n' := 0) rfl rfl cv_Grammar_39 ⟨by decide, by decide⟩ rfl rfl (by decide) (by decide) (SX.o hS rfl) rfl rfl rfl (Nat.le_of_ble_eq_true rfl) ?_
    refine GV.mono h (fun t1_ h => ?_)
    refine aw_ls [0, 1, 2] rfl ?_
    exact h
  · replace h := h.2 cd_1
    refine aw_aload_n (q := 29) (j := 0) rfl rfl rfl (List.mem_of_getElem? (i := 0) rfl) ?_
    refine ag_getR (q := 32) rfl rfl fl_Grammar_11 rfl (SX.o hS rfl) (SX.r hS rfl) ?_
    refine aw_iload_n (q := 33) (j := 1) rfl rfl rfl (List.mem_of_getElem? (i := 1) rfl) ?_
    obtain ⟨bd_2, h⟩ := h
    refine ag_iaload (q := 34) (N := 14) rfl rfl (SX.a hS rfl) bd_2 ?_
    refine aw_iload_n (q := 35) (j := 1) rfl rfl rfl (List.mem_of_getElem? (i := 1) rfl) ?_
    refine ag_csI (z := m_Grammar_mostOf) (av := [.int _]) (st := [.int _, .int _, .ref _]) (q := 38) (k' := 0) (n' := 0) rfl rfl cs_Grammar_43 ⟨by decide, by decide⟩ rfl rfl (by decide) (by decide) rfl rfl (Nat.le_of_ble_eq_true rfl) ?_
    refine GI.mono h (fun y2_ t2_ h => ?_)
    refine aw_icmp_ge (q := 41) (tgt := 45) rfl rfl (by decide) ⟨fun cd_3 => ?_, fun cd_3 => ?_⟩
    · replace h := h.1 cd_3
      refine aw_iconst (q := 46) (v := 0) rfl rfl (by decide) ?_
      refine ag_cvV (z := m_Grammar_pass) (ci := 1) (av := [.int _, .int _]) (st := []) (q := 49) (k' := 0) (n' := 0) rfl rfl cv_Grammar_39 ⟨by decide, by decide⟩ rfl rfl (by decide) (by decide) (SX.o hS rfl) rfl rfl rfl (Nat.le_of_ble_eq_true rfl) ?_
      refine GV.mono h (fun t3_ h => ?_)
      refine aw_ls [0, 1, 2] rfl ?_
      exact h
    · replace h := h.2 cd_3
      refine aw_iconst (q := 42) (v := 1) rfl rfl (by decide) ?_
      refine aw_goto (tgt := 46) rfl (by decide) ?_
      refine ag_cvV (z := m_Grammar_pass) (ci := 1) (av := [.int _, .int _]) (st := []) (q := 49) (k' := 0) (n' := 0) rfl rfl cv_Grammar_39 ⟨by decide, by decide⟩ rfl rfl (by decide) (by decide) (SX.o hS rfl) rfl rfl rfl (Nat.le_of_ble_eq_true rfl) ?_
      refine GV.mono h (fun t4_ h => ?_)
      refine aw_ls [0, 1, 2] rfl ?_
      exact h
set_option maxRecDepth 20000 in
theorem v_Grammar_checkTell_49 {E : EN} {g : GS} {s : MS} {Q : Option Value → SG → Prop} (x1 : Int32) (x2 : Int32) (hS : SX g) (h : (((s.1 22 2) = 0 → vp_in x1 14 ∧ (∀ s1_, s1_ = wi s 23 ((x1).toNatClampNeg) ((s.1 23 ((x1).toNatClampNeg)) + 1) → ((x1 < 4 ∨ 10 < x1 → GV E m_Grammar_checkRow [.ref 22, .ref 7] g s1_ (fun t2_ => AWP E m_Grammar_checkTell 159 0 0 [(0, .ref 22), (1, .int x1), (2, .int x2)] [] (mk g t2_) Q)) ∧ (x1 = 4 → GV E m_Grammar_checkRow [.ref 22, .ref 4] g s1_ (fun t3_ => AWP E m_Grammar_checkTell 159 0 0 [(0, .ref 22), (1, .int x1), (2, .int x2)] [] (mk g t3_) Q)) ∧ (x1 = 5 → GV E m_Grammar_checkRow [.ref 22, .ref 5] g s1_ (fun t4_ => AWP E m_Grammar_checkTell 159 0 0 [(0, .ref 22), (1, .int x1), (2, .int x2)] [] (mk g t4_) Q)) ∧ (x1 = 6 → GV E m_Grammar_checkRow [.ref 22, .ref 6] g s1_ (fun t5_ => AWP E m_Grammar_checkTell 159 0 0 [(0, .ref 22), (1, .int x1), (2, .int x2)] [] (mk g t5_) Q)) ∧ (x1 = 7 → GV E m_Grammar_checkLaw [.ref 22] g s1_ (fun t6_ => AWP E m_Grammar_checkTell 159 0 0 [(0, .ref 22), (1, .int x1), (2, .int x2)] [] (mk g t6_) Q)) ∧ (x1 = 8 → GV E m_Grammar_checkLaw [.ref 22] g s1_ (fun t7_ => AWP E m_Grammar_checkTell 159 0 0 [(0, .ref 22), (1, .int x1), (2, .int x2)] [] (mk g t7_) Q)) ∧ (x1 = 9 → GV E m_Grammar_checkLaw [.ref 22] g s1_ (fun t8_ => AWP E m_Grammar_checkTell 159 0 0 [(0, .ref 22), (1, .int x1), (2, .int x2)] [] (mk g t8_) Q)) ∧ (x1 = 10 → GV E m_Grammar_checkWants [.ref 22] g s1_ (fun t9_ => AWP E m_Grammar_checkTell 159 0 0 [(0, .ref 22), (1, .int x1), (2, .int x2)] [] (mk g t9_) Q))))) ∧ (¬ (s.1 22 2) = 0 → Q none (mk g s)))) : AWP E m_Grammar_checkTell 49 0 0 [(0, .ref 22), (1, .int x1), (2, .int x2)] [] (mk g s) Q := by
  refine aw_aload_n (q := 50) (j := 0) rfl rfl rfl (List.mem_of_getElem? (i := 0) rfl) ?_
  refine ag_getI (q := 53) rfl rfl fl_Grammar_25 rfl (SX.o hS rfl) ?_
  refine aw_if_eq (q := 56) (tgt := 57) rfl rfl (by decide) ⟨fun cd_1 => ?_, fun cd_1 => ?_⟩
  · replace h := h.1 cd_1
    refine aw_aload_n (q := 58) (j := 0) rfl rfl rfl (List.mem_of_getElem? (i := 0) rfl) ?_
    refine ag_getR (q := 61) rfl rfl fl_Grammar_11 rfl (SX.o hS rfl) (SX.r hS rfl) ?_
    refine aw_iload_n (q := 62) (j := 1) rfl rfl rfl (List.mem_of_getElem? (i := 1) rfl) ?_
    refine aw_dup2 (q := 63) rfl rfl rfl rfl ?_
    obtain ⟨bd_2, h⟩ := h
    refine ag_iaload (q := 64) (N := 14) rfl rfl (SX.a hS rfl) bd_2 ?_
    refine aw_iconst (q := 65) (v := 1) rfl rfl (by decide) ?_
    refine aw_iadd (q := 66) rfl rfl ?_
    refine ag_iastore (q := 67) (N := 14) rfl rfl (SX.a hS rfl) bd_2 ?_
    replace h := h _ rfl
    refine aw_iload_n (q := 68) (j := 1) rfl rfl rfl (List.mem_of_getElem? (i := 1) rfl) ?_
    by_cases cd_3 : x1 < 4 ∨ 10 < x1
    · replace h := h.1 cd_3
      refine aw_tableLt (tgt := 153) rfl (a := 4) (b := 10) (by decide) (by decide) cd_3 (by decide) ?_
      refine aw_aload_n (q := 154) (j := 0) rfl rfl rfl (List.mem_of_getElem? (i := 0) rfl) ?_
      refine aw_ldcS (q := 156) (i := 5) rfl rfl rfl ?_
      refine ag_cvV (z := m_Grammar_checkRow) (ci := 1) (av := [.ref _]) (st := []) (q := 159) (k' := 0) (n' := 0) rfl rfl cv_Grammar_48 ⟨by decide, by decide⟩ rfl rfl (by decide) (by decide) (SX.o hS rfl) rfl rfl rfl (Nat.le_of_ble_eq_true rfl) ?_
      refine GV.mono h (fun t2_ h => ?_)
      refine aw_ls [0, 1, 2] rfl ?_
      exact h
    · obtain ⟨jd_4, hjd_4, ejd_4⟩ := sw_cases 6 10 (fun q => cd_3 (Or.inl q)) (fun q => cd_3 (Or.inr q)) (by decide)
      replace h := h.2
      match jd_4, hjd_4, ejd_4 with
      | 0, _, e => 
        have e : x1 = 4 := Int32.toInt_inj.mp (e.trans (by decide))
        replace h := h.1 e
        refine aw_tableEq (tgt := 112) rfl e (by decide) (by decide) rfl (by decide) ?_
        refine aw_aload_n (q := 113) (j := 0) rfl rfl rfl (List.mem_of_getElem? (i := 0) rfl) ?_
        refine aw_ldcS (q := 115) (i := 2) rfl rfl rfl ?_
        refine ag_cvV (z := m_Grammar_checkRow) (ci := 1) (av := [.ref _]) (st := []) (q := 118) (k' := 0) (n' := 0) rfl rfl cv_Grammar_48 ⟨by decide, by decide⟩ rfl rfl (by decide) (by decide) (SX.o hS rfl) rfl rfl rfl (Nat.le_of_ble_eq_true rfl) ?_
        refine GV.mono h (fun t3_ h => ?_)
        refine aw_goto (tgt := 159) rfl (by decide) ?_
        refine aw_ls [0, 1, 2] rfl ?_
        exact h
      | 1, _, e => 
        have e : x1 = 5 := Int32.toInt_inj.mp (e.trans (by decide))
        replace h := h.2.1 e
        refine aw_tableEq (tgt := 121) rfl e (by decide) (by decide) rfl (by decide) ?_
        refine aw_aload_n (q := 122) (j := 0) rfl rfl rfl (List.mem_of_getElem? (i := 0) rfl) ?_
        refine aw_ldcS (q := 124) (i := 3) rfl rfl rfl ?_
        refine ag_cvV (z := m_Grammar_checkRow) (ci := 1) (av := [.ref _]) (st := []) (q := 127) (k' := 0) (n' := 0) rfl rfl cv_Grammar_48 ⟨by decide, by decide⟩ rfl rfl (by decide) (by decide) (SX.o hS rfl) rfl rfl rfl (Nat.le_of_ble_eq_true rfl) ?_
        refine GV.mono h (fun t4_ h => ?_)
        refine aw_goto (tgt := 159) rfl (by decide) ?_
        refine aw_ls [0, 1, 2] rfl ?_
        exact h
      | 2, _, e => 
        have e : x1 = 6 := Int32.toInt_inj.mp (e.trans (by decide))
        replace h := h.2.2.1 e
        refine aw_tableEq (tgt := 130) rfl e (by decide) (by decide) rfl (by decide) ?_
        refine aw_aload_n (q := 131) (j := 0) rfl rfl rfl (List.mem_of_getElem? (i := 0) rfl) ?_
        refine aw_ldcS (q := 133) (i := 4) rfl rfl rfl ?_
        refine ag_cvV (z := m_Grammar_checkRow) (ci := 1) (av := [.ref _]) (st := []) (q := 136) (k' := 0) (n' := 0) rfl rfl cv_Grammar_48 ⟨by decide, by decide⟩ rfl rfl (by decide) (by decide) (SX.o hS rfl) rfl rfl rfl (Nat.le_of_ble_eq_true rfl) ?_
        refine GV.mono h (fun t5_ h => ?_)
        refine aw_goto (tgt := 159) rfl (by decide) ?_
        refine aw_ls [0, 1, 2] rfl ?_
        exact h
      | 3, _, e => 
        have e : x1 = 7 := Int32.toInt_inj.mp (e.trans (by decide))
        replace h := h.2.2.2.1 e
        refine aw_tableEq (tgt := 139) rfl e (by decide) (by decide) rfl (by decide) ?_
        refine aw_aload_n (q := 140) (j := 0) rfl rfl rfl (List.mem_of_getElem? (i := 0) rfl) ?_
        refine ag_cvV (z := m_Grammar_checkLaw) (ci := 1) (av := []) (st := []) (q := 143) (k' := 0) (n' := 0) rfl rfl cv_Grammar_56 ⟨by decide, by decide⟩ rfl rfl (by decide) (by decide) (SX.o hS rfl) rfl rfl rfl (Nat.le_of_ble_eq_true rfl) ?_
        refine GV.mono h (fun t6_ h => ?_)
        refine aw_goto (tgt := 159) rfl (by decide) ?_
        refine aw_ls [0, 1, 2] rfl ?_
        exact h
      | 4, _, e => 
        have e : x1 = 8 := Int32.toInt_inj.mp (e.trans (by decide))
        replace h := h.2.2.2.2.1 e
        refine aw_tableEq (tgt := 139) rfl e (by decide) (by decide) rfl (by decide) ?_
        refine aw_aload_n (q := 140) (j := 0) rfl rfl rfl (List.mem_of_getElem? (i := 0) rfl) ?_
        refine ag_cvV (z := m_Grammar_checkLaw) (ci := 1) (av := []) (st := []) (q := 143) (k' := 0) (n' := 0) rfl rfl cv_Grammar_56 ⟨by decide, by decide⟩ rfl rfl (by decide) (by decide) (SX.o hS rfl) rfl rfl rfl (Nat.le_of_ble_eq_true rfl) ?_
        refine GV.mono h (fun t7_ h => ?_)
        refine aw_goto (tgt := 159) rfl (by decide) ?_
        refine aw_ls [0, 1, 2] rfl ?_
        exact h
      | 5, _, e => 
        have e : x1 = 9 := Int32.toInt_inj.mp (e.trans (by decide))
        replace h := h.2.2.2.2.2.1 e
        refine aw_tableEq (tgt := 139) rfl e (by decide) (by decide) rfl (by decide) ?_
        refine aw_aload_n (q := 140) (j := 0) rfl rfl rfl (List.mem_of_getElem? (i := 0) rfl) ?_
        refine ag_cvV (z := m_Grammar_checkLaw) (ci := 1) (av := []) (st := []) (q := 143) (k' := 0) (n' := 0) rfl rfl cv_Grammar_56 ⟨by decide, by decide⟩ rfl rfl (by decide) (by decide) (SX.o hS rfl) rfl rfl rfl (Nat.le_of_ble_eq_true rfl) ?_
        refine GV.mono h (fun t8_ h => ?_)
        refine aw_goto (tgt := 159) rfl (by decide) ?_
        refine aw_ls [0, 1, 2] rfl ?_
        exact h
      | 6, _, e => 
        have e : x1 = 10 := Int32.toInt_inj.mp (e.trans (by decide))
        replace h := h.2.2.2.2.2.2 e
        refine aw_tableEq (tgt := 146) rfl e (by decide) (by decide) rfl (by decide) ?_
        refine aw_aload_n (q := 147) (j := 0) rfl rfl rfl (List.mem_of_getElem? (i := 0) rfl) ?_
        refine ag_cvV (z := m_Grammar_checkWants) (ci := 1) (av := []) (st := []) (q := 150) (k' := 0) (n' := 0) rfl rfl cv_Grammar_59 ⟨by decide, by decide⟩ rfl rfl (by decide) (by decide) (SX.o hS rfl) rfl rfl rfl (Nat.le_of_ble_eq_true rfl) ?_
        refine GV.mono h (fun t9_ h => ?_)
        refine aw_goto (tgt := 159) rfl (by decide) ?_
        refine aw_ls [0, 1, 2] rfl ?_
        exact h
      | j + 7, hj, _ => exact absurd hj (by omega)
  · replace h := h.2 cd_1
    exact aw_return rfl rfl (by decide) (by decide) h
set_option maxRecDepth 20000 in
theorem v_Grammar_checkTell_159 {E : EN} {g : GS} {s : MS} {Q : Option Value → SG → Prop} (x1 : Int32) (x2 : Int32) (h : Q none (mk g s)) : AWP E m_Grammar_checkTell 159 0 0 [(0, .ref 22), (1, .int x1), (2, .int x2)] [] (mk g s) Q := by
  exact aw_return rfl rfl (by decide) (by decide) h
set_option maxRecDepth 20000 in
theorem v_Grammar_checkTell {E : EN} {g : GS} {s : MS} {Q : Option Value → SG → Prop}  (hS : SX g) (h : GI E m_Grammar_kind [.ref 22] g s (fun y1_ t1_ => ((y1_ < 4 → AWP E m_Grammar_checkTell 20 0 0 [(0, .ref 22), (1, .int y1_)] [] (mk g t1_) Q) ∧ (¬ y1_ < 4 → ((13 < y1_ → AWP E m_Grammar_checkTell 20 0 0 [(0, .ref 22), (1, .int y1_)] [] (mk g t1_) Q) ∧ (¬ 13 < y1_ → AWP E m_Grammar_checkTell 22 0 0 [(0, .ref 22), (1, .int y1_), (2, .int 1)] [] (mk g t1_) Q)))))) : AMet E m_Grammar_checkTell [.ref 22] (mk g s) Q := by
  refine AMet.of (by decide) k_Grammar_checkTell [(0, .ref 22)] (Nat.le_of_ble_eq_true rfl) rfl ?_
  refine aw_aload_n (q := 1) (j := 0) rfl rfl rfl (List.mem_of_getElem? (i := 0) rfl) ?_
  refine ag_cvI (z := m_Grammar_kind) (ci := 1) (av := []) (st := []) (q := 4) (k' := 0) (n' := 0) rfl rfl cv_Grammar_28 ⟨by decide, by decide⟩ rfl rfl (by decide) (by decide) (SX.o hS rfl) rfl rfl rfl (Nat.le_of_ble_eq_true rfl) ?_
  refine GI.mono h (fun y1_ t1_ h => ?_)
  refine aw_istore_n (q := 5) (j := 1) (ls' := [(1, .int _), (0, .ref _)]) rfl rfl rfl (by decide) rfl ?_
  refine aw_iload_n (q := 6) (j := 1) rfl rfl rfl (List.mem_of_getElem? (i := 0) rfl) ?_
  refine aw_iconst (q := 7) (v := 4) rfl rfl (by decide) ?_
  refine aw_icmp_lt (q := 10) (tgt := 20) rfl rfl (by decide) ⟨fun cd_1 => ?_, fun cd_1 => ?_⟩
  · replace h := h.1 cd_1
    refine aw_ls [1, 0] rfl ?_
    exact h
  · replace h := h.2 cd_1
    refine aw_iload_n (q := 11) (j := 1) rfl rfl rfl (List.mem_of_getElem? (i := 0) rfl) ?_
    refine aw_bipush (q := 13) (v := 13) rfl rfl (by decide) ?_
    refine aw_icmp_gt (q := 16) (tgt := 20) rfl rfl (by decide) ⟨fun cd_2 => ?_, fun cd_2 => ?_⟩
    · replace h := h.1 cd_2
      refine aw_ls [1, 0] rfl ?_
      exact h
    · replace h := h.2 cd_2
      refine aw_iconst (q := 17) (v := 1) rfl rfl (by decide) ?_
      refine aw_goto (tgt := 21) rfl (by decide) ?_
      refine aw_istore_n (q := 22) (j := 2) (ls' := [(2, .int _), (1, .int _), (0, .ref _)]) rfl rfl rfl (by decide) rfl ?_
      refine aw_ls [2, 1, 0] rfl ?_
      exact h
set_option maxRecDepth 20000 in
theorem v_Grammar_mostOf {E : EN} {g : GS} {s : MS} {Q : Option Value → SG → Prop} (x0 : Int32) (h : ((x0 < 4 ∨ 10 < x0 → Q (some (.int 400)) (mk g s)) ∧ (x0 = 4 → Q (some (.int 6)) (mk g s)) ∧ (x0 = 5 → Q (some (.int 6)) (mk g s)) ∧ (x0 = 6 → Q (some (.int 8)) (mk g s)) ∧ (x0 = 7 → Q (some (.int 400)) (mk g s)) ∧ (x0 = 8 → Q (some (.int 400)) (mk g s)) ∧ (x0 = 9 → Q (some (.int 400)) (mk g s)) ∧ (x0 = 10 → Q (some (.int 5)) (mk g s)))) : AMet E m_Grammar_mostOf [.int x0] (mk g s) Q := by
  refine AMet.of (by decide) k_Grammar_mostOf [(0, .int x0)] (Nat.le_of_ble_eq_true rfl) rfl ?_
  refine aw_iload_n (q := 1) (j := 0) rfl rfl rfl (List.mem_of_getElem? (i := 0) rfl) ?_
  by_cases cd_1 : x0 < 4 ∨ 10 < x0
  · replace h := h.1 cd_1
    refine aw_tableLt (tgt := 55) rfl (a := 4) (b := 10) (by decide) (by decide) cd_1 (by decide) ?_
    refine aw_sipush (q := 58) (v := 400) rfl rfl (by decide) ?_
    exact aw_ireturn (ty := .int) rfl rfl rfl (by decide) (by decide) h
  · obtain ⟨jd_2, hjd_2, ejd_2⟩ := sw_cases 6 10 (fun q => cd_1 (Or.inl q)) (fun q => cd_1 (Or.inr q)) (by decide)
    replace h := h.2
    match jd_2, hjd_2, ejd_2 with
    | 0, _, e => 
      have e : x0 = 4 := Int32.toInt_inj.mp (e.trans (by decide))
      replace h := h.1 e
      refine aw_tableEq (tgt := 44) rfl e (by decide) (by decide) rfl (by decide) ?_
      refine aw_bipush (q := 46) (v := 6) rfl rfl (by decide) ?_
      exact aw_ireturn (ty := .int) rfl rfl rfl (by decide) (by decide) h
    | 1, _, e => 
      have e : x0 = 5 := Int32.toInt_inj.mp (e.trans (by decide))
      replace h := h.2.1 e
      refine aw_tableEq (tgt := 47) rfl e (by decide) (by decide) rfl (by decide) ?_
      refine aw_bipush (q := 49) (v := 6) rfl rfl (by decide) ?_
      exact aw_ireturn (ty := .int) rfl rfl rfl (by decide) (by decide) h
    | 2, _, e => 
      have e : x0 = 6 := Int32.toInt_inj.mp (e.trans (by decide))
      replace h := h.2.2.1 e
      refine aw_tableEq (tgt := 50) rfl e (by decide) (by decide) rfl (by decide) ?_
      refine aw_bipush (q := 52) (v := 8) rfl rfl (by decide) ?_
      exact aw_ireturn (ty := .int) rfl rfl rfl (by decide) (by decide) h
    | 3, _, e => 
      have e : x0 = 7 := Int32.toInt_inj.mp (e.trans (by decide))
      replace h := h.2.2.2.1 e
      refine aw_tableEq (tgt := 55) rfl e (by decide) (by decide) rfl (by decide) ?_
      refine aw_sipush (q := 58) (v := 400) rfl rfl (by decide) ?_
      exact aw_ireturn (ty := .int) rfl rfl rfl (by decide) (by decide) h
    | 4, _, e => 
      have e : x0 = 8 := Int32.toInt_inj.mp (e.trans (by decide))
      replace h := h.2.2.2.2.1 e
      refine aw_tableEq (tgt := 55) rfl e (by decide) (by decide) rfl (by decide) ?_
      refine aw_sipush (q := 58) (v := 400) rfl rfl (by decide) ?_
      exact aw_ireturn (ty := .int) rfl rfl rfl (by decide) (by decide) h
    | 5, _, e => 
      have e : x0 = 9 := Int32.toInt_inj.mp (e.trans (by decide))
      replace h := h.2.2.2.2.2.1 e
      refine aw_tableEq (tgt := 55) rfl e (by decide) (by decide) rfl (by decide) ?_
      refine aw_sipush (q := 58) (v := 400) rfl rfl (by decide) ?_
      exact aw_ireturn (ty := .int) rfl rfl rfl (by decide) (by decide) h
    | 6, _, e => 
      have e : x0 = 10 := Int32.toInt_inj.mp (e.trans (by decide))
      replace h := h.2.2.2.2.2.2 e
      refine aw_tableEq (tgt := 53) rfl e (by decide) (by decide) rfl (by decide) ?_
      refine aw_iconst (q := 54) (v := 5) rfl rfl (by decide) ?_
      exact aw_ireturn (ty := .int) rfl rfl rfl (by decide) (by decide) h
    | j + 7, hj, _ => exact absurd hj (by omega)
set_option maxRecDepth 20000 in
theorem v_Grammar_pass {E : EN} {g : GS} {s : MS} {Q : Option Value → SG → Prop} (x1 : Int32) (x2 : Int32) (hS : SX g) (h : (((s.1 22 2) = 0 → ((x1 = 0 → (∀ s1_, s1_ = wi s 22 2 1 → Q none (mk g s1_))) ∧ (¬ x1 = 0 → ((x2 = 0 → (∀ s2_, s2_ = wi s 22 2 2 → Q none (mk g s2_))) ∧ (¬ x2 = 0 → (((s.1 22 1) < 400 → (∀ s3_, s3_ = wi s 22 1 ((s.1 22 1) + 1) → Q none (mk g s3_))) ∧ (¬ (s.1 22 1) < 400 → (∀ s4_, s4_ = wi s 22 2 2 → Q none (mk g s4_))))))))) ∧ (¬ (s.1 22 2) = 0 → Q none (mk g s)))) : AMet E m_Grammar_pass [.ref 22, .int x1, .int x2] (mk g s) Q := by
  refine AMet.of (by decide) k_Grammar_pass [(0, .ref 22), (1, .int x1), (2, .int x2)] (Nat.le_of_ble_eq_true rfl) rfl ?_
  refine aw_aload_n (q := 1) (j := 0) rfl rfl rfl (List.mem_of_getElem? (i := 0) rfl) ?_
  refine ag_getI (q := 4) rfl rfl fl_Grammar_25 rfl (SX.o hS rfl) ?_
  refine aw_if_eq (q := 7) (tgt := 8) rfl rfl (by decide) ⟨fun cd_1 => ?_, fun cd_1 => ?_⟩
  · replace h := h.1 cd_1
    refine aw_iload_n (q := 9) (j := 1) rfl rfl rfl (List.mem_of_getElem? (i := 1) rfl) ?_
    refine aw_if_ne (q := 12) (tgt := 20) rfl rfl (by decide) ⟨fun cd_2 => ?_, fun cd_2 => ?_⟩
    · replace h := h.1 cd_2
      refine aw_aload_n (q := 13) (j := 0) rfl rfl rfl (List.mem_of_getElem? (i := 0) rfl) ?_
      refine aw_iconst (q := 14) (v := 1) rfl rfl (by decide) ?_
      refine ag_putI (q := 17) rfl rfl fl_Grammar_25 rfl rfl (SX.o hS rfl) ?_
      replace h := h _ rfl
      refine aw_goto (tgt := 52) rfl (by decide) ?_
      exact aw_return rfl rfl (by decide) (by decide) h
    · replace h := h.2 cd_2
      refine aw_iload_n (q := 21) (j := 2) rfl rfl rfl (List.mem_of_getElem? (i := 2) rfl) ?_
      refine aw_if_eq (q := 24) (tgt := 34) rfl rfl (by decide) ⟨fun cd_3 => ?_, fun cd_3 => ?_⟩
      · replace h := h.1 cd_3
        refine aw_aload_n (q := 35) (j := 0) rfl rfl rfl (List.mem_of_getElem? (i := 0) rfl) ?_
        refine aw_iconst (q := 36) (v := 2) rfl rfl (by decide) ?_
        refine ag_putI (q := 39) rfl rfl fl_Grammar_25 rfl rfl (SX.o hS rfl) ?_
        replace h := h _ rfl
        refine aw_goto (tgt := 52) rfl (by decide) ?_
        exact aw_return rfl rfl (by decide) (by decide) h
      · replace h := h.2 cd_3
        refine aw_aload_n (q := 25) (j := 0) rfl rfl rfl (List.mem_of_getElem? (i := 0) rfl) ?_
        refine ag_getI (q := 28) rfl rfl fl_Grammar_21 rfl (SX.o hS rfl) ?_
        refine aw_sipush (q := 31) (v := 400) rfl rfl (by decide) ?_
        refine aw_icmp_lt (q := 34) (tgt := 42) rfl rfl (by decide) ⟨fun cd_4 => ?_, fun cd_4 => ?_⟩
        · replace h := h.1 cd_4
          refine aw_aload_n (q := 43) (j := 0) rfl rfl rfl (List.mem_of_getElem? (i := 0) rfl) ?_
          refine aw_dup (q := 44) rfl rfl rfl ?_
          refine ag_getI (q := 47) rfl rfl fl_Grammar_21 rfl (SX.o hS rfl) ?_
          refine aw_iconst (q := 48) (v := 1) rfl rfl (by decide) ?_
          refine aw_iadd (q := 49) rfl rfl ?_
          refine ag_putI (q := 52) rfl rfl fl_Grammar_21 rfl rfl (SX.o hS rfl) ?_
          replace h := h _ rfl
          exact aw_return rfl rfl (by decide) (by decide) h
        · replace h := h.2 cd_4
          refine aw_aload_n (q := 35) (j := 0) rfl rfl rfl (List.mem_of_getElem? (i := 0) rfl) ?_
          refine aw_iconst (q := 36) (v := 2) rfl rfl (by decide) ?_
          refine ag_putI (q := 39) rfl rfl fl_Grammar_25 rfl rfl (SX.o hS rfl) ?_
          replace h := h _ rfl
          refine aw_goto (tgt := 52) rfl (by decide) ?_
          exact aw_return rfl rfl (by decide) (by decide) h
  · replace h := h.2 cd_1
    exact aw_return rfl rfl (by decide) (by decide) h
set_option maxRecDepth 20000 in
theorem v_Grammar_checkRow_2 {E : EN} {g : GS} {s : MS} {Q : Option Value → SG → Prop} (i : Nat) (x2 : Int32) (hS : SX g) (h_i : i < 6) (h : GI E m_Str_length [.ref (2 + i)] g s (fun y1_ t1_ => ((y1_ ≤ x2 → Q none (mk g t1_)) ∧ (¬ y1_ ≤ x2 → GI E m_Str_charAt [.ref (2 + i), .int x2] g t1_ (fun y2_ t2_ => ((y2_ = 110 → GV E m_Grammar_passKind [.ref 22, .int 2] g t2_ (fun t3_ => AWP E m_Grammar_checkRow 2 0 0 [(0, .ref 22), (1, .ref (2 + i)), (2, .int (x2 + 1))] [] (mk g t3_) Q)) ∧ (¬ y2_ = 110 → ((y2_ = 105 → GV E m_Grammar_passKind [.ref 22, .int 3] g t2_ (fun t4_ => AWP E m_Grammar_checkRow 2 0 0 [(0, .ref 22), (1, .ref (2 + i)), (2, .int (x2 + 1))] [] (mk g t4_) Q)) ∧ (¬ y2_ = 105 → GV E m_Grammar_passKind [.ref 22, .int 24] g t2_ (fun t5_ => AWP E m_Grammar_checkRow 2 0 0 [(0, .ref 22), (1, .ref (2 + i)), (2, .int (x2 + 1))] [] (mk g t5_) Q)))))))))) : AWP E m_Grammar_checkRow 2 0 0 [(0, .ref 22), (1, .ref (2 + i)), (2, .int x2)] [] (mk g s) Q := by
  refine aw_iload_n (q := 3) (j := 2) rfl rfl rfl (List.mem_of_getElem? (i := 2) rfl) ?_
  refine aw_aload_n (q := 4) (j := 1) rfl rfl rfl (List.mem_of_getElem? (i := 1) rfl) ?_
  refine ag_cvS (z := m_Str_length) (av := []) (st := [.int _]) (i := i) (q := 7) (k' := 0) (n' := 0) rfl rfl cv_Grammar_64 ⟨by decide, by decide⟩ rfl rfl (by decide) (by decide) h_i rfl rfl rfl (Nat.le_of_ble_eq_true rfl) ?_
  refine GI.mono h (fun y1_ t1_ h => ?_)
  refine aw_icmp_ge (q := 10) (tgt := 48) rfl rfl (by decide) ⟨fun cd_1 => ?_, fun cd_1 => ?_⟩
  · replace h := h.1 cd_1
    exact aw_return rfl rfl (by decide) (by decide) h
  · replace h := h.2 cd_1
    refine aw_aload_n (q := 11) (j := 1) rfl rfl rfl (List.mem_of_getElem? (i := 1) rfl) ?_
    refine aw_iload_n (q := 12) (j := 2) rfl rfl rfl (List.mem_of_getElem? (i := 2) rfl) ?_
    refine ag_cvS (z := m_Str_charAt) (av := [.int _]) (st := []) (i := i) (q := 15) (k' := 0) (n' := 0) rfl rfl cv_Grammar_69 ⟨by decide, by decide⟩ rfl rfl (by decide) (by decide) h_i rfl rfl rfl (Nat.le_of_ble_eq_true rfl) ?_
    refine GI.mono h (fun y2_ t2_ h => ?_)
    refine aw_istore_n (q := 16) (j := 3) (ls' := [(3, .int _), (0, .ref _), (1, .ref _), (2, .int _)]) rfl rfl rfl (by decide) rfl ?_
    refine aw_aload_n (q := 17) (j := 0) rfl rfl rfl (List.mem_of_getElem? (i := 1) rfl) ?_
    refine aw_iload_n (q := 18) (j := 3) rfl rfl rfl (List.mem_of_getElem? (i := 0) rfl) ?_
    refine aw_bipush (q := 20) (v := 110) rfl rfl (by decide) ?_
    refine aw_icmp_ne (q := 23) (tgt := 27) rfl rfl (by decide) ⟨fun cd_2 => ?_, fun cd_2 => ?_⟩
    · replace h := h.1 cd_2
      refine aw_iconst (q := 24) (v := 2) rfl rfl (by decide) ?_
      refine aw_goto (tgt := 39) rfl (by decide) ?_
      refine ag_cvV (z := m_Grammar_passKind) (ci := 1) (av := [.int _]) (st := []) (q := 42) (k' := 0) (n' := 0) rfl rfl cv_Grammar_73 ⟨by decide, by decide⟩ rfl rfl (by decide) (by decide) (SX.o hS rfl) rfl rfl rfl (Nat.le_of_ble_eq_true rfl) ?_
      refine GV.mono h (fun t3_ h => ?_)
      refine aw_iinc (q := 45) (v := _ + 1) (ls' := [(2, .int _), (3, .int _), (0, .ref _), (1, .ref _)]) rfl rfl (List.mem_of_getElem? (i := 3) rfl) rfl (by decide) rfl ?_
      refine aw_goto (tgt := 2) rfl (by decide) ?_
      refine aw_ls [2, 3, 0] rfl ?_
      exact h
    · replace h := h.2 cd_2
      refine aw_iload_n (q := 28) (j := 3) rfl rfl rfl (List.mem_of_getElem? (i := 0) rfl) ?_
      refine aw_bipush (q := 30) (v := 105) rfl rfl (by decide) ?_
      refine aw_icmp_ne (q := 33) (tgt := 37) rfl rfl (by decide) ⟨fun cd_3 => ?_, fun cd_3 => ?_⟩
      · replace h := h.1 cd_3
        refine aw_iconst (q := 34) (v := 3) rfl rfl (by decide) ?_
        refine aw_goto (tgt := 39) rfl (by decide) ?_
        refine ag_cvV (z := m_Grammar_passKind) (ci := 1) (av := [.int _]) (st := []) (q := 42) (k' := 0) (n' := 0) rfl rfl cv_Grammar_73 ⟨by decide, by decide⟩ rfl rfl (by decide) (by decide) (SX.o hS rfl) rfl rfl rfl (Nat.le_of_ble_eq_true rfl) ?_
        refine GV.mono h (fun t4_ h => ?_)
        refine aw_iinc (q := 45) (v := _ + 1) (ls' := [(2, .int _), (3, .int _), (0, .ref _), (1, .ref _)]) rfl rfl (List.mem_of_getElem? (i := 3) rfl) rfl (by decide) rfl ?_
        refine aw_goto (tgt := 2) rfl (by decide) ?_
        refine aw_ls [2, 3, 0] rfl ?_
        exact h
      · replace h := h.2 cd_3
        refine aw_bipush (q := 39) (v := 24) rfl rfl (by decide) ?_
        refine ag_cvV (z := m_Grammar_passKind) (ci := 1) (av := [.int _]) (st := []) (q := 42) (k' := 0) (n' := 0) rfl rfl cv_Grammar_73 ⟨by decide, by decide⟩ rfl rfl (by decide) (by decide) (SX.o hS rfl) rfl rfl rfl (Nat.le_of_ble_eq_true rfl) ?_
        refine GV.mono h (fun t5_ h => ?_)
        refine aw_iinc (q := 45) (v := _ + 1) (ls' := [(2, .int _), (3, .int _), (0, .ref _), (1, .ref _)]) rfl rfl (List.mem_of_getElem? (i := 3) rfl) rfl (by decide) rfl ?_
        refine aw_goto (tgt := 2) rfl (by decide) ?_
        refine aw_ls [2, 3, 0] rfl ?_
        exact h
set_option maxRecDepth 20000 in
theorem v_Grammar_checkRow {E : EN} {g : GS} {s : MS} {Q : Option Value → SG → Prop} (i : Nat) (h : AWP E m_Grammar_checkRow 2 0 0 [(0, .ref 22), (1, .ref (2 + i)), (2, .int 0)] [] (mk g s) Q) : AMet E m_Grammar_checkRow [.ref 22, .ref (2 + i)] (mk g s) Q := by
  refine AMet.of (by decide) k_Grammar_checkRow [(0, .ref 22), (1, .ref (2 + i))] (Nat.le_of_ble_eq_true rfl) rfl ?_
  refine aw_iconst (q := 1) (v := 0) rfl rfl (by decide) ?_
  refine aw_istore_n (q := 2) (j := 2) (ls' := [(2, .int _), (0, .ref _), (1, .ref _)]) rfl rfl rfl (by decide) rfl ?_
  refine aw_ls [1, 2, 0] rfl ?_
  exact h
set_option maxRecDepth 20000 in
theorem v_Grammar_passKind {E : EN} {g : GS} {s : MS} {Q : Option Value → SG → Prop} (x1 : Int32) (hS : SX g) (h : GI E m_Grammar_kind [.ref 22] g s (fun y1_ t1_ => ((y1_ = x1 → GV E m_Grammar_pass [.ref 22, .int 1, .int 1] g t1_ (fun t2_ => Q none (mk g t2_))) ∧ (¬ y1_ = x1 → GV E m_Grammar_pass [.ref 22, .int 0, .int 1] g t1_ (fun t3_ => Q none (mk g t3_)))))) : AMet E m_Grammar_passKind [.ref 22, .int x1] (mk g s) Q := by
  refine AMet.of (by decide) k_Grammar_passKind [(0, .ref 22), (1, .int x1)] (Nat.le_of_ble_eq_true rfl) rfl ?_
  refine aw_aload_n (q := 1) (j := 0) rfl rfl rfl (List.mem_of_getElem? (i := 0) rfl) ?_
  refine aw_aload_n (q := 2) (j := 0) rfl rfl rfl (List.mem_of_getElem? (i := 0) rfl) ?_
  refine ag_cvI (z := m_Grammar_kind) (ci := 1) (av := []) (st := [.ref _]) (q := 5) (k' := 0) (n' := 0) rfl rfl cv_Grammar_28 ⟨by decide, by decide⟩ rfl rfl (by decide) (by decide) (SX.o hS rfl) rfl rfl rfl (Nat.le_of_ble_eq_true rfl) ?_
  refine GI.mono h (fun y1_ t1_ h => ?_)
  refine aw_iload_n (q := 6) (j := 1) rfl rfl rfl (List.mem_of_getElem? (i := 1) rfl) ?_
  refine aw_icmp_ne (q := 9) (tgt := 13) rfl rfl (by decide) ⟨fun cd_1 => ?_, fun cd_1 => ?_⟩
  · replace h := h.1 cd_1
    refine aw_iconst (q := 10) (v := 1) rfl rfl (by decide) ?_
    refine aw_goto (tgt := 14) rfl (by decide) ?_
    refine aw_iconst (q := 15) (v := 1) rfl rfl (by decide) ?_
    refine ag_cvV (z := m_Grammar_pass) (ci := 1) (av := [.int _, .int _]) (st := []) (q := 18) (k' := 0) (n' := 0) rfl rfl cv_Grammar_39 ⟨by decide, by decide⟩ rfl rfl (by decide) (by decide) (SX.o hS rfl) rfl rfl rfl (Nat.le_of_ble_eq_true rfl) ?_
    refine GV.mono h (fun t2_ h => ?_)
    exact aw_return rfl rfl (by decide) (by decide) h
  · replace h := h.2 cd_1
    refine aw_iconst (q := 14) (v := 0) rfl rfl (by decide) ?_
    refine aw_iconst (q := 15) (v := 1) rfl rfl (by decide) ?_
    refine ag_cvV (z := m_Grammar_pass) (ci := 1) (av := [.int _, .int _]) (st := []) (q := 18) (k' := 0) (n' := 0) rfl rfl cv_Grammar_39 ⟨by decide, by decide⟩ rfl rfl (by decide) (by decide) (SX.o hS rfl) rfl rfl rfl (Nat.le_of_ble_eq_true rfl) ?_
    refine GV.mono h (fun t3_ h => ?_)
    exact aw_return rfl rfl (by decide) (by decide) h
set_option maxRecDepth 20000 in
theorem v_Grammar_checkLaw_8 {E : EN} {g : GS} {s : MS} {Q : Option Value → SG → Prop} (x1 : Int32) (hS : SX g) (h : ((4 < x1 → GV E m_Grammar_checkSum [.ref 22, .int 24] g s (fun t1_ => Q none (mk g t1_))) ∧ (¬ 4 < x1 → (((s.1 22 2) = 0 → GI E m_Grammar_kind [.ref 22] g s (fun y2_ t2_ => ((y2_ = 14 → ((4 ≤ x1 → GV E m_Grammar_pass [.ref 22, .int 1, .int 0] g t2_ (fun t3_ => GV E m_Grammar_checkSum [.ref 22, .int 30] g t3_ (fun t4_ => GV E m_Grammar_checkSum [.ref 22, .int 15] g t4_ (fun t5_ => GV E m_Grammar_checkSum [.ref 22, .int 16] g t5_ (fun t6_ => AWP E m_Grammar_checkLaw 8 0 0 [(0, .ref 22), (1, .int (x1 + 1))] [] (mk g t6_) Q))))) ∧ (¬ 4 ≤ x1 → GV E m_Grammar_pass [.ref 22, .int 1, .int 1] g t2_ (fun t7_ => GV E m_Grammar_checkSum [.ref 22, .int 30] g t7_ (fun t8_ => GV E m_Grammar_checkSum [.ref 22, .int 15] g t8_ (fun t9_ => GV E m_Grammar_checkSum [.ref 22, .int 16] g t9_ (fun t10_ => AWP E m_Grammar_checkLaw 8 0 0 [(0, .ref 22), (1, .int (x1 + 1))] [] (mk g t10_) Q))))))) ∧ (¬ y2_ = 14 → GV E m_Grammar_checkSum [.ref 22, .int 24] g t2_ (fun t11_ => Q none (mk g t11_)))))) ∧ (¬ (s.1 22 2) = 0 → GV E m_Grammar_checkSum [.ref 22, .int 24] g s (fun t12_ => Q none (mk g t12_))))))) : AWP E m_Grammar_checkLaw 8 0 0 [(0, .ref 22), (1, .int x1)] [] (mk g s) Q := by
  refine aw_iload_n (q := 9) (j := 1) rfl rfl rfl (List.mem_of_getElem? (i := 1) rfl) ?_
  refine aw_iconst (q := 10) (v := 4) rfl rfl (by decide) ?_
  refine aw_icmp_gt (q := 13) (tgt := 68) rfl rfl (by decide) ⟨fun cd_1 => ?_, fun cd_1 => ?_⟩
  · replace h := h.1 cd_1
    refine aw_aload_n (q := 69) (j := 0) rfl rfl rfl (List.mem_of_getElem? (i := 0) rfl) ?_
    refine aw_bipush (q := 71) (v := 24) rfl rfl (by decide) ?_
    refine ag_cvV (z := m_Grammar_checkSum) (ci := 1) (av := [.int _]) (st := []) (q := 74) (k' := 0) (n' := 0) rfl rfl cv_Grammar_77 ⟨by decide, by decide⟩ rfl rfl (by decide) (by decide) (SX.o hS rfl) rfl rfl rfl (Nat.le_of_ble_eq_true rfl) ?_
    refine GV.mono h (fun t1_ h => ?_)
    exact aw_return rfl rfl (by decide) (by decide) h
  · replace h := h.2 cd_1
    refine aw_aload_n (q := 14) (j := 0) rfl rfl rfl (List.mem_of_getElem? (i := 0) rfl) ?_
    refine ag_getI (q := 17) rfl rfl fl_Grammar_25 rfl (SX.o hS rfl) ?_
    refine aw_if_ne (q := 20) (tgt := 68) rfl rfl (by decide) ⟨fun cd_2 => ?_, fun cd_2 => ?_⟩
    · replace h := h.1 cd_2
      refine aw_aload_n (q := 21) (j := 0) rfl rfl rfl (List.mem_of_getElem? (i := 0) rfl) ?_
      refine ag_cvI (z := m_Grammar_kind) (ci := 1) (av := []) (st := []) (q := 24) (k' := 0) (n' := 0) rfl rfl cv_Grammar_28 ⟨by decide, by decide⟩ rfl rfl (by decide) (by decide) (SX.o hS rfl) rfl rfl rfl (Nat.le_of_ble_eq_true rfl) ?_
      refine GI.mono h (fun y2_ t2_ h => ?_)
      refine aw_bipush (q := 26) (v := 14) rfl rfl (by decide) ?_
      refine aw_icmp_ne (q := 29) (tgt := 68) rfl rfl (by decide) ⟨fun cd_3 => ?_, fun cd_3 => ?_⟩
      · replace h := h.1 cd_3
        refine aw_aload_n (q := 30) (j := 0) rfl rfl rfl (List.mem_of_getElem? (i := 0) rfl) ?_
        refine aw_iconst (q := 31) (v := 1) rfl rfl (by decide) ?_
        refine aw_iload_n (q := 32) (j := 1) rfl rfl rfl (List.mem_of_getElem? (i := 1) rfl) ?_
        refine aw_iconst (q := 33) (v := 4) rfl rfl (by decide) ?_
        refine aw_icmp_ge (q := 36) (tgt := 40) rfl rfl (by decide) ⟨fun cd_4 => ?_, fun cd_4 => ?_⟩
        · replace h := h.1 cd_4
          refine aw_iconst (q := 41) (v := 0) rfl rfl (by decide) ?_
          refine ag_cvV (z := m_Grammar_pass) (ci := 1) (av := [.int _, .int _]) (st := []) (q := 44) (k' := 0) (n' := 0) rfl rfl cv_Grammar_39 ⟨by decide, by decide⟩ rfl rfl (by decide) (by decide) (SX.o hS rfl) rfl rfl rfl (Nat.le_of_ble_eq_true rfl) ?_
          refine GV.mono h (fun t3_ h => ?_)
          refine aw_aload_n (q := 45) (j := 0) rfl rfl rfl (List.mem_of_getElem? (i := 0) rfl) ?_
          refine aw_bipush (q := 47) (v := 30) rfl rfl (by decide) ?_
          refine ag_cvV (z := m_Grammar_checkSum) (ci := 1) (av := [.int _]) (st := []) (q := 50) (k' := 0) (n' := 0) rfl rfl cv_Grammar_77 ⟨by decide, by decide⟩ rfl rfl (by decide) (by decide) (SX.o hS rfl) rfl rfl rfl (Nat.le_of_ble_eq_true rfl) ?_
          refine GV.mono h (fun t4_ h => ?_)
          refine aw_aload_n (q := 51) (j := 0) rfl rfl rfl (List.mem_of_getElem? (i := 0) rfl) ?_
          refine aw_bipush (q := 53) (v := 15) rfl rfl (by decide) ?_
          refine ag_cvV (z := m_Grammar_checkSum) (ci := 1) (av := [.int _]) (st := []) (q := 56) (k' := 0) (n' := 0) rfl rfl cv_Grammar_77 ⟨by decide, by decide⟩ rfl rfl (by decide) (by decide) (SX.o hS rfl) rfl rfl rfl (Nat.le_of_ble_eq_true rfl) ?_
          refine GV.mono h (fun t5_ h => ?_)
          refine aw_aload_n (q := 57) (j := 0) rfl rfl rfl (List.mem_of_getElem? (i := 0) rfl) ?_
          refine aw_bipush (q := 59) (v := 16) rfl rfl (by decide) ?_
          refine ag_cvV (z := m_Grammar_checkSum) (ci := 1) (av := [.int _]) (st := []) (q := 62) (k' := 0) (n' := 0) rfl rfl cv_Grammar_77 ⟨by decide, by decide⟩ rfl rfl (by decide) (by decide) (SX.o hS rfl) rfl rfl rfl (Nat.le_of_ble_eq_true rfl) ?_
          refine GV.mono h (fun t6_ h => ?_)
          refine aw_iinc (q := 65) (v := _ + 1) (ls' := [(1, .int _), (0, .ref _)]) rfl rfl (List.mem_of_getElem? (i := 1) rfl) rfl (by decide) rfl ?_
          refine aw_goto (tgt := 8) rfl (by decide) ?_
          refine aw_ls [1, 0] rfl ?_
          exact h
        · replace h := h.2 cd_4
          refine aw_iconst (q := 37) (v := 1) rfl rfl (by decide) ?_
          refine aw_goto (tgt := 41) rfl (by decide) ?_
          refine ag_cvV (z := m_Grammar_pass) (ci := 1) (av := [.int _, .int _]) (st := []) (q := 44) (k' := 0) (n' := 0) rfl rfl cv_Grammar_39 ⟨by decide, by decide⟩ rfl rfl (by decide) (by decide) (SX.o hS rfl) rfl rfl rfl (Nat.le_of_ble_eq_true rfl) ?_
          refine GV.mono h (fun t7_ h => ?_)
          refine aw_aload_n (q := 45) (j := 0) rfl rfl rfl (List.mem_of_getElem? (i := 0) rfl) ?_
          refine aw_bipush (q := 47) (v := 30) rfl rfl (by decide) ?_
          refine ag_cvV (z := m_Grammar_checkSum) (ci := 1) (av := [.int _]) (st := []) (q := 50) (k' := 0) (n' := 0) rfl rfl cv_Grammar_77 ⟨by decide, by decide⟩ rfl rfl (by decide) (by decide) (SX.o hS rfl) rfl rfl rfl (Nat.le_of_ble_eq_true rfl) ?_
          refine GV.mono h (fun t8_ h => ?_)
          refine aw_aload_n (q := 51) (j := 0) rfl rfl rfl (List.mem_of_getElem? (i := 0) rfl) ?_
          refine aw_bipush (q := 53) (v := 15) rfl rfl (by decide) ?_
          refine ag_cvV (z := m_Grammar_checkSum) (ci := 1) (av := [.int _]) (st := []) (q := 56) (k' := 0) (n' := 0) rfl rfl cv_Grammar_77 ⟨by decide, by decide⟩ rfl rfl (by decide) (by decide) (SX.o hS rfl) rfl rfl rfl (Nat.le_of_ble_eq_true rfl) ?_
          refine GV.mono h (fun t9_ h => ?_)
          refine aw_aload_n (q := 57) (j := 0) rfl rfl rfl (List.mem_of_getElem? (i := 0) rfl) ?_
          refine aw_bipush (q := 59) (v := 16) rfl rfl (by decide) ?_
          refine ag_cvV (z := m_Grammar_checkSum) (ci := 1) (av := [.int _]) (st := []) (q := 62) (k' := 0) (n' := 0) rfl rfl cv_Grammar_77 ⟨by decide, by decide⟩ rfl rfl (by decide) (by decide) (SX.o hS rfl) rfl rfl rfl (Nat.le_of_ble_eq_true rfl) ?_
          refine GV.mono h (fun t10_ h => ?_)
          refine aw_iinc (q := 65) (v := _ + 1) (ls' := [(1, .int _), (0, .ref _)]) rfl rfl (List.mem_of_getElem? (i := 1) rfl) rfl (by decide) rfl ?_
          refine aw_goto (tgt := 8) rfl (by decide) ?_
          refine aw_ls [1, 0] rfl ?_
          exact h
      · replace h := h.2 cd_3
        refine aw_aload_n (q := 69) (j := 0) rfl rfl rfl (List.mem_of_getElem? (i := 0) rfl) ?_
        refine aw_bipush (q := 71) (v := 24) rfl rfl (by decide) ?_
        refine ag_cvV (z := m_Grammar_checkSum) (ci := 1) (av := [.int _]) (st := []) (q := 74) (k' := 0) (n' := 0) rfl rfl cv_Grammar_77 ⟨by decide, by decide⟩ rfl rfl (by decide) (by decide) (SX.o hS rfl) rfl rfl rfl (Nat.le_of_ble_eq_true rfl) ?_
        refine GV.mono h (fun t11_ h => ?_)
        exact aw_return rfl rfl (by decide) (by decide) h
    · replace h := h.2 cd_2
      refine aw_aload_n (q := 69) (j := 0) rfl rfl rfl (List.mem_of_getElem? (i := 0) rfl) ?_
      refine aw_bipush (q := 71) (v := 24) rfl rfl (by decide) ?_
      refine ag_cvV (z := m_Grammar_checkSum) (ci := 1) (av := [.int _]) (st := []) (q := 74) (k' := 0) (n' := 0) rfl rfl cv_Grammar_77 ⟨by decide, by decide⟩ rfl rfl (by decide) (by decide) (SX.o hS rfl) rfl rfl rfl (Nat.le_of_ble_eq_true rfl) ?_
      refine GV.mono h (fun t12_ h => ?_)
      exact aw_return rfl rfl (by decide) (by decide) h
set_option maxRecDepth 20000 in
theorem v_Grammar_checkLaw {E : EN} {g : GS} {s : MS} {Q : Option Value → SG → Prop}  (hS : SX g) (h : GV E m_Grammar_passKind [.ref 22, .int 25] g s (fun t1_ => AWP E m_Grammar_checkLaw 8 0 0 [(0, .ref 22), (1, .int 0)] [] (mk g t1_) Q)) : AMet E m_Grammar_checkLaw [.ref 22] (mk g s) Q := by
  refine AMet.of (by decide) k_Grammar_checkLaw [(0, .ref 22)] (Nat.le_of_ble_eq_true rfl) rfl ?_
  refine aw_aload_n (q := 1) (j := 0) rfl rfl rfl (List.mem_of_getElem? (i := 0) rfl) ?_
  refine aw_bipush (q := 3) (v := 25) rfl rfl (by decide) ?_
  refine ag_cvV (z := m_Grammar_passKind) (ci := 1) (av := [.int _]) (st := []) (q := 6) (k' := 0) (n' := 0) rfl rfl cv_Grammar_73 ⟨by decide, by decide⟩ rfl rfl (by decide) (by decide) (SX.o hS rfl) rfl rfl rfl (Nat.le_of_ble_eq_true rfl) ?_
  refine GV.mono h (fun t1_ h => ?_)
  refine aw_iconst (q := 7) (v := 0) rfl rfl (by decide) ?_
  refine aw_istore_n (q := 8) (j := 1) (ls' := [(1, .int _), (0, .ref _)]) rfl rfl rfl (by decide) rfl ?_
  refine aw_ls [1, 0] rfl ?_
  exact h
set_option maxRecDepth 20000 in
theorem v_Grammar_checkSum_7 {E : EN} {g : GS} {s : MS} {Q : Option Value → SG → Prop} (x1 : Int32) (x2 : Int32) (x3 : Int32) (x4 : Int32) (hS : SX g) (h : ((400 < x4 → AWP E m_Grammar_checkSum 179 0 0 [(0, .ref 22), (1, .int x1), (2, .int x2), (3, .int x3), (4, .int x4)] [] (mk g s) Q) ∧ (¬ 400 < x4 → (((s.1 22 2) = 0 → GI E m_Grammar_kind [.ref 22] g s (fun y1_ t1_ => ((x3 = 0 → AWP E m_Grammar_checkSum 61 0 0 [(0, .ref 22), (1, .int x1), (2, .int x2), (3, .int x3), (4, .int x4), (5, .int y1_)] [] (mk g t1_) Q) ∧ (¬ x3 = 0 → ((y1_ = 31 → ((6 ≤ x2 → GV E m_Grammar_pass [.ref 22, .int 1, .int 0] g t1_ (fun t2_ => AWP E m_Grammar_checkSum 55 0 0 [(0, .ref 22), (1, .int x1), (2, .int x2), (3, .int x3), (4, .int x4), (5, .int y1_)] [] (mk g t2_) Q)) ∧ (¬ 6 ≤ x2 → GV E m_Grammar_pass [.ref 22, .int 1, .int 1] g t1_ (fun t3_ => AWP E m_Grammar_checkSum 55 0 0 [(0, .ref 22), (1, .int x1), (2, .int x2), (3, .int x3), (4, .int x4), (5, .int y1_)] [] (mk g t3_) Q)))) ∧ (¬ y1_ = 31 → AWP E m_Grammar_checkSum 61 0 0 [(0, .ref 22), (1, .int x1), (2, .int x2), (3, .int x3), (4, .int x4), (5, .int y1_)] [] (mk g t1_) Q)))))) ∧ (¬ (s.1 22 2) = 0 → AWP E m_Grammar_checkSum 179 0 0 [(0, .ref 22), (1, .int x1), (2, .int x2), (3, .int x3), (4, .int x4)] [] (mk g s) Q))))) : AWP E m_Grammar_checkSum 7 0 0 [(0, .ref 22), (1, .int x1), (2, .int x2), (3, .int x3), (4, .int x4)] [] (mk g s) Q := by
  refine aw_iload (q := 9) (j := 4) rfl rfl (List.mem_of_getElem? (i := 4) rfl) ?_
  refine aw_sipush (q := 12) (v := 400) rfl rfl (by decide) ?_
  refine aw_icmp_gt (q := 15) (tgt := 179) rfl rfl (by decide) ⟨fun cd_1 => ?_, fun cd_1 => ?_⟩
  · replace h := h.1 cd_1
    refine aw_ls [0, 1, 2, 3, 4] rfl ?_
    exact h
  · replace h := h.2 cd_1
    refine aw_aload_n (q := 16) (j := 0) rfl rfl rfl (List.mem_of_getElem? (i := 0) rfl) ?_
    refine ag_getI (q := 19) rfl rfl fl_Grammar_25 rfl (SX.o hS rfl) ?_
    refine aw_if_ne (q := 22) (tgt := 179) rfl rfl (by decide) ⟨fun cd_2 => ?_, fun cd_2 => ?_⟩
    · replace h := h.1 cd_2
      refine aw_aload_n (q := 23) (j := 0) rfl rfl rfl (List.mem_of_getElem? (i := 0) rfl) ?_
      refine ag_cvI (z := m_Grammar_kind) (ci := 1) (av := []) (st := []) (q := 26) (k' := 0) (n' := 0) rfl rfl cv_Grammar_28 ⟨by decide, by decide⟩ rfl rfl (by decide) (by decide) (SX.o hS rfl) rfl rfl rfl (Nat.le_of_ble_eq_true rfl) ?_
      refine GI.mono h (fun y1_ t1_ h => ?_)
      refine aw_istore (q := 28) (j := 5) (ls' := [(5, .int _), (0, .ref _), (1, .int _), (2, .int _), (3, .int _), (4, .int _)]) rfl rfl (by decide) rfl ?_
      refine aw_iload_n (q := 29) (j := 3) rfl rfl rfl (List.mem_of_getElem? (i := 4) rfl) ?_
      refine aw_if_eq (q := 32) (tgt := 61) rfl rfl (by decide) ⟨fun cd_3 => ?_, fun cd_3 => ?_⟩
      · replace h := h.1 cd_3
        refine aw_ls [1, 2, 3, 4, 5, 0] rfl ?_
        exact h
      · replace h := h.2 cd_3
        refine aw_iload (q := 34) (j := 5) rfl rfl (List.mem_of_getElem? (i := 0) rfl) ?_
        refine aw_bipush (q := 36) (v := 31) rfl rfl (by decide) ?_
        refine aw_icmp_ne (q := 39) (tgt := 61) rfl rfl (by decide) ⟨fun cd_4 => ?_, fun cd_4 => ?_⟩
        · replace h := h.1 cd_4
          refine aw_aload_n (q := 40) (j := 0) rfl rfl rfl (List.mem_of_getElem? (i := 1) rfl) ?_
          refine aw_iconst (q := 41) (v := 1) rfl rfl (by decide) ?_
          refine aw_iload_n (q := 42) (j := 2) rfl rfl rfl (List.mem_of_getElem? (i := 3) rfl) ?_
          refine aw_bipush (q := 44) (v := 6) rfl rfl (by decide) ?_
          refine aw_icmp_ge (q := 47) (tgt := 51) rfl rfl (by decide) ⟨fun cd_5 => ?_, fun cd_5 => ?_⟩
          · replace h := h.1 cd_5
            refine aw_iconst (q := 52) (v := 0) rfl rfl (by decide) ?_
            refine ag_cvV (z := m_Grammar_pass) (ci := 1) (av := [.int _, .int _]) (st := []) (q := 55) (k' := 0) (n' := 0) rfl rfl cv_Grammar_39 ⟨by decide, by decide⟩ rfl rfl (by decide) (by decide) (SX.o hS rfl) rfl rfl rfl (Nat.le_of_ble_eq_true rfl) ?_
            refine GV.mono h (fun t2_ h => ?_)
            refine aw_ls [1, 2, 3, 4, 5, 0] rfl ?_
            exact h
          · replace h := h.2 cd_5
            refine aw_iconst (q := 48) (v := 1) rfl rfl (by decide) ?_
            refine aw_goto (tgt := 52) rfl (by decide) ?_
            refine ag_cvV (z := m_Grammar_pass) (ci := 1) (av := [.int _, .int _]) (st := []) (q := 55) (k' := 0) (n' := 0) rfl rfl cv_Grammar_39 ⟨by decide, by decide⟩ rfl rfl (by decide) (by decide) (SX.o hS rfl) rfl rfl rfl (Nat.le_of_ble_eq_true rfl) ?_
            refine GV.mono h (fun t3_ h => ?_)
            refine aw_ls [1, 2, 3, 4, 5, 0] rfl ?_
            exact h
        · replace h := h.2 cd_4
          refine aw_ls [1, 2, 3, 4, 5, 0] rfl ?_
          exact h
    · replace h := h.2 cd_2
      refine aw_ls [0, 1, 2, 3, 4] rfl ?_
      exact h
set_option maxRecDepth 20000 in
theorem v_Grammar_checkSum_55 {E : EN} {g : GS} {s : MS} {Q : Option Value → SG → Prop} (x1 : Int32) (x2 : Int32) (x3 : Int32) (x4 : Int32) (x5 : Int32) (h : AWP E m_Grammar_checkSum 173 0 0 [(0, .ref 22), (1, .int x1), (2, .int (x2 + 1)), (3, .int x3), (4, .int x4), (5, .int x5)] [] (mk g s) Q) : AWP E m_Grammar_checkSum 55 0 0 [(0, .ref 22), (1, .int x1), (2, .int x2), (3, .int x3), (4, .int x4), (5, .int x5)] [] (mk g s) Q := by
  refine aw_iinc (q := 58) (v := _ + 1) (ls' := [(2, .int _), (0, .ref _), (1, .int _), (3, .int _), (4, .int _), (5, .int _)]) rfl rfl (List.mem_of_getElem? (i := 2) rfl) rfl (by decide) rfl ?_
  refine aw_goto (tgt := 173) rfl (by decide) ?_
  refine aw_ls [1, 2, 0, 3, 4, 5] rfl ?_
  exact h
set_option maxRecDepth 20000 in
theorem v_Grammar_checkSum_61 {E : EN} {g : GS} {s : MS} {Q : Option Value → SG → Prop} (x1 : Int32) (x2 : Int32) (x3 : Int32) (x4 : Int32) (x5 : Int32) (hS : SX g) (h : ((x3 = 0 → ((x5 = 32 → ((x2 ≤ 0 → GV E m_Grammar_pass [.ref 22, .int 0, .int 1] g s (fun t1_ => AWP E m_Grammar_checkSum 121 0 0 [(0, .ref 22), (1, .int x1), (2, .int x2), (3, .int x3), (4, .int x4), (5, .int x5)] [] (mk g t1_) Q)) ∧ (¬ x2 ≤ 0 → GV E m_Grammar_pass [.ref 22, .int 1, .int 1] g s (fun t2_ => AWP E m_Grammar_checkSum 121 0 0 [(0, .ref 22), (1, .int x1), (2, .int x2), (3, .int x3), (4, .int x4), (5, .int x5)] [] (mk g t2_) Q)))) ∧ (¬ x5 = 32 → ((x5 < 26 → AWP E m_Grammar_checkSum 152 0 0 [(0, .ref 22), (1, .int x1), (2, .int x2), (3, .int x3), (4, .int x4), (5, .int x5)] [] (mk g s) Q) ∧ (¬ x5 < 26 → ((29 < x5 → AWP E m_Grammar_checkSum 152 0 0 [(0, .ref 22), (1, .int x1), (2, .int x2), (3, .int x3), (4, .int x4), (5, .int x5)] [] (mk g s) Q) ∧ (¬ 29 < x5 → GV E m_Grammar_pass [.ref 22, .int 1, .int 1] g s (fun t3_ => AWP E m_Grammar_checkSum 173 0 0 [(0, .ref 22), (1, .int x1), (2, .int x2), (3, .int 1), (4, .int x4), (5, .int x5)] [] (mk g t3_) Q)))))))) ∧ (¬ x3 = 0 → ((x5 = 3 → GV E m_Grammar_pass [.ref 22, .int 1, .int 1] g s (fun t4_ => AWP E m_Grammar_checkSum 95 0 0 [(0, .ref 22), (1, .int x1), (2, .int x2), (3, .int x3), (4, .int x4), (5, .int x5)] [] (mk g t4_) Q)) ∧ (¬ x5 = 3 → ((x5 < 17 → GV E m_Grammar_pass [.ref 22, .int 0, .int 1] g s (fun t5_ => AWP E m_Grammar_checkSum 95 0 0 [(0, .ref 22), (1, .int x1), (2, .int x2), (3, .int x3), (4, .int x4), (5, .int x5)] [] (mk g t5_) Q)) ∧ (¬ x5 < 17 → ((23 < x5 → GV E m_Grammar_pass [.ref 22, .int 0, .int 1] g s (fun t6_ => AWP E m_Grammar_checkSum 95 0 0 [(0, .ref 22), (1, .int x1), (2, .int x2), (3, .int x3), (4, .int x4), (5, .int x5)] [] (mk g t6_) Q)) ∧ (¬ 23 < x5 → GV E m_Grammar_pass [.ref 22, .int 1, .int 1] g s (fun t7_ => AWP E m_Grammar_checkSum 95 0 0 [(0, .ref 22), (1, .int x1), (2, .int x2), (3, .int x3), (4, .int x4), (5, .int x5)] [] (mk g t7_) Q)))))))))) : AWP E m_Grammar_checkSum 61 0 0 [(0, .ref 22), (1, .int x1), (2, .int x2), (3, .int x3), (4, .int x4), (5, .int x5)] [] (mk g s) Q := by
  refine aw_iload_n (q := 62) (j := 3) rfl rfl rfl (List.mem_of_getElem? (i := 3) rfl) ?_
  refine aw_if_eq (q := 65) (tgt := 100) rfl rfl (by decide) ⟨fun cd_1 => ?_, fun cd_1 => ?_⟩
  · replace h := h.1 cd_1
    refine aw_iload (q := 102) (j := 5) rfl rfl (List.mem_of_getElem? (i := 5) rfl) ?_
    refine aw_bipush (q := 104) (v := 32) rfl rfl (by decide) ?_
    refine aw_icmp_ne (q := 107) (tgt := 127) rfl rfl (by decide) ⟨fun cd_2 => ?_, fun cd_2 => ?_⟩
    · replace h := h.1 cd_2
      refine aw_aload_n (q := 108) (j := 0) rfl rfl rfl (List.mem_of_getElem? (i := 0) rfl) ?_
      refine aw_iload_n (q := 109) (j := 2) rfl rfl rfl (List.mem_of_getElem? (i := 2) rfl) ?_
      refine aw_if_le (q := 112) (tgt := 116) rfl rfl (by decide) ⟨fun cd_3 => ?_, fun cd_3 => ?_⟩
      · replace h := h.1 cd_3
        refine aw_iconst (q := 117) (v := 0) rfl rfl (by decide) ?_
        refine aw_iconst (q := 118) (v := 1) rfl rfl (by decide) ?_
        refine ag_cvV (z := m_Grammar_pass) (ci := 1) (av := [.int _, .int _]) (st := []) (q := 121) (k' := 0) (n' := 0) rfl rfl cv_Grammar_39 ⟨by decide, by decide⟩ rfl rfl (by decide) (by decide) (SX.o hS rfl) rfl rfl rfl (Nat.le_of_ble_eq_true rfl) ?_
        refine GV.mono h (fun t1_ h => ?_)
        refine aw_ls [0, 1, 2, 3, 4, 5] rfl ?_
        exact h
      · replace h := h.2 cd_3
        refine aw_iconst (q := 113) (v := 1) rfl rfl (by decide) ?_
        refine aw_goto (tgt := 117) rfl (by decide) ?_
        refine aw_iconst (q := 118) (v := 1) rfl rfl (by decide) ?_
        refine ag_cvV (z := m_Grammar_pass) (ci := 1) (av := [.int _, .int _]) (st := []) (q := 121) (k' := 0) (n' := 0) rfl rfl cv_Grammar_39 ⟨by decide, by decide⟩ rfl rfl (by decide) (by decide) (SX.o hS rfl) rfl rfl rfl (Nat.le_of_ble_eq_true rfl) ?_
        refine GV.mono h (fun t2_ h => ?_)
        refine aw_ls [0, 1, 2, 3, 4, 5] rfl ?_
        exact h
    · replace h := h.2 cd_2
      refine aw_iload (q := 129) (j := 5) rfl rfl (List.mem_of_getElem? (i := 5) rfl) ?_
      refine aw_bipush (q := 131) (v := 26) rfl rfl (by decide) ?_
      refine aw_icmp_lt (q := 134) (tgt := 152) rfl rfl (by decide) ⟨fun cd_4 => ?_, fun cd_4 => ?_⟩
      · replace h := h.1 cd_4
        refine aw_ls [0, 1, 2, 3, 4, 5] rfl ?_
        exact h
      · replace h := h.2 cd_4
        refine aw_iload (q := 136) (j := 5) rfl rfl (List.mem_of_getElem? (i := 5) rfl) ?_
        refine aw_bipush (q := 138) (v := 29) rfl rfl (by decide) ?_
        refine aw_icmp_gt (q := 141) (tgt := 152) rfl rfl (by decide) ⟨fun cd_5 => ?_, fun cd_5 => ?_⟩
        · replace h := h.1 cd_5
          refine aw_ls [0, 1, 2, 3, 4, 5] rfl ?_
          exact h
        · replace h := h.2 cd_5
          refine aw_aload_n (q := 142) (j := 0) rfl rfl rfl (List.mem_of_getElem? (i := 0) rfl) ?_
          refine aw_iconst (q := 143) (v := 1) rfl rfl (by decide) ?_
          refine aw_iconst (q := 144) (v := 1) rfl rfl (by decide) ?_
          refine ag_cvV (z := m_Grammar_pass) (ci := 1) (av := [.int _, .int _]) (st := []) (q := 147) (k' := 0) (n' := 0) rfl rfl cv_Grammar_39 ⟨by decide, by decide⟩ rfl rfl (by decide) (by decide) (SX.o hS rfl) rfl rfl rfl (Nat.le_of_ble_eq_true rfl) ?_
          refine GV.mono h (fun t3_ h => ?_)
          refine aw_iconst (q := 148) (v := 1) rfl rfl (by decide) ?_
          refine aw_istore_n (q := 149) (j := 3) (ls' := [(3, .int _), (0, .ref _), (1, .int _), (2, .int _), (4, .int _), (5, .int _)]) rfl rfl rfl (by decide) rfl ?_
          refine aw_goto (tgt := 173) rfl (by decide) ?_
          refine aw_ls [1, 2, 3, 0, 4, 5] rfl ?_
          exact h
  · replace h := h.2 cd_1
    refine aw_aload_n (q := 66) (j := 0) rfl rfl rfl (List.mem_of_getElem? (i := 0) rfl) ?_
    refine aw_iload (q := 68) (j := 5) rfl rfl (List.mem_of_getElem? (i := 5) rfl) ?_
    refine aw_iconst (q := 69) (v := 3) rfl rfl (by decide) ?_
    refine aw_icmp_eq (q := 72) (tgt := 86) rfl rfl (by decide) ⟨fun cd_6 => ?_, fun cd_6 => ?_⟩
    · replace h := h.1 cd_6
      refine aw_iconst (q := 87) (v := 1) rfl rfl (by decide) ?_
      refine aw_goto (tgt := 91) rfl (by decide) ?_
      refine aw_iconst (q := 92) (v := 1) rfl rfl (by decide) ?_
      refine ag_cvV (z := m_Grammar_pass) (ci := 1) (av := [.int _, .int _]) (st := []) (q := 95) (k' := 0) (n' := 0) rfl rfl cv_Grammar_39 ⟨by decide, by decide⟩ rfl rfl (by decide) (by decide) (SX.o hS rfl) rfl rfl rfl (Nat.le_of_ble_eq_true rfl) ?_
      refine GV.mono h (fun t4_ h => ?_)
      refine aw_ls [0, 1, 2, 3, 4, 5] rfl ?_
      exact h
    · replace h := h.2 cd_6
      refine aw_iload (q := 74) (j := 5) rfl rfl (List.mem_of_getElem? (i := 5) rfl) ?_
      refine aw_bipush (q := 76) (v := 17) rfl rfl (by decide) ?_
      refine aw_icmp_lt (q := 79) (tgt := 90) rfl rfl (by decide) ⟨fun cd_7 => ?_, fun cd_7 => ?_⟩
      · replace h := h.1 cd_7
        refine aw_iconst (q := 91) (v := 0) rfl rfl (by decide) ?_
        refine aw_iconst (q := 92) (v := 1) rfl rfl (by decide) ?_
        refine ag_cvV (z := m_Grammar_pass) (ci := 1) (av := [.int _, .int _]) (st := []) (q := 95) (k' := 0) (n' := 0) rfl rfl cv_Grammar_39 ⟨by decide, by decide⟩ rfl rfl (by decide) (by decide) (SX.o hS rfl) rfl rfl rfl (Nat.le_of_ble_eq_true rfl) ?_
        refine GV.mono h (fun t5_ h => ?_)
        refine aw_ls [0, 1, 2, 3, 4, 5] rfl ?_
        exact h
      · replace h := h.2 cd_7
        refine aw_iload (q := 81) (j := 5) rfl rfl (List.mem_of_getElem? (i := 5) rfl) ?_
        refine aw_bipush (q := 83) (v := 23) rfl rfl (by decide) ?_
        refine aw_icmp_gt (q := 86) (tgt := 90) rfl rfl (by decide) ⟨fun cd_8 => ?_, fun cd_8 => ?_⟩
        · replace h := h.1 cd_8
          refine aw_iconst (q := 91) (v := 0) rfl rfl (by decide) ?_
          refine aw_iconst (q := 92) (v := 1) rfl rfl (by decide) ?_
          refine ag_cvV (z := m_Grammar_pass) (ci := 1) (av := [.int _, .int _]) (st := []) (q := 95) (k' := 0) (n' := 0) rfl rfl cv_Grammar_39 ⟨by decide, by decide⟩ rfl rfl (by decide) (by decide) (SX.o hS rfl) rfl rfl rfl (Nat.le_of_ble_eq_true rfl) ?_
          refine GV.mono h (fun t6_ h => ?_)
          refine aw_ls [0, 1, 2, 3, 4, 5] rfl ?_
          exact h
        · replace h := h.2 cd_8
          refine aw_iconst (q := 87) (v := 1) rfl rfl (by decide) ?_
          refine aw_goto (tgt := 91) rfl (by decide) ?_
          refine aw_iconst (q := 92) (v := 1) rfl rfl (by decide) ?_
          refine ag_cvV (z := m_Grammar_pass) (ci := 1) (av := [.int _, .int _]) (st := []) (q := 95) (k' := 0) (n' := 0) rfl rfl cv_Grammar_39 ⟨by decide, by decide⟩ rfl rfl (by decide) (by decide) (SX.o hS rfl) rfl rfl rfl (Nat.le_of_ble_eq_true rfl) ?_
          refine GV.mono h (fun t7_ h => ?_)
          refine aw_ls [0, 1, 2, 3, 4, 5] rfl ?_
          exact h
set_option maxRecDepth 20000 in
theorem v_Grammar_checkSum_95 {E : EN} {g : GS} {s : MS} {Q : Option Value → SG → Prop} (x1 : Int32) (x2 : Int32) (x3 : Int32) (x4 : Int32) (x5 : Int32) (h : AWP E m_Grammar_checkSum 173 0 0 [(0, .ref 22), (1, .int x1), (2, .int x2), (3, .int 0), (4, .int x4), (5, .int x5)] [] (mk g s) Q) : AWP E m_Grammar_checkSum 95 0 0 [(0, .ref 22), (1, .int x1), (2, .int x2), (3, .int x3), (4, .int x4), (5, .int x5)] [] (mk g s) Q := by
  refine aw_iconst (q := 96) (v := 0) rfl rfl (by decide) ?_
  refine aw_istore_n (q := 97) (j := 3) (ls' := [(3, .int _), (0, .ref _), (1, .int _), (2, .int _), (4, .int _), (5, .int _)]) rfl rfl rfl (by decide) rfl ?_
  refine aw_goto (tgt := 173) rfl (by decide) ?_
  refine aw_ls [1, 2, 3, 0, 4, 5] rfl ?_
  exact h
set_option maxRecDepth 20000 in
theorem v_Grammar_checkSum_121 {E : EN} {g : GS} {s : MS} {Q : Option Value → SG → Prop} (x1 : Int32) (x2 : Int32) (x3 : Int32) (x4 : Int32) (x5 : Int32) (h : AWP E m_Grammar_checkSum 173 0 0 [(0, .ref 22), (1, .int x1), (2, .int (x2 + (-1))), (3, .int x3), (4, .int x4), (5, .int x5)] [] (mk g s) Q) : AWP E m_Grammar_checkSum 121 0 0 [(0, .ref 22), (1, .int x1), (2, .int x2), (3, .int x3), (4, .int x4), (5, .int x5)] [] (mk g s) Q := by
  refine aw_iinc (q := 124) (v := _ + (-1)) (ls' := [(2, .int _), (0, .ref _), (1, .int _), (3, .int _), (4, .int _), (5, .int _)]) rfl rfl (List.mem_of_getElem? (i := 2) rfl) rfl (by decide) rfl ?_
  refine aw_goto (tgt := 173) rfl (by decide) ?_
  refine aw_ls [1, 2, 0, 3, 4, 5] rfl ?_
  exact h
set_option maxRecDepth 20000 in
theorem v_Grammar_checkSum_152 {E : EN} {g : GS} {s : MS} {Q : Option Value → SG → Prop} (x1 : Int32) (x2 : Int32) (x3 : Int32) (x4 : Int32) (x5 : Int32) (hS : SX g) (h : ((x2 = 0 → ((x5 = x1 → GV E m_Grammar_pass [.ref 22, .int 1, .int 1] g s (fun t1_ => AWP E m_Grammar_checkSum 172 0 0 [(0, .ref 22), (1, .int x1), (2, .int x2), (3, .int x3), (4, .int x4), (5, .int x5)] [] (mk g t1_) Q)) ∧ (¬ x5 = x1 → GV E m_Grammar_pass [.ref 22, .int 0, .int 1] g s (fun t2_ => AWP E m_Grammar_checkSum 172 0 0 [(0, .ref 22), (1, .int x1), (2, .int x2), (3, .int x3), (4, .int x4), (5, .int x5)] [] (mk g t2_) Q)))) ∧ (¬ x2 = 0 → GV E m_Grammar_pass [.ref 22, .int 0, .int 1] g s (fun t3_ => AWP E m_Grammar_checkSum 172 0 0 [(0, .ref 22), (1, .int x1), (2, .int x2), (3, .int x3), (4, .int x4), (5, .int x5)] [] (mk g t3_) Q)))) : AWP E m_Grammar_checkSum 152 0 0 [(0, .ref 22), (1, .int x1), (2, .int x2), (3, .int x3), (4, .int x4), (5, .int x5)] [] (mk g s) Q := by
  refine aw_aload_n (q := 153) (j := 0) rfl rfl rfl (List.mem_of_getElem? (i := 0) rfl) ?_
  refine aw_iload_n (q := 154) (j := 2) rfl rfl rfl (List.mem_of_getElem? (i := 2) rfl) ?_
  refine aw_if_ne (q := 157) (tgt := 167) rfl rfl (by decide) ⟨fun cd_1 => ?_, fun cd_1 => ?_⟩
  · replace h := h.1 cd_1
    refine aw_iload (q := 159) (j := 5) rfl rfl (List.mem_of_getElem? (i := 5) rfl) ?_
    refine aw_iload_n (q := 160) (j := 1) rfl rfl rfl (List.mem_of_getElem? (i := 1) rfl) ?_
    refine aw_icmp_ne (q := 163) (tgt := 167) rfl rfl (by decide) ⟨fun cd_2 => ?_, fun cd_2 => ?_⟩
    · replace h := h.1 cd_2
      refine aw_iconst (q := 164) (v := 1) rfl rfl (by decide) ?_
      refine aw_goto (tgt := 168) rfl (by decide) ?_
      refine aw_iconst (q := 169) (v := 1) rfl rfl (by decide) ?_
      refine ag_cvV (z := m_Grammar_pass) (ci := 1) (av := [.int _, .int _]) (st := []) (q := 172) (k' := 0) (n' := 0) rfl rfl cv_Grammar_39 ⟨by decide, by decide⟩ rfl rfl (by decide) (by decide) (SX.o hS rfl) rfl rfl rfl (Nat.le_of_ble_eq_true rfl) ?_
      refine GV.mono h (fun t1_ h => ?_)
      refine aw_ls [0, 1, 2, 3, 4, 5] rfl ?_
      exact h
    · replace h := h.2 cd_2
      refine aw_iconst (q := 168) (v := 0) rfl rfl (by decide) ?_
      refine aw_iconst (q := 169) (v := 1) rfl rfl (by decide) ?_
      refine ag_cvV (z := m_Grammar_pass) (ci := 1) (av := [.int _, .int _]) (st := []) (q := 172) (k' := 0) (n' := 0) rfl rfl cv_Grammar_39 ⟨by decide, by decide⟩ rfl rfl (by decide) (by decide) (SX.o hS rfl) rfl rfl rfl (Nat.le_of_ble_eq_true rfl) ?_
      refine GV.mono h (fun t2_ h => ?_)
      refine aw_ls [0, 1, 2, 3, 4, 5] rfl ?_
      exact h
  · replace h := h.2 cd_1
    refine aw_iconst (q := 168) (v := 0) rfl rfl (by decide) ?_
    refine aw_iconst (q := 169) (v := 1) rfl rfl (by decide) ?_
    refine ag_cvV (z := m_Grammar_pass) (ci := 1) (av := [.int _, .int _]) (st := []) (q := 172) (k' := 0) (n' := 0) rfl rfl cv_Grammar_39 ⟨by decide, by decide⟩ rfl rfl (by decide) (by decide) (SX.o hS rfl) rfl rfl rfl (Nat.le_of_ble_eq_true rfl) ?_
    refine GV.mono h (fun t3_ h => ?_)
    refine aw_ls [0, 1, 2, 3, 4, 5] rfl ?_
    exact h
set_option maxRecDepth 20000 in
theorem v_Grammar_checkSum_172 {E : EN} {g : GS} {s : MS} {Q : Option Value → SG → Prop} (x1 : Int32) (x2 : Int32) (x3 : Int32) (x4 : Int32) (x5 : Int32) (h : Q none (mk g s)) : AWP E m_Grammar_checkSum 172 0 0 [(0, .ref 22), (1, .int x1), (2, .int x2), (3, .int x3), (4, .int x4), (5, .int x5)] [] (mk g s) Q := by
  exact aw_return rfl rfl (by decide) (by decide) h
set_option maxRecDepth 20000 in
theorem v_Grammar_checkSum_173 {E : EN} {g : GS} {s : MS} {Q : Option Value → SG → Prop} (x1 : Int32) (x2 : Int32) (x3 : Int32) (x4 : Int32) (x5 : Int32) (h : AWP E m_Grammar_checkSum 7 0 0 [(0, .ref 22), (1, .int x1), (2, .int x2), (3, .int x3), (4, .int (x4 + 1))] [] (mk g s) Q) : AWP E m_Grammar_checkSum 173 0 0 [(0, .ref 22), (1, .int x1), (2, .int x2), (3, .int x3), (4, .int x4), (5, .int x5)] [] (mk g s) Q := by
  refine aw_iinc (q := 176) (v := _ + 1) (ls' := [(4, .int _), (0, .ref _), (1, .int _), (2, .int _), (3, .int _), (5, .int _)]) rfl rfl (List.mem_of_getElem? (i := 4) rfl) rfl (by decide) rfl ?_
  refine aw_goto (tgt := 7) rfl (by decide) ?_
  refine aw_ls [1, 2, 3, 4, 0] rfl ?_
  exact h
set_option maxRecDepth 20000 in
theorem v_Grammar_checkSum_179 {E : EN} {g : GS} {s : MS} {Q : Option Value → SG → Prop} (x1 : Int32) (x2 : Int32) (x3 : Int32) (x4 : Int32) (h : Q none (mk g s)) : AWP E m_Grammar_checkSum 179 0 0 [(0, .ref 22), (1, .int x1), (2, .int x2), (3, .int x3), (4, .int x4)] [] (mk g s) Q := by
  exact aw_return rfl rfl (by decide) (by decide) h
set_option maxRecDepth 20000 in
theorem v_Grammar_checkSum {E : EN} {g : GS} {s : MS} {Q : Option Value → SG → Prop} (x1 : Int32) (h : AWP E m_Grammar_checkSum 7 0 0 [(0, .ref 22), (1, .int x1), (2, .int 0), (3, .int 1), (4, .int 0)] [] (mk g s) Q) : AMet E m_Grammar_checkSum [.ref 22, .int x1] (mk g s) Q := by
  refine AMet.of (by decide) k_Grammar_checkSum [(0, .ref 22), (1, .int x1)] (Nat.le_of_ble_eq_true rfl) rfl ?_
  refine aw_iconst (q := 1) (v := 0) rfl rfl (by decide) ?_
  refine aw_istore_n (q := 2) (j := 2) (ls' := [(2, .int _), (0, .ref _), (1, .int _)]) rfl rfl rfl (by decide) rfl ?_
  refine aw_iconst (q := 3) (v := 1) rfl rfl (by decide) ?_
  refine aw_istore_n (q := 4) (j := 3) (ls' := [(3, .int _), (2, .int _), (0, .ref _), (1, .int _)]) rfl rfl rfl (by decide) rfl ?_
  refine aw_iconst (q := 5) (v := 0) rfl rfl (by decide) ?_
  refine aw_istore (q := 7) (j := 4) (ls' := [(4, .int _), (3, .int _), (2, .int _), (0, .ref _), (1, .int _)]) rfl rfl (by decide) rfl ?_
  refine aw_ls [3, 4, 2, 1, 0] rfl ?_
  exact h
set_option maxRecDepth 20000 in
theorem v_Grammar_checkWants_7 {E : EN} {g : GS} {s : MS} {Q : Option Value → SG → Prop} (x1 : Int32) (hS : SX g) (h : ((4 < x1 → GV E m_Grammar_passKind [.ref 22, .int 24] g s (fun t1_ => Q none (mk g t1_))) ∧ (¬ 4 < x1 → (((s.1 22 2) = 0 → GI E m_Grammar_kind [.ref 22] g s (fun y2_ t2_ => ((y2_ = 2 → ((4 ≤ x1 → GV E m_Grammar_pass [.ref 22, .int 1, .int 0] g t2_ (fun t3_ => GV E m_Grammar_passKind [.ref 22, .int 3] g t3_ (fun t4_ => AWP E m_Grammar_checkWants 7 0 0 [(0, .ref 22), (1, .int (x1 + 1))] [] (mk g t4_) Q))) ∧ (¬ 4 ≤ x1 → GV E m_Grammar_pass [.ref 22, .int 1, .int 1] g t2_ (fun t5_ => GV E m_Grammar_passKind [.ref 22, .int 3] g t5_ (fun t6_ => AWP E m_Grammar_checkWants 7 0 0 [(0, .ref 22), (1, .int (x1 + 1))] [] (mk g t6_) Q))))) ∧ (¬ y2_ = 2 → GV E m_Grammar_passKind [.ref 22, .int 24] g t2_ (fun t7_ => Q none (mk g t7_)))))) ∧ (¬ (s.1 22 2) = 0 → GV E m_Grammar_passKind [.ref 22, .int 24] g s (fun t8_ => Q none (mk g t8_))))))) : AWP E m_Grammar_checkWants 7 0 0 [(0, .ref 22), (1, .int x1)] [] (mk g s) Q := by
  refine aw_iload_n (q := 8) (j := 1) rfl rfl rfl (List.mem_of_getElem? (i := 1) rfl) ?_
  refine aw_iconst (q := 9) (v := 4) rfl rfl (by decide) ?_
  refine aw_icmp_gt (q := 12) (tgt := 53) rfl rfl (by decide) ⟨fun cd_1 => ?_, fun cd_1 => ?_⟩
  · replace h := h.1 cd_1
    refine aw_aload_n (q := 54) (j := 0) rfl rfl rfl (List.mem_of_getElem? (i := 0) rfl) ?_
    refine aw_bipush (q := 56) (v := 24) rfl rfl (by decide) ?_
    refine ag_cvV (z := m_Grammar_passKind) (ci := 1) (av := [.int _]) (st := []) (q := 59) (k' := 0) (n' := 0) rfl rfl cv_Grammar_73 ⟨by decide, by decide⟩ rfl rfl (by decide) (by decide) (SX.o hS rfl) rfl rfl rfl (Nat.le_of_ble_eq_true rfl) ?_
    refine GV.mono h (fun t1_ h => ?_)
    exact aw_return rfl rfl (by decide) (by decide) h
  · replace h := h.2 cd_1
    refine aw_aload_n (q := 13) (j := 0) rfl rfl rfl (List.mem_of_getElem? (i := 0) rfl) ?_
    refine ag_getI (q := 16) rfl rfl fl_Grammar_25 rfl (SX.o hS rfl) ?_
    refine aw_if_ne (q := 19) (tgt := 53) rfl rfl (by decide) ⟨fun cd_2 => ?_, fun cd_2 => ?_⟩
    · replace h := h.1 cd_2
      refine aw_aload_n (q := 20) (j := 0) rfl rfl rfl (List.mem_of_getElem? (i := 0) rfl) ?_
      refine ag_cvI (z := m_Grammar_kind) (ci := 1) (av := []) (st := []) (q := 23) (k' := 0) (n' := 0) rfl rfl cv_Grammar_28 ⟨by decide, by decide⟩ rfl rfl (by decide) (by decide) (SX.o hS rfl) rfl rfl rfl (Nat.le_of_ble_eq_true rfl) ?_
      refine GI.mono h (fun y2_ t2_ h => ?_)
      refine aw_iconst (q := 24) (v := 2) rfl rfl (by decide) ?_
      refine aw_icmp_ne (q := 27) (tgt := 53) rfl rfl (by decide) ⟨fun cd_3 => ?_, fun cd_3 => ?_⟩
      · replace h := h.1 cd_3
        refine aw_aload_n (q := 28) (j := 0) rfl rfl rfl (List.mem_of_getElem? (i := 0) rfl) ?_
        refine aw_iconst (q := 29) (v := 1) rfl rfl (by decide) ?_
        refine aw_iload_n (q := 30) (j := 1) rfl rfl rfl (List.mem_of_getElem? (i := 1) rfl) ?_
        refine aw_iconst (q := 31) (v := 4) rfl rfl (by decide) ?_
        refine aw_icmp_ge (q := 34) (tgt := 38) rfl rfl (by decide) ⟨fun cd_4 => ?_, fun cd_4 => ?_⟩
        · replace h := h.1 cd_4
          refine aw_iconst (q := 39) (v := 0) rfl rfl (by decide) ?_
          refine ag_cvV (z := m_Grammar_pass) (ci := 1) (av := [.int _, .int _]) (st := []) (q := 42) (k' := 0) (n' := 0) rfl rfl cv_Grammar_39 ⟨by decide, by decide⟩ rfl rfl (by decide) (by decide) (SX.o hS rfl) rfl rfl rfl (Nat.le_of_ble_eq_true rfl) ?_
          refine GV.mono h (fun t3_ h => ?_)
          refine aw_aload_n (q := 43) (j := 0) rfl rfl rfl (List.mem_of_getElem? (i := 0) rfl) ?_
          refine aw_iconst (q := 44) (v := 3) rfl rfl (by decide) ?_
          refine ag_cvV (z := m_Grammar_passKind) (ci := 1) (av := [.int _]) (st := []) (q := 47) (k' := 0) (n' := 0) rfl rfl cv_Grammar_73 ⟨by decide, by decide⟩ rfl rfl (by decide) (by decide) (SX.o hS rfl) rfl rfl rfl (Nat.le_of_ble_eq_true rfl) ?_
          refine GV.mono h (fun t4_ h => ?_)
          refine aw_iinc (q := 50) (v := _ + 1) (ls' := [(1, .int _), (0, .ref _)]) rfl rfl (List.mem_of_getElem? (i := 1) rfl) rfl (by decide) rfl ?_
          refine aw_goto (tgt := 7) rfl (by decide) ?_
          refine aw_ls [1, 0] rfl ?_
          exact h
        · replace h := h.2 cd_4
          refine aw_iconst (q := 35) (v := 1) rfl rfl (by decide) ?_
          refine aw_goto (tgt := 39) rfl (by decide) ?_
          refine ag_cvV (z := m_Grammar_pass) (ci := 1) (av := [.int _, .int _]) (st := []) (q := 42) (k' := 0) (n' := 0) rfl rfl cv_Grammar_39 ⟨by decide, by decide⟩ rfl rfl (by decide) (by decide) (SX.o hS rfl) rfl rfl rfl (Nat.le_of_ble_eq_true rfl) ?_
          refine GV.mono h (fun t5_ h => ?_)
          refine aw_aload_n (q := 43) (j := 0) rfl rfl rfl (List.mem_of_getElem? (i := 0) rfl) ?_
          refine aw_iconst (q := 44) (v := 3) rfl rfl (by decide) ?_
          refine ag_cvV (z := m_Grammar_passKind) (ci := 1) (av := [.int _]) (st := []) (q := 47) (k' := 0) (n' := 0) rfl rfl cv_Grammar_73 ⟨by decide, by decide⟩ rfl rfl (by decide) (by decide) (SX.o hS rfl) rfl rfl rfl (Nat.le_of_ble_eq_true rfl) ?_
          refine GV.mono h (fun t6_ h => ?_)
          refine aw_iinc (q := 50) (v := _ + 1) (ls' := [(1, .int _), (0, .ref _)]) rfl rfl (List.mem_of_getElem? (i := 1) rfl) rfl (by decide) rfl ?_
          refine aw_goto (tgt := 7) rfl (by decide) ?_
          refine aw_ls [1, 0] rfl ?_
          exact h
      · replace h := h.2 cd_3
        refine aw_aload_n (q := 54) (j := 0) rfl rfl rfl (List.mem_of_getElem? (i := 0) rfl) ?_
        refine aw_bipush (q := 56) (v := 24) rfl rfl (by decide) ?_
        refine ag_cvV (z := m_Grammar_passKind) (ci := 1) (av := [.int _]) (st := []) (q := 59) (k' := 0) (n' := 0) rfl rfl cv_Grammar_73 ⟨by decide, by decide⟩ rfl rfl (by decide) (by decide) (SX.o hS rfl) rfl rfl rfl (Nat.le_of_ble_eq_true rfl) ?_
        refine GV.mono h (fun t7_ h => ?_)
        exact aw_return rfl rfl (by decide) (by decide) h
    · replace h := h.2 cd_2
      refine aw_aload_n (q := 54) (j := 0) rfl rfl rfl (List.mem_of_getElem? (i := 0) rfl) ?_
      refine aw_bipush (q := 56) (v := 24) rfl rfl (by decide) ?_
      refine ag_cvV (z := m_Grammar_passKind) (ci := 1) (av := [.int _]) (st := []) (q := 59) (k' := 0) (n' := 0) rfl rfl cv_Grammar_73 ⟨by decide, by decide⟩ rfl rfl (by decide) (by decide) (SX.o hS rfl) rfl rfl rfl (Nat.le_of_ble_eq_true rfl) ?_
      refine GV.mono h (fun t8_ h => ?_)
      exact aw_return rfl rfl (by decide) (by decide) h
set_option maxRecDepth 20000 in
theorem v_Grammar_checkWants {E : EN} {g : GS} {s : MS} {Q : Option Value → SG → Prop}  (hS : SX g) (h : GV E m_Grammar_passKind [.ref 22, .int 3] g s (fun t1_ => AWP E m_Grammar_checkWants 7 0 0 [(0, .ref 22), (1, .int 0)] [] (mk g t1_) Q)) : AMet E m_Grammar_checkWants [.ref 22] (mk g s) Q := by
  refine AMet.of (by decide) k_Grammar_checkWants [(0, .ref 22)] (Nat.le_of_ble_eq_true rfl) rfl ?_
  refine aw_aload_n (q := 1) (j := 0) rfl rfl rfl (List.mem_of_getElem? (i := 0) rfl) ?_
  refine aw_iconst (q := 2) (v := 3) rfl rfl (by decide) ?_
  refine ag_cvV (z := m_Grammar_passKind) (ci := 1) (av := [.int _]) (st := []) (q := 5) (k' := 0) (n' := 0) rfl rfl cv_Grammar_73 ⟨by decide, by decide⟩ rfl rfl (by decide) (by decide) (SX.o hS rfl) rfl rfl rfl (Nat.le_of_ble_eq_true rfl) ?_
  refine GV.mono h (fun t1_ h => ?_)
  refine aw_iconst (q := 6) (v := 0) rfl rfl (by decide) ?_
  refine aw_istore_n (q := 7) (j := 1) (ls' := [(1, .int _), (0, .ref _)]) rfl rfl rfl (by decide) rfl ?_
  refine aw_ls [1, 0] rfl ?_
  exact h
set_option maxRecDepth 20000 in
theorem v_Laws_clear_7 {E : EN} {g : GS} {s : MS} {Q : Option Value → SG → Prop} (w : Nat) (x1 : Int32) (h_w : LW g w) (h : ((3 ≤ x1 → Q none (mk g s)) ∧ (¬ 3 ≤ x1 → vp_in x1 3 ∧ (∀ s1_, s1_ = wi s (w + 2) ((x1).toNatClampNeg) (-1) → AWP E m_Laws_clear 7 0 0 [(0, .ref w), (1, .int (x1 + 1))] [] (mk g s1_) Q)))) : AWP E m_Laws_clear 7 0 0 [(0, .ref w), (1, .int x1)] [] (mk g s) Q := by
  refine aw_iload_n (q := 8) (j := 1) rfl rfl rfl (List.mem_of_getElem? (i := 1) rfl) ?_
  refine aw_aload_n (q := 9) (j := 0) rfl rfl rfl (List.mem_of_getElem? (i := 0) rfl) ?_
  refine ag_getR (q := 12) rfl rfl fl_Laws_15 rfl (LW.o h_w) (LW.r1 h_w) ?_
  refine ag_alen (q := 13) (t := 0) (N := 3) (v := 3) rfl rfl (by decide) (LW.a1 h_w) (by decide) ?_
  refine aw_icmp_ge (q := 16) (tgt := 29) rfl rfl (by decide) ⟨fun cd_1 => ?_, fun cd_1 => ?_⟩
  · replace h := h.1 cd_1
    exact aw_return rfl rfl (by decide) (by decide) h
  · replace h := h.2 cd_1
    refine aw_aload_n (q := 17) (j := 0) rfl rfl rfl (List.mem_of_getElem? (i := 0) rfl) ?_
    refine ag_getR (q := 20) rfl rfl fl_Laws_15 rfl (LW.o h_w) (LW.r1 h_w) ?_
    refine aw_iload_n (q := 21) (j := 1) rfl rfl rfl (List.mem_of_getElem? (i := 1) rfl) ?_
    refine aw_iconst (q := 22) (v := (-1)) rfl rfl (by decide) ?_
    obtain ⟨bd_2, h⟩ := h
    refine ag_iastore (q := 23) (N := 3) rfl rfl (LW.a1 h_w) bd_2 ?_
    replace h := h _ rfl
    refine aw_iinc (q := 26) (v := _ + 1) (ls' := [(1, .int _), (0, .ref _)]) rfl rfl (List.mem_of_getElem? (i := 1) rfl) rfl (by decide) rfl ?_
    refine aw_goto (tgt := 7) rfl (by decide) ?_
    refine aw_ls [1, 0] rfl ?_
    exact h
set_option maxRecDepth 20000 in
theorem v_Laws_clear {E : EN} {g : GS} {s : MS} {Q : Option Value → SG → Prop} (w : Nat) (h_w : LW g w) (h : (∀ s1_, s1_ = wi s w 4 0 → AWP E m_Laws_clear 7 0 0 [(0, .ref w), (1, .int 0)] [] (mk g s1_) Q)) : AMet E m_Laws_clear [.ref w] (mk g s) Q := by
  refine AMet.of (by decide) k_Laws_clear [(0, .ref w)] (Nat.le_of_ble_eq_true rfl) rfl ?_
  refine aw_aload_n (q := 1) (j := 0) rfl rfl rfl (List.mem_of_getElem? (i := 0) rfl) ?_
  refine aw_iconst (q := 2) (v := 0) rfl rfl (by decide) ?_
  refine ag_putI (q := 5) rfl rfl fl_Laws_24 rfl rfl (LW.o h_w) ?_
  replace h := h _ rfl
  refine aw_iconst (q := 6) (v := 0) rfl rfl (by decide) ?_
  refine aw_istore_n (q := 7) (j := 1) (ls' := [(1, .int _), (0, .ref _)]) rfl rfl rfl (by decide) rfl ?_
  refine aw_ls [1, 0] rfl ?_
  exact h
set_option maxRecDepth 20000 in
theorem v_Laws_write_41 {E : EN} {g : GS} {s : MS} {Q : Option Value → SG → Prop} (w : Nat) (x2 : Int32) (x3 : Int32) (x4 : Int32) (hS : SX g) (h_w : LW g w) (h : (((s.1 18 3) ≤ x4 → GV E m_Laws_writeToken [.ref w, .int 24, .int 0] g s (fun t1_ => Q (some (.int x4)) (mk g t1_))) ∧ (¬ (s.1 18 3) ≤ x4 → vp_in x4 402 ∧ (((s.1 19 ((x4).toNatClampNeg)) = 24 → GV E m_Laws_writeToken [.ref w, .int 24, .int 0] g s (fun t2_ => Q (some (.int x4)) (mk g t2_))) ∧ (¬ (s.1 19 ((x4).toNatClampNeg)) = 24 → GV E m_Laws_writeToken [.ref w, .int (s.1 19 ((x4).toNatClampNeg)), .int (Int64.toInt32 (s.2 21 ((x4).toNatClampNeg)))] g s (fun t3_ => AWP E m_Laws_write 41 0 0 [(0, .ref w), (1, .ref 18), (2, .int x2), (3, .int x3), (4, .int (x4 + 1))] [] (mk g t3_) Q)))))) : AWP E m_Laws_write 41 0 0 [(0, .ref w), (1, .ref 18), (2, .int x2), (3, .int x3), (4, .int x4)] [] (mk g s) Q := by
  refine aw_iload (q := 43) (j := 4) rfl rfl (List.mem_of_getElem? (i := 4) rfl) ?_
  refine aw_aload_n (q := 44) (j := 1) rfl rfl rfl (List.mem_of_getElem? (i := 1) rfl) ?_
  refine ag_getI (q := 47) rfl rfl fl_Laws_34 rfl (SX.o hS rfl) ?_
  refine aw_icmp_ge (q := 50) (tgt := 87) rfl rfl (by decide) ⟨fun cd_1 => ?_, fun cd_1 => ?_⟩
  · replace h := h.1 cd_1
    refine aw_aload_n (q := 88) (j := 0) rfl rfl rfl (List.mem_of_getElem? (i := 0) rfl) ?_
    refine aw_bipush (q := 90) (v := 24) rfl rfl (by decide) ?_
    refine aw_iconst (q := 91) (v := 0) rfl rfl (by decide) ?_
    refine ag_cvV (z := m_Laws_writeToken) (ci := 3) (av := [.int _, .int _]) (st := []) (q := 94) (k' := 0) (n' := 0) rfl rfl cv_Laws_46 ⟨by decide, by decide⟩ rfl rfl (by decide) (by decide) (LW.o h_w) rfl rfl rfl (Nat.le_of_ble_eq_true rfl) ?_
    refine GV.mono h (fun t1_ h => ?_)
    refine aw_iload (q := 96) (j := 4) rfl rfl (List.mem_of_getElem? (i := 4) rfl) ?_
    exact aw_ireturn (ty := .int) rfl rfl rfl (by decide) (by decide) h
  · replace h := h.2 cd_1
    refine aw_aload_n (q := 51) (j := 1) rfl rfl rfl (List.mem_of_getElem? (i := 1) rfl) ?_
    refine ag_getR (q := 54) rfl rfl fl_Laws_39 rfl (SX.o hS rfl) (SX.r hS rfl) ?_
    refine aw_iload (q := 56) (j := 4) rfl rfl (List.mem_of_getElem? (i := 4) rfl) ?_
    obtain ⟨bd_2, h⟩ := h
    refine ag_iaload (q := 57) (N := 402) rfl rfl (SX.a hS rfl) bd_2 ?_
    refine aw_bipush (q := 59) (v := 24) rfl rfl (by decide) ?_
    refine aw_icmp_eq (q := 62) (tgt := 87) rfl rfl (by decide) ⟨fun cd_3 => ?_, fun cd_3 => ?_⟩
    · replace h := h.1 cd_3
      refine aw_aload_n (q := 88) (j := 0) rfl rfl rfl (List.mem_of_getElem? (i := 0) rfl) ?_
      refine aw_bipush (q := 90) (v := 24) rfl rfl (by decide) ?_
      refine aw_iconst (q := 91) (v := 0) rfl rfl (by decide) ?_
      refine ag_cvV (z := m_Laws_writeToken) (ci := 3) (av := [.int _, .int _]) (st := []) (q := 94) (k' := 0) (n' := 0) rfl rfl cv_Laws_46 ⟨by decide, by decide⟩ rfl rfl (by decide) (by decide) (LW.o h_w) rfl rfl rfl (Nat.le_of_ble_eq_true rfl) ?_
      refine GV.mono h (fun t2_ h => ?_)
      refine aw_iload (q := 96) (j := 4) rfl rfl (List.mem_of_getElem? (i := 4) rfl) ?_
      exact aw_ireturn (ty := .int) rfl rfl rfl (by decide) (by decide) h
    · replace h := h.2 cd_3
      refine aw_aload_n (q := 63) (j := 0) rfl rfl rfl (List.mem_of_getElem? (i := 0) rfl) ?_
      refine aw_aload_n (q := 64) (j := 1) rfl rfl rfl (List.mem_of_getElem? (i := 1) rfl) ?_
      refine ag_getR (q := 67) rfl rfl fl_Laws_39 rfl (SX.o hS rfl) (SX.r hS rfl) ?_
      refine aw_iload (q := 69) (j := 4) rfl rfl (List.mem_of_getElem? (i := 4) rfl) ?_
      refine ag_iaload (q := 70) (N := 402) rfl rfl (SX.a hS rfl) bd_2 ?_
      refine aw_aload_n (q := 71) (j := 1) rfl rfl rfl (List.mem_of_getElem? (i := 1) rfl) ?_
      refine ag_getR (q := 74) rfl rfl fl_Laws_42 rfl (SX.o hS rfl) (SX.r hS rfl) ?_
      refine aw_iload (q := 76) (j := 4) rfl rfl (List.mem_of_getElem? (i := 4) rfl) ?_
      refine ag_laload (q := 77) (N := 402) rfl rfl (SX.a hS rfl) bd_2 ?_
      refine aw_l2i (q := 78) rfl rfl ?_
      refine ag_cvV (z := m_Laws_writeToken) (ci := 3) (av := [.int _, .int _]) (st := []) (q := 81) (k' := 0) (n' := 0) rfl rfl cv_Laws_46 ⟨by decide, by decide⟩ rfl rfl (by decide) (by decide) (LW.o h_w) rfl rfl rfl (Nat.le_of_ble_eq_true rfl) ?_
      refine GV.mono h (fun t3_ h => ?_)
      refine aw_iinc (q := 84) (v := _ + 1) (ls' := [(4, .int _), (0, .ref _), (1, .ref _), (2, .int _), (3, .int _)]) rfl rfl (List.mem_of_getElem? (i := 4) rfl) rfl (by decide) rfl ?_
      refine aw_goto (tgt := 41) rfl (by decide) ?_
      refine aw_ls [1, 2, 3, 4, 0] rfl ?_
      exact h
set_option maxRecDepth 20000 in
theorem v_Laws_write {E : EN} {g : GS} {s : MS} {Q : Option Value → SG → Prop} (w : Nat) (x2 : Int32) (x3 : Int32) (h_w : LW g w) (h : ((x3 < 0 → Q (some (.int x2)) (mk g s)) ∧ (¬ x3 < 0 → ((x3 < 3 → vp_in x3 3 ∧ (∀ s1_, s1_ = wi s (w + 2) ((x3).toNatClampNeg) (s.1 w 4) → (∀ s2_, s2_ = wi s1_ w 5 0 → (∀ s3_, s3_ = wi s2_ w 6 (s2_.1 w 4) → AWP E m_Laws_write 41 0 0 [(0, .ref w), (1, .ref 18), (2, .int x2), (3, .int x3), (4, .int x2)] [] (mk g s3_) Q)))) ∧ (¬ x3 < 3 → Q (some (.int x2)) (mk g s)))))) : AMet E m_Laws_write [.ref w, .ref 18, .int x2, .int x3] (mk g s) Q := by
  refine AMet.of (by decide) k_Laws_write [(0, .ref w), (1, .ref 18), (2, .int x2), (3, .int x3)] (Nat.le_of_ble_eq_true rfl) rfl ?_
  refine aw_iload_n (q := 1) (j := 3) rfl rfl rfl (List.mem_of_getElem? (i := 3) rfl) ?_
  refine aw_if_lt (q := 4) (tgt := 13) rfl rfl (by decide) ⟨fun cd_1 => ?_, fun cd_1 => ?_⟩
  · replace h := h.1 cd_1
    refine aw_iload_n (q := 14) (j := 2) rfl rfl rfl (List.mem_of_getElem? (i := 2) rfl) ?_
    exact aw_ireturn (ty := .int) rfl rfl rfl (by decide) (by decide) h
  · replace h := h.2 cd_1
    refine aw_iload_n (q := 5) (j := 3) rfl rfl rfl (List.mem_of_getElem? (i := 3) rfl) ?_
    refine aw_aload_n (q := 6) (j := 0) rfl rfl rfl (List.mem_of_getElem? (i := 0) rfl) ?_
    refine ag_getR (q := 9) rfl rfl fl_Laws_15 rfl (LW.o h_w) (LW.r1 h_w) ?_
    refine ag_alen (q := 10) (t := 0) (N := 3) (v := 3) rfl rfl (by decide) (LW.a1 h_w) (by decide) ?_
    refine aw_icmp_lt (q := 13) (tgt := 15) rfl rfl (by decide) ⟨fun cd_2 => ?_, fun cd_2 => ?_⟩
    · replace h := h.1 cd_2
      refine aw_aload_n (q := 16) (j := 0) rfl rfl rfl (List.mem_of_getElem? (i := 0) rfl) ?_
      refine ag_getR (q := 19) rfl rfl fl_Laws_15 rfl (LW.o h_w) (LW.r1 h_w) ?_
      refine aw_iload_n (q := 20) (j := 3) rfl rfl rfl (List.mem_of_getElem? (i := 3) rfl) ?_
      refine aw_aload_n (q := 21) (j := 0) rfl rfl rfl (List.mem_of_getElem? (i := 0) rfl) ?_
      refine ag_getI (q := 24) rfl rfl fl_Laws_24 rfl (LW.o h_w) ?_
      obtain ⟨bd_3, h⟩ := h
      refine ag_iastore (q := 25) (N := 3) rfl rfl (LW.a1 h_w) bd_3 ?_
      replace h := h _ rfl
      refine aw_aload_n (q := 26) (j := 0) rfl rfl rfl (List.mem_of_getElem? (i := 0) rfl) ?_
      refine aw_iconst (q := 27) (v := 0) rfl rfl (by decide) ?_
      refine ag_putI (q := 30) rfl rfl fl_Laws_28 rfl rfl (LW.o h_w) ?_
      replace h := h _ rfl
      refine aw_aload_n (q := 31) (j := 0) rfl rfl rfl (List.mem_of_getElem? (i := 0) rfl) ?_
      refine aw_aload_n (q := 32) (j := 0) rfl rfl rfl (List.mem_of_getElem? (i := 0) rfl) ?_
      refine ag_getI (q := 35) rfl rfl fl_Laws_24 rfl (LW.o h_w) ?_
      refine ag_putI (q := 38) rfl rfl fl_Laws_31 rfl rfl (LW.o h_w) ?_
      replace h := h _ rfl
      refine aw_iload_n (q := 39) (j := 2) rfl rfl rfl (List.mem_of_getElem? (i := 2) rfl) ?_
      refine aw_istore (q := 41) (j := 4) (ls' := [(4, .int _), (0, .ref _), (1, .ref _), (2, .int _), (3, .int _)]) rfl rfl (by decide) rfl ?_
      refine aw_ls [1, 2, 3, 4, 0] rfl ?_
      exact h
    · replace h := h.2 cd_2
      refine aw_iload_n (q := 14) (j := 2) rfl rfl rfl (List.mem_of_getElem? (i := 2) rfl) ?_
      exact aw_ireturn (ty := .int) rfl rfl rfl (by decide) (by decide) h
set_option maxRecDepth 20000 in
theorem v_Laws_writeToken_297 {E : EN} {g : GS} {s : MS} {Q : Option Value → SG → Prop} (w : Nat) (x1 : Int32) (x2 : Int32) (h : Q none (mk g s)) : AWP E m_Laws_writeToken 297 0 0 [(0, .ref w), (1, .int x1), (2, .int x2)] [] (mk g s) Q := by
  exact aw_return rfl rfl (by decide) (by decide) h
set_option maxRecDepth 20000 in
theorem v_Laws_writeToken {E : EN} {g : GS} {s : MS} {Q : Option Value → SG → Prop} (w : Nat) (x1 : Int32) (x2 : Int32) (h_w : LW g w) (h : ((x1 < 3 ∨ 32 < x1 → ((x1 < 17 → AWP E m_Laws_writeToken 297 0 0 [(0, .ref w), (1, .int x1), (2, .int x2)] [] (mk g s) Q) ∧ (¬ x1 < 17 → ((23 < x1 → AWP E m_Laws_writeToken 297 0 0 [(0, .ref w), (1, .int x1), (2, .int x2)] [] (mk g s) Q) ∧ (¬ 23 < x1 → GV E m_Laws_addStep [.ref w, .int (-x1)] g s (fun t1_ => AWP E m_Laws_writeToken 297 0 0 [(0, .ref w), (1, .int x1), (2, .int x2)] [] (mk g t1_) Q)))))) ∧ (x1 = 3 → GV E m_Laws_addStep [.ref w, .int x2] g s (fun t2_ => AWP E m_Laws_writeToken 297 0 0 [(0, .ref w), (1, .int x1), (2, .int x2)] [] (mk g t2_) Q)) ∧ (x1 = 4 → ((x1 < 17 → AWP E m_Laws_writeToken 297 0 0 [(0, .ref w), (1, .int x1), (2, .int x2)] [] (mk g s) Q) ∧ (¬ x1 < 17 → ((23 < x1 → AWP E m_Laws_writeToken 297 0 0 [(0, .ref w), (1, .int x1), (2, .int x2)] [] (mk g s) Q) ∧ (¬ 23 < x1 → GV E m_Laws_addStep [.ref w, .int (-x1)] g s (fun t3_ => AWP E m_Laws_writeToken 297 0 0 [(0, .ref w), (1, .int x1), (2, .int x2)] [] (mk g t3_) Q)))))) ∧ (x1 = 5 → ((x1 < 17 → AWP E m_Laws_writeToken 297 0 0 [(0, .ref w), (1, .int x1), (2, .int x2)] [] (mk g s) Q) ∧ (¬ x1 < 17 → ((23 < x1 → AWP E m_Laws_writeToken 297 0 0 [(0, .ref w), (1, .int x1), (2, .int x2)] [] (mk g s) Q) ∧ (¬ 23 < x1 → GV E m_Laws_addStep [.ref w, .int (-x1)] g s (fun t4_ => AWP E m_Laws_writeToken 297 0 0 [(0, .ref w), (1, .int x1), (2, .int x2)] [] (mk g t4_) Q)))))) ∧ (x1 = 6 → ((x1 < 17 → AWP E m_Laws_writeToken 297 0 0 [(0, .ref w), (1, .int x1), (2, .int x2)] [] (mk g s) Q) ∧ (¬ x1 < 17 → ((23 < x1 → AWP E m_Laws_writeToken 297 0 0 [(0, .ref w), (1, .int x1), (2, .int x2)] [] (mk g s) Q) ∧ (¬ 23 < x1 → GV E m_Laws_addStep [.ref w, .int (-x1)] g s (fun t5_ => AWP E m_Laws_writeToken 297 0 0 [(0, .ref w), (1, .int x1), (2, .int x2)] [] (mk g t5_) Q)))))) ∧ (x1 = 7 → ((x1 < 17 → AWP E m_Laws_writeToken 297 0 0 [(0, .ref w), (1, .int x1), (2, .int x2)] [] (mk g s) Q) ∧ (¬ x1 < 17 → ((23 < x1 → AWP E m_Laws_writeToken 297 0 0 [(0, .ref w), (1, .int x1), (2, .int x2)] [] (mk g s) Q) ∧ (¬ 23 < x1 → GV E m_Laws_addStep [.ref w, .int (-x1)] g s (fun t6_ => AWP E m_Laws_writeToken 297 0 0 [(0, .ref w), (1, .int x1), (2, .int x2)] [] (mk g t6_) Q)))))) ∧ (x1 = 8 → ((x1 < 17 → AWP E m_Laws_writeToken 297 0 0 [(0, .ref w), (1, .int x1), (2, .int x2)] [] (mk g s) Q) ∧ (¬ x1 < 17 → ((23 < x1 → AWP E m_Laws_writeToken 297 0 0 [(0, .ref w), (1, .int x1), (2, .int x2)] [] (mk g s) Q) ∧ (¬ 23 < x1 → GV E m_Laws_addStep [.ref w, .int (-x1)] g s (fun t7_ => AWP E m_Laws_writeToken 297 0 0 [(0, .ref w), (1, .int x1), (2, .int x2)] [] (mk g t7_) Q)))))) ∧ (x1 = 9 → ((x1 < 17 → AWP E m_Laws_writeToken 297 0 0 [(0, .ref w), (1, .int x1), (2, .int x2)] [] (mk g s) Q) ∧ (¬ x1 < 17 → ((23 < x1 → AWP E m_Laws_writeToken 297 0 0 [(0, .ref w), (1, .int x1), (2, .int x2)] [] (mk g s) Q) ∧ (¬ 23 < x1 → GV E m_Laws_addStep [.ref w, .int (-x1)] g s (fun t8_ => AWP E m_Laws_writeToken 297 0 0 [(0, .ref w), (1, .int x1), (2, .int x2)] [] (mk g t8_) Q)))))) ∧ (x1 = 10 → ((x1 < 17 → AWP E m_Laws_writeToken 297 0 0 [(0, .ref w), (1, .int x1), (2, .int x2)] [] (mk g s) Q) ∧ (¬ x1 < 17 → ((23 < x1 → AWP E m_Laws_writeToken 297 0 0 [(0, .ref w), (1, .int x1), (2, .int x2)] [] (mk g s) Q) ∧ (¬ 23 < x1 → GV E m_Laws_addStep [.ref w, .int (-x1)] g s (fun t9_ => AWP E m_Laws_writeToken 297 0 0 [(0, .ref w), (1, .int x1), (2, .int x2)] [] (mk g t9_) Q)))))) ∧ (x1 = 11 → ((x1 < 17 → AWP E m_Laws_writeToken 297 0 0 [(0, .ref w), (1, .int x1), (2, .int x2)] [] (mk g s) Q) ∧ (¬ x1 < 17 → ((23 < x1 → AWP E m_Laws_writeToken 297 0 0 [(0, .ref w), (1, .int x1), (2, .int x2)] [] (mk g s) Q) ∧ (¬ 23 < x1 → GV E m_Laws_addStep [.ref w, .int (-x1)] g s (fun t10_ => AWP E m_Laws_writeToken 297 0 0 [(0, .ref w), (1, .int x1), (2, .int x2)] [] (mk g t10_) Q)))))) ∧ (x1 = 12 → ((x1 < 17 → AWP E m_Laws_writeToken 297 0 0 [(0, .ref w), (1, .int x1), (2, .int x2)] [] (mk g s) Q) ∧ (¬ x1 < 17 → ((23 < x1 → AWP E m_Laws_writeToken 297 0 0 [(0, .ref w), (1, .int x1), (2, .int x2)] [] (mk g s) Q) ∧ (¬ 23 < x1 → GV E m_Laws_addStep [.ref w, .int (-x1)] g s (fun t11_ => AWP E m_Laws_writeToken 297 0 0 [(0, .ref w), (1, .int x1), (2, .int x2)] [] (mk g t11_) Q)))))) ∧ (x1 = 13 → ((x1 < 17 → AWP E m_Laws_writeToken 297 0 0 [(0, .ref w), (1, .int x1), (2, .int x2)] [] (mk g s) Q) ∧ (¬ x1 < 17 → ((23 < x1 → AWP E m_Laws_writeToken 297 0 0 [(0, .ref w), (1, .int x1), (2, .int x2)] [] (mk g s) Q) ∧ (¬ 23 < x1 → GV E m_Laws_addStep [.ref w, .int (-x1)] g s (fun t12_ => AWP E m_Laws_writeToken 297 0 0 [(0, .ref w), (1, .int x1), (2, .int x2)] [] (mk g t12_) Q)))))) ∧ (x1 = 14 → AWP E m_Laws_writeToken 297 0 0 [(0, .ref w), (1, .int x1), (2, .int x2)] [] (mk g s) Q) ∧ (x1 = 15 → GV E m_Laws_writeWaiting [.ref w, .int 0] g s (fun t13_ => GV E m_Laws_addStep [.ref w, .int (-15)] g t13_ (fun t14_ => (∀ s15_, s15_ = wi t14_ w 6 (t14_.1 w 4) → GV E m_Laws_addStep [.ref w, .int 0] g s15_ (fun t16_ => AWP E m_Laws_writeToken 297 0 0 [(0, .ref w), (1, .int x1), (2, .int x2)] [] (mk g t16_) Q))))) ∧ (x1 = 16 → GV E m_Laws_writeWaiting [.ref w, .int 0] g s (fun t17_ => GV E m_Laws_addStep [.ref w, .int (-24)] g t17_ (fun t18_ => ((400 ≤ (t18_.1 w 6) → AWP E m_Laws_writeToken 297 0 0 [(0, .ref w), (1, .int x1), (2, .int x2)] [] (mk g t18_) Q) ∧ (¬ 400 ≤ (t18_.1 w 6) → vp_in (t18_.1 w 6) 400 ∧ (∀ s19_, s19_ = wi t18_ (w + 1) (((t18_.1 w 6)).toNatClampNeg) (t18_.1 w 4) → AWP E m_Laws_writeToken 297 0 0 [(0, .ref w), (1, .int x1), (2, .int x2)] [] (mk g s19_) Q)))))) ∧ (x1 = 17 → ((x1 < 17 → AWP E m_Laws_writeToken 297 0 0 [(0, .ref w), (1, .int x1), (2, .int x2)] [] (mk g s) Q) ∧ (¬ x1 < 17 → ((23 < x1 → AWP E m_Laws_writeToken 297 0 0 [(0, .ref w), (1, .int x1), (2, .int x2)] [] (mk g s) Q) ∧ (¬ 23 < x1 → GV E m_Laws_addStep [.ref w, .int (-x1)] g s (fun t20_ => AWP E m_Laws_writeToken 297 0 0 [(0, .ref w), (1, .int x1), (2, .int x2)] [] (mk g t20_) Q)))))) ∧ (x1 = 18 → ((x1 < 17 → AWP E m_Laws_writeToken 297 0 0 [(0, .ref w), (1, .int x1), (2, .int x2)] [] (mk g s) Q) ∧ (¬ x1 < 17 → ((23 < x1 → AWP E m_Laws_writeToken 297 0 0 [(0, .ref w), (1, .int x1), (2, .int x2)] [] (mk g s) Q) ∧ (¬ 23 < x1 → GV E m_Laws_addStep [.ref w, .int (-x1)] g s (fun t21_ => AWP E m_Laws_writeToken 297 0 0 [(0, .ref w), (1, .int x1), (2, .int x2)] [] (mk g t21_) Q)))))) ∧ (x1 = 19 → ((x1 < 17 → AWP E m_Laws_writeToken 297 0 0 [(0, .ref w), (1, .int x1), (2, .int x2)] [] (mk g s) Q) ∧ (¬ x1 < 17 → ((23 < x1 → AWP E m_Laws_writeToken 297 0 0 [(0, .ref w), (1, .int x1), (2, .int x2)] [] (mk g s) Q) ∧ (¬ 23 < x1 → GV E m_Laws_addStep [.ref w, .int (-x1)] g s (fun t22_ => AWP E m_Laws_writeToken 297 0 0 [(0, .ref w), (1, .int x1), (2, .int x2)] [] (mk g t22_) Q)))))) ∧ (x1 = 20 → ((x1 < 17 → AWP E m_Laws_writeToken 297 0 0 [(0, .ref w), (1, .int x1), (2, .int x2)] [] (mk g s) Q) ∧ (¬ x1 < 17 → ((23 < x1 → AWP E m_Laws_writeToken 297 0 0 [(0, .ref w), (1, .int x1), (2, .int x2)] [] (mk g s) Q) ∧ (¬ 23 < x1 → GV E m_Laws_addStep [.ref w, .int (-x1)] g s (fun t23_ => AWP E m_Laws_writeToken 297 0 0 [(0, .ref w), (1, .int x1), (2, .int x2)] [] (mk g t23_) Q)))))) ∧ (x1 = 21 → ((x1 < 17 → AWP E m_Laws_writeToken 297 0 0 [(0, .ref w), (1, .int x1), (2, .int x2)] [] (mk g s) Q) ∧ (¬ x1 < 17 → ((23 < x1 → AWP E m_Laws_writeToken 297 0 0 [(0, .ref w), (1, .int x1), (2, .int x2)] [] (mk g s) Q) ∧ (¬ 23 < x1 → GV E m_Laws_addStep [.ref w, .int (-x1)] g s (fun t24_ => AWP E m_Laws_writeToken 297 0 0 [(0, .ref w), (1, .int x1), (2, .int x2)] [] (mk g t24_) Q)))))) ∧ (x1 = 22 → ((x1 < 17 → AWP E m_Laws_writeToken 297 0 0 [(0, .ref w), (1, .int x1), (2, .int x2)] [] (mk g s) Q) ∧ (¬ x1 < 17 → ((23 < x1 → AWP E m_Laws_writeToken 297 0 0 [(0, .ref w), (1, .int x1), (2, .int x2)] [] (mk g s) Q) ∧ (¬ 23 < x1 → GV E m_Laws_addStep [.ref w, .int (-x1)] g s (fun t25_ => AWP E m_Laws_writeToken 297 0 0 [(0, .ref w), (1, .int x1), (2, .int x2)] [] (mk g t25_) Q)))))) ∧ (x1 = 23 → ((x1 < 17 → AWP E m_Laws_writeToken 297 0 0 [(0, .ref w), (1, .int x1), (2, .int x2)] [] (mk g s) Q) ∧ (¬ x1 < 17 → ((23 < x1 → AWP E m_Laws_writeToken 297 0 0 [(0, .ref w), (1, .int x1), (2, .int x2)] [] (mk g s) Q) ∧ (¬ 23 < x1 → GV E m_Laws_addStep [.ref w, .int (-x1)] g s (fun t26_ => AWP E m_Laws_writeToken 297 0 0 [(0, .ref w), (1, .int x1), (2, .int x2)] [] (mk g t26_) Q)))))) ∧ (x1 = 24 → GV E m_Laws_writeWaiting [.ref w, .int 0] g s (fun t27_ => GV E m_Laws_addStep [.ref w, .int (-24)] g t27_ (fun t28_ => AWP E m_Laws_writeToken 297 0 0 [(0, .ref w), (1, .int x1), (2, .int x2)] [] (mk g t28_) Q))) ∧ (x1 = 25 → AWP E m_Laws_writeToken 297 0 0 [(0, .ref w), (1, .int x1), (2, .int x2)] [] (mk g s) Q) ∧ (x1 = 26 → GI E m_Laws_rankOf [.int x1] g s (fun y29_ t29_ => GV E m_Laws_writeWaiting [.ref w, .int y29_] g t29_ (fun t30_ => GV E m_Laws_addWaiting [.ref w, .int x1] g t30_ (fun t31_ => AWP E m_Laws_writeToken 297 0 0 [(0, .ref w), (1, .int x1), (2, .int x2)] [] (mk g t31_) Q)))) ∧ (x1 = 27 → GI E m_Laws_rankOf [.int x1] g s (fun y32_ t32_ => GV E m_Laws_writeWaiting [.ref w, .int y32_] g t32_ (fun t33_ => GV E m_Laws_addWaiting [.ref w, .int x1] g t33_ (fun t34_ => AWP E m_Laws_writeToken 297 0 0 [(0, .ref w), (1, .int x1), (2, .int x2)] [] (mk g t34_) Q)))) ∧ (x1 = 28 → GI E m_Laws_rankOf [.int x1] g s (fun y35_ t35_ => GV E m_Laws_writeWaiting [.ref w, .int y35_] g t35_ (fun t36_ => GV E m_Laws_addWaiting [.ref w, .int x1] g t36_ (fun t37_ => AWP E m_Laws_writeToken 297 0 0 [(0, .ref w), (1, .int x1), (2, .int x2)] [] (mk g t37_) Q)))) ∧ (x1 = 29 → GI E m_Laws_rankOf [.int x1] g s (fun y38_ t38_ => GV E m_Laws_writeWaiting [.ref w, .int y38_] g t38_ (fun t39_ => GV E m_Laws_addWaiting [.ref w, .int x1] g t39_ (fun t40_ => AWP E m_Laws_writeToken 297 0 0 [(0, .ref w), (1, .int x1), (2, .int x2)] [] (mk g t40_) Q)))) ∧ (x1 = 30 → GV E m_Laws_writeWaiting [.ref w, .int 0] g s (fun t41_ => AWP E m_Laws_writeToken 297 0 0 [(0, .ref w), (1, .int x1), (2, .int x2)] [] (mk g t41_) Q)) ∧ (x1 = 31 → GV E m_Laws_addWaiting [.ref w, .int x1] g s (fun t42_ => AWP E m_Laws_writeToken 297 0 0 [(0, .ref w), (1, .int x1), (2, .int x2)] [] (mk g t42_) Q)) ∧ (x1 = 32 → GV E m_Laws_writeWaiting [.ref w, .int 0] g s (fun t43_ => (∀ s44_, s44_ = wi t43_ w 5 (if 0 < ((t43_.1 w 5) - 1) then ((t43_.1 w 5) - 1) else 0) → AWP E m_Laws_writeToken 297 0 0 [(0, .ref w), (1, .int x1), (2, .int x2)] [] (mk g s44_) Q))))) : AMet E m_Laws_writeToken [.ref w, .int x1, .int x2] (mk g s) Q := by
  refine AMet.of (by decide) k_Laws_writeToken [(0, .ref w), (1, .int x1), (2, .int x2)] (Nat.le_of_ble_eq_true rfl) rfl ?_
  refine aw_iload_n (q := 1) (j := 1) rfl rfl rfl (List.mem_of_getElem? (i := 1) rfl) ?_
  by_cases cd_1 : x1 < 3 ∨ 32 < x1
  · replace h := h.1 cd_1
    refine aw_tableLt (tgt := 279) rfl (a := 3) (b := 32) (by decide) (by decide) cd_1 (by decide) ?_
    refine aw_iload_n (q := 280) (j := 1) rfl rfl rfl (List.mem_of_getElem? (i := 1) rfl) ?_
    refine aw_bipush (q := 282) (v := 17) rfl rfl (by decide) ?_
    refine aw_icmp_lt (q := 285) (tgt := 297) rfl rfl (by decide) ⟨fun cd_2 => ?_, fun cd_2 => ?_⟩
    · replace h := h.1 cd_2
      refine aw_ls [0, 1, 2] rfl ?_
      exact h
    · replace h := h.2 cd_2
      refine aw_iload_n (q := 286) (j := 1) rfl rfl rfl (List.mem_of_getElem? (i := 1) rfl) ?_
      refine aw_bipush (q := 288) (v := 23) rfl rfl (by decide) ?_
      refine aw_icmp_gt (q := 291) (tgt := 297) rfl rfl (by decide) ⟨fun cd_3 => ?_, fun cd_3 => ?_⟩
      · replace h := h.1 cd_3
        refine aw_ls [0, 1, 2] rfl ?_
        exact h
      · replace h := h.2 cd_3
        refine aw_aload_n (q := 292) (j := 0) rfl rfl rfl (List.mem_of_getElem? (i := 0) rfl) ?_
        refine aw_iload_n (q := 293) (j := 1) rfl rfl rfl (List.mem_of_getElem? (i := 1) rfl) ?_
        refine aw_ineg (q := 294) rfl rfl ?_
        refine ag_cvV (z := m_Laws_addStep) (ci := 3) (av := [.int _]) (st := []) (q := 297) (k' := 0) (n' := 0) rfl rfl cv_Laws_50 ⟨by decide, by decide⟩ rfl rfl (by decide) (by decide) (LW.o h_w) rfl rfl rfl (Nat.le_of_ble_eq_true rfl) ?_
        refine GV.mono h (fun t1_ h => ?_)
        refine aw_ls [0, 1, 2] rfl ?_
        exact h
  · obtain ⟨jd_4, hjd_4, ejd_4⟩ := sw_cases 29 32 (fun q => cd_1 (Or.inl q)) (fun q => cd_1 (Or.inr q)) (by decide)
    replace h := h.2
    match jd_4, hjd_4, ejd_4 with
    | 0, _, e => 
      have e : x1 = 3 := Int32.toInt_inj.mp (e.trans (by decide))
      replace h := h.1 e
      refine aw_tableEq (tgt := 139) rfl e (by decide) (by decide) rfl (by decide) ?_
      refine aw_aload_n (q := 140) (j := 0) rfl rfl rfl (List.mem_of_getElem? (i := 0) rfl) ?_
      refine aw_iload_n (q := 141) (j := 2) rfl rfl rfl (List.mem_of_getElem? (i := 2) rfl) ?_
      refine ag_cvV (z := m_Laws_addStep) (ci := 3) (av := [.int _]) (st := []) (q := 144) (k' := 0) (n' := 0) rfl rfl cv_Laws_50 ⟨by decide, by decide⟩ rfl rfl (by decide) (by decide) (LW.o h_w) rfl rfl rfl (Nat.le_of_ble_eq_true rfl) ?_
      refine GV.mono h (fun t2_ h => ?_)
      refine aw_goto (tgt := 297) rfl (by decide) ?_
      refine aw_ls [0, 1, 2] rfl ?_
      exact h
    | 1, _, e => 
      have e : x1 = 4 := Int32.toInt_inj.mp (e.trans (by decide))
      replace h := h.2.1 e
      refine aw_tableEq (tgt := 279) rfl e (by decide) (by decide) rfl (by decide) ?_
      refine aw_iload_n (q := 280) (j := 1) rfl rfl rfl (List.mem_of_getElem? (i := 1) rfl) ?_
      refine aw_bipush (q := 282) (v := 17) rfl rfl (by decide) ?_
      refine aw_icmp_lt (q := 285) (tgt := 297) rfl rfl (by decide) ⟨fun cd_5 => ?_, fun cd_5 => ?_⟩
      · replace h := h.1 cd_5
        refine aw_ls [0, 1, 2] rfl ?_
        exact h
      · replace h := h.2 cd_5
        refine aw_iload_n (q := 286) (j := 1) rfl rfl rfl (List.mem_of_getElem? (i := 1) rfl) ?_
        refine aw_bipush (q := 288) (v := 23) rfl rfl (by decide) ?_
        refine aw_icmp_gt (q := 291) (tgt := 297) rfl rfl (by decide) ⟨fun cd_6 => ?_, fun cd_6 => ?_⟩
        · replace h := h.1 cd_6
          refine aw_ls [0, 1, 2] rfl ?_
          exact h
        · replace h := h.2 cd_6
          refine aw_aload_n (q := 292) (j := 0) rfl rfl rfl (List.mem_of_getElem? (i := 0) rfl) ?_
          refine aw_iload_n (q := 293) (j := 1) rfl rfl rfl (List.mem_of_getElem? (i := 1) rfl) ?_
          refine aw_ineg (q := 294) rfl rfl ?_
          refine ag_cvV (z := m_Laws_addStep) (ci := 3) (av := [.int _]) (st := []) (q := 297) (k' := 0) (n' := 0) rfl rfl cv_Laws_50 ⟨by decide, by decide⟩ rfl rfl (by decide) (by decide) (LW.o h_w) rfl rfl rfl (Nat.le_of_ble_eq_true rfl) ?_
          refine GV.mono h (fun t3_ h => ?_)
          refine aw_ls [0, 1, 2] rfl ?_
          exact h
    | 2, _, e => 
      have e : x1 = 5 := Int32.toInt_inj.mp (e.trans (by decide))
      replace h := h.2.2.1 e
      refine aw_tableEq (tgt := 279) rfl e (by decide) (by decide) rfl (by decide) ?_
      refine aw_iload_n (q := 280) (j := 1) rfl rfl rfl (List.mem_of_getElem? (i := 1) rfl) ?_
      refine aw_bipush (q := 282) (v := 17) rfl rfl (by decide) ?_
      refine aw_icmp_lt (q := 285) (tgt := 297) rfl rfl (by decide) ⟨fun cd_7 => ?_, fun cd_7 => ?_⟩
      · replace h := h.1 cd_7
        refine aw_ls [0, 1, 2] rfl ?_
        exact h
      · replace h := h.2 cd_7
        refine aw_iload_n (q := 286) (j := 1) rfl rfl rfl (List.mem_of_getElem? (i := 1) rfl) ?_
        refine aw_bipush (q := 288) (v := 23) rfl rfl (by decide) ?_
        refine aw_icmp_gt (q := 291) (tgt := 297) rfl rfl (by decide) ⟨fun cd_8 => ?_, fun cd_8 => ?_⟩
        · replace h := h.1 cd_8
          refine aw_ls [0, 1, 2] rfl ?_
          exact h
        · replace h := h.2 cd_8
          refine aw_aload_n (q := 292) (j := 0) rfl rfl rfl (List.mem_of_getElem? (i := 0) rfl) ?_
          refine aw_iload_n (q := 293) (j := 1) rfl rfl rfl (List.mem_of_getElem? (i := 1) rfl) ?_
          refine aw_ineg (q := 294) rfl rfl ?_
          refine ag_cvV (z := m_Laws_addStep) (ci := 3) (av := [.int _]) (st := []) (q := 297) (k' := 0) (n' := 0) rfl rfl cv_Laws_50 ⟨by decide, by decide⟩ rfl rfl (by decide) (by decide) (LW.o h_w) rfl rfl rfl (Nat.le_of_ble_eq_true rfl) ?_
          refine GV.mono h (fun t4_ h => ?_)
          refine aw_ls [0, 1, 2] rfl ?_
          exact h
    | 3, _, e => 
      have e : x1 = 6 := Int32.toInt_inj.mp (e.trans (by decide))
      replace h := h.2.2.2.1 e
      refine aw_tableEq (tgt := 279) rfl e (by decide) (by decide) rfl (by decide) ?_
      refine aw_iload_n (q := 280) (j := 1) rfl rfl rfl (List.mem_of_getElem? (i := 1) rfl) ?_
      refine aw_bipush (q := 282) (v := 17) rfl rfl (by decide) ?_
      refine aw_icmp_lt (q := 285) (tgt := 297) rfl rfl (by decide) ⟨fun cd_9 => ?_, fun cd_9 => ?_⟩
      · replace h := h.1 cd_9
        refine aw_ls [0, 1, 2] rfl ?_
        exact h
      · replace h := h.2 cd_9
        refine aw_iload_n (q := 286) (j := 1) rfl rfl rfl (List.mem_of_getElem? (i := 1) rfl) ?_
        refine aw_bipush (q := 288) (v := 23) rfl rfl (by decide) ?_
        refine aw_icmp_gt (q := 291) (tgt := 297) rfl rfl (by decide) ⟨fun cd_10 => ?_, fun cd_10 => ?_⟩
        · replace h := h.1 cd_10
          refine aw_ls [0, 1, 2] rfl ?_
          exact h
        · replace h := h.2 cd_10
          refine aw_aload_n (q := 292) (j := 0) rfl rfl rfl (List.mem_of_getElem? (i := 0) rfl) ?_
          refine aw_iload_n (q := 293) (j := 1) rfl rfl rfl (List.mem_of_getElem? (i := 1) rfl) ?_
          refine aw_ineg (q := 294) rfl rfl ?_
          refine ag_cvV (z := m_Laws_addStep) (ci := 3) (av := [.int _]) (st := []) (q := 297) (k' := 0) (n' := 0) rfl rfl cv_Laws_50 ⟨by decide, by decide⟩ rfl rfl (by decide) (by decide) (LW.o h_w) rfl rfl rfl (Nat.le_of_ble_eq_true rfl) ?_
          refine GV.mono h (fun t5_ h => ?_)
          refine aw_ls [0, 1, 2] rfl ?_
          exact h
    | 4, _, e => 
      have e : x1 = 7 := Int32.toInt_inj.mp (e.trans (by decide))
      replace h := h.2.2.2.2.1 e
      refine aw_tableEq (tgt := 279) rfl e (by decide) (by decide) rfl (by decide) ?_
      refine aw_iload_n (q := 280) (j := 1) rfl rfl rfl (List.mem_of_getElem? (i := 1) rfl) ?_
      refine aw_bipush (q := 282) (v := 17) rfl rfl (by decide) ?_
      refine aw_icmp_lt (q := 285) (tgt := 297) rfl rfl (by decide) ⟨fun cd_11 => ?_, fun cd_11 => ?_⟩
      · replace h := h.1 cd_11
        refine aw_ls [0, 1, 2] rfl ?_
        exact h
      · replace h := h.2 cd_11
        refine aw_iload_n (q := 286) (j := 1) rfl rfl rfl (List.mem_of_getElem? (i := 1) rfl) ?_
        refine aw_bipush (q := 288) (v := 23) rfl rfl (by decide) ?_
        refine aw_icmp_gt (q := 291) (tgt := 297) rfl rfl (by decide) ⟨fun cd_12 => ?_, fun cd_12 => ?_⟩
        · replace h := h.1 cd_12
          refine aw_ls [0, 1, 2] rfl ?_
          exact h
        · replace h := h.2 cd_12
          refine aw_aload_n (q := 292) (j := 0) rfl rfl rfl (List.mem_of_getElem? (i := 0) rfl) ?_
          refine aw_iload_n (q := 293) (j := 1) rfl rfl rfl (List.mem_of_getElem? (i := 1) rfl) ?_
          refine aw_ineg (q := 294) rfl rfl ?_
          refine ag_cvV (z := m_Laws_addStep) (ci := 3) (av := [.int _]) (st := []) (q := 297) (k' := 0) (n' := 0) rfl rfl cv_Laws_50 ⟨by decide, by decide⟩ rfl rfl (by decide) (by decide) (LW.o h_w) rfl rfl rfl (Nat.le_of_ble_eq_true rfl) ?_
          refine GV.mono h (fun t6_ h => ?_)
          refine aw_ls [0, 1, 2] rfl ?_
          exact h
    | 5, _, e => 
      have e : x1 = 8 := Int32.toInt_inj.mp (e.trans (by decide))
      replace h := h.2.2.2.2.2.1 e
      refine aw_tableEq (tgt := 279) rfl e (by decide) (by decide) rfl (by decide) ?_
      refine aw_iload_n (q := 280) (j := 1) rfl rfl rfl (List.mem_of_getElem? (i := 1) rfl) ?_
      refine aw_bipush (q := 282) (v := 17) rfl rfl (by decide) ?_
      refine aw_icmp_lt (q := 285) (tgt := 297) rfl rfl (by decide) ⟨fun cd_13 => ?_, fun cd_13 => ?_⟩
      · replace h := h.1 cd_13
        refine aw_ls [0, 1, 2] rfl ?_
        exact h
      · replace h := h.2 cd_13
        refine aw_iload_n (q := 286) (j := 1) rfl rfl rfl (List.mem_of_getElem? (i := 1) rfl) ?_
        refine aw_bipush (q := 288) (v := 23) rfl rfl (by decide) ?_
        refine aw_icmp_gt (q := 291) (tgt := 297) rfl rfl (by decide) ⟨fun cd_14 => ?_, fun cd_14 => ?_⟩
        · replace h := h.1 cd_14
          refine aw_ls [0, 1, 2] rfl ?_
          exact h
        · replace h := h.2 cd_14
          refine aw_aload_n (q := 292) (j := 0) rfl rfl rfl (List.mem_of_getElem? (i := 0) rfl) ?_
          refine aw_iload_n (q := 293) (j := 1) rfl rfl rfl (List.mem_of_getElem? (i := 1) rfl) ?_
          refine aw_ineg (q := 294) rfl rfl ?_
          refine ag_cvV (z := m_Laws_addStep) (ci := 3) (av := [.int _]) (st := []) (q := 297) (k' := 0) (n' := 0) rfl rfl cv_Laws_50 ⟨by decide, by decide⟩ rfl rfl (by decide) (by decide) (LW.o h_w) rfl rfl rfl (Nat.le_of_ble_eq_true rfl) ?_
          refine GV.mono h (fun t7_ h => ?_)
          refine aw_ls [0, 1, 2] rfl ?_
          exact h
    | 6, _, e => 
      have e : x1 = 9 := Int32.toInt_inj.mp (e.trans (by decide))
      replace h := h.2.2.2.2.2.2.1 e
      refine aw_tableEq (tgt := 279) rfl e (by decide) (by decide) rfl (by decide) ?_
      refine aw_iload_n (q := 280) (j := 1) rfl rfl rfl (List.mem_of_getElem? (i := 1) rfl) ?_
      refine aw_bipush (q := 282) (v := 17) rfl rfl (by decide) ?_
      refine aw_icmp_lt (q := 285) (tgt := 297) rfl rfl (by decide) ⟨fun cd_15 => ?_, fun cd_15 => ?_⟩
      · replace h := h.1 cd_15
        refine aw_ls [0, 1, 2] rfl ?_
        exact h
      · replace h := h.2 cd_15
        refine aw_iload_n (q := 286) (j := 1) rfl rfl rfl (List.mem_of_getElem? (i := 1) rfl) ?_
        refine aw_bipush (q := 288) (v := 23) rfl rfl (by decide) ?_
        refine aw_icmp_gt (q := 291) (tgt := 297) rfl rfl (by decide) ⟨fun cd_16 => ?_, fun cd_16 => ?_⟩
        · replace h := h.1 cd_16
          refine aw_ls [0, 1, 2] rfl ?_
          exact h
        · replace h := h.2 cd_16
          refine aw_aload_n (q := 292) (j := 0) rfl rfl rfl (List.mem_of_getElem? (i := 0) rfl) ?_
          refine aw_iload_n (q := 293) (j := 1) rfl rfl rfl (List.mem_of_getElem? (i := 1) rfl) ?_
          refine aw_ineg (q := 294) rfl rfl ?_
          refine ag_cvV (z := m_Laws_addStep) (ci := 3) (av := [.int _]) (st := []) (q := 297) (k' := 0) (n' := 0) rfl rfl cv_Laws_50 ⟨by decide, by decide⟩ rfl rfl (by decide) (by decide) (LW.o h_w) rfl rfl rfl (Nat.le_of_ble_eq_true rfl) ?_
          refine GV.mono h (fun t8_ h => ?_)
          refine aw_ls [0, 1, 2] rfl ?_
          exact h
    | 7, _, e => 
      have e : x1 = 10 := Int32.toInt_inj.mp (e.trans (by decide))
      replace h := h.2.2.2.2.2.2.2.1 e
      refine aw_tableEq (tgt := 279) rfl e (by decide) (by decide) rfl (by decide) ?_
      refine aw_iload_n (q := 280) (j := 1) rfl rfl rfl (List.mem_of_getElem? (i := 1) rfl) ?_
      refine aw_bipush (q := 282) (v := 17) rfl rfl (by decide) ?_
      refine aw_icmp_lt (q := 285) (tgt := 297) rfl rfl (by decide) ⟨fun cd_17 => ?_, fun cd_17 => ?_⟩
      · replace h := h.1 cd_17
        refine aw_ls [0, 1, 2] rfl ?_
        exact h
      · replace h := h.2 cd_17
        refine aw_iload_n (q := 286) (j := 1) rfl rfl rfl (List.mem_of_getElem? (i := 1) rfl) ?_
        refine aw_bipush (q := 288) (v := 23) rfl rfl (by decide) ?_
        refine aw_icmp_gt (q := 291) (tgt := 297) rfl rfl (by decide) ⟨fun cd_18 => ?_, fun cd_18 => ?_⟩
        · replace h := h.1 cd_18
          refine aw_ls [0, 1, 2] rfl ?_
          exact h
        · replace h := h.2 cd_18
          refine aw_aload_n (q := 292) (j := 0) rfl rfl rfl (List.mem_of_getElem? (i := 0) rfl) ?_
          refine aw_iload_n (q := 293) (j := 1) rfl rfl rfl (List.mem_of_getElem? (i := 1) rfl) ?_
          refine aw_ineg (q := 294) rfl rfl ?_
          refine ag_cvV (z := m_Laws_addStep) (ci := 3) (av := [.int _]) (st := []) (q := 297) (k' := 0) (n' := 0) rfl rfl cv_Laws_50 ⟨by decide, by decide⟩ rfl rfl (by decide) (by decide) (LW.o h_w) rfl rfl rfl (Nat.le_of_ble_eq_true rfl) ?_
          refine GV.mono h (fun t9_ h => ?_)
          refine aw_ls [0, 1, 2] rfl ?_
          exact h
    | 8, _, e => 
      have e : x1 = 11 := Int32.toInt_inj.mp (e.trans (by decide))
      replace h := h.2.2.2.2.2.2.2.2.1 e
      refine aw_tableEq (tgt := 279) rfl e (by decide) (by decide) rfl (by decide) ?_
      refine aw_iload_n (q := 280) (j := 1) rfl rfl rfl (List.mem_of_getElem? (i := 1) rfl) ?_
      refine aw_bipush (q := 282) (v := 17) rfl rfl (by decide) ?_
      refine aw_icmp_lt (q := 285) (tgt := 297) rfl rfl (by decide) ⟨fun cd_19 => ?_, fun cd_19 => ?_⟩
      · replace h := h.1 cd_19
        refine aw_ls [0, 1, 2] rfl ?_
        exact h
      · replace h := h.2 cd_19
        refine aw_iload_n (q := 286) (j := 1) rfl rfl rfl (List.mem_of_getElem? (i := 1) rfl) ?_
        refine aw_bipush (q := 288) (v := 23) rfl rfl (by decide) ?_
        refine aw_icmp_gt (q := 291) (tgt := 297) rfl rfl (by decide) ⟨fun cd_20 => ?_, fun cd_20 => ?_⟩
        · replace h := h.1 cd_20
          refine aw_ls [0, 1, 2] rfl ?_
          exact h
        · replace h := h.2 cd_20
          refine aw_aload_n (q := 292) (j := 0) rfl rfl rfl (List.mem_of_getElem? (i := 0) rfl) ?_
          refine aw_iload_n (q := 293) (j := 1) rfl rfl rfl (List.mem_of_getElem? (i := 1) rfl) ?_
          refine aw_ineg (q := 294) rfl rfl ?_
          refine ag_cvV (z := m_Laws_addStep) (ci := 3) (av := [.int _]) (st := []) (q := 297) (k' := 0) (n' := 0) rfl rfl cv_Laws_50 ⟨by decide, by decide⟩ rfl rfl (by decide) (by decide) (LW.o h_w) rfl rfl rfl (Nat.le_of_ble_eq_true rfl) ?_
          refine GV.mono h (fun t10_ h => ?_)
          refine aw_ls [0, 1, 2] rfl ?_
          exact h
    | 9, _, e => 
      have e : x1 = 12 := Int32.toInt_inj.mp (e.trans (by decide))
      replace h := h.2.2.2.2.2.2.2.2.2.1 e
      refine aw_tableEq (tgt := 279) rfl e (by decide) (by decide) rfl (by decide) ?_
      refine aw_iload_n (q := 280) (j := 1) rfl rfl rfl (List.mem_of_getElem? (i := 1) rfl) ?_
      refine aw_bipush (q := 282) (v := 17) rfl rfl (by decide) ?_
      refine aw_icmp_lt (q := 285) (tgt := 297) rfl rfl (by decide) ⟨fun cd_21 => ?_, fun cd_21 => ?_⟩
      · replace h := h.1 cd_21
        refine aw_ls [0, 1, 2] rfl ?_
        exact h
      · replace h := h.2 cd_21
        refine aw_iload_n (q := 286) (j := 1) rfl rfl rfl (List.mem_of_getElem? (i := 1) rfl) ?_
        refine aw_bipush (q := 288) (v := 23) rfl rfl (by decide) ?_
        refine aw_icmp_gt (q := 291) (tgt := 297) rfl rfl (by decide) ⟨fun cd_22 => ?_, fun cd_22 => ?_⟩
        · replace h := h.1 cd_22
          refine aw_ls [0, 1, 2] rfl ?_
          exact h
        · replace h := h.2 cd_22
          refine aw_aload_n (q := 292) (j := 0) rfl rfl rfl (List.mem_of_getElem? (i := 0) rfl) ?_
          refine aw_iload_n (q := 293) (j := 1) rfl rfl rfl (List.mem_of_getElem? (i := 1) rfl) ?_
          refine aw_ineg (q := 294) rfl rfl ?_
          refine ag_cvV (z := m_Laws_addStep) (ci := 3) (av := [.int _]) (st := []) (q := 297) (k' := 0) (n' := 0) rfl rfl cv_Laws_50 ⟨by decide, by decide⟩ rfl rfl (by decide) (by decide) (LW.o h_w) rfl rfl rfl (Nat.le_of_ble_eq_true rfl) ?_
          refine GV.mono h (fun t11_ h => ?_)
          refine aw_ls [0, 1, 2] rfl ?_
          exact h
    | 10, _, e => 
      have e : x1 = 13 := Int32.toInt_inj.mp (e.trans (by decide))
      replace h := h.2.2.2.2.2.2.2.2.2.2.1 e
      refine aw_tableEq (tgt := 279) rfl e (by decide) (by decide) rfl (by decide) ?_
      refine aw_iload_n (q := 280) (j := 1) rfl rfl rfl (List.mem_of_getElem? (i := 1) rfl) ?_
      refine aw_bipush (q := 282) (v := 17) rfl rfl (by decide) ?_
      refine aw_icmp_lt (q := 285) (tgt := 297) rfl rfl (by decide) ⟨fun cd_23 => ?_, fun cd_23 => ?_⟩
      · replace h := h.1 cd_23
        refine aw_ls [0, 1, 2] rfl ?_
        exact h
      · replace h := h.2 cd_23
        refine aw_iload_n (q := 286) (j := 1) rfl rfl rfl (List.mem_of_getElem? (i := 1) rfl) ?_
        refine aw_bipush (q := 288) (v := 23) rfl rfl (by decide) ?_
        refine aw_icmp_gt (q := 291) (tgt := 297) rfl rfl (by decide) ⟨fun cd_24 => ?_, fun cd_24 => ?_⟩
        · replace h := h.1 cd_24
          refine aw_ls [0, 1, 2] rfl ?_
          exact h
        · replace h := h.2 cd_24
          refine aw_aload_n (q := 292) (j := 0) rfl rfl rfl (List.mem_of_getElem? (i := 0) rfl) ?_
          refine aw_iload_n (q := 293) (j := 1) rfl rfl rfl (List.mem_of_getElem? (i := 1) rfl) ?_
          refine aw_ineg (q := 294) rfl rfl ?_
          refine ag_cvV (z := m_Laws_addStep) (ci := 3) (av := [.int _]) (st := []) (q := 297) (k' := 0) (n' := 0) rfl rfl cv_Laws_50 ⟨by decide, by decide⟩ rfl rfl (by decide) (by decide) (LW.o h_w) rfl rfl rfl (Nat.le_of_ble_eq_true rfl) ?_
          refine GV.mono h (fun t12_ h => ?_)
          refine aw_ls [0, 1, 2] rfl ?_
          exact h
    | 11, _, e => 
      have e : x1 = 14 := Int32.toInt_inj.mp (e.trans (by decide))
      replace h := h.2.2.2.2.2.2.2.2.2.2.2.1 e
      refine aw_tableEq (tgt := 136) rfl e (by decide) (by decide) rfl (by decide) ?_
      refine aw_goto (tgt := 297) rfl (by decide) ?_
      refine aw_ls [0, 1, 2] rfl ?_
      exact h
    | 12, _, e => 
      have e : x1 = 15 := Int32.toInt_inj.mp (e.trans (by decide))
      replace h := h.2.2.2.2.2.2.2.2.2.2.2.2.1 e
      refine aw_tableEq (tgt := 201) rfl e (by decide) (by decide) rfl (by decide) ?_
      refine aw_aload_n (q := 202) (j := 0) rfl rfl rfl (List.mem_of_getElem? (i := 0) rfl) ?_
      refine aw_iconst (q := 203) (v := 0) rfl rfl (by decide) ?_
      refine ag_cvV (z := m_Laws_writeWaiting) (ci := 3) (av := [.int _]) (st := []) (q := 206) (k' := 0) (n' := 0) rfl rfl cv_Laws_57 ⟨by decide, by decide⟩ rfl rfl (by decide) (by decide) (LW.o h_w) rfl rfl rfl (Nat.le_of_ble_eq_true rfl) ?_
      refine GV.mono h (fun t13_ h => ?_)
      refine aw_aload_n (q := 207) (j := 0) rfl rfl rfl (List.mem_of_getElem? (i := 0) rfl) ?_
      refine aw_bipush (q := 209) (v := (-15)) rfl rfl (by decide) ?_
      refine ag_cvV (z := m_Laws_addStep) (ci := 3) (av := [.int _]) (st := []) (q := 212) (k' := 0) (n' := 0) rfl rfl cv_Laws_50 ⟨by decide, by decide⟩ rfl rfl (by decide) (by decide) (LW.o h_w) rfl rfl rfl (Nat.le_of_ble_eq_true rfl) ?_
      refine GV.mono h (fun t14_ h => ?_)
      refine aw_aload_n (q := 213) (j := 0) rfl rfl rfl (List.mem_of_getElem? (i := 0) rfl) ?_
      refine aw_aload_n (q := 214) (j := 0) rfl rfl rfl (List.mem_of_getElem? (i := 0) rfl) ?_
      refine ag_getI (q := 217) rfl rfl fl_Laws_24 rfl (LW.o h_w) ?_
      refine ag_putI (q := 220) rfl rfl fl_Laws_31 rfl rfl (LW.o h_w) ?_
      replace h := h _ rfl
      refine aw_aload_n (q := 221) (j := 0) rfl rfl rfl (List.mem_of_getElem? (i := 0) rfl) ?_
      refine aw_iconst (q := 222) (v := 0) rfl rfl (by decide) ?_
      refine ag_cvV (z := m_Laws_addStep) (ci := 3) (av := [.int _]) (st := []) (q := 225) (k' := 0) (n' := 0) rfl rfl cv_Laws_50 ⟨by decide, by decide⟩ rfl rfl (by decide) (by decide) (LW.o h_w) rfl rfl rfl (Nat.le_of_ble_eq_true rfl) ?_
      refine GV.mono h (fun t16_ h => ?_)
      refine aw_goto (tgt := 297) rfl (by decide) ?_
      refine aw_ls [0, 1, 2] rfl ?_
      exact h
    | 13, _, e => 
      have e : x1 = 16 := Int32.toInt_inj.mp (e.trans (by decide))
      replace h := h.2.2.2.2.2.2.2.2.2.2.2.2.2.1 e
      refine aw_tableEq (tgt := 228) rfl e (by decide) (by decide) rfl (by decide) ?_
      refine aw_aload_n (q := 229) (j := 0) rfl rfl rfl (List.mem_of_getElem? (i := 0) rfl) ?_
      refine aw_iconst (q := 230) (v := 0) rfl rfl (by decide) ?_
      refine ag_cvV (z := m_Laws_writeWaiting) (ci := 3) (av := [.int _]) (st := []) (q := 233) (k' := 0) (n' := 0) rfl rfl cv_Laws_57 ⟨by decide, by decide⟩ rfl rfl (by decide) (by decide) (LW.o h_w) rfl rfl rfl (Nat.le_of_ble_eq_true rfl) ?_
      refine GV.mono h (fun t17_ h => ?_)
      refine aw_aload_n (q := 234) (j := 0) rfl rfl rfl (List.mem_of_getElem? (i := 0) rfl) ?_
      refine aw_bipush (q := 236) (v := (-24)) rfl rfl (by decide) ?_
      refine ag_cvV (z := m_Laws_addStep) (ci := 3) (av := [.int _]) (st := []) (q := 239) (k' := 0) (n' := 0) rfl rfl cv_Laws_50 ⟨by decide, by decide⟩ rfl rfl (by decide) (by decide) (LW.o h_w) rfl rfl rfl (Nat.le_of_ble_eq_true rfl) ?_
      refine GV.mono h (fun t18_ h => ?_)
      refine aw_aload_n (q := 240) (j := 0) rfl rfl rfl (List.mem_of_getElem? (i := 0) rfl) ?_
      refine ag_getI (q := 243) rfl rfl fl_Laws_31 rfl (LW.o h_w) ?_
      refine aw_sipush (q := 246) (v := 400) rfl rfl (by decide) ?_
      refine aw_icmp_ge (q := 249) (tgt := 297) rfl rfl (by decide) ⟨fun cd_25 => ?_, fun cd_25 => ?_⟩
      · replace h := h.1 cd_25
        refine aw_ls [0, 1, 2] rfl ?_
        exact h
      · replace h := h.2 cd_25
        refine aw_aload_n (q := 250) (j := 0) rfl rfl rfl (List.mem_of_getElem? (i := 0) rfl) ?_
        refine ag_getR (q := 253) rfl rfl fl_Laws_11 rfl (LW.o h_w) (LW.r0 h_w) ?_
        refine aw_aload_n (q := 254) (j := 0) rfl rfl rfl (List.mem_of_getElem? (i := 0) rfl) ?_
        refine ag_getI (q := 257) rfl rfl fl_Laws_31 rfl (LW.o h_w) ?_
        refine aw_aload_n (q := 258) (j := 0) rfl rfl rfl (List.mem_of_getElem? (i := 0) rfl) ?_
        refine ag_getI (q := 261) rfl rfl fl_Laws_24 rfl (LW.o h_w) ?_
        obtain ⟨bd_26, h⟩ := h
        refine ag_iastore (q := 262) (N := 400) rfl rfl (LW.a0 h_w) bd_26 ?_
        replace h := h _ rfl
        refine aw_goto (tgt := 297) rfl (by decide) ?_
        refine aw_ls [0, 1, 2] rfl ?_
        exact h
    | 14, _, e => 
      have e : x1 = 17 := Int32.toInt_inj.mp (e.trans (by decide))
      replace h := h.2.2.2.2.2.2.2.2.2.2.2.2.2.2.1 e
      refine aw_tableEq (tgt := 279) rfl e (by decide) (by decide) rfl (by decide) ?_
      refine aw_iload_n (q := 280) (j := 1) rfl rfl rfl (List.mem_of_getElem? (i := 1) rfl) ?_
      refine aw_bipush (q := 282) (v := 17) rfl rfl (by decide) ?_
      refine aw_icmp_lt (q := 285) (tgt := 297) rfl rfl (by decide) ⟨fun cd_27 => ?_, fun cd_27 => ?_⟩
      · replace h := h.1 cd_27
        refine aw_ls [0, 1, 2] rfl ?_
        exact h
      · replace h := h.2 cd_27
        refine aw_iload_n (q := 286) (j := 1) rfl rfl rfl (List.mem_of_getElem? (i := 1) rfl) ?_
        refine aw_bipush (q := 288) (v := 23) rfl rfl (by decide) ?_
        refine aw_icmp_gt (q := 291) (tgt := 297) rfl rfl (by decide) ⟨fun cd_28 => ?_, fun cd_28 => ?_⟩
        · replace h := h.1 cd_28
          refine aw_ls [0, 1, 2] rfl ?_
          exact h
        · replace h := h.2 cd_28
          refine aw_aload_n (q := 292) (j := 0) rfl rfl rfl (List.mem_of_getElem? (i := 0) rfl) ?_
          refine aw_iload_n (q := 293) (j := 1) rfl rfl rfl (List.mem_of_getElem? (i := 1) rfl) ?_
          refine aw_ineg (q := 294) rfl rfl ?_
          refine ag_cvV (z := m_Laws_addStep) (ci := 3) (av := [.int _]) (st := []) (q := 297) (k' := 0) (n' := 0) rfl rfl cv_Laws_50 ⟨by decide, by decide⟩ rfl rfl (by decide) (by decide) (LW.o h_w) rfl rfl rfl (Nat.le_of_ble_eq_true rfl) ?_
          refine GV.mono h (fun t20_ h => ?_)
          refine aw_ls [0, 1, 2] rfl ?_
          exact h
    | 15, _, e => 
      have e : x1 = 18 := Int32.toInt_inj.mp (e.trans (by decide))
      replace h := h.2.2.2.2.2.2.2.2.2.2.2.2.2.2.2.1 e
      refine aw_tableEq (tgt := 279) rfl e (by decide) (by decide) rfl (by decide) ?_
      refine aw_iload_n (q := 280) (j := 1) rfl rfl rfl (List.mem_of_getElem? (i := 1) rfl) ?_
      refine aw_bipush (q := 282) (v := 17) rfl rfl (by decide) ?_
      refine aw_icmp_lt (q := 285) (tgt := 297) rfl rfl (by decide) ⟨fun cd_29 => ?_, fun cd_29 => ?_⟩
      · replace h := h.1 cd_29
        refine aw_ls [0, 1, 2] rfl ?_
        exact h
      · replace h := h.2 cd_29
        refine aw_iload_n (q := 286) (j := 1) rfl rfl rfl (List.mem_of_getElem? (i := 1) rfl) ?_
        refine aw_bipush (q := 288) (v := 23) rfl rfl (by decide) ?_
        refine aw_icmp_gt (q := 291) (tgt := 297) rfl rfl (by decide) ⟨fun cd_30 => ?_, fun cd_30 => ?_⟩
        · replace h := h.1 cd_30
          refine aw_ls [0, 1, 2] rfl ?_
          exact h
        · replace h := h.2 cd_30
          refine aw_aload_n (q := 292) (j := 0) rfl rfl rfl (List.mem_of_getElem? (i := 0) rfl) ?_
          refine aw_iload_n (q := 293) (j := 1) rfl rfl rfl (List.mem_of_getElem? (i := 1) rfl) ?_
          refine aw_ineg (q := 294) rfl rfl ?_
          refine ag_cvV (z := m_Laws_addStep) (ci := 3) (av := [.int _]) (st := []) (q := 297) (k' := 0) (n' := 0) rfl rfl cv_Laws_50 ⟨by decide, by decide⟩ rfl rfl (by decide) (by decide) (LW.o h_w) rfl rfl rfl (Nat.le_of_ble_eq_true rfl) ?_
          refine GV.mono h (fun t21_ h => ?_)
          refine aw_ls [0, 1, 2] rfl ?_
          exact h
    | 16, _, e => 
      have e : x1 = 19 := Int32.toInt_inj.mp (e.trans (by decide))
      replace h := h.2.2.2.2.2.2.2.2.2.2.2.2.2.2.2.2.1 e
      refine aw_tableEq (tgt := 279) rfl e (by decide) (by decide) rfl (by decide) ?_
      refine aw_iload_n (q := 280) (j := 1) rfl rfl rfl (List.mem_of_getElem? (i := 1) rfl) ?_
      refine aw_bipush (q := 282) (v := 17) rfl rfl (by decide) ?_
      refine aw_icmp_lt (q := 285) (tgt := 297) rfl rfl (by decide) ⟨fun cd_31 => ?_, fun cd_31 => ?_⟩
      · replace h := h.1 cd_31
        refine aw_ls [0, 1, 2] rfl ?_
        exact h
      · replace h := h.2 cd_31
        refine aw_iload_n (q := 286) (j := 1) rfl rfl rfl (List.mem_of_getElem? (i := 1) rfl) ?_
        refine aw_bipush (q := 288) (v := 23) rfl rfl (by decide) ?_
        refine aw_icmp_gt (q := 291) (tgt := 297) rfl rfl (by decide) ⟨fun cd_32 => ?_, fun cd_32 => ?_⟩
        · replace h := h.1 cd_32
          refine aw_ls [0, 1, 2] rfl ?_
          exact h
        · replace h := h.2 cd_32
          refine aw_aload_n (q := 292) (j := 0) rfl rfl rfl (List.mem_of_getElem? (i := 0) rfl) ?_
          refine aw_iload_n (q := 293) (j := 1) rfl rfl rfl (List.mem_of_getElem? (i := 1) rfl) ?_
          refine aw_ineg (q := 294) rfl rfl ?_
          refine ag_cvV (z := m_Laws_addStep) (ci := 3) (av := [.int _]) (st := []) (q := 297) (k' := 0) (n' := 0) rfl rfl cv_Laws_50 ⟨by decide, by decide⟩ rfl rfl (by decide) (by decide) (LW.o h_w) rfl rfl rfl (Nat.le_of_ble_eq_true rfl) ?_
          refine GV.mono h (fun t22_ h => ?_)
          refine aw_ls [0, 1, 2] rfl ?_
          exact h
    | 17, _, e => 
      have e : x1 = 20 := Int32.toInt_inj.mp (e.trans (by decide))
      replace h := h.2.2.2.2.2.2.2.2.2.2.2.2.2.2.2.2.2.1 e
      refine aw_tableEq (tgt := 279) rfl e (by decide) (by decide) rfl (by decide) ?_
      refine aw_iload_n (q := 280) (j := 1) rfl rfl rfl (List.mem_of_getElem? (i := 1) rfl) ?_
      refine aw_bipush (q := 282) (v := 17) rfl rfl (by decide) ?_
      refine aw_icmp_lt (q := 285) (tgt := 297) rfl rfl (by decide) ⟨fun cd_33 => ?_, fun cd_33 => ?_⟩
      · replace h := h.1 cd_33
        refine aw_ls [0, 1, 2] rfl ?_
        exact h
      · replace h := h.2 cd_33
        refine aw_iload_n (q := 286) (j := 1) rfl rfl rfl (List.mem_of_getElem? (i := 1) rfl) ?_
        refine aw_bipush (q := 288) (v := 23) rfl rfl (by decide) ?_
        refine aw_icmp_gt (q := 291) (tgt := 297) rfl rfl (by decide) ⟨fun cd_34 => ?_, fun cd_34 => ?_⟩
        · replace h := h.1 cd_34
          refine aw_ls [0, 1, 2] rfl ?_
          exact h
        · replace h := h.2 cd_34
          refine aw_aload_n (q := 292) (j := 0) rfl rfl rfl (List.mem_of_getElem? (i := 0) rfl) ?_
          refine aw_iload_n (q := 293) (j := 1) rfl rfl rfl (List.mem_of_getElem? (i := 1) rfl) ?_
          refine aw_ineg (q := 294) rfl rfl ?_
          refine ag_cvV (z := m_Laws_addStep) (ci := 3) (av := [.int _]) (st := []) (q := 297) (k' := 0) (n' := 0) rfl rfl cv_Laws_50 ⟨by decide, by decide⟩ rfl rfl (by decide) (by decide) (LW.o h_w) rfl rfl rfl (Nat.le_of_ble_eq_true rfl) ?_
          refine GV.mono h (fun t23_ h => ?_)
          refine aw_ls [0, 1, 2] rfl ?_
          exact h
    | 18, _, e => 
      have e : x1 = 21 := Int32.toInt_inj.mp (e.trans (by decide))
      replace h := h.2.2.2.2.2.2.2.2.2.2.2.2.2.2.2.2.2.2.1 e
      refine aw_tableEq (tgt := 279) rfl e (by decide) (by decide) rfl (by decide) ?_
      refine aw_iload_n (q := 280) (j := 1) rfl rfl rfl (List.mem_of_getElem? (i := 1) rfl) ?_
      refine aw_bipush (q := 282) (v := 17) rfl rfl (by decide) ?_
      refine aw_icmp_lt (q := 285) (tgt := 297) rfl rfl (by decide) ⟨fun cd_35 => ?_, fun cd_35 => ?_⟩
      · replace h := h.1 cd_35
        refine aw_ls [0, 1, 2] rfl ?_
        exact h
      · replace h := h.2 cd_35
        refine aw_iload_n (q := 286) (j := 1) rfl rfl rfl (List.mem_of_getElem? (i := 1) rfl) ?_
        refine aw_bipush (q := 288) (v := 23) rfl rfl (by decide) ?_
        refine aw_icmp_gt (q := 291) (tgt := 297) rfl rfl (by decide) ⟨fun cd_36 => ?_, fun cd_36 => ?_⟩
        · replace h := h.1 cd_36
          refine aw_ls [0, 1, 2] rfl ?_
          exact h
        · replace h := h.2 cd_36
          refine aw_aload_n (q := 292) (j := 0) rfl rfl rfl (List.mem_of_getElem? (i := 0) rfl) ?_
          refine aw_iload_n (q := 293) (j := 1) rfl rfl rfl (List.mem_of_getElem? (i := 1) rfl) ?_
          refine aw_ineg (q := 294) rfl rfl ?_
          refine ag_cvV (z := m_Laws_addStep) (ci := 3) (av := [.int _]) (st := []) (q := 297) (k' := 0) (n' := 0) rfl rfl cv_Laws_50 ⟨by decide, by decide⟩ rfl rfl (by decide) (by decide) (LW.o h_w) rfl rfl rfl (Nat.le_of_ble_eq_true rfl) ?_
          refine GV.mono h (fun t24_ h => ?_)
          refine aw_ls [0, 1, 2] rfl ?_
          exact h
    | 19, _, e => 
      have e : x1 = 22 := Int32.toInt_inj.mp (e.trans (by decide))
      replace h := h.2.2.2.2.2.2.2.2.2.2.2.2.2.2.2.2.2.2.2.1 e
      refine aw_tableEq (tgt := 279) rfl e (by decide) (by decide) rfl (by decide) ?_
      refine aw_iload_n (q := 280) (j := 1) rfl rfl rfl (List.mem_of_getElem? (i := 1) rfl) ?_
      refine aw_bipush (q := 282) (v := 17) rfl rfl (by decide) ?_
      refine aw_icmp_lt (q := 285) (tgt := 297) rfl rfl (by decide) ⟨fun cd_37 => ?_, fun cd_37 => ?_⟩
      · replace h := h.1 cd_37
        refine aw_ls [0, 1, 2] rfl ?_
        exact h
      · replace h := h.2 cd_37
        refine aw_iload_n (q := 286) (j := 1) rfl rfl rfl (List.mem_of_getElem? (i := 1) rfl) ?_
        refine aw_bipush (q := 288) (v := 23) rfl rfl (by decide) ?_
        refine aw_icmp_gt (q := 291) (tgt := 297) rfl rfl (by decide) ⟨fun cd_38 => ?_, fun cd_38 => ?_⟩
        · replace h := h.1 cd_38
          refine aw_ls [0, 1, 2] rfl ?_
          exact h
        · replace h := h.2 cd_38
          refine aw_aload_n (q := 292) (j := 0) rfl rfl rfl (List.mem_of_getElem? (i := 0) rfl) ?_
          refine aw_iload_n (q := 293) (j := 1) rfl rfl rfl (List.mem_of_getElem? (i := 1) rfl) ?_
          refine aw_ineg (q := 294) rfl rfl ?_
          refine ag_cvV (z := m_Laws_addStep) (ci := 3) (av := [.int _]) (st := []) (q := 297) (k' := 0) (n' := 0) rfl rfl cv_Laws_50 ⟨by decide, by decide⟩ rfl rfl (by decide) (by decide) (LW.o h_w) rfl rfl rfl (Nat.le_of_ble_eq_true rfl) ?_
          refine GV.mono h (fun t25_ h => ?_)
          refine aw_ls [0, 1, 2] rfl ?_
          exact h
    | 20, _, e => 
      have e : x1 = 23 := Int32.toInt_inj.mp (e.trans (by decide))
      replace h := h.2.2.2.2.2.2.2.2.2.2.2.2.2.2.2.2.2.2.2.2.1 e
      refine aw_tableEq (tgt := 279) rfl e (by decide) (by decide) rfl (by decide) ?_
      refine aw_iload_n (q := 280) (j := 1) rfl rfl rfl (List.mem_of_getElem? (i := 1) rfl) ?_
      refine aw_bipush (q := 282) (v := 17) rfl rfl (by decide) ?_
      refine aw_icmp_lt (q := 285) (tgt := 297) rfl rfl (by decide) ⟨fun cd_39 => ?_, fun cd_39 => ?_⟩
      · replace h := h.1 cd_39
        refine aw_ls [0, 1, 2] rfl ?_
        exact h
      · replace h := h.2 cd_39
        refine aw_iload_n (q := 286) (j := 1) rfl rfl rfl (List.mem_of_getElem? (i := 1) rfl) ?_
        refine aw_bipush (q := 288) (v := 23) rfl rfl (by decide) ?_
        refine aw_icmp_gt (q := 291) (tgt := 297) rfl rfl (by decide) ⟨fun cd_40 => ?_, fun cd_40 => ?_⟩
        · replace h := h.1 cd_40
          refine aw_ls [0, 1, 2] rfl ?_
          exact h
        · replace h := h.2 cd_40
          refine aw_aload_n (q := 292) (j := 0) rfl rfl rfl (List.mem_of_getElem? (i := 0) rfl) ?_
          refine aw_iload_n (q := 293) (j := 1) rfl rfl rfl (List.mem_of_getElem? (i := 1) rfl) ?_
          refine aw_ineg (q := 294) rfl rfl ?_
          refine ag_cvV (z := m_Laws_addStep) (ci := 3) (av := [.int _]) (st := []) (q := 297) (k' := 0) (n' := 0) rfl rfl cv_Laws_50 ⟨by decide, by decide⟩ rfl rfl (by decide) (by decide) (LW.o h_w) rfl rfl rfl (Nat.le_of_ble_eq_true rfl) ?_
          refine GV.mono h (fun t26_ h => ?_)
          refine aw_ls [0, 1, 2] rfl ?_
          exact h
    | 21, _, e => 
      have e : x1 = 24 := Int32.toInt_inj.mp (e.trans (by decide))
      replace h := h.2.2.2.2.2.2.2.2.2.2.2.2.2.2.2.2.2.2.2.2.2.1 e
      refine aw_tableEq (tgt := 265) rfl e (by decide) (by decide) rfl (by decide) ?_
      refine aw_aload_n (q := 266) (j := 0) rfl rfl rfl (List.mem_of_getElem? (i := 0) rfl) ?_
      refine aw_iconst (q := 267) (v := 0) rfl rfl (by decide) ?_
      refine ag_cvV (z := m_Laws_writeWaiting) (ci := 3) (av := [.int _]) (st := []) (q := 270) (k' := 0) (n' := 0) rfl rfl cv_Laws_57 ⟨by decide, by decide⟩ rfl rfl (by decide) (by decide) (LW.o h_w) rfl rfl rfl (Nat.le_of_ble_eq_true rfl) ?_
      refine GV.mono h (fun t27_ h => ?_)
      refine aw_aload_n (q := 271) (j := 0) rfl rfl rfl (List.mem_of_getElem? (i := 0) rfl) ?_
      refine aw_bipush (q := 273) (v := (-24)) rfl rfl (by decide) ?_
      refine ag_cvV (z := m_Laws_addStep) (ci := 3) (av := [.int _]) (st := []) (q := 276) (k' := 0) (n' := 0) rfl rfl cv_Laws_50 ⟨by decide, by decide⟩ rfl rfl (by decide) (by decide) (LW.o h_w) rfl rfl rfl (Nat.le_of_ble_eq_true rfl) ?_
      refine GV.mono h (fun t28_ h => ?_)
      refine aw_goto (tgt := 297) rfl (by decide) ?_
      refine aw_ls [0, 1, 2] rfl ?_
      exact h
    | 22, _, e => 
      have e : x1 = 25 := Int32.toInt_inj.mp (e.trans (by decide))
      replace h := h.2.2.2.2.2.2.2.2.2.2.2.2.2.2.2.2.2.2.2.2.2.2.1 e
      refine aw_tableEq (tgt := 136) rfl e (by decide) (by decide) rfl (by decide) ?_
      refine aw_goto (tgt := 297) rfl (by decide) ?_
      refine aw_ls [0, 1, 2] rfl ?_
      exact h
    | 23, _, e => 
      have e : x1 = 26 := Int32.toInt_inj.mp (e.trans (by decide))
      replace h := h.2.2.2.2.2.2.2.2.2.2.2.2.2.2.2.2.2.2.2.2.2.2.2.1 e
      refine aw_tableEq (tgt := 177) rfl e (by decide) (by decide) rfl (by decide) ?_
      refine aw_aload_n (q := 178) (j := 0) rfl rfl rfl (List.mem_of_getElem? (i := 0) rfl) ?_
      refine aw_iload_n (q := 179) (j := 1) rfl rfl rfl (List.mem_of_getElem? (i := 1) rfl) ?_
      refine ag_csI (z := m_Laws_rankOf) (av := [.int _]) (st := [.ref _]) (q := 182) (k' := 0) (n' := 0) rfl rfl cs_Laws_66 ⟨by decide, by decide⟩ rfl rfl (by decide) (by decide) rfl rfl (Nat.le_of_ble_eq_true rfl) ?_
      refine GI.mono h (fun y29_ t29_ h => ?_)
      refine ag_cvV (z := m_Laws_writeWaiting) (ci := 3) (av := [.int _]) (st := []) (q := 185) (k' := 0) (n' := 0) rfl rfl cv_Laws_57 ⟨by decide, by decide⟩ rfl rfl (by decide) (by decide) (LW.o h_w) rfl rfl rfl (Nat.le_of_ble_eq_true rfl) ?_
      refine GV.mono h (fun t30_ h => ?_)
      refine aw_aload_n (q := 186) (j := 0) rfl rfl rfl (List.mem_of_getElem? (i := 0) rfl) ?_
      refine aw_iload_n (q := 187) (j := 1) rfl rfl rfl (List.mem_of_getElem? (i := 1) rfl) ?_
      refine ag_cvV (z := m_Laws_addWaiting) (ci := 3) (av := [.int _]) (st := []) (q := 190) (k' := 0) (n' := 0) rfl rfl cv_Laws_54 ⟨by decide, by decide⟩ rfl rfl (by decide) (by decide) (LW.o h_w) rfl rfl rfl (Nat.le_of_ble_eq_true rfl) ?_
      refine GV.mono h (fun t31_ h => ?_)
      refine aw_goto (tgt := 297) rfl (by decide) ?_
      refine aw_ls [0, 1, 2] rfl ?_
      exact h
    | 24, _, e => 
      have e : x1 = 27 := Int32.toInt_inj.mp (e.trans (by decide))
      replace h := h.2.2.2.2.2.2.2.2.2.2.2.2.2.2.2.2.2.2.2.2.2.2.2.2.1 e
      refine aw_tableEq (tgt := 177) rfl e (by decide) (by decide) rfl (by decide) ?_
      refine aw_aload_n (q := 178) (j := 0) rfl rfl rfl (List.mem_of_getElem? (i := 0) rfl) ?_
      refine aw_iload_n (q := 179) (j := 1) rfl rfl rfl (List.mem_of_getElem? (i := 1) rfl) ?_
      refine ag_csI (z := m_Laws_rankOf) (av := [.int _]) (st := [.ref _]) (q := 182) (k' := 0) (n' := 0) rfl rfl cs_Laws_66 ⟨by decide, by decide⟩ rfl rfl (by decide) (by decide) rfl rfl (Nat.le_of_ble_eq_true rfl) ?_
      refine GI.mono h (fun y32_ t32_ h => ?_)
      refine ag_cvV (z := m_Laws_writeWaiting) (ci := 3) (av := [.int _]) (st := []) (q := 185) (k' := 0) (n' := 0) rfl rfl cv_Laws_57 ⟨by decide, by decide⟩ rfl rfl (by decide) (by decide) (LW.o h_w) rfl rfl rfl (Nat.le_of_ble_eq_true rfl) ?_
      refine GV.mono h (fun t33_ h => ?_)
      refine aw_aload_n (q := 186) (j := 0) rfl rfl rfl (List.mem_of_getElem? (i := 0) rfl) ?_
      refine aw_iload_n (q := 187) (j := 1) rfl rfl rfl (List.mem_of_getElem? (i := 1) rfl) ?_
      refine ag_cvV (z := m_Laws_addWaiting) (ci := 3) (av := [.int _]) (st := []) (q := 190) (k' := 0) (n' := 0) rfl rfl cv_Laws_54 ⟨by decide, by decide⟩ rfl rfl (by decide) (by decide) (LW.o h_w) rfl rfl rfl (Nat.le_of_ble_eq_true rfl) ?_
      refine GV.mono h (fun t34_ h => ?_)
      refine aw_goto (tgt := 297) rfl (by decide) ?_
      refine aw_ls [0, 1, 2] rfl ?_
      exact h
    | 25, _, e => 
      have e : x1 = 28 := Int32.toInt_inj.mp (e.trans (by decide))
      replace h := h.2.2.2.2.2.2.2.2.2.2.2.2.2.2.2.2.2.2.2.2.2.2.2.2.2.1 e
      refine aw_tableEq (tgt := 177) rfl e (by decide) (by decide) rfl (by decide) ?_
      refine aw_aload_n (q := 178) (j := 0) rfl rfl rfl (List.mem_of_getElem? (i := 0) rfl) ?_
      refine aw_iload_n (q := 179) (j := 1) rfl rfl rfl (List.mem_of_getElem? (i := 1) rfl) ?_
      refine ag_csI (z := m_Laws_rankOf) (av := [.int _]) (st := [.ref _]) (q := 182) (k' := 0) (n' := 0) rfl rfl cs_Laws_66 ⟨by decide, by decide⟩ rfl rfl (by decide) (by decide) rfl rfl (Nat.le_of_ble_eq_true rfl) ?_
      refine GI.mono h (fun y35_ t35_ h => ?_)
      refine ag_cvV (z := m_Laws_writeWaiting) (ci := 3) (av := [.int _]) (st := []) (q := 185) (k' := 0) (n' := 0) rfl rfl cv_Laws_57 ⟨by decide, by decide⟩ rfl rfl (by decide) (by decide) (LW.o h_w) rfl rfl rfl (Nat.le_of_ble_eq_true rfl) ?_
      refine GV.mono h (fun t36_ h => ?_)
      refine aw_aload_n (q := 186) (j := 0) rfl rfl rfl (List.mem_of_getElem? (i := 0) rfl) ?_
      refine aw_iload_n (q := 187) (j := 1) rfl rfl rfl (List.mem_of_getElem? (i := 1) rfl) ?_
      refine ag_cvV (z := m_Laws_addWaiting) (ci := 3) (av := [.int _]) (st := []) (q := 190) (k' := 0) (n' := 0) rfl rfl cv_Laws_54 ⟨by decide, by decide⟩ rfl rfl (by decide) (by decide) (LW.o h_w) rfl rfl rfl (Nat.le_of_ble_eq_true rfl) ?_
      refine GV.mono h (fun t37_ h => ?_)
      refine aw_goto (tgt := 297) rfl (by decide) ?_
      refine aw_ls [0, 1, 2] rfl ?_
      exact h
    | 26, _, e => 
      have e : x1 = 29 := Int32.toInt_inj.mp (e.trans (by decide))
      replace h := h.2.2.2.2.2.2.2.2.2.2.2.2.2.2.2.2.2.2.2.2.2.2.2.2.2.2.1 e
      refine aw_tableEq (tgt := 177) rfl e (by decide) (by decide) rfl (by decide) ?_
      refine aw_aload_n (q := 178) (j := 0) rfl rfl rfl (List.mem_of_getElem? (i := 0) rfl) ?_
      refine aw_iload_n (q := 179) (j := 1) rfl rfl rfl (List.mem_of_getElem? (i := 1) rfl) ?_
      refine ag_csI (z := m_Laws_rankOf) (av := [.int _]) (st := [.ref _]) (q := 182) (k' := 0) (n' := 0) rfl rfl cs_Laws_66 ⟨by decide, by decide⟩ rfl rfl (by decide) (by decide) rfl rfl (Nat.le_of_ble_eq_true rfl) ?_
      refine GI.mono h (fun y38_ t38_ h => ?_)
      refine ag_cvV (z := m_Laws_writeWaiting) (ci := 3) (av := [.int _]) (st := []) (q := 185) (k' := 0) (n' := 0) rfl rfl cv_Laws_57 ⟨by decide, by decide⟩ rfl rfl (by decide) (by decide) (LW.o h_w) rfl rfl rfl (Nat.le_of_ble_eq_true rfl) ?_
      refine GV.mono h (fun t39_ h => ?_)
      refine aw_aload_n (q := 186) (j := 0) rfl rfl rfl (List.mem_of_getElem? (i := 0) rfl) ?_
      refine aw_iload_n (q := 187) (j := 1) rfl rfl rfl (List.mem_of_getElem? (i := 1) rfl) ?_
      refine ag_cvV (z := m_Laws_addWaiting) (ci := 3) (av := [.int _]) (st := []) (q := 190) (k' := 0) (n' := 0) rfl rfl cv_Laws_54 ⟨by decide, by decide⟩ rfl rfl (by decide) (by decide) (LW.o h_w) rfl rfl rfl (Nat.le_of_ble_eq_true rfl) ?_
      refine GV.mono h (fun t40_ h => ?_)
      refine aw_goto (tgt := 297) rfl (by decide) ?_
      refine aw_ls [0, 1, 2] rfl ?_
      exact h
    | 27, _, e => 
      have e : x1 = 30 := Int32.toInt_inj.mp (e.trans (by decide))
      replace h := h.2.2.2.2.2.2.2.2.2.2.2.2.2.2.2.2.2.2.2.2.2.2.2.2.2.2.2.1 e
      refine aw_tableEq (tgt := 193) rfl e (by decide) (by decide) rfl (by decide) ?_
      refine aw_aload_n (q := 194) (j := 0) rfl rfl rfl (List.mem_of_getElem? (i := 0) rfl) ?_
      refine aw_iconst (q := 195) (v := 0) rfl rfl (by decide) ?_
      refine ag_cvV (z := m_Laws_writeWaiting) (ci := 3) (av := [.int _]) (st := []) (q := 198) (k' := 0) (n' := 0) rfl rfl cv_Laws_57 ⟨by decide, by decide⟩ rfl rfl (by decide) (by decide) (LW.o h_w) rfl rfl rfl (Nat.le_of_ble_eq_true rfl) ?_
      refine GV.mono h (fun t41_ h => ?_)
      refine aw_goto (tgt := 297) rfl (by decide) ?_
      refine aw_ls [0, 1, 2] rfl ?_
      exact h
    | 28, _, e => 
      have e : x1 = 31 := Int32.toInt_inj.mp (e.trans (by decide))
      replace h := h.2.2.2.2.2.2.2.2.2.2.2.2.2.2.2.2.2.2.2.2.2.2.2.2.2.2.2.2.1 e
      refine aw_tableEq (tgt := 147) rfl e (by decide) (by decide) rfl (by decide) ?_
      refine aw_aload_n (q := 148) (j := 0) rfl rfl rfl (List.mem_of_getElem? (i := 0) rfl) ?_
      refine aw_iload_n (q := 149) (j := 1) rfl rfl rfl (List.mem_of_getElem? (i := 1) rfl) ?_
      refine ag_cvV (z := m_Laws_addWaiting) (ci := 3) (av := [.int _]) (st := []) (q := 152) (k' := 0) (n' := 0) rfl rfl cv_Laws_54 ⟨by decide, by decide⟩ rfl rfl (by decide) (by decide) (LW.o h_w) rfl rfl rfl (Nat.le_of_ble_eq_true rfl) ?_
      refine GV.mono h (fun t42_ h => ?_)
      refine aw_goto (tgt := 297) rfl (by decide) ?_
      refine aw_ls [0, 1, 2] rfl ?_
      exact h
    | 29, _, e => 
      have e : x1 = 32 := Int32.toInt_inj.mp (e.trans (by decide))
      replace h := h.2.2.2.2.2.2.2.2.2.2.2.2.2.2.2.2.2.2.2.2.2.2.2.2.2.2.2.2.2 e
      refine aw_tableEq (tgt := 155) rfl e (by decide) (by decide) rfl (by decide) ?_
      refine aw_aload_n (q := 156) (j := 0) rfl rfl rfl (List.mem_of_getElem? (i := 0) rfl) ?_
      refine aw_iconst (q := 157) (v := 0) rfl rfl (by decide) ?_
      refine ag_cvV (z := m_Laws_writeWaiting) (ci := 3) (av := [.int _]) (st := []) (q := 160) (k' := 0) (n' := 0) rfl rfl cv_Laws_57 ⟨by decide, by decide⟩ rfl rfl (by decide) (by decide) (LW.o h_w) rfl rfl rfl (Nat.le_of_ble_eq_true rfl) ?_
      refine GV.mono h (fun t43_ h => ?_)
      refine aw_aload_n (q := 161) (j := 0) rfl rfl rfl (List.mem_of_getElem? (i := 0) rfl) ?_
      refine aw_iconst (q := 162) (v := 0) rfl rfl (by decide) ?_
      refine aw_aload_n (q := 163) (j := 0) rfl rfl rfl (List.mem_of_getElem? (i := 0) rfl) ?_
      refine ag_getI (q := 166) rfl rfl fl_Laws_28 rfl (LW.o h_w) ?_
      refine aw_iconst (q := 167) (v := 1) rfl rfl (by decide) ?_
      refine aw_isub (q := 168) rfl rfl ?_
      refine aw_mmax (q := 171) rfl rfl (tb_c4 98 rfl rfl) (tb_c3 176 rfl rfl) (tb_c1 18 rfl rfl) (tb_c3 177 rfl rfl) (by decide) (by decide) (by decide) (by decide) (Nat.le_of_ble_eq_true rfl) ?_
      refine ag_putI (q := 174) rfl rfl fl_Laws_28 rfl rfl (LW.o h_w) ?_
      replace h := h _ rfl
      refine aw_goto (tgt := 297) rfl (by decide) ?_
      refine aw_ls [0, 1, 2] rfl ?_
      exact h
    | j + 30, hj, _ => exact absurd hj (by omega)
