/-! TOKENS of the class: signs, add, scan -/
section Scan2
variable {E : EN} {g : GS} {s : MS} {T : Nat → Nat} {L : Nat}
def sgx (c : Nat) : Nat := sgs.findIdx (fun x => x == c)
theorem sgx_of : ∀ j, j < 9 → sgx (sgs.getD j 0) = j := by decide +kernel
theorem sgx_b : ∀ c, c < 256 → ∀ j, j < 9 → ((strBs.getD 1 []).getD j 0 = (Int32.toInt8 (nI c)).toInt32 ↔ sgs.getD j 0 = c) := by decide +kernel
theorem sgx_no : ∀ c, c < 256 → (∀ j, j < 9 → sgs.getD j 0 ≠ c) → sgx c = 9 := by decide +kernel
theorem f_indexOf {R : Int32 → MS → Prop} {c : Nat} (hc : c < 256) (h0 : sgx c = 9 → R (-1) s) (h1 : sgx c < 9 → R (nI (sgx c)) s) : GI E m_Str_indexOf [.ref 3, .int (nI c)] g s R := by
  have l9 : (Int32.ofNat (strN.getD 1 0)) >>> ((0 : Int32) &&& 31) = 9 := by decide +kernel
  have o9 : Int32.ofNat (strN.getD 1 0) = 9 := by decide +kernel
  have n9 : strN.getD 1 0 = 9 := by decide +kernel
  refine v_Str_indexOf (Q := qI g R) 1 _ (by omega) ?_
  refine v_Str_indexOf2 (Q := qI g _) 1 _ _ (by omega) ?_
  refine v_Str_isLatin1 (Q := qI g _) 1 (by omega) (GI.r ⟨fun z => absurd z (by decide), fun _ => ?_⟩)
  refine v_Str_length (Q := qI g _) 1 (by omega) ?_
  refine v_Str_coder (Q := qI g _) 1 (by omega) ⟨by decide +kernel, GI.r ?_⟩
  rw [l9]
  refine GI.r ?_
  refine v_Lat_indexOf (Q := qI g _) 1 _ _ _ (by omega) ?_
  rw [o9]
  refine v_Lat_canEncode (Q := qI g _) _ (pk_lt c 0 (fun q => absurd q (by omega)) (fun _ => pk_lt 255 c (fun q => absurd q (by omega)) (fun _ => GI.r ⟨fun z => absurd z (by decide), fun _ => ⟨fun _ => ?_, fun z => absurd (by decide) z⟩⟩)))
  rw [show (if (0 : Int32) < 0 then (0 : Int32) else 0) = nI 0 from by decide, show (if (9 : Int32) < 9 then (9 : Int32) else 9) = nI 9 from by decide]
  refine v_Lat_indexOfChar (Q := qI g _) 1 _ _ _ ?_
  refine upto (P := fun j => (∀ x, x < j → sgs.getD x 0 ≠ c) → AWP E m_Lat_indexOfChar 7 0 0 [(0, .ref (8 + 1)), (1, .int (nI c)), (2, .int (nI 0)), (3, .int (nI 9)), (4, .int ((Int32.toInt8 (nI c)).toInt32)), (5, .int (nI j))] [] (mk g s) (qI g _)) 9 ?_ ?_ 0 (Nat.zero_le _) (fun x hx => absurd hx (by omega))
  · intro a
    exact v_Lat_indexOfChar_7 1 _ _ _ _ _ (by omega) (pk_le 9 9 (fun _ => GI.r (GI.r (GI.r (GI.r (h0 (sgx_no c hc a)))))) (fun q => absurd q (by omega)))
  · intro j hj ih a
    refine v_Lat_indexOfChar_7 1 _ _ _ _ _ (by omega) (pk_le 9 j (fun q => absurd q (by omega)) (fun _ => ⟨vp_in_nI (by omega) (by omega), ?_⟩))
    rw [tn_n (by omega), nI_1 j]
    refine ⟨fun z => GI.r (GI.r (GI.r (GI.r ?_))), fun z => ih (fun x hx => ?_)⟩
    · have e := (sgx_b c hc j hj).mp z
      have e2 := sgx_of j hj
      rw [e] at e2
      rw [e2] at h1
      exact h1 hj
    · by_cases y : x = j
      · rw [y]; exact fun w => z ((sgx_b c hc j hj).mpr w)
      · exact a x (by omega)
/-- what adding a token does -/
def AdQ (κ : Int32) (v : Int64) (p : Int32) (M : Nat) (s u : MS) : Prop := u.1 18 3 = nI (M + 1) ∧ u.1 19 M = κ ∧ (∀ j, j ≠ M → u.1 19 j = s.1 19 j) ∧ u.1 20 M = p ∧ (∀ j, j ≠ M → u.1 20 j = s.1 20 j) ∧ u.2 21 M = v ∧ (∀ j, j ≠ M → u.2 21 j = s.2 21 j)
def FTk (s u : MS) : Prop := (∀ a, ¬ (18 ≤ a ∧ a < 21) → u.1 a = s.1 a) ∧ (∀ j, j ≠ 3 → u.1 18 j = s.1 18 j) ∧ ∀ a, a ≠ 21 → u.2 a = s.2 a
theorem FTk.rf (s : MS) : FTk s s := ⟨fun _ _ => rfl, fun _ _ => rfl, fun _ _ => rfl⟩
theorem FTk.tr {s u v : MS} (h : FTk s u) (k : FTk u v) : FTk s v := ⟨fun a ha => (k.1 a ha).trans (h.1 a ha), fun j hj => (k.2.1 j hj).trans (h.2.1 j hj), fun a ha => (k.2.2 a ha).trans (h.2.2 a ha)⟩
theorem adq1 {κ : Int32} {v : Int64} {p : Int32} {M : Nat} : AdQ κ v p M s (wi (wl (wi (wl (wi s 20 M p) 21 M 0) 19 M κ) 21 M v) 18 3 (nI (M + 1))) ∧ FTk s (wi (wl (wi (wl (wi s 20 M p) 21 M 0) 19 M κ) 21 M v) 18 3 (nI (M + 1))) := by
  refine ⟨⟨?_, ?_, fun j hj => ?_, ?_, fun j hj => ?_, ?_, fun j hj => ?_⟩, ⟨fun a ha => ?_, fun j hj => ?_, fun a ha => ?_⟩⟩
  · rw [wi_s, upd_s]
  · rw [wi_n _ _ _ (by decide), wl_1, wi_s, upd_s]
  · rw [wi_n _ _ _ (by decide), wl_1, wi_s, upd_n _ _ hj, wl_1, wi_n _ _ _ (by decide)]
  · rw [wi_n _ _ _ (by decide), wl_1, wi_n _ _ _ (by decide), wl_1, wi_s, upd_s]
  · rw [wi_n _ _ _ (by decide), wl_1, wi_n _ _ _ (by decide), wl_1, wi_s, upd_n _ _ hj]
  · rw [wi_2, wl_s, updL_s]
  · rw [wi_2, wl_s, updL_n _ _ hj, wi_2, wl_s, updL_n _ _ hj, wi_2]
  · rw [wi_n _ _ _ (by omega), wl_1, wi_n _ _ _ (by omega), wl_1, wi_n _ _ _ (by omega)]
  · rw [wi_s, upd_n _ _ hj, wl_1, wi_n _ _ _ (by decide), wl_1, wi_n _ _ _ (by decide)]
  · rw [wi_2, wl_n _ _ _ ha, wi_2, wl_n _ _ _ ha, wi_2]
theorem adq0 {κ : Int32} {p : Int32} {M : Nat} : AdQ κ 0 p M s (wi (wi (wl (wi s 20 M p) 21 M 0) 19 M κ) 18 3 (nI (M + 1))) ∧ FTk s (wi (wi (wl (wi s 20 M p) 21 M 0) 19 M κ) 18 3 (nI (M + 1))) := by
  refine ⟨⟨?_, ?_, fun j hj => ?_, ?_, fun j hj => ?_, ?_, fun j hj => ?_⟩, ⟨fun a ha => ?_, fun j hj => ?_, fun a ha => ?_⟩⟩
  · rw [wi_s, upd_s]
  · rw [wi_n _ _ _ (by decide), wi_s, upd_s]
  · rw [wi_n _ _ _ (by decide), wi_s, upd_n _ _ hj, wl_1, wi_n _ _ _ (by decide)]
  · rw [wi_n _ _ _ (by decide), wi_n _ _ _ (by decide), wl_1, wi_s, upd_s]
  · rw [wi_n _ _ _ (by decide), wi_n _ _ _ (by decide), wl_1, wi_s, upd_n _ _ hj]
  · rw [wi_2, wi_2, wl_s, updL_s]
  · rw [wi_2, wi_2, wl_s, updL_n _ _ hj, wi_2]
  · rw [wi_n _ _ _ (by omega), wi_n _ _ _ (by omega), wl_1, wi_n _ _ _ (by omega)]
  · rw [wi_s, upd_n _ _ hj, wi_n _ _ _ (by decide), wl_1, wi_n _ _ _ (by decide)]
  · rw [wi_2, wi_2, wl_n _ _ _ ha, wi_2]
theorem TP.mv {u : MS} (h : TP T L s) (k : u.1 17 = s.1 17) : TP T L u := ⟨h.1, h.2.1, by rw [k]; exact h.2.2⟩
theorem f_T_add {R : MS → Prop} {i M : Nat} (hS : SX g) (hT : TP T L s) (hi : i < L) (hM : M ≤ 400) (h3 : s.1 18 3 = nI M) (h : ∀ u, AdQ (nI (tkK T L i)) (lN (tkV T L i)) (nI i) M s u → FTk s u → R u) : GV E m_Tokens_add [.ref 18, .ref 17, .int (nI i), .int (nI (endT T L i))] g s R := by
  have gt := endT_gt T L i
  have le := endT_le T hi
  have l2 := hT.1
  have c256 := hT.2.1 i hi
  refine v_Tokens_add (Q := qV g R) _ _ hS ?_
  rw [h3, tn_n (n := M) (by omega), tn_n (n := i) (by omega), hT.2.2 i hi]
  refine ⟨vp_in_nI (by omega) (by omega), fun s1 e1 s2 e2 => ⟨vp_in_nI (by omega) (by omega), ?_⟩⟩
  have f2 : s2 = wl (wi s 20 M (nI i)) 21 M 0 := by rw [e2, e1]
  have t2 : TP T L s2 := hT.mv (by rw [f2, wl_1, wi_n _ _ _ (by decide)])
  have m2 : s2.1 18 3 = nI M := by rw [f2, wl_1, wi_n _ _ _ (by decide)]; exact h3
  have mi : ∀ n e : Nat, i < e → e ≤ 2000 → n ≤ 8 → (if nI i + nI n < nI e then nI i + nI n else nI e) = nI (i + min (e - i) n) := fun n e h1 h2 h3 => by
    rw [nI_add]
    by_cases q : i + n < e
    · rw [if_pos ((nI_ltI (by omega) (by omega)).mpr q), Nat.min_eq_right (by omega)]
    · rw [if_neg (fun z => q ((nI_ltI (by omega) (by omega)).mp z)), Nat.min_eq_left (by omega), show i + (e - i) = e by omega]
  refine f_T_isL c256 (fun q => ⟨fun _ => ?_, fun z => absurd rfl z⟩) (fun q => ⟨fun z => absurd z (by decide), fun _ => ?_⟩)
  · refine f_T_isD c256 (fun q2 => ⟨fun _ => ?_, fun z => absurd rfl z⟩) (fun q2 => ⟨fun z => absurd z (by decide), fun _ => ?_⟩)
    · have v0 : lN (tkV T L i) = 0 := by unfold tkV; rw [if_neg q, if_neg q2]; rfl
      rw [v0] at h
      have kk : tkK T L i = if sgx (T i) < 9 then 24 + sgx (T i) else 1 := by unfold tkK; rw [if_neg q, if_neg q2]; rfl
      rw [kk] at h
      have vm : vp_in (s2.1 18 3) 402 := by rw [m2]; exact vp_in_nI (by omega) (by omega)
      refine f_indexOf c256 (fun w => ⟨fun z => absurd z (by decide), fun _ => ⟨vm, fun s6 e6 s7 e7 => GV.r ?_⟩⟩) (fun w => ⟨fun _ => ⟨vm, fun s6 e6 s7 e7 => GV.r ?_⟩, fun z => absurd (nI_pos' (by omega)) z⟩)
      · rw [w, if_neg (by omega)] at h
        have := adq0 (s := s) (κ := nI 1) (p := nI i) (M := M)
        rw [m2, tn_n (by omega)] at e6
        rw [m2, nI_1 M] at e7
        rw [e7, e6, f2]; exact h _ this.1 this.2
      · rw [if_pos w] at h
        have := adq0 (s := s) (κ := nI (24 + sgx (T i))) (p := nI i) (M := M)
        rw [m2, tn_n (by omega)] at e6
        rw [m2, nI_1 M] at e7
        rw [e7, e6, f2, show (24 : Int32) = nI 24 from rfl, nI_add]; exact h _ this.1 this.2
    · have dg : ∀ j, i ≤ j → j < endT T L i → isDg (T j) = true := fun j h1 h2 => endT_D q2 q h1 h2
      have vv : tkV T L i = nmT 10 48 T i (min (endT T L i - i) 4) := by unfold tkV; rw [if_neg q, if_pos q2]
      have kk : tkK T L i = if 4 < endT T L i - i then 1 else 3 := by unfold tkK; rw [if_neg q, if_pos q2]
      rw [kk, vv] at h
      rw [m2, tn_n (by omega), show (4 : Int32) = nI 4 from rfl, mi 4 _ gt (by omega) (by omega), pk_sub (by omega)]
      have num : ∀ (u : MS) (Rz : Int64 → MS → Prop), TP T L u → Rz (lN (nmT 10 48 T i (min (endT T L i - i) 4))) u → GL E m_Tokens_numberOf [.ref 17, .int (nI i), .int (nI (i + min (endT T L i - i) 4))] g u Rz := fun u Rz tu hz =>
        f_T_numberOf hS tu (by omega) (by omega) (fun j h1 h2 => dg j h1 (by omega)) (by rw [show i + min (endT T L i - i) 4 - i = min (endT T L i - i) 4 by omega]; exact hz)
      refine pk_le (endT T L i - i) 4 (fun w => ⟨vp_in_nI (by omega) (by omega), fun s10 e10 => num _ _ (t2.mv (by rw [e10, wi_n _ _ _ (by decide)])) (fun s12 e12 s13 e13 => GV.r ?_)⟩) (fun w => ⟨vp_in_nI (by omega) (by omega), fun s10 e10 => num _ _ (t2.mv (by rw [e10, wi_n _ _ _ (by decide)])) (fun s12 e12 s13 e13 => GV.r ?_)⟩)
      · rw [if_neg (by omega)] at h
        have := adq1 (s := s) (κ := nI 3) (v := lN (nmT 10 48 T i (min (endT T L i - i) 4))) (p := nI i) (M := M)
        have z3 : s10.1 18 3 = nI M := by rw [e10, wi_n _ _ _ (by decide)]; exact m2
        rw [z3, nI_1 M] at e13
        rw [e13, e12, e10, f2]; exact h _ this.1 this.2
      · rw [if_pos w] at h
        have := adq1 (s := s) (κ := nI 1) (v := lN (nmT 10 48 T i (min (endT T L i - i) 4))) (p := nI i) (M := M)
        have z3 : s10.1 18 3 = nI M := by rw [e10, wi_n _ _ _ (by decide)]; exact m2
        rw [z3, nI_1 M] at e13
        rw [e13, e12, e10, f2]; exact h _ this.1 this.2
  · have lt : ∀ j, i ≤ j → j < endT T L i → isL (T j) = true := fun j h1 h2 => endT_L q h1 h2
    have vv : tkV T L i = nmT 27 96 T i (min (endT T L i - i) 8) := by unfold tkV; rw [if_pos q]
    have kk : tkK T L i = if 8 < endT T L i - i then 1 else if kwx (endT T L i - i) (nmT 27 96 T i (endT T L i - i)) < 20 then 4 + kwx (endT T L i - i) (nmT 27 96 T i (endT T L i - i)) else 2 := by unfold tkK; rw [if_pos q]
    rw [kk, vv] at h
    rw [m2, tn_n (by omega), show (8 : Int32) = nI 8 from rfl, mi 8 _ gt (by omega) (by omega), pk_sub (by omega)]
    have nam : ∀ (u : MS) (Rz : Int64 → MS → Prop), TP T L u → Rz (lN (nmT 27 96 T i (min (endT T L i - i) 8))) u → GL E m_Tokens_nameOf [.ref 17, .int (nI i), .int (nI (i + min (endT T L i - i) 8))] g u Rz := fun u Rz tu hz =>
      f_T_nameOf hS tu (by omega) (by omega) (fun j h1 h2 => lt j h1 (by omega)) (by rw [show i + min (endT T L i - i) 8 - i = min (endT T L i - i) 8 by omega]; exact hz)
    refine pk_le (endT T L i - i) 8 (fun w => ?_) (fun w => ⟨vp_in_nI (by omega) (by omega), fun s10 e10 => nam _ _ (t2.mv (by rw [e10, wi_n _ _ _ (by decide)])) (fun s12 e12 s13 e13 => GV.r ?_)⟩)
    · rw [if_neg (by omega)] at h
      refine f_T_wordOf hS t2 gt le lt ⟨vp_in_nI (by omega) (by omega), fun s10 e10 => nam _ _ (t2.mv (by rw [e10, wi_n _ _ _ (by decide)])) ⟨by rw [m2]; exact vp_in_nI (by omega) (by omega), fun s12 e12 s13 e13 => GV.r ?_⟩⟩
      have := adq1 (s := s) (κ := nI (if kwx (endT T L i - i) (nmT 27 96 T i (endT T L i - i)) < 20 then 4 + kwx (endT T L i - i) (nmT 27 96 T i (endT T L i - i)) else 2)) (v := lN (nmT 27 96 T i (min (endT T L i - i) 8))) (p := nI i) (M := M)
      have z3 : s10.1 18 3 = nI M := by rw [e10, wi_n _ _ _ (by decide)]; exact m2
      rw [z3, nI_1 M] at e13
      rw [m2, tn_n (by omega)] at e12
      rw [e13, e12, e10, f2]; exact h _ this.1 this.2
    · rw [if_pos w] at h
      have := adq1 (s := s) (κ := nI 1) (v := lN (nmT 27 96 T i (min (endT T L i - i) 8))) (p := nI i) (M := M)
      have z3 : s10.1 18 3 = nI M := by rw [e10, wi_n _ _ _ (by decide)]; exact m2
      rw [z3, nI_1 M] at e13
      rw [e13, e12, e10, f2]; exact h _ this.1 this.2
theorem bp_le (T : Nat → Nat) (L : Nat) : ∀ j, bp T L j ≤ L ∨ L ≤ bp T L j
  | _ => by omega
theorem f_T_scan {R : MS → Prop} (hS : SX g) (hT : TP T L s) (h : ∀ u M, TkC T L M u → FTk s u → R u) : GV E m_Tokens_scan [.ref 18, .ref 17, .int (nI L)] g s R := by
  have l2 := hT.1
  refine v_Tokens_scan (Q := qV g R) _ hS (fun s1 e1 => ?_)
  have F1 : FTk s s1 := ⟨fun a ha => by rw [e1, wi_n _ _ _ (by omega)], fun j hj => by rw [e1, wi_s, upd_n _ _ hj], fun a _ => by rw [e1, wi_2]⟩
  have T1 : TP T L s1 := hT.mv (F1.1 17 (by omega))
  refine f_T_blanks (i := 0) hS T1 (Nat.zero_le _) ?_
  have main : ∀ M, M ≤ 401 → ∀ u, bp T L M ≤ L → TP T L u → FTk s u → u.1 18 3 = nI M → (∀ j, j < M → bp T L j < L ∧ u.1 19 j = nI (tkK T L (bp T L j)) ∧ u.1 20 j = nI (bp T L j) ∧ u.2 21 j = lN (tkV T L (bp T L j))) → AWP E m_Tokens_scan 15 0 0 [(0, .ref 18), (1, .ref 17), (2, .int (nI L)), (3, .int (nI (bp T L M))), (4, .int (nI M))] [] (mk g u) (qV g R) := by
    intro M hM
    have fin : ∀ M, M ≤ 401 → ∀ u, FTk s u → u.1 18 3 = nI M → (∀ j, j < M → bp T L j < L ∧ u.1 19 j = nI (tkK T L (bp T L j)) ∧ u.1 20 j = nI (bp T L j) ∧ u.2 21 j = lN (tkV T L (bp T L j))) → (L ≤ bp T L M ∨ M = 401) → ∀ s3, s3 = wi u 19 M 0 → ∀ s4, s4 = wi s3 20 M (nI L) → qV g R none (mk g s4) := by
      intro M hM u a1 a2 a3 a4 s3 e3 s4 e4
      refine GV.r (h s4 M ⟨?_, hM, fun j hj => ?_, ?_, ?_, a4⟩ (a1.tr ⟨fun a ha => ?_, fun j hj => ?_, fun a ha => ?_⟩))
      · rw [e4, wi_n _ _ _ (by decide), e3, wi_n _ _ _ (by decide)]; exact a2
      · have := a3 j hj
        rw [e4, wi_n _ _ _ (by decide), wi_s, upd_n _ _ (by omega), wi_2, e3, wi_s, upd_n _ _ (by omega), wi_n _ _ _ (by decide), wi_2]
        exact this
      · rw [e4, wi_n _ _ _ (by decide), e3, wi_s, upd_s]
      · rw [e4, wi_s, upd_s]
      · rw [e4, wi_n _ _ _ (by omega), e3, wi_n _ _ _ (by omega)]
      · rw [e4, wi_n _ _ _ (by omega), e3, wi_n _ _ _ (by omega)]
      · rw [e4, wi_2, e3, wi_2]
    refine upto (P := fun M => ∀ u, bp T L M ≤ L → TP T L u → FTk s u → u.1 18 3 = nI M → (∀ j, j < M → bp T L j < L ∧ u.1 19 j = nI (tkK T L (bp T L j)) ∧ u.1 20 j = nI (bp T L j) ∧ u.2 21 j = lN (tkV T L (bp T L j))) → AWP E m_Tokens_scan 15 0 0 [(0, .ref 18), (1, .ref 17), (2, .int (nI L)), (3, .int (nI (bp T L M))), (4, .int (nI M))] [] (mk g u) (qV g R)) 401 ?_ ?_ M hM
    · intro u a0 a1 a2 a3 a4
      refine v_Tokens_scan_15 _ _ _ hS ?_
      rw [a3, tn_n (by omega)]
      refine pk_lt 400 401 (fun _ => ⟨vp_in_nI (by omega) (by omega), fin 401 (by omega) u a2 a3 a4 (Or.inr rfl)⟩) (fun z => absurd z (by omega))
    · intro M hM ih u a0 a1 a2 a3 a4
      refine v_Tokens_scan_15 _ _ _ hS ?_
      rw [a3, tn_n (by omega)]
      refine pk_lt 400 M (fun z => absurd z (by omega)) (fun _ => pk_le L (bp T L M) (fun q => ⟨vp_in_nI (by omega) (by omega), fin M (by omega) u a2 a3 a4 (Or.inl q)⟩) (fun q => ?_))
      rw [nI_1 M]
      refine f_T_endOf hS a1 q ?_
      refine f_T_add hS a1 q (by omega) a3 (fun v v1 v2 => ?_)
      have tv : TP T L v := a1.mv (v2.1 17 (by omega))
      refine f_T_blanks hS tv (endT_le T q) ?_
      refine ih v (runT_le isB T (endT_le T q)) tv (a2.tr v2) v1.1 (fun j hj => ?_)
      obtain ⟨w1, w2, w3, w4, w5, w6, w7⟩ := v1
      by_cases z : j = M
      · rw [z]; exact ⟨q, w2, w4, w6⟩
      · rw [w3 j z, w5 j z, w7 j z]; exact a4 j (by omega)
  refine main 0 (by omega) s1 (runT_le isB T (Nat.zero_le _)) T1 F1 (by rw [e1, wi_s, upd_s]; rfl) (fun j hj => absurd hj (by omega))
end Scan2
