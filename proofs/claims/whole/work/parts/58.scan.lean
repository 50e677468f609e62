/-! TOKENS of the class: Tokens.scan -/
section Scan
variable {E : EN} {g : GS} {s : MS} {T : Nat → Nat} {L : Nat}
theorem updL_s (f : Nat → Int64) (k : Nat) (v : Int64) : vp_updL f k v k = v := by simp [vp_updL]
theorem updL_n (f : Nat → Int64) {k j : Nat} (v : Int64) (h : j ≠ k) : vp_updL f k v j = f j := by simp [vp_updL, h]
theorem wl_s (s : MS) (a k : Nat) (v : Int64) : (wl s a k v).2 a = vp_updL (s.2 a) k v := by simp [wl_2]
theorem wl_n (s : MS) {a b : Nat} (k : Nat) (v : Int64) (h : b ≠ a) : (wl s a k v).2 b = s.2 b := by simp [wl_2, h]
def TP (T : Nat → Nat) (L : Nat) (s : MS) : Prop := L ≤ 2000 ∧ (∀ i, i < L → T i < 256) ∧ ∀ i, i < L → s.1 17 i = nI (T i)
theorem f_T_isL {R : Int32 → MS → Prop} {c : Nat} (hc : c < 256) (h0 : ¬ isL c = true → R 0 s) (h1 : isL c = true → R 1 s) : GI E m_Tokens_isLetter [.int (nI c)] g s R := by
  simp only [isL, decide_eq_true_eq] at h0 h1
  exact v_Tokens_isLetter (Q := qI g R) _ (pk_lt c 97 (fun q => GI.r (h0 (by omega))) (fun q => pk_lt 122 c (fun q2 => GI.r (h0 (by omega))) (fun q2 => GI.r (h1 (by omega)))))
theorem f_T_isD {R : Int32 → MS → Prop} {c : Nat} (hc : c < 256) (h0 : ¬ isDg c = true → R 0 s) (h1 : isDg c = true → R 1 s) : GI E m_Tokens_isDigit [.int (nI c)] g s R := by
  simp only [isDg, decide_eq_true_eq] at h0 h1
  exact v_Tokens_isDigit (Q := qI g R) _ (pk_lt c 48 (fun q => GI.r (h0 (by omega))) (fun q => pk_lt 57 c (fun q2 => GI.r (h0 (by omega))) (fun q2 => GI.r (h1 (by omega)))))
theorem f_T_isB {R : Int32 → MS → Prop} {c : Nat} (hc : c < 256) (h0 : ¬ isB c = true → R 0 s) (h1 : isB c = true → R 1 s) : GI E m_Tokens_isBlank [.int (nI c)] g s R := by
  simp only [isB, decide_eq_true_eq] at h0 h1
  exact v_Tokens_isBlank (Q := qI g R) _ (pk_eq c 9 (fun q => GI.r (h1 (by omega))) (fun q => pk_eq c 10 (fun q => GI.r (h1 (by omega))) (fun q => pk_eq c 13 (fun q => GI.r (h1 (by omega))) (fun q => pk_eq c 32 (fun q => GI.r (h1 (by omega))) (fun q => GI.r (h0 (by omega)))))))
theorem f_T_blanks {R : Int32 → MS → Prop} {i : Nat} (hS : SX g) (hT : TP T L s) (hi : i ≤ L) (h : R (nI (runT isB T L i)) s) : GI E m_Tokens_behindBlanks [.ref 17, .int (nI i), .int (nI L)] g s R := by
  obtain ⟨l2, t2, t3⟩ := hT
  refine v_Tokens_behindBlanks (Q := qI g R) _ _ ?_
  refine upto (P := fun k => runT isB T L i = runT isB T L k → AWP E m_Tokens_behindBlanks 2 0 0 [(0, .ref 17), (1, .int (nI i)), (2, .int (nI L)), (3, .int (nI k))] [] (mk g s) (qI g R)) L ?_ ?_ i hi rfl
  · intro e
    refine v_Tokens_behindBlanks_2 _ _ _ hS (pk_le L L (fun _ => GI.r ?_) (fun q => absurd q (by omega)))
    rw [e, runT_u, if_neg (by omega)] at h; exact h
  · intro k hk ih e
    refine v_Tokens_behindBlanks_2 _ _ _ hS (pk_le L k (fun q => absurd q (by omega)) (fun _ => ⟨vp_in_nI (by omega) (by omega), ?_⟩))
    rw [tn_n (by omega), t3 k hk, nI_1 k]
    rw [runT_u isB T L k] at e
    refine f_T_isB (t2 k hk) (fun q => ⟨fun _ => GI.r ?_, fun z => absurd rfl z⟩) (fun q => ⟨fun z => absurd z (by decide), fun _ => ih ?_⟩)
    · rw [if_neg (fun w => q w.2)] at e
      rw [e] at h; exact h
    · rw [if_pos ⟨hk, q⟩] at e; exact e
theorem f_T_endOf {R : Int32 → MS → Prop} {i : Nat} (hS : SX g) (hT : TP T L s) (hi : i < L) (h : R (nI (endT T L i)) s) : GI E m_Tokens_endOf [.ref 17, .int (nI i), .int (nI L)] g s R := by
  obtain ⟨l2, t2, t3⟩ := hT
  refine v_Tokens_endOf (Q := qI g R) _ _ hS ⟨vp_in_nI (by omega) (by omega), ?_⟩
  rw [tn_n (by omega), t3 i hi, nI_1 i]
  unfold endT at h
  refine f_T_isL (t2 i hi) (fun q => ⟨fun _ => ?_, fun z => absurd rfl z⟩) (fun q => ⟨fun z => absurd z (by decide), fun _ => ?_⟩)
  · rw [t3 i hi]
    rw [if_neg q] at h
    refine f_T_isD (t2 i hi) (fun q2 => ⟨fun _ => GI.r ?_, fun z => absurd rfl z⟩) (fun q2 => ⟨fun z => absurd z (by decide), fun _ => ?_⟩)
    · rw [if_neg q2] at h; exact h
    · rw [if_pos q2] at h
      refine upto (P := fun k => runT isDg T L (i + 1) = runT isDg T L k → AWP E m_Tokens_endOf 42 0 0 [(0, .ref 17), (1, .int (nI i)), (2, .int (nI L)), (3, .int (nI k))] [] (mk g s) (qI g R)) L ?_ ?_ (i + 1) hi rfl
      · intro e
        refine v_Tokens_endOf_42 _ _ _ hS (pk_le L L (fun _ => GI.r ?_) (fun q => absurd q (by omega)))
        rw [e, runT_u, if_neg (by omega)] at h; exact h
      · intro k hk ih e
        refine v_Tokens_endOf_42 _ _ _ hS (pk_le L k (fun q => absurd q (by omega)) (fun _ => ⟨vp_in_nI (by omega) (by omega), ?_⟩))
        rw [tn_n (by omega), t3 k hk, nI_1 k]
        rw [runT_u isDg T L k] at e
        refine f_T_isD (t2 k hk) (fun q => ⟨fun _ => GI.r ?_, fun z => absurd rfl z⟩) (fun q => ⟨fun z => absurd z (by decide), fun _ => ih ?_⟩)
        · rw [if_neg (fun w => q w.2)] at e
          rw [e] at h; exact h
        · rw [if_pos ⟨hk, q⟩] at e; exact e
  · rw [if_pos q] at h
    refine upto (P := fun k => runT isL T L (i + 1) = runT isL T L k → AWP E m_Tokens_endOf 13 0 0 [(0, .ref 17), (1, .int (nI i)), (2, .int (nI L)), (3, .int (nI k))] [] (mk g s) (qI g R)) L ?_ ?_ (i + 1) hi rfl
    · intro e
      refine v_Tokens_endOf_13 _ _ _ hS (pk_le L L (fun _ => GI.r ?_) (fun q => absurd q (by omega)))
      rw [e, runT_u, if_neg (by omega)] at h; exact h
    · intro k hk ih e
      refine v_Tokens_endOf_13 _ _ _ hS (pk_le L k (fun q => absurd q (by omega)) (fun _ => ⟨vp_in_nI (by omega) (by omega), ?_⟩))
      rw [tn_n (by omega), t3 k hk, nI_1 k]
      rw [runT_u isL T L k] at e
      refine f_T_isL (t2 k hk) (fun q => ⟨fun _ => GI.r ?_, fun z => absurd rfl z⟩) (fun q => ⟨fun z => absurd z (by decide), fun _ => ih ?_⟩)
      · rw [if_neg (fun w => q w.2)] at e
        rw [e] at h; exact h
      · rw [if_pos ⟨hk, q⟩] at e; exact e
theorem f_T_nameOf {R : Int64 → MS → Prop} {i e : Nat} (hS : SX g) (hT : TP T L s) (hi : i ≤ e) (he : e ≤ L) (hl : ∀ j, i ≤ j → j < e → isL (T j) = true) (h : R (lN (nmT 27 96 T i (e - i))) s) : GL E m_Tokens_nameOf [.ref 17, .int (nI i), .int (nI e)] g s R := by
  obtain ⟨l2, t2, t3⟩ := hT
  refine v_Tokens_nameOf (Q := qL g R) _ _ ?_
  refine upto (P := fun k => i ≤ k → ∀ l, l = lN (nmT 27 96 T i (k - i)) → AWP E m_Tokens_nameOf 5 0 0 [(0, .ref 17), (1, .int (nI i)), (2, .int (nI e)), (3, .long l), (5, .int (nI k))] [] (mk g s) (qL g R)) e ?_ ?_ i hi (Nat.le_refl _) 0 (by rw [Nat.sub_self]; rfl)
  · intro _ l hl
    refine v_Tokens_nameOf_5 _ _ _ _ hS (pk_le e e (fun _ => GL.r ?_) (fun q => absurd q (by omega)))
    rw [hl]; exact h
  · intro k hk ih hik l hl'
    refine v_Tokens_nameOf_5 _ _ _ _ hS (pk_le e k (fun q => absurd q (by omega)) (fun _ => ⟨vp_in_nI (by omega) (by omega), ?_⟩))
    rw [tn_n (by omega), t3 k (by omega), nI_1 k]
    refine ih (by omega) _ ?_
    have a := hl k hik hk
    simp only [isL, decide_eq_true_eq] at a
    rw [show (97 : Int32) = nI 97 from rfl, pk_sub a.1, nI_1, nI_l (by omega), hl', show (27 : Int64) = lN 27 from rfl, lN_mul, lN_add, show k + 1 - i = (k - i) + 1 by omega, nmT, show i + (k - i) = k by omega]
    congr 1
    omega
theorem f_T_numberOf {R : Int64 → MS → Prop} {i e : Nat} (hS : SX g) (hT : TP T L s) (hi : i ≤ e) (he : e ≤ L) (hl : ∀ j, i ≤ j → j < e → isDg (T j) = true) (h : R (lN (nmT 10 48 T i (e - i))) s) : GL E m_Tokens_numberOf [.ref 17, .int (nI i), .int (nI e)] g s R := by
  obtain ⟨l2, t2, t3⟩ := hT
  refine v_Tokens_numberOf (Q := qL g R) _ _ ?_
  refine upto (P := fun k => i ≤ k → ∀ l, l = lN (nmT 10 48 T i (k - i)) → AWP E m_Tokens_numberOf 5 0 0 [(0, .ref 17), (1, .int (nI i)), (2, .int (nI e)), (3, .long l), (5, .int (nI k))] [] (mk g s) (qL g R)) e ?_ ?_ i hi (Nat.le_refl _) 0 (by rw [Nat.sub_self]; rfl)
  · intro _ l hl
    refine v_Tokens_numberOf_5 _ _ _ _ hS (pk_le e e (fun _ => GL.r ?_) (fun q => absurd q (by omega)))
    rw [hl]; exact h
  · intro k hk ih hik l hl'
    refine v_Tokens_numberOf_5 _ _ _ _ hS (pk_le e k (fun q => absurd q (by omega)) (fun _ => ⟨vp_in_nI (by omega) (by omega), ?_⟩))
    rw [tn_n (by omega), t3 k (by omega), nI_1 k]
    refine ih (by omega) _ ?_
    have a := hl k hik hk
    simp only [isDg, decide_eq_true_eq] at a
    rw [show (48 : Int32) = nI 48 from rfl, pk_sub a.1, nI_l (by omega), hl', show (10 : Int64) = lN 10 from rfl, lN_mul, lN_add, show k + 1 - i = (k - i) + 1 by omega, nmT, show i + (k - i) = k by omega]
    congr 1
    omega
/-- a sign of a string of the program -/
theorem f_charAt {R : Int32 → MS → Prop} {i j c : Nat} (hi : i < 6) (hj : j < strN.getD i 0) (hn : strN.getD i 0 < 200) (hc : (((Int32.toUInt32 (((strBs.getD i []).getD j 0) &&& 255)) % 65536).toInt32) = nI c) (h2 : narrow .char (.int (nI c)) = .int (nI c)) (h : R (nI c) s) : GI E m_Str_charAt [.ref (2 + i), .int (nI j)] g s R := by
  refine v_Str_charAt (Q := qI g R) i _ hi ?_
  refine v_Str_isLatin1 (Q := qI g _) i hi (GI.r ⟨fun z => absurd z (by decide), fun _ => ?_⟩)
  refine v_Lat_charAt (Q := qI g _) i _ hi ?_
  refine f_Str_checkIndex (nI_pos (by omega)) ((nI_ltI (by omega) (by omega)).mpr hj) ?_
  rw [tn_n (by omega), hc]
  exact ⟨vp_in_nI hj (by omega), h2, GI.r ⟨h2, GI.r h⟩⟩
theorem nrw : ∀ c, c < 256 → narrow .char (.int (nI c)) = .int (nI c) := by decide +kernel
theorem f_T_isWord {R : Int32 → MS → Prop} {i e k : Nat} (hS : SX g) (hT : TP T L s) (hi : i < e) (he : e ≤ L) (hl : ∀ j, i ≤ j → j < e → isL (T j) = true) (hk : k < 20) (h0 : ¬ (e - i < 7 ∧ nmT 27 96 T i (e - i) = kws.getD k 0) → R 0 s) (h1 : e - i < 7 ∧ nmT 27 96 T i (e - i) = kws.getD k 0 → R 1 s) : GI E m_Tokens_isWord [.int (nI k), .ref 17, .int (nI i), .int (nI e)] g s R := by
  have hL := hT.1
  obtain ⟨l2, t2, t3⟩ := hT
  have n140 : strN.getD 0 0 = 140 := by decide +kernel
  refine v_Tokens_isWord (Q := qI g R) _ _ _ ?_
  rw [pk_sub (by omega)]
  refine pk_lt (e - i) 7 (fun q => ?_) (fun q => GI.r (h0 (by omega)))
  rw [show (7 : Int32) = nI 7 from rfl, pk_mul]
  have wi := word_iff (T := T) (i := i) hk q (fun j hj => hl (i + j) (by omega) (by omega))
  have ca : ∀ j (Rz : Int32 → MS → Prop), j < 140 → Rz (nI (wW j)) s → GI E m_Str_charAt [.ref 2, .int (nI j)] g s Rz := fun j Rz hj hz =>
    f_charAt (i := 0) (j := j) (c := wW j) (by omega) (by omega) (by omega) (wW_is j hj).1 (nrw _ (wW_is j hj).2) hz
  refine upto (P := fun j => (∀ x, x < j → wW (7 * k + x) = T (i + x)) → AWP E m_Tokens_isWord 23 0 0 [(0, .int (nI k)), (1, .ref 17), (2, .int (nI i)), (3, .int (nI e)), (4, .int (nI (e - i))), (5, .int (nI (k * 7))), (6, .int (nI j))] [] (mk g s) (qI g R)) (e - i) ?_ ?_ 0 (Nat.zero_le _) (fun x hx => absurd hx (by omega))
  · intro a
    refine v_Tokens_isWord_23 _ _ _ _ _ _ hS (pk_le (e - i) (e - i) (fun _ => ?_) (fun q => absurd q (by omega)))
    rw [nI_add, show k * 7 + (e - i) = 7 * k + (e - i) by omega]
    refine ca _ _ (by omega) (pk_eq _ 32 (fun z => GI.r (h1 ⟨q, wi.mp ⟨a, z⟩⟩)) (fun z => GI.r (h0 fun w => z (wi.mpr w.2).2)) rfl rfl (by have := (wW_is (7 * k + (e - i)) (by omega)).2; omega) (by omega))
  · intro j hj ih a
    refine v_Tokens_isWord_23 _ _ _ _ _ _ hS (pk_le (e - i) j (fun q => absurd q (by omega)) (fun _ => ?_))
    rw [nI_add, show k * 7 + j = 7 * k + j by omega, nI_add, nI_1 j]
    refine ca _ _ (by omega) ⟨vp_in_nI (by omega) (by omega), ?_⟩
    rw [tn_n (by omega), t3 _ (by omega)]
    have := t2 (i + j) (by omega)
    refine pk_eq (wW (7 * k + j)) (T (i + j)) (fun z => ih (fun x hx => ?_)) (fun z => GI.r (h0 fun w => z ((wi.mpr w.2).1 j hj))) rfl rfl (by have := (wW_is (7 * k + j) (by omega)).2; omega) (by omega)
    by_cases y : x = j
    · rw [y]; exact z
    · exact a x (by omega)
theorem f_T_wordOf {R : Int32 → MS → Prop} {i e : Nat} (hS : SX g) (hT : TP T L s) (hi : i < e) (he : e ≤ L) (hl : ∀ j, i ≤ j → j < e → isL (T j) = true) (h : R (nI (if kwx (e - i) (nmT 27 96 T i (e - i)) < 20 then 4 + kwx (e - i) (nmT 27 96 T i (e - i)) else 2)) s) : GI E m_Tokens_wordOf [.ref 17, .int (nI i), .int (nI e)] g s R := by
  refine v_Tokens_wordOf (Q := qI g R) _ _ ?_
  refine upto (P := fun k => (∀ x, x < k → ¬ (e - i < 7 ∧ nmT 27 96 T i (e - i) = kws.getD x 0)) → AWP E m_Tokens_wordOf 2 0 0 [(0, .ref 17), (1, .int (nI i)), (2, .int (nI e)), (3, .int (nI k))] [] (mk g s) (qI g R)) 20 ?_ ?_ 0 (Nat.zero_le _) (fun x hx => absurd hx (by omega))
  · intro a
    refine v_Tokens_wordOf_2 _ _ _ (pk_le 20 20 (fun _ => GI.r ?_) (fun q => absurd q (by omega)))
    have e20 : kwx (e - i) (nmT 27 96 T i (e - i)) = 20 := by
      by_cases q : e - i < 7
      · exact kwx_no (fun k hk w => a k hk ⟨q, w⟩)
      · unfold kwx; rw [if_neg q]
    rw [e20, if_neg (by omega)] at h; exact h
  · intro k hk ih a
    refine v_Tokens_wordOf_2 _ _ _ (pk_le 20 k (fun q => absurd q (by omega)) (fun _ => ?_))
    rw [nI_1 k]
    refine f_T_isWord hS hT hi he hl hk (fun q => ⟨fun _ => ih (fun x hx => ?_), fun z => absurd rfl z⟩) (fun q => ⟨fun z => absurd z (by decide), fun _ => GI.r ?_⟩)
    · by_cases y : x = k
      · rw [y]; exact q
      · exact a x (by omega)
    · rw [kwx_of q.1 hk q.2, if_pos hk] at h
      rw [show (4 : Int32) = nI 4 from rfl, nI_add]; exact h
end Scan
