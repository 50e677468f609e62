/-! TOKENS of the reference: Model.cut -/
theorem lN_eq' {a b : Nat} (ha : a < 2 ^ 63) (hb : b < 2 ^ 63) : lN a = lN b ↔ a = b := by
  constructor
  · intro h
    have h1 := lg_ofNat_toInt ha
    have h2 := lg_ofNat_toInt hb
    unfold lN at h
    rw [h] at h1
    omega
  · intro h; rw [h]
def rkT : List Nat := [0, 3, 1, 2, 20, 21, 22, 23, 24, 25, 26, 27, 28, 29, 30, 31, 32, 33, 34, 35, 36, 37, 38, 39, 4, 5, 8, 9, 10, 15, 13, 6, 7]
def rk (κ : Nat) : Nat := rkT.getD κ 0
theorem runT_stop {P : Nat → Bool} {T : Nat → Nat} {L : Nat} : ∀ n i, L - i ≤ n → runF P T L n i < L → ¬ P (T (runF P T L n i)) = true
  | 0, i, h, q => by rw [runF] at q; omega
  | n + 1, i, h, q => by
    rw [runF] at q ⊢
    split
    · rename_i w
      rw [if_pos w] at q
      exact runT_stop n (i + 1) (by omega) q
    · rename_i w
      rw [if_neg w] at q
      exact fun z => w ⟨q, z⟩
theorem endT_stopL {T : Nat → Nat} {L i : Nat} (h : isL (T i) = true) (q : endT T L i < L) : ¬ isL (T (endT T L i)) = true := by
  unfold endT at q ⊢
  rw [if_pos h] at q ⊢
  exact runT_stop _ _ (Nat.le_refl _) q
theorem endT_stopD {T : Nat → Nat} {L i : Nat} (h' : ¬ isL (T i) = true) (h : isDg (T i) = true) (q : endT T L i < L) : ¬ isDg (T (endT T L i)) = true := by
  unfold endT at q ⊢
  rw [if_neg h', if_pos h] at q ⊢
  exact runT_stop _ _ (Nat.le_refl _) q
section Cut
variable {E : EN} {g : GS} {s : MS} {T : Nat → Nat} {L : Nat}
def TPr (T : Nat → Nat) (L : Nat) (s : MS) : Prop := L ≤ 2000 ∧ (∀ i, i < L → T i < 256) ∧ s.1 120 4 = nI L ∧ (∀ i, i < L → s.1 122 i = (nI (T i)).toInt8.toInt32) ∧ ∀ k, k < 20 → s.2 127 k = lN (kws.getD k 0)
def FCu (s u : MS) : Prop := (∀ a, a ≠ 120 → ¬ (123 ≤ a ∧ a < 126) → u.1 a = s.1 a) ∧ (∀ j, j ≠ 10 → u.1 120 j = s.1 120 j) ∧ ∀ a, a ≠ 126 → u.2 a = s.2 a
theorem FCu.rf (s : MS) : FCu s s := ⟨fun _ _ _ => rfl, fun _ _ => rfl, fun _ _ => rfl⟩
theorem FCu.tr {s u v : MS} (h : FCu s u) (k : FCu u v) : FCu s v := ⟨fun a h1 h2 => (k.1 a h1 h2).trans (h.1 a h1 h2), fun j hj => (k.2.1 j hj).trans (h.2.1 j hj), fun a ha => (k.2.2 a ha).trans (h.2.2 a ha)⟩
theorem TPr.mv {u : MS} (h : TPr T L s) (k : FCu s u) : TPr T L u := ⟨h.1, h.2.1, by rw [k.2.1 4 (by decide)]; exact h.2.2.1, by rw [k.1 122 (by decide) (by decide)]; exact h.2.2.2.1, by rw [k.2.2 127 (by decide)]; exact h.2.2.2.2⟩
/-- the reference's tokens -/
def TkR (T : Nat → Nat) (L M : Nat) (s : MS) : Prop := M ≤ 401 ∧ (∀ j, j < M → bp T L j < L ∧ s.1 123 j = nI (rk (tkK T L (bp T L j))) ∧ s.1 124 j = nI (bp T L j) ∧ (tkK T L (bp T L j) = 3 → s.1 125 j = nI (tkV T L (bp T L j))) ∧ (tkK T L (bp T L j) = 2 → s.2 126 j = lN (tkV T L (bp T L j)))) ∧ (M ≤ 400 → s.1 123 M = 0 ∧ s.1 124 M = nI L) ∧ (L ≤ bp T L M ∨ M = 401)
theorem f_M_isL {R : Int32 → MS → Prop} {c : Nat} (hc : c < 256) (h0 : ¬ isL c = true → R 0 s) (h1 : isL c = true → R 1 s) : GI E m_Mo_isLetter [.int (nI c)] g s R := by
  simp only [isL, decide_eq_true_eq] at h0 h1
  exact v_Mo_isLetter (Q := qI g R) _ (pk_lt c 97 (fun q => GI.r (h0 (by omega))) (fun q => pk_lt 122 c (fun q2 => GI.r (h0 (by omega))) (fun q2 => GI.r (h1 (by omega)))))
theorem f_M_isD {R : Int32 → MS → Prop} {c : Nat} (hc : c < 256) (h0 : ¬ isDg c = true → R 0 s) (h1 : isDg c = true → R 1 s) : GI E m_Mo_isDigit [.int (nI c)] g s R := by
  simp only [isDg, decide_eq_true_eq] at h0 h1
  exact v_Mo_isDigit (Q := qI g R) _ (pk_lt c 48 (fun q => GI.r (h0 (by omega))) (fun q => pk_lt 57 c (fun q2 => GI.r (h0 (by omega))) (fun q2 => GI.r (h1 (by omega)))))
theorem b255 : ∀ c, c < 256 → (nI c).toInt8.toInt32 &&& 255 = nI c := by decide +kernel
def bT (T : Nat → Nat) (L i : Nat) : Nat := if i < L then T i else 0
theorem bT_lt (hT : TPr T L s) (i : Nat) : bT T L i < 256 := by
  unfold bT
  split
  · rename_i q; exact hT.2.1 i q
  · omega
theorem f_M_byteAt {R : Int32 → MS → Prop} {i : Nat} (hS : SX g) (hT : TPr T L s) (hi : i ≤ L) (h : R (nI (bT T L i)) s) : GI E m_Mo_byteAt [.ref 120, .int (nI i)] g s R := by
  obtain ⟨l2, t2, t4, t3, -⟩ := hT
  refine v_Mo_byteAt (Q := qI g R) _ hS ?_
  rw [t4]
  unfold bT at h
  refine pk_le L i (fun q => GI.r ?_) (fun q => ⟨vp_in_nI (by omega) (by omega), GI.r ?_⟩)
  · rw [if_neg (by omega)] at h; exact h
  · rw [if_pos q] at h
    rw [tn_n (by omega), t3 i q, b255 _ (t2 i q)]; exact h
def MdQ (κ p v : Int32) (nme : Int64) (M : Nat) (s u : MS) : Prop := u.1 120 10 = nI (M + 1) ∧ u.1 123 M = κ ∧ (∀ j, j ≠ M → u.1 123 j = s.1 123 j) ∧ u.1 124 M = p ∧ (∀ j, j ≠ M → u.1 124 j = s.1 124 j) ∧ u.1 125 M = v ∧ (∀ j, j ≠ M → u.1 125 j = s.1 125 j) ∧ u.2 126 M = nme ∧ (∀ j, j ≠ M → u.2 126 j = s.2 126 j)
theorem f_M_token {R : MS → Prop} {κ p v : Int32} {nme : Int64} {M : Nat} (hS : SX g) (hM : M ≤ 402) (h0 : s.1 120 10 = nI M) (h : ∀ u, MdQ κ p v nme M s u → FCu s u → R u) : GV E m_Mo_token [.ref 120, .int κ, .int p, .int v, .long nme] g s R := by
  refine v_Mo_token (Q := qV g R) _ _ _ _ hS ?_
  rw [h0, tn_n (by omega), nI_1 M]
  refine ⟨vp_in_nI (by omega) (by omega), fun s1 e1 s2 e2 s3 e3 s4 e4 s5 e5 => GV.r (h s5 ?_ ?_)⟩
  · refine ⟨?_, ?_, fun j hj => ?_, ?_, fun j hj => ?_, ?_, fun j hj => ?_, ?_, fun j hj => ?_⟩
    · rw [e5, wi_s, upd_s]
    · rw [e5, wi_n _ _ _ (by decide), e4, wl_1, e3, wi_n _ _ _ (by decide), e2, wi_n _ _ _ (by decide), e1, wi_s, upd_s]
    · rw [e5, wi_n _ _ _ (by decide), e4, wl_1, e3, wi_n _ _ _ (by decide), e2, wi_n _ _ _ (by decide), e1, wi_s, upd_n _ _ hj]
    · rw [e5, wi_n _ _ _ (by decide), e4, wl_1, e3, wi_n _ _ _ (by decide), e2, wi_s, upd_s]
    · rw [e5, wi_n _ _ _ (by decide), e4, wl_1, e3, wi_n _ _ _ (by decide), e2, wi_s, upd_n _ _ hj, e1, wi_n _ _ _ (by decide)]
    · rw [e5, wi_n _ _ _ (by decide), e4, wl_1, e3, wi_s, upd_s]
    · rw [e5, wi_n _ _ _ (by decide), e4, wl_1, e3, wi_s, upd_n _ _ hj, e2, wi_n _ _ _ (by decide), e1, wi_n _ _ _ (by decide)]
    · rw [e5, wi_2, e4, wl_s, updL_s]
    · rw [e5, wi_2, e4, wl_s, updL_n _ _ hj, e3, wi_2, e2, wi_2, e1, wi_2]
  · refine ⟨fun a h1 h2 => ?_, fun j hj => ?_, fun a ha => ?_⟩
    · rw [e5, wi_n _ _ _ h1, e4, wl_1, e3, wi_n _ _ _ (by omega), e2, wi_n _ _ _ (by omega), e1, wi_n _ _ _ (by omega)]
    · rw [e5, wi_s, upd_n _ _ hj, e4, wl_1, e3, wi_n _ _ _ (by decide), e2, wi_n _ _ _ (by decide), e1, wi_n _ _ _ (by decide)]
    · rw [e5, wi_2, e4, wl_n _ _ _ ha, e3, wi_2, e2, wi_2, e1, wi_2]
def st1 (c : Nat) : Nat := if c = 59 then 4 else if c = 61 then 5 else if c = 40 then 6 else if c = 41 then 7 else 3
def st2 (c : Nat) : Nat := if c = 43 then 8 else st1 c
def st3 (c : Nat) : Nat := if c = 45 then 9 else st2 c
def st4 (c : Nat) : Nat := if c = 42 then 10 else st3 c
def st5 (c : Nat) : Nat := if c = 47 then 15 else st4 c
def st6 (c : Nat) : Nat := if c = 60 then 13 else st5 c
theorem st_is : ∀ c, c < 256 → st6 c = rk (if sgx c < 9 then 24 + sgx c else 1) := by decide +kernel
theorem f_M_sign {R : Int32 → MS → Prop} {c i M : Nat} {x3 : Int32} (hS : SX g) (hc : c < 256) (hM : M ≤ 402) (h0 : s.1 120 10 = nI M) (h : ∀ u, MdQ (nI (rk (if sgx c < 9 then 24 + sgx c else 1))) (nI i) 0 0 M s u → FCu s u → R 1 u) : GI E m_Mo_sign [.ref 120, .int (nI i), .int (nI c), .int x3] g s R := by
  rw [← st_is c hc] at h
  have a95 : ∀ x4, x4 = nI (st6 c) → AWP E m_Mo_sign 95 0 0 [(0, .ref 120), (1, .int (nI i)), (2, .int (nI c)), (3, .int x3), (4, .int x4)] [] (mk g s) (qI g R) := fun x4 e => by
    rw [e]; exact v_Mo_sign_95 _ _ _ _ hS (f_M_token hS hM h0 (fun u u1 u2 => GI.r (h u u1 u2)))
  have a85 : ∀ x4, x4 = nI (st5 c) → AWP E m_Mo_sign 85 0 0 [(0, .ref 120), (1, .int (nI i)), (2, .int (nI c)), (3, .int x3), (4, .int x4)] [] (mk g s) (qI g R) := fun x4 e =>
    v_Mo_sign_85 _ _ _ _ (pk_eq c 60 (fun q => a95 _ (by unfold st6; rw [if_pos q]; rfl)) (fun q => a95 _ (by unfold st6; rw [if_neg q]; exact e)))
  have a75 : ∀ x4, x4 = nI (st4 c) → AWP E m_Mo_sign 75 0 0 [(0, .ref 120), (1, .int (nI i)), (2, .int (nI c)), (3, .int x3), (4, .int x4)] [] (mk g s) (qI g R) := fun x4 e =>
    v_Mo_sign_75 _ _ _ _ (pk_eq c 47 (fun q => a85 _ (by unfold st5; rw [if_pos q]; rfl)) (fun q => a85 _ (by unfold st5; rw [if_neg q]; exact e)))
  have a65 : ∀ x4, x4 = nI (st3 c) → AWP E m_Mo_sign 65 0 0 [(0, .ref 120), (1, .int (nI i)), (2, .int (nI c)), (3, .int x3), (4, .int x4)] [] (mk g s) (qI g R) := fun x4 e =>
    v_Mo_sign_65 _ _ _ _ (pk_eq c 42 (fun q => a75 _ (by unfold st4; rw [if_pos q]; rfl)) (fun q => a75 _ (by unfold st4; rw [if_neg q]; exact e)))
  have a55 : ∀ x4, x4 = nI (st2 c) → AWP E m_Mo_sign 55 0 0 [(0, .ref 120), (1, .int (nI i)), (2, .int (nI c)), (3, .int x3), (4, .int x4)] [] (mk g s) (qI g R) := fun x4 e =>
    v_Mo_sign_55 _ _ _ _ (pk_eq c 45 (fun q => a65 _ (by unfold st3; rw [if_pos q]; rfl)) (fun q => a65 _ (by unfold st3; rw [if_neg q]; exact e)))
  have a45 : ∀ x4, x4 = nI (st1 c) → AWP E m_Mo_sign 45 0 0 [(0, .ref 120), (1, .int (nI i)), (2, .int (nI c)), (3, .int x3), (4, .int x4)] [] (mk g s) (qI g R) := fun x4 e =>
    v_Mo_sign_45 _ _ _ _ (pk_eq c 43 (fun q => a55 _ (by unfold st2; rw [if_pos q]; rfl)) (fun q => a55 _ (by unfold st2; rw [if_neg q]; exact e)))
  refine v_Mo_sign (Q := qI g R) _ _ _ (pk_eq c 59 (fun q => a45 _ (by unfold st1; rw [if_pos q]; rfl)) (fun q => pk_eq c 61 (fun q2 => a45 _ (by unfold st1; rw [if_neg q, if_pos q2]; rfl)) (fun q2 => pk_eq c 40 (fun q3 => a45 _ (by unfold st1; rw [if_neg q, if_neg q2, if_pos q3]; rfl)) (fun q3 => pk_eq c 41 (fun q4 => a45 _ (by unfold st1; rw [if_neg q, if_neg q2, if_neg q3, if_pos q4]; rfl)) (fun q4 => a45 _ (by unfold st1; rw [if_neg q, if_neg q2, if_neg q3, if_neg q4]; rfl))))))
/-- the tokens up to M -/
def TkP (T : Nat → Nat) (L M : Nat) (s : MS) : Prop := s.1 120 10 = nI M ∧ ∀ j, j < M → bp T L j < L ∧ s.1 123 j = nI (rk (tkK T L (bp T L j))) ∧ s.1 124 j = nI (bp T L j) ∧ (tkK T L (bp T L j) = 3 → s.1 125 j = nI (tkV T L (bp T L j))) ∧ (tkK T L (bp T L j) = 2 → s.2 126 j = lN (tkV T L (bp T L j)))
theorem TkP.add {u : MS} {M : Nat} {κ p v : Int32} {nme : Int64} (h : TkP T L M s) (k : MdQ κ p v nme M s u) (hl : bp T L M < L) (e1 : κ = nI (rk (tkK T L (bp T L M)))) (e2 : p = nI (bp T L M)) (e3 : tkK T L (bp T L M) = 3 → v = nI (tkV T L (bp T L M))) (e4 : tkK T L (bp T L M) = 2 → nme = lN (tkV T L (bp T L M))) : TkP T L (M + 1) u := by
  obtain ⟨k1, k2, k3, k4, k5, k6, k7, k8, k9⟩ := k
  refine ⟨k1, fun j hj => ?_⟩
  by_cases z : j = M
  · subst z
    rw [k2, k4, k6, k8]; exact ⟨hl, e1, e2, e3, e4⟩
  · rw [k3 j z, k5 j z, k7 j z, k9 j z]; exact h.2 j (by omega)
theorem f_M_cut {R : MS → Prop} (hS : SX g) (hT : TPr T L s) (h : ∀ u M, TkR T L M u → FCu s u → R u) : GV E m_Mo_cut [.ref 120] g s R := by
  have l2 := hT.1
  refine v_Mo_cut (Q := qV g R) hS (fun s1 e1 => ?_)
  have F1 : FCu s s1 := ⟨fun a h1 _ => by rw [e1, wi_n _ _ _ h1], fun j hj => by rw [e1, wi_s, upd_n _ _ hj], fun a _ => by rw [e1, wi_2]⟩
  have main : ∀ n i, L - i < n → i ≤ L → ∀ M u, M ≤ 401 → FCu s u → TkP T L M u → runT isB T L i = bp T L M → AWP E m_Mo_cut 7 0 0 [(0, .ref 120), (1, .int (nI i))] [] (mk g u) (qV g R) := by
    intro n
    induction n with
    | zero => intro i hi; omega
    | succ n ih =>
      intro i hn hi M u hM hu hP hb
      have tu : TPr T L u := hT.mv hu
      refine v_Mo_cut_7 _ hS ?_
      rw [hP.1]
      refine pk_lt 400 M (fun q => GV.r (h u M ⟨hM, hP.2, fun w => absurd w (by omega), Or.inr (by omega)⟩ hu)) (fun q => ?_)
      refine f_M_byteAt hS tu hi ?_
      rw [tu.2.2.1]
      refine pk_lt i L (fun qi => ?_) (fun qi => ?_)
      · have bi : bT T L i = T i := by unfold bT; rw [if_pos qi]
        rw [bi, nI_1 i]
        have c256 := tu.2.1 i qi
        rw [runT_u] at hb
        have blank : isB (T i) = true → AWP E m_Mo_cut 7 0 0 [(0, .ref 120), (1, .int (nI (i + 1)))] [] (mk g u) (qV g R) := fun w =>
          ih (i + 1) (by omega) qi M u hM hu hP (by rw [if_pos ⟨qi, w⟩] at hb; exact hb)
        have isb : ∀ c, (c = 9 ∨ c = 10 ∨ c = 13 ∨ c = 32) → isB c = true := fun c hc => decide_eq_true hc
        refine pk_eq (T i) 9 (fun q => blank (isb _ (by omega))) (fun n9 => pk_eq (T i) 10 (fun q => blank (isb _ (by omega))) (fun n10 => pk_eq (T i) 13 (fun q => blank (isb _ (by omega))) (fun n13 => pk_eq (T i) 32 (fun q => blank (isb _ (by omega))) (fun n32 => ?_) rfl rfl (by omega) (by omega)) rfl rfl (by omega) (by omega)) rfl rfl (by omega) (by omega)) rfl rfl (by omega) (by omega)
        have nb : ¬ isB (T i) = true := fun w => by simp only [isB, decide_eq_true_eq] at w; omega
        rw [if_neg (fun w => nb w.2)] at hb
        have gt := endT_gt T L i
        have le := endT_le T qi
        -- what follows a token
        have nxt : ∀ u', FCu u u' → TkP T L (M + 1) u' → AWP E m_Mo_cut 7 0 0 [(0, .ref 120), (1, .int (nI (endT T L i)))] [] (mk g u') (qV g R) := fun u' w1 w2 =>
          ih (endT T L i) (by omega) le (M + 1) u' (by omega) (hu.tr w1) w2 (by rw [bp, ← hb])
        have bl : bp T L M < L := by rw [← hb]; exact qi
        refine f_M_isL c256 (fun q => ⟨fun _ => ?_, fun z => absurd rfl z⟩) (fun q => ⟨fun z => absurd z (by decide), fun _ => ?_⟩)
        · refine f_M_isD c256 (fun q2 => ⟨fun _ => ?_, fun z => absurd rfl z⟩) (fun q2 => ⟨fun z => absurd z (by decide), fun _ => ?_⟩)
          · refine f_M_byteAt hS tu (by omega) ?_
            have ee : endT T L i = i + 1 := by unfold endT; rw [if_neg q, if_neg q2]
            have kk : tkK T L i = if sgx (T i) < 9 then 24 + sgx (T i) else 1 := by unfold tkK; rw [if_neg q, if_neg q2]; rfl
            refine f_M_sign hS c256 (by omega) hP.1 (fun u' w1 w2 => ?_)
            rw [show nI i + 1 = nI (i + 1) from nI_1 i, ← ee]
            refine nxt u' w2 (hP.add w1 bl (by rw [← hb, kk]) (by rw [hb]) (fun w => ?_) (fun w => ?_))
            · rw [← hb, kk] at w; split at w <;> omega
            · rw [← hb, kk] at w; split at w <;> omega
          · have kk : tkK T L i = if 4 < endT T L i - i then 1 else 3 := by unfold tkK; rw [if_neg q, if_pos q2]
            have vv : tkV T L i = nmT 10 48 T i (min (endT T L i - i) 4) := by unfold tkV; rw [if_neg q, if_pos q2]
            have dg : ∀ j, i ≤ j → j < endT T L i → isDg (T j) = true := fun j h1 h2 => endT_D q2 q h1 h2
            refine upto (P := fun m => ∀ x4, x4 = nI (nmT 10 48 T i (min m 4)) → AWP E m_Mo_cut 208 0 0 [(0, .ref 120), (1, .int (nI i)), (2, .int (nI (T i))), (3, .int (nI m)), (4, .int x4)] [] (mk g u) (qV g R)) (endT T L i - i) ?_ ?_ 0 (Nat.zero_le _) 0 rfl
            · intro x4 ex
              refine v_Mo_cut_208 _ _ _ _ hS ?_
              rw [nI_add, show i + (endT T L i - i) = endT T L i by omega]
              refine f_M_byteAt hS tu le (f_M_isD (bT_lt tu _) (fun z => ⟨fun _ => ?_, fun z => absurd rfl z⟩) (fun z => ?_))
              · refine pk_le (endT T L i - i) 4 (fun w => f_M_token hS (by omega) hP.1 (fun u' w1 w2 => nxt u' w2 (hP.add w1 bl (by rw [← hb, kk, if_neg (by omega)]; rfl) (by rw [hb]) (fun _ => by rw [← hb, vv]; exact ex) (fun w3 => ?_)))) (fun w => f_M_token hS (by omega) hP.1 (fun u' w1 w2 => nxt u' w2 (hP.add w1 bl (by rw [← hb, kk, if_pos (by omega)]; rfl) (by rw [hb]) (fun w3 => ?_) (fun w3 => ?_))))
                · rw [← hb, kk] at w3; split at w3 <;> omega
                · rw [← hb, kk, if_pos w] at w3; omega
                · rw [← hb, kk, if_pos w] at w3; omega
              · exfalso
                unfold bT at z
                by_cases y : endT T L i < L
                · rw [if_pos y] at z; exact endT_stopD q q2 y z
                · rw [if_neg y] at z; exact absurd z (by decide)
            · intro m hm ihm x4 ex
              have il : i + m < L := by omega
              have bm : bT T L (i + m) = T (i + m) := by unfold bT; rw [if_pos il]
              have dm := dg (i + m) (by omega) (by omega)
              refine v_Mo_cut_208 _ _ _ _ hS ?_
              rw [nI_add]
              refine f_M_byteAt hS tu (by omega) ?_
              rw [bm]
              refine f_M_isD (tu.2.1 _ il) (fun z => absurd dm z) (fun _ => ⟨fun z => absurd z (by decide), fun _ => ?_⟩)
              rw [nI_1 m]
              refine pk_le 4 m (fun w => ihm x4 ?_) (fun w => f_M_byteAt hS tu (by omega) (ihm _ ?_))
              · rw [ex, Nat.min_eq_right (by omega), Nat.min_eq_right (by omega)]
              · have d2 := dm
                simp only [isDg, decide_eq_true_eq] at d2
                rw [bm, ex, Nat.min_eq_left (by omega), Nat.min_eq_left (by omega), nmT, show (10 : Int32) = nI 10 from rfl, pk_mul, nI_add, show (48 : Int32) = nI 48 from rfl, pk_sub (by omega)]
                congr 1
                omega
        · have kk : tkK T L i = if 8 < endT T L i - i then 1 else if kwx (endT T L i - i) (nmT 27 96 T i (endT T L i - i)) < 20 then 4 + kwx (endT T L i - i) (nmT 27 96 T i (endT T L i - i)) else 2 := by unfold tkK; rw [if_pos q]
          have vv : tkV T L i = nmT 27 96 T i (min (endT T L i - i) 8) := by unfold tkV; rw [if_pos q]
          have lt : ∀ j, i ≤ j → j < endT T L i → isL (T j) = true := fun j h1 h2 => endT_L q h1 h2
          refine upto (P := fun m => ∀ l4, l4 = lN (nmT 27 96 T i (min m 8)) → AWP E m_Mo_cut 85 0 0 [(0, .ref 120), (1, .int (nI i)), (2, .int (nI (T i))), (3, .int (nI m)), (4, .long l4)] [] (mk g u) (qV g R)) (endT T L i - i) ?_ ?_ 0 (Nat.zero_le _) 0 rfl
          · intro l4 el
            refine v_Mo_cut_85 _ _ _ _ hS ?_
            rw [nI_add, show i + (endT T L i - i) = endT T L i by omega]
            have n3 : tkK T L i ≠ 3 := by rw [kk]; split <;> (try split) <;> omega
            have tk : ∀ κ u0, u0 = u → κ = nI (rk (tkK T L i)) → GV E m_Mo_token [.ref 120, .int κ, .int (nI i), .int 0, .long l4] g u0 (fun t3_ => AWP E m_Mo_cut 7 0 0 [(0, .ref 120), (1, .int (nI (endT T L i)))] [] (mk g t3_) (qV g R)) := fun κ u0 e0 eκ => by
              rw [e0]
              exact f_M_token hS (by omega) hP.1 (fun u' w1 w2 => nxt u' w2 (hP.add w1 bl (by rw [← hb]; exact eκ) (by rw [hb]) (fun w3 => absurd (by rw [hb]; exact w3) n3) (fun _ => by rw [← hb, vv]; exact el)))
            refine f_M_byteAt hS tu le (f_M_isL (bT_lt tu _) (fun z => ⟨fun _ => ?_, fun z => absurd rfl z⟩) (fun z => ?_))
            · refine pk_le (endT T L i - i) 8 (fun w => pk_lt 7 (endT T L i - i) (fun w2 => tk _ _ rfl ?_) (fun w2 => ?_)) (fun w => pk_lt 7 (endT T L i - i) (fun w2 => tk _ _ rfl ?_) (fun w2 => absurd w2 (by omega)))
              · rw [kk, if_neg (by omega)]
                have : kwx (endT T L i - i) (nmT 27 96 T i (endT T L i - i)) = 20 := by unfold kwx; rw [if_neg (by omega)]
                rw [this, if_neg (by omega)]; rfl
              · rw [Nat.min_eq_left (by omega)] at el
                have bd : nmT 27 96 T i (endT T L i - i) < 27 ^ (endT T L i - i) := nmT_lt _ (fun j hj => by
                  have := lt (i + j) (by omega) (by omega)
                  simp only [isL, decide_eq_true_eq] at this
                  omega)
                have bd2 : nmT 27 96 T i (endT T L i - i) < 2 ^ 63 := Nat.lt_of_lt_of_le bd (Nat.le_trans (Nat.pow_le_pow_right (by omega) (w2)) (by decide))
                have mt : ∀ k, k < 20 → (kws.getD k 0 = nmT 27 96 T i (endT T L i - i) ↔ kwx (endT T L i - i) (nmT 27 96 T i (endT T L i - i)) = k) := fun k hk => by
                  constructor
                  · intro e
                    by_cases y : endT T L i - i < 7
                    · exact kwx_of y hk e.symm
                    · exfalso
                      have g1 := nmT_ge (T := T) (i := i) 6 (fun j hj => lt (i + j) (by omega) (by omega))
                      have y7 : endT T L i - i = 7 := by omega
                      rw [y7] at e
                      have g2 : 27 ^ 6 ≤ nmT 27 96 T i 7 := g1
                      have := kws_b k hk
                      omega
                  · intro e
                    by_cases y : ∃ k', k' < 20 ∧ kws.getD k' 0 = nmT 27 96 T i (endT T L i - i)
                    · obtain ⟨k', hk', e'⟩ := y
                      by_cases y2 : endT T L i - i < 7
                      · have := kwx_of y2 hk' e'.symm
                        rw [this] at e
                        rw [← e]; exact e'
                      · unfold kwx at e; rw [if_neg y2] at e; omega
                    · have := kwx_no (n := endT T L i - i) (fun k' hk' e' => y ⟨k', hk', e'.symm⟩)
                      omega
                have k20 : kwx (endT T L i - i) (nmT 27 96 T i (endT T L i - i)) ≤ 20 := by
                  unfold kwx
                  split
                  · have := List.findIdx_le_length (p := fun x => x == nmT 27 96 T i (endT T L i - i)) (xs := kws)
                    rw [kws_n] at this; exact this
                  · omega
                generalize hμ : kwx (endT T L i - i) (nmT 27 96 T i (endT T L i - i)) = μ at *
                have r4 : ∀ x, x < 20 → rk (4 + x) = 20 + x := by decide +kernel
                refine upto (P := fun k => ∀ x6, x6 = nI (if μ < k then 20 + μ else 1) → AWP E m_Mo_cut 146 0 0 [(0, .ref 120), (1, .int (nI i)), (2, .int (nI (T i))), (3, .int (nI (endT T L i - i))), (4, .long l4), (6, .int x6), (7, .int (nI k))] [] (mk g u) (qV g R)) 20 ?_ ?_ 0 (Nat.zero_le _) _ (by rw [if_neg (by omega)]; rfl)
                · intro x6 ex
                  refine v_Mo_cut_146 _ _ _ _ _ _ hS (pk_le 20 20 (fun _ => ?_) (fun q => absurd q (by omega)))
                  rw [nI_add, show i + (endT T L i - i) = endT T L i by omega]
                  refine tk _ _ rfl ?_
                  rw [ex, kk, if_neg (show ¬ 8 < endT T L i - i by omega)]
                  by_cases y : μ < 20
                  · rw [if_pos y, if_pos y, r4 μ y]
                  · rw [if_neg y, if_neg y]; rfl
                · intro k hk ihk x6 ex
                  refine v_Mo_cut_146 _ _ _ _ _ _ hS (pk_le 20 k (fun q => absurd q (by omega)) (fun _ => ⟨vp_in_nI (by omega) (by omega), ?_⟩))
                  rw [tn_n (by omega), tu.2.2.2.2 k hk, el, nI_1 k]
                  have kb : kws.getD k 0 < 2 ^ 63 := Nat.lt_of_lt_of_le (kws_b k hk) (by decide)
                  rw [el] at ihk
                  refine ⟨fun w => ihk _ ?_, fun w => ihk _ ?_⟩
                  · have := (mt k hk).mp ((lN_eq' kb bd2).mp ((lg_cmp_eq _ _).mp w))
                    rw [if_pos (by omega), show (20 : Int32) = nI 20 from rfl, nI_add, this]
                  · have : μ ≠ k := fun y => w ((lg_cmp_eq _ _).mpr ((lN_eq' kb bd2).mpr ((mt k hk).mpr y)))
                    rw [ex]
                    by_cases y : μ < k
                    · rw [if_pos y, if_pos (by omega)]
                    · rw [if_neg y, if_neg (by omega)]
              · rw [kk, if_pos w]; rfl
            · exfalso
              unfold bT at z
              by_cases y : endT T L i < L
              · rw [if_pos y] at z; exact endT_stopL q y z
              · rw [if_neg y] at z; exact absurd z (by decide)
          · intro m hm ihm l4 el
            have il : i + m < L := by omega
            have bm : bT T L (i + m) = T (i + m) := by unfold bT; rw [if_pos il]
            have dm := lt (i + m) (by omega) (by omega)
            refine v_Mo_cut_85 _ _ _ _ hS ?_
            rw [nI_add]
            refine f_M_byteAt hS tu (by omega) ?_
            rw [bm]
            refine f_M_isL (tu.2.1 _ il) (fun z => absurd dm z) (fun _ => ⟨fun z => absurd z (by decide), fun _ => ?_⟩)
            rw [nI_1 m]
            refine pk_le 8 m (fun w => ihm l4 ?_) (fun w => f_M_byteAt hS tu (by omega) ?_)
            · rw [el, Nat.min_eq_right (by omega), Nat.min_eq_right (by omega)]
            · have d2 := dm
              simp only [isL, decide_eq_true_eq] at d2
              rw [bm]
              refine v_Mo_appends (Q := qL g _) _ _ (pk_eq (T (i + m)) 0 (fun w => absurd w (by omega)) (fun _ => GL.r (ihm _ ?_)) rfl rfl (by omega) (by omega))
              rw [el, Nat.min_eq_left (by omega), Nat.min_eq_left (by omega), nmT, show (97 : Int32) = nI 97 from rfl, pk_sub d2.1, nI_1, nI_l (by omega), show (27 : Int64) = lN 27 from rfl, lN_mul, lN_add]
              congr 1
              omega
      · rw [runT_u, if_neg (by omega)] at hb
        refine f_M_token hS (by omega) hP.1 (fun u' w1 w2 => GV.r (h u' M ⟨hM, fun j hj => ?_, fun _ => ⟨w1.2.1, ?_⟩, Or.inl (by omega)⟩ (hu.tr w2)))
        · obtain ⟨k1, k2, k3, k4, k5, k6, k7, k8, k9⟩ := w1
          rw [k3 j (by omega), k5 j (by omega), k7 j (by omega), k9 j (by omega)]; exact hP.2 j hj
        · rw [w1.2.2.2.1]
  refine main (L + 1) 0 (by omega) (by omega) 0 s1 (by omega) F1 ⟨by rw [e1, wi_s, upd_s]; rfl, fun j hj => absurd hj (by omega)⟩ rfl
end Cut
