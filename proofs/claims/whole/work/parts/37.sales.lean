/-! what merchants want, what is there; sales -/
def dWx (d : TD) (m k : Nat) : Int32 := if k < nG d then dWa d m k else 0
def pWt (d : TD) (st k : Nat) : Nat → Int32
  | 0 => 0
  | m + 1 => if st.testBit m then pWt d st k m + dWx d m k else pWt d st k m
def pTh (d : TD) (R : Row) (k : Nat) : Nat → Int32
  | 0 => 0
  | h + 1 => if dOw d h = k then pTh d R k h + R (6 + 6 * h + k) else pTh d R k h
def pPy (d : TD) (st : Nat) : Nat → Int32
  | 0 => 0
  | m + 1 => if st.testBit m then pPy d st m + dPy d m else pPy d st m
def eno (d : TD) (st : Nat) (R : Row) : Prop := ∀ k, k < nG d → pWt d st k (dM d) ≤ pTh d R k (nH d)
theorem pTh_cg {d : TD} {R R' : Row} {k : Nat} (hk : k < 6) (q : ∀ k, k < 42 → R k = R' k) : ∀ n, n ≤ 6 → pTh d R k n = pTh d R' k n
  | 0, _ => rfl
  | n + 1, h => by rw [pTh, pTh, pTh_cg hk q n (by omega), q (6 + 6 * n + k) (by omega)]
theorem pTh_z {d : TD} {R : Row} {k : Nat} : ∀ n, (∀ h, h < n → dOw d h ≠ k) → pTh d R k n = 0
  | 0, _ => rfl
  | n + 1, h => by rw [pTh, if_neg (h n (by omega)), pTh_z n (fun x hx => h x (by omega))]
theorem pWt_z {d : TD} {st k : Nat} (hk : ¬ k < nG d) : ∀ m, pWt d st k m = 0
  | 0 => rfl
  | m + 1 => by rw [pWt, pWt_z hk m, dWx, if_neg hk]; split <;> rfl
theorem eno_cg {d : TD} {st : Nat} {R R' : Row} (hO : TOk d) (q : ∀ k, k < 42 → R k = R' k) : eno d st R ↔ eno d st R' := by
  have g6 := hO.g6
  refine forall_congr' fun k => forall_congr' fun hk => ?_
  rw [pTh_cg (by omega) q _ hO.h6]
theorem pPy_0 (d : TD) : ∀ m, pPy d 0 m = 0
  | 0 => rfl
  | m + 1 => by rw [pPy, if_neg (by simp), pPy_0 d m]
section Sales
variable {E : EN} {g : GS} {b t lv : Nat} {d : TD} {s : MS} {N : Row} {f : Row} {sd : Int32}
theorem k_wantOf {R : Int32 → MS → Prop} (K : KC d g t f sd s) {m k : Nat} (hm : m < dM d) (hk : k < nG d) (h : R (dWx d m k) s) : GI E m_Text_wantOf [.ref t, .int (nI m), .int (nI k)] g s R := by
  have g6 := K.o.g6
  have m5 := K.o.m5
  refine v_Text_wantOf (Q := qI g R) t _ _ K.sx K.et ?_
  rw [x6, tn_n (by omega), (K.tc.mr hm).2 k hk]
  rw [dWx, if_pos hk] at h
  exact ⟨vp_in_nI (by omega) (by omega), GI.r h⟩
theorem k_hasFor {R : Int32 → MS → Prop} (K : KC d g t f sd s) (hH : HS g b) {st : Nat} (hst : st < 256) (h1 : eno d st (hr s b) → R 1 s) (h0 : ¬ eno d st (hr s b) → R 0 s) : GI E m_House_hasFor [.ref b, .ref t, .int (nI st)] g s R := by
  have g6 := K.o.g6
  have h6 := K.o.h6
  have m5 := K.o.m5
  have hS := K.sx
  have et := K.et
  refine v_House_hasFor (Q := qI g R) b t _ ?_
  refine upto (P := fun k => (∀ x, x < k → pWt d st x (dM d) ≤ pTh d (hr s b) x (nH d)) → AWP E m_House_hasFor 2 0 0 [(0, .ref b), (1, .ref t), (2, .int (nI st)), (3, .int (nI k))] [] (mk g s) (qI g R)) (nG d) ?_ ?_ 0 (Nat.zero_le _) (fun x hx => absurd hx (by omega))
  · intro hg
    exact v_House_hasFor_2 b t _ _ hS et (pk_le (nG d) (nG d) (fun _ => GI.r (h1 hg)) (fun q => absurd q (by omega)) K.tc.gr)
  · intro k hk ih hg
    refine v_House_hasFor_2 b t _ _ hS et (pk_le (nG d) k (fun q => absurd q (by omega)) (fun _ => ?_) K.tc.gr)
    refine upto (P := fun m => AWP E m_House_hasFor 16 0 0 [(0, .ref b), (1, .ref t), (2, .int (nI st)), (3, .int (nI k)), (4, .int (pWt d st k m)), (5, .int (nI m))] [] (mk g s) (qI g R)) (dM d) ?_ ?_ 0 (Nat.zero_le _)
    · refine v_House_hasFor_16 b t _ _ _ _ hS et (pk_le (dM d) (dM d) (fun _ => ?_) (fun q => absurd q (by omega)) K.tc.me)
      refine upto (P := fun h => AWP E m_House_hasFor 62 0 0 [(0, .ref b), (1, .ref t), (2, .int (nI st)), (3, .int (nI k)), (4, .int (pWt d st k (dM d))), (5, .int (pTh d (hr s b) k h)), (6, .int (nI h))] [] (mk g s) (qI g R)) (nH d) ?_ ?_ 0 (Nat.zero_le _)
      · refine v_House_hasFor_62 b t _ _ _ _ _ hS hH et (pk_le (nH d) (nH d) (fun _ => ⟨fun c => ?_, fun c => GI.r (h0 fun w => c (w k hk))⟩) (fun q => absurd q (by omega)) K.tc.ho)
        rw [nI_1]
        refine ih fun x hx => ?_
        by_cases e : x = k
        · subst e; exact c
        · exact hg x (by omega)
      · intro h hh ih2
        refine v_House_hasFor_62 b t _ _ _ _ _ hS hH et (pk_le (nH d) h (fun q => absurd q (by omega)) (fun _ => ⟨vp_in_nI (by omega) (by omega), ?_⟩) K.tc.ho)
        have og := K.o.ow hh
        rw [tn_n (by omega), K.tc.ow hh]
        rw [pTh] at ih2
        refine pk_eq (dOw d h) k (fun e => f_House_inHole hH (by omega) (by omega) ?_) (fun e => ?_)
        · rw [if_pos e] at ih2; rw [nI_1]; exact ih2
        · rw [if_neg e] at ih2; rw [nI_1, show pTh d (hr s b) k h + 0 = pTh d (hr s b) k h by simp]; exact ih2
    · intro m hm ih2
      refine v_House_hasFor_16 b t _ _ _ _ hS et (pk_le (dM d) m (fun q => absurd q (by omega)) (fun _ => ⟨fun c => ?_, fun c => k_wantOf K hm hk ?_⟩) K.tc.me)
      · rw [pWt, (bt_and st hst m (by omega)).mp c, if_neg (by decide)] at ih2
        rw [nI_1, show pWt d st k m + 0 = pWt d st k m by simp]; exact ih2
      · rw [pWt, if_pos (by cases q : st.testBit m; exact absurd ((bt_and st hst m (by omega)).mpr q) c; rfl)] at ih2
        rw [nI_1]; exact ih2
theorem w4 (l m i : Nat) : 4 * (5 * nI l + nI m) + nI i = nI (4 * (5 * l + m) + i) := by rw [y5, show (4 : Int32) = nI 4 from rfl, pk_mul, nI_add]
theorem k_wantedBy {R : Int32 → MS → Prop} (hS : SX g) (hO : TOk d) (K : KR d lv s) {st k : Nat} (hst : st < 256) (hk : k < 6) (h : R (pWt d st k (dM d)) s) : GI E m_Mo_wantedBy [.ref 120, .int (nI st), .int (nI k)] g s R := by
  have m5 := hO.m5
  have hv := K.2.2.1
  refine v_Mo_wantedBy (Q := qI g R) _ _ ?_
  refine upto (P := fun m => AWP E m_Mo_wantedBy 5 0 0 [(0, .ref 120), (1, .int (nI st)), (2, .int (nI k)), (3, .int (pWt d st k m)), (4, .int (nI m))] [] (mk g s) (qI g R)) (dM d) ?_ ?_ 0 (Nat.zero_le _)
  · refine v_Mo_wantedBy_5 _ _ _ _ hS ⟨by rw [K.2.1]; exact vp_in_nI hv (by omega), ?_⟩
    rw [K.2.1, tn_n (by omega)]
    exact pk_le (dM d) (dM d) (fun _ => GI.r h) (fun q => absurd q (by omega)) K.1.me
  · intro m hm ih
    obtain ⟨-, n, hn, hne, hw⟩ := K.1.mr hm
    refine v_Mo_wantedBy_5 _ _ _ _ hS ⟨by rw [K.2.1]; exact vp_in_nI hv (by omega), ?_⟩
    rw [K.2.1, tn_n (by omega), nI_1]
    refine pk_le (dM d) m (fun q => absurd q (by omega)) (fun _ => ⟨fun c => ?_, fun c => ?_⟩) K.1.me
    · rw [pWt, (bt_sh0 st hst m (by omega)).mp c, if_neg (by decide)] at ih; exact ih
    · rw [pWt, if_pos (by cases q : st.testBit m; exact absurd ((bt_sh0 st hst m (by omega)).mpr q) c; rfl)] at ih
      have := upto (P := fun i => AWP E m_Mo_wantedBy 34 0 0 [(0, .ref 120), (1, .int (nI st)), (2, .int (nI k)), (3, .int (pWt d st k m + wsum (s.1 145) (s.1 146) (4 * (5 * lv + m)) k i)), (4, .int (nI m)), (5, .int (nI i))] [] (mk g s) (qI g R)) n ?_ ?_ 0 (Nat.zero_le _)
      · rw [wsum, show pWt d st k m + 0 = pWt d st k m by simp] at this; exact this
      · refine v_Mo_wantedBy_34 _ _ _ _ _ hS ?_
        rw [K.2.1, y5, tn_n (by omega), nI_1]
        refine ⟨vp_in_nI (by omega) (by omega), pk_le n n (fun _ => ?_) (fun q => absurd q (by omega)) hne⟩
        rw [hw k hk]; exact ih
      · intro i hi ih2
        refine v_Mo_wantedBy_34 _ _ _ _ _ hS ?_
        rw [K.2.1, w4, y5, tn_n (by omega), tn_n (by omega), nI_1 i]
        rw [wsum] at ih2
        refine ⟨vp_in_nI (by omega) (by omega), pk_le n i (fun q => absurd q (by omega)) (fun _ => ⟨vp_in_nI (by omega) (by omega), fun c => ?_, fun c => ?_⟩) hne⟩
        · rw [if_pos c, ← Int32.add_assoc] at ih2; exact ih2
        · rw [if_neg c] at ih2; exact ih2
theorem k_isEnough {R : Int32 → MS → Prop} (hS : SX g) (hO : TOk d) (K : KR d lv s) {st : Nat} (hst : st < 256) (h1 : eno d st (s.1 163) → R 1 s) (h0 : ¬ eno d st (s.1 163) → R 0 s) : GI E m_Mo_isEnough [.ref 120, .int (nI st)] g s R := by
  have g6 := hO.g6
  have h6 := hO.h6
  have hv := K.2.2.1
  refine v_Mo_isEnough (Q := qI g R) _ ?_
  refine upto (P := fun k => (∀ x, x < k → pWt d st x (dM d) ≤ pTh d (s.1 163) x (nH d)) → AWP E m_Mo_isEnough 2 0 0 [(0, .ref 120), (1, .int (nI st)), (2, .int (nI k))] [] (mk g s) (qI g R)) 6 ?_ ?_ 0 (Nat.zero_le _) (fun x hx => absurd hx (by omega))
  · intro hg
    exact v_Mo_isEnough_2 _ _ (pk_le 6 6 (fun _ => GI.r (h1 fun k hk => hg k (by omega))) (fun q => absurd q (by omega)))
  · intro k hk ih hg
    refine v_Mo_isEnough_2 _ _ (pk_le 6 k (fun q => absurd q (by omega)) (fun _ => ?_))
    refine upto (P := fun h => AWP E m_Mo_isEnough 13 0 0 [(0, .ref 120), (1, .int (nI st)), (2, .int (nI k)), (3, .int (pTh d (s.1 163) k h)), (4, .int (nI h))] [] (mk g s) (qI g R)) (nH d) ?_ ?_ 0 (Nat.zero_le _)
    · refine v_Mo_isEnough_13 _ _ _ _ hS ⟨by rw [K.2.1]; exact vp_in_nI hv (by omega), ?_⟩
      rw [K.2.1, tn_n (by omega)]
      refine pk_le (nH d) (nH d) (fun _ => k_wantedBy hS hO K hst hk ⟨fun c => ?_, fun c => GI.r (h0 fun w => ?_)⟩) (fun q => absurd q (by omega)) K.1.ho
      · rw [nI_1]
        refine ih fun x hx => ?_
        by_cases e : x = k
        · subst e; exact c
        · exact hg x (by omega)
      · by_cases e : k < nG d
        · exact c (w k e)
        · rw [pWt_z e, pTh_z _ (fun x hx => by have := hO.ow hx; omega)] at c
          exact c (Int32.le_refl _)
    · intro h hh ih2
      have og := hO.ow hh
      refine v_Mo_isEnough_13 _ _ _ _ hS ⟨by rw [K.2.1]; exact vp_in_nI hv (by omega), ?_⟩
      rw [K.2.1, tn_n (by omega), y6, tn_n (by omega), K.1.ow hh, z6, tn_n (by omega), nI_1 h]
      rw [pTh] at ih2
      refine pk_le (nH d) h (fun q => absurd q (by omega)) (fun _ => ⟨vp_in_nI (by omega) (by omega), pk_eq (dOw d h) k (fun e => ⟨vp_in_nI (by omega) (by omega), ?_⟩) (fun e => ?_)⟩) K.1.ho
      · rw [if_pos e] at ih2; exact ih2
      · rw [if_neg e] at ih2; exact ih2
theorem k_paysOf {R : Int32 → MS → Prop} (hS : SX g) (hO : TOk d) (K : KR d lv s) {st : Nat} (hst : st < 256) (h : R (pPy d st (dM d)) s) : GI E m_Mo_paysOf [.ref 120, .int (nI st)] g s R := by
  have m5 := hO.m5
  have hv := K.2.2.1
  refine v_Mo_paysOf (Q := qI g R) _ ?_
  refine upto (P := fun k => AWP E m_Mo_paysOf 4 0 0 [(0, .ref 120), (1, .int (nI st)), (2, .int (pPy d st k)), (3, .int (nI k))] [] (mk g s) (qI g R)) (dM d) ?_ ?_ 0 (Nat.zero_le _)
  · refine v_Mo_paysOf_4 _ _ _ hS ⟨by rw [K.2.1]; exact vp_in_nI hv (by omega), ?_⟩
    rw [K.2.1, tn_n (by omega)]
    exact pk_le (dM d) (dM d) (fun _ => GI.r h) (fun q => absurd q (by omega)) K.1.me
  · intro k hk ih
    refine v_Mo_paysOf_4 _ _ _ hS ⟨by rw [K.2.1]; exact vp_in_nI hv (by omega), ?_⟩
    rw [K.2.1, tn_n (by omega), y5, tn_n (by omega), (K.1.mr hk).1, nI_1]
    refine pk_le (dM d) k (fun q => absurd q (by omega)) (fun _ => ⟨fun c => ⟨vp_in_nI (by omega) (by omega), ?_⟩, fun c => ?_⟩) K.1.me
    · rw [pPy, if_pos ((bt_shr st hst k (by omega)).mp c)] at ih; exact ih
    · rw [pPy, if_neg (fun q => c ((bt_shr st hst k (by omega)).mpr q))] at ih; exact ih
noncomputable def pSa (d : TD) (N : Row) : Nat → Int32 × Int32
  | 0 => (0, 0)
  | k + 1 => @ite _ (nI (k + 1) &&& N 117 = 0 ∧ (pSa d N k).2 < pPy d (k + 1) (dM d) ∧ eno d (k + 1) N) (Classical.propDecidable _) (nI (k + 1), pPy d (k + 1) (dM d)) (pSa d N k)
theorem pSa_1 (d : TD) (N : Row) : ∀ k, ∃ c, c ≤ k ∧ (pSa d N k).1 = nI c ∧ (pSa d N k).2 = pPy d c (dM d)
  | 0 => ⟨0, by omega, rfl, (pPy_0 d _).symm⟩
  | k + 1 => by
    rw [pSa]
    split
    · exact ⟨k + 1, by omega, rfl, rfl⟩
    · obtain ⟨c, h1, h2⟩ := pSa_1 d N k
      exact ⟨c, by omega, h2⟩
noncomputable def salesA (d : TD) (N : Row) (x : Int32) : Int32 := if 0 ≤ x ∧ x < 2 then (if x = 0 then (pSa d N (2 ^ dM d - 1)).2 else (pSa d N (2 ^ dM d - 1)).1) else -1
theorem c_sales {R : Int32 → MS → Prop} {x1 : Int32} (P : PC d g t N s) (h : ∀ u, FrP t s u → R (salesA d N x1) u) : GI E m_Rs_sales [.ref 16, .int x1] g s R := by
  have hS := P.1.sx
  have hO := P.1.o
  have et := P.1.et
  have m5 := hO.m5
  have p8 := pw_le (k := dM d) (by omega)
  have p1 : 1 ≤ 2 ^ dM d := Nat.one_le_two_pow
  refine v_Rs_sales (Q := qI g R) _ t hS P.1.ht (f_Rs_isOf (fun q => ⟨fun _ => GI.r ?_, fun c => absurd rfl c⟩) (fun q => ⟨fun c => absurd c (by decide), fun _ => ?_⟩))
  · have := h s (FrP.rf t s)
    rw [salesA, if_neg q] at this
    exact this
  refine v_Planner_seekSales (Q := qV g _) t 74 hS ?_
  intro s1 e1 s2 e2
  have F2 : FrP t s s2 := by rw [e2, e1]; exact (FrP.w (by omega)).tr (FrP.w (by omega))
  refine upto (P := fun k => ∀ u, FrP t s u → u.1 31 2 = (pSa d N k).1 → u.1 31 3 = (pSa d N k).2 → AWP E m_Planner_seekSales 12 0 0 [(0, .ref 31), (1, .ref t), (2, .ref 74), (3, .int (nI (k + 1)))] [] (mk g u) (qV g _)) (2 ^ dM d - 1) ?_ ?_ 0 (Nat.zero_le _) s2 F2 (by rw [e2, wi_s, upd_n _ _ (by decide), e1, wi_s, upd_s]; rfl) (by rw [e2, wi_s, upd_s]; rfl)
  · intro u a1 a2 a3
    refine v_Planner_seekSales_12 t 74 _ hS et ?_
    rw [(P.1.p a1).tc.me, bt_pow _ (by omega)]
    refine pk_le (2 ^ dM d) (2 ^ dM d - 1 + 1) (fun _ => GV.r ?_) (fun q => absurd q (by omega))
    have hh := h u a1
    rw [salesA, if_pos q] at hh
    refine ⟨fun c => GI.r ?_, fun c => GI.r ?_⟩
    · rw [if_pos c] at hh; rw [a3]; exact hh
    · rw [if_neg c] at hh; rw [a2]; exact hh
  · intro k hk ih u a1 a2 a3
    have Pu := P.mv a1
    have k256 : k + 1 < 256 := by omega
    refine v_Planner_seekSales_12 t 74 _ hS et ?_
    rw [Pu.1.tc.me, bt_pow _ (by omega)]
    refine pk_le (2 ^ dM d) (k + 1) (fun q => absurd q (by omega)) (fun _ => ?_)
    rw [pSa] at ih
    have e117 : u.1 74 7 = N 117 := by rw [← hr117, q_at Pu.2.1 (lvb_of (by omega))]
    have cg : eno d (k + 1) (hr u 74) ↔ eno d (k + 1) N := eno_cg hO (fun x hx => by rw [← Pu.2.1, nm42 hx])
    refine upto (P := fun m => AWP E m_Planner_seekSales 28 0 0 [(0, .ref 31), (1, .ref t), (2, .ref 74), (3, .int (nI (k + 1))), (4, .int (pPy d (k + 1) m)), (5, .int (nI m))] [] (mk g u) (qV g _)) (dM d) ?_ ?_ 0 (Nat.zero_le _)
    · refine v_Planner_seekSales_28 t 74 _ _ _ hS et (HS74 hS) (pk_le (dM d) (dM d) (fun _ => ?_) (fun q => absurd q (by omega)) Pu.1.tc.me)
      rw [e117, a3, nI_1]
      refine ⟨fun y1 => ⟨fun y2 => ?_, fun y2 => k_hasFor Pu.1 (HS74 hS) k256 (fun y3 => ⟨fun c => absurd c (by decide), fun _ s3 f3 s4 f4 => ?_⟩) (fun y3 => ⟨fun _ => ?_, fun c => absurd rfl c⟩)⟩, fun y1 => ?_⟩
      · rw [if_neg (fun w => absurd y2 (Int32.not_le.mpr w.2.1))] at ih; exact ih u a1 a2 a3
      · rw [if_pos ⟨y1, Int32.not_le.mp y2, cg.mp y3⟩] at ih
        refine ih s4 (a1.tr (by rw [f4, f3]; exact (FrP.w (by omega)).tr (FrP.w (by omega)))) ?_ ?_
        · rw [f4, wi_s, upd_n _ _ (by decide), f3, wi_s, upd_s]
        · rw [f4, wi_s, upd_s]
      · rw [if_neg (fun w => y3 (cg.mpr w.2.2))] at ih; exact ih u a1 a2 a3
      · rw [if_neg (fun w => y1 w.1)] at ih; exact ih u a1 a2 a3
    · intro m hm ih2
      refine v_Planner_seekSales_28 t 74 _ _ _ hS et (HS74 hS) (pk_le (dM d) m (fun q => absurd q (by omega)) (fun _ => ⟨fun c => ?_, fun c => ⟨vp_in_nI (by omega) (by omega), ?_⟩⟩) Pu.1.tc.me)
      · rw [pPy, (bt_and (k + 1) k256 m (by omega)).mp c, if_neg (by decide)] at ih2
        rw [nI_1, show pPy d (k + 1) m + 0 = pPy d (k + 1) m by simp]; exact ih2
      · rw [pPy, if_pos (by cases q : (k + 1).testBit m; exact absurd ((bt_and (k + 1) k256 m (by omega)).mpr q) c; rfl)] at ih2
        rw [nI_1, tn_n (by omega), (Pu.1.tc.mr hm).1]; exact ih2
theorem r_sales {R : Int32 → MS → Prop} {x1 : Int32} (hS : SX g) (hO : TOk d) (P : PR d lv N s) (h : ∀ u, FrR s u → R (salesA d N x1) u) : GI E m_Mo_sales [.ref 120, .int x1] g s R := by
  have m5 := hO.m5
  have p8 := pw_le (k := dM d) (by omega)
  have p1 : 1 ≤ 2 ^ dM d := Nat.one_le_two_pow
  refine v_Mo_sales (Q := qI g R) _ hS (f_Mo_in (fun q2 => ⟨fun _ => GI.r ?_, fun c => absurd rfl c⟩) (fun q2' => ⟨fun c => absurd c (by decide), fun _ => ?_⟩))
  · have := h s (FrR.rf s)
    rw [salesA, if_neg (fun w : 0 ≤ x1 ∧ x1 < 2 => q2 ((lt_pred (n := 2) (by decide)).mpr w))] at this
    exact this
  have q2 : 0 ≤ x1 ∧ x1 < 2 := (lt_pred (n := 2) (by decide)).mp q2'
  refine k_copies hS P.1 P.2 (fun v b1 b2 b3 b4 => ?_)
  have K := P.1.mv b4
  have hv := K.2.2.1
  have hh := h v b4
  rw [salesA, if_pos q2] at hh
  have cg : ∀ k, eno d k (v.1 163) ↔ eno d k N := fun k => eno_cg hO (fun x hx => by rw [← b3, nm42 hx])
  refine upto (P := fun k => AWP E m_Mo_sales 19 0 0 [(0, .ref 120), (1, .int x1), (2, .int (pSa d N k).1), (3, .int (nI (k + 1)))] [] (mk g v) (qI g R)) (2 ^ dM d - 1) ?_ ?_ 0 (Nat.zero_le _)
  · refine v_Mo_sales_19 _ _ _ hS ⟨by rw [K.2.1]; exact vp_in_nI hv (by omega), ?_⟩
    rw [K.2.1, tn_n (by omega), K.1.me, bt_pow _ (by omega)]
    refine pk_le (2 ^ dM d) (2 ^ dM d - 1 + 1) (fun _ => ⟨fun c => ?_, fun c => GI.r ?_⟩) (fun q => absurd q (by omega))
    · obtain ⟨c', h1, h2, h3⟩ := pSa_1 d N (2 ^ dM d - 1)
      rw [if_pos c, h3] at hh
      rw [h2]
      exact k_paysOf hS hO K (by omega) (GI.r hh)
    · rw [if_neg c] at hh; exact hh
  · intro k hk ih
    have k256 : k + 1 < 256 := by omega
    refine v_Mo_sales_19 _ _ _ hS ⟨by rw [K.2.1]; exact vp_in_nI hv (by omega), ?_⟩
    rw [K.2.1, tn_n (by omega), K.1.me, bt_pow _ (by omega), q_at b3 (lvb_of (by omega)), nI_1]
    rw [pSa] at ih
    refine pk_le (2 ^ dM d) (k + 1) (fun q => absurd q (by omega)) (fun _ => ⟨fun y1 => k_isEnough hS hO K k256 (fun y3 => ⟨fun c => absurd c (by decide), fun _ => ?_⟩) (fun y3 => ⟨fun _ => ?_, fun c => absurd rfl c⟩), fun y1 => ?_⟩)
    · refine k_paysOf hS hO K k256 ?_
      obtain ⟨c', h1, h2, h3⟩ := pSa_1 d N k
      rw [h2]
      refine k_paysOf hS hO K (by omega) ?_
      rw [← h2, ← h3]
      refine ⟨fun y2 => ?_, fun y2 => ?_⟩
      · rw [if_neg (fun w => absurd y2 (Int32.not_le.mpr w.2.1))] at ih; exact ih
      · rw [if_pos ⟨y1, Int32.not_le.mp y2, (cg _).mp y3⟩] at ih; exact ih
    · rw [if_neg (fun w => y3 ((cg _).mpr w.2.2))] at ih; exact ih
    · rw [if_neg (fun w => y1 w.1)] at ih; exact ih
end Sales
