/-! send, sell, hold, restore -/
theorem RV.home {d : TD} {c : Nat} {N : Row} {r : Nat} (hO : TOk d) (hr : r < nR d) (hc : c ≤ 512) (hn : HN d N) (h : RV d c N) : RV d c (pHome r N) := by
  have h8 := hO.r8
  have hI := (hn r hr).1
  obtain ⟨w, w4, m, cat, fat, hz⟩ := h
  refine ⟨WFA.home hO hr (by omega) hn w4 w, (WF4.home hO hr (by omega) hn w4).1, ?_, ?_, fun x hx => ?_, HZ.home hO hr hn hz⟩
  · rw [pHome_o hI (by omega) (by omega) (by omega) (by omega) (by omega) (by omega)]; exact m
  · rw [pHome_o hI (by omega) (by omega) (by omega) (by omega) (by omega) (by omega)]; exact cat
  · rw [pHome_o hI (by omega) (by omega) (by omega) (by omega) (by omega) (by omega)]; exact fat x hx
theorem RV.back {d : TD} {c : Nat} {N : Row} {r : Nat} (hO : TOk d) (hr : r < nR d) (h3 : N (42 + r) = 3) (h : RV d c N) : RV d c (upd N (42 + r) 0) := by
  have h8 := hO.r8
  have h8e : eR (dE d) ≤ 8 := hO.r8
  obtain ⟨w, w4, m, cat, fat, hz⟩ := h
  refine ⟨WFA.back hO hr h3 hz w, w4.cg (fun k hk => upd_n _ _ (by omega)) (fun x hx => upd_n _ _ (by omega)), by rw [upd_n _ _ (by omega)]; exact m, by rw [upd_n _ _ (by omega)]; exact cat, fun x hx => by rw [upd_n _ _ (by omega)]; exact fat x hx, HZ.back hO hr hz⟩
/-- what a merchant takes of one grain -/
def pSI (d : TD) (k : Nat) : Nat → Row × Int32 → Row × Int32
  | 0, q => q
  | h + 1, q => if dOw d h = k then (upd (pSI d k h q).1 (6 + 6 * h + k) ((pSI d k h q).1 (6 + 6 * h + k) - (if (pSI d k h q).1 (6 + 6 * h + k) < (pSI d k h q).2 then (pSI d k h q).1 (6 + 6 * h + k) else (pSI d k h q).2)), (pSI d k h q).2 - (if (pSI d k h q).1 (6 + 6 * h + k) < (pSI d k h q).2 then (pSI d k h q).1 (6 + 6 * h + k) else (pSI d k h q).2)) else pSI d k h q
def pSl (d : TD) (m : Nat) : Nat → Row → Row
  | 0, N => N
  | k + 1, N => (pSI d k (nH d) (pSl d m k N, dWx d m k)).1
def pSell (d : TD) (m : Nat) (N : Row) : Row := upd (upd (pSl d m (nG d) N) 116 (N 116 + dPy d m)) 117 (N 117 ||| ((1 : Int32) <<< (nI m &&& 31)))
theorem pSI_o {d : TD} {k : Nat} {q : Row × Int32} {j : Nat} (hk : k < 6) (hj : j < 6 ∨ 42 ≤ j) : ∀ h, h ≤ 6 → (pSI d k h q).1 j = q.1 j
  | 0, _ => rfl
  | h + 1, hh => by
    rw [pSI]
    split
    · show upd _ _ _ j = _
      rw [upd_n _ _ (by omega), pSI_o hk hj h (by omega)]
    · exact pSI_o hk hj h (by omega)
theorem pSl_o {d : TD} {m : Nat} {N : Row} {j : Nat} (hO : TOk d) (hj : j < 6 ∨ 42 ≤ j) : ∀ k, k ≤ 6 → pSl d m k N j = N j
  | 0, _ => rfl
  | k + 1, hk => by rw [pSl, pSI_o (by omega) hj _ hO.h6]; exact pSl_o hO hj k (by omega)
theorem pSI_no {d : TD} {k : Nat} {q : Row × Int32} : ∀ h, (∀ x, x < h → dOw d x ≠ k) → pSI d k h q = q
  | 0, _ => rfl
  | h + 1, hh => by rw [pSI, if_neg (hh h (by omega)), pSI_no h (fun x hx => hh x (by omega))]
theorem nm_pSI {d : TD} {e : PE} {k : Nat} {q : Row × Int32} (hk : k < 6) : ∀ h, h ≤ 6 → pSI d k h (nm e q.1, q.2) = (nm e (pSI d k h q).1, (pSI d k h q).2)
  | 0, _ => rfl
  | h + 1, hh => by
    rw [pSI, pSI, nm_pSI hk h (by omega)]
    split
    · simp only [nm42 (show 6 + 6 * h + k < 42 by omega)]
      rw [nm_upd (lvb_of (by omega))]
    · rfl
theorem wf4_pSI {d : TD} {k B : Nat} {q : Row × Int32} (hO : TOk d) (hk : k < 6) (w : WF4 (dE d) B q.1) (h0 : 0 ≤ q.2) : ∀ h, h ≤ nH d → WF4 (dE d) B (pSI d k h q).1 ∧ 0 ≤ (pSI d k h q).2
  | 0, _ => ⟨w, h0⟩
  | h + 1, hh => by
    have h6 := hO.h6
    obtain ⟨a1, a2⟩ := wf4_pSI hO hk w h0 h (by omega)
    rw [pSI]
    split
    · have c0 := a1.1 (6 + 6 * h + k) (by omega)
      obtain ⟨x, hx, hxe⟩ := i_nn c0
      obtain ⟨y, hy, hye⟩ := i_nn a2
      rw [hxe, hye]
      by_cases l : x < y
      · rw [if_pos (nI_lt l hy), pk_sub (Nat.le_refl _), pk_sub (by omega), Nat.sub_self]
        exact ⟨WF4.less hO.r8 (by omega) (by decide) (by rw [hxe]; exact nI_le (by omega) hx) a1, nI_pos' (by omega)⟩
      · rw [if_neg (nI_nlt (by omega) hx), pk_sub (by omega), pk_sub (Nat.le_refl _), Nat.sub_self]
        exact ⟨WF4.less hO.r8 (by omega) (nI_pos' (by omega)) (by rw [hxe]; exact nI_le (by omega) hx) a1, show (0 : Int32) ≤ nI 0 by decide⟩
    · exact ⟨a1, a2⟩
theorem pWt_one {d : TD} {m k : Nat} : ∀ n, pWt d (2 ^ m) k n = if m < n then dWx d m k else 0
  | 0 => by rw [if_neg (by omega)]; rfl
  | n + 1 => by
    rw [pWt, pWt_one n, Nat.testBit_two_pow]
    by_cases e : m = n
    · subst e
      rw [if_neg (show ¬ m < m by omega), if_pos (show m < m + 1 by omega)]
      simp
    · have : decide (m = n) = false := by simp [e]
      rw [this]
      simp only [Bool.false_eq_true, if_false]
      by_cases l : m < n
      · rw [if_pos l, if_pos (by omega)]
      · rw [if_neg l, if_neg (by omega)]
section Doer3
variable {E : EN} {d : TD} {t lv c : Nat} {π : PS} {g : GS} {s : MS} {x1 x2 x3 : Int32} {Q : Int32 → Int32 → GS → MS → Prop}
theorem o_send (hc : c < 512) (hb : x2 = 0 ∨ x2 = 1) (I : INV d t lv c π g s) (hq : ∀ A π' g' v, INV d t lv (c + 1) π' g' v → Q A A g' v) : XI E m_Rs_send [.ref 16, .int x1, .int x2] g s (fun y g' u => GI E m_Mo_send [.ref 120, .int x1, .int x2] g' u (fun y' v => Q y y' g' v)) := by
  have hS := I.1.1.sx
  have hO := I.1.1.o
  have h8 : eR (dE d) ≤ 8 := hO.r8
  have h8' := hO.r8
  have P := I.pc
  have R0 := I.2.2.1
  have hn := I.hn
  have fin := hq 0 π g s (I.le hc)
  refine v_Rs_send (Q := rI _) _ _ t hS P.1.et P.1.ht ?_
  rw [P.1.tc.ra]
  refine f_Rs_isOf (fun q => ⟨fun _ => rI.mk ?_, fun c => absurd rfl c⟩) (fun q => ⟨fun c => absurd c (by decide), fun _ => ?_⟩)
  · exact v_Mo_send (Q := qI g _) _ _ hS (f_Mo_isRat hS hO I.2.1.1 (fun _ => ⟨fun _ => GI.r fin, fun c => absurd rfl c⟩) (fun w => absurd w q))
  obtain ⟨r, hr', rfl⟩ := lt_ex (by omega) q
  have hre : r < eR (dE d) := hr'
  have r8 : r < 8 := by omega
  have e78 : s.1 (78 + r) 0 = pN π (42 + r) := by rw [← q_at P.2.1 (lvb_of (k := 42 + r) (by omega))]; exact (hr42 s 74 r8).symm
  rw [tn_n (by omega), e78]
  -- the reference, refusing
  have no : (pN π (42 + r) = 3 ∧ x2 = 1) ∨ (¬ pN π (42 + r) = 3 ∧ x2 = 0) → GI E m_Mo_send [.ref 120, .int (nI r), .int x2] g s (fun y' v => Q 0 y' g v) := by
    intro w
    refine v_Mo_send (Q := qI g _) _ _ hS (f_Mo_isRat hS hO I.2.1.1 (fun w => absurd q w) (fun _ => ⟨fun c => absurd c (by decide), fun _ => ?_⟩))
    rw [ix42 r8, q_at I.pr.2 (lvb_of (by omega))]
    refine ⟨vi42 r8, fun c3 => ⟨fun _ => GI.r fin, fun c4 => ?_⟩, fun c3 => ⟨fun _ => GI.r fin, fun c4 => ?_⟩⟩
    · rcases w with ⟨w1, w2⟩ | ⟨w1, w2⟩
      · exact absurd w2.symm c4
      · exact absurd c3 w1
    · rcases w with ⟨w1, w2⟩ | ⟨w1, w2⟩
      · exact absurd w1 c3
      · exact absurd w2.symm c4
  refine ⟨vp_in_nI (by omega) (by omega), fun c3 => ⟨fun c4 => rI.mk (no (Or.inl ⟨c3, c4.symm⟩)), fun c4 => ?_⟩, fun c3 => ⟨fun c4 => rI.mk (no (Or.inr ⟨c3, c4.symm⟩)), fun c4 => ?_⟩⟩
  · -- called back
    have z : x2 = 0 := hb.resolve_right (fun w => c4 w.symm)
    refine k_rem I (fun g' u K N74 c74 D => ⟨K.sx, fun _ => ?_, fun w => absurd z w⟩)
    have u42 : hr u 74 (42 + r) = pN π (42 + r) := q_at N74 (lvb_of (by omega))
    refine f_House_callBack (HS74 K.sx) r8 c74 (by rw [u42, c3]; decide) (fun u2 w1 w2 w3 => rI.mk ?_)
    obtain ⟨C, FCs⟩ := D u2 (upd (pN π) (42 + r) 0) (FrH.C HB74 w3) (by rw [w1, nm_upd (lvb_of (by omega)), N74]) w2
    have J := I.2.1.mv FCs
    refine v_Mo_send (Q := qI g' _) _ _ K.sx (f_Mo_isRat K.sx hO J.1 (fun w => absurd q w) (fun _ => ⟨fun c => absurd c (by decide), fun _ => ?_⟩))
    rw [ix42 r8, q_at J.2.1 (lvb_of (by omega))]
    refine ⟨vi42 r8, fun _ => ⟨fun w => absurd w c4, fun _ => ?_⟩, fun w => absurd c3 w⟩
    refine k_copies K.sx J.1 J.2.1 (fun v b1 b2 b3 b4 => ⟨fun _ s3 e3 => ?_, fun w => absurd z w⟩)
    refine k_kee K.sx J I.2.2.2.1 (b4.tr (by rw [e3, wi_def]; exact FrR.si163 v _)) (N' := upd (pN π) (42 + r) 0) ?_ (fun w J' F => GI.r (hq _ _ g' w (fin_do hc I (RV.back hO hr' c3 R0).nn C J' F)))
    rw [e3, wi_s, nm_upd (lvb_of (by omega)), b3]
  · -- sent home
    have z : ¬ x2 = 0 := fun w => c4 w.symm
    refine k_rem I (fun g' u K N74 c74 D => ⟨K.sx, fun w => absurd w z, fun _ => ?_⟩)
    refine k_sendHome hO (HS74 K.sx) hr' N74 c74 (R0.1.2.1.2.2 r hre).2.1 (fun u2 w1 w2 w3 => rI.mk ?_)
    obtain ⟨C, FCs⟩ := D u2 (pHome r (pN π)) (FrH.C HB74 w3) w1 w2
    have J := I.2.1.mv FCs
    refine v_Mo_send (Q := qI g' _) _ _ K.sx (f_Mo_isRat K.sx hO J.1 (fun w => absurd q w) (fun _ => ⟨fun c => absurd c (by decide), fun _ => ?_⟩))
    rw [ix42 r8, q_at J.2.1 (lvb_of (by omega))]
    refine ⟨vi42 r8, fun w => absurd w c3, fun _ => ⟨fun w => absurd w c4, fun _ => ?_⟩⟩
    refine k_copies K.sx J.1 J.2.1 (fun v b1 b2 b3 b4 => ⟨fun w => absurd w z, fun _ => ?_⟩)
    refine k_goesHome K.sx hO hr' b3 hn (fun y y1 y2 => ?_)
    exact k_kee K.sx J I.2.2.2.1 (b4.tr y2.R) y1 (fun w J' F => GI.r (hq _ _ g' w (fin_do hc I (RV.home hO hr' (by omega) hn R0).nn C J' F)))
theorem k_handOver {R : MS → Prop} {m : Nat} {b : Nat} {N : Row} {f : Row} {sd : Int32} (K : KC d g t f sd s) (hbt : b = 74) (hH : HS g b) (hm : m < dM d) (hC : CH b s) (hN : nm (dE d) (hr s b) = N) (hh : ∀ u, nm (dE d) (hr u b) = pSell d m N → CH b u → FrH b s u → R u) : GV E m_House_handOver [.ref b, .ref t, .int (nI m)] g s R := by
  have hS := K.sx
  have et := K.et
  have g6 := K.o.g6
  have h6 := K.o.h6
  have m5 := K.o.m5
  have KU : ∀ u, FrH b s u → KC d g t f sd u := fun u hu => K.mv (by rw [hbt]; exact HB74) (FrH.C (by rw [hbt]; exact HB74) hu)
  refine v_House_handOver (Q := qV g R) b t _ ?_
  refine upto (P := fun k => ∀ u, nm (dE d) (hr u b) = pSl d m k N → CH b u → FrH b s u → AWP E m_House_handOver 2 0 0 [(0, .ref b), (1, .ref t), (2, .int (nI m)), (3, .int (nI k))] [] (mk g u) (qV g R)) (nG d) ?_ ?_ 0 (Nat.zero_le _) s hN hC (FrH.rf b s)
  · intro u a1 a2 a3
    have Ku := KU u a3
    refine v_House_handOver_2 b t _ _ hS hH et (pk_le (nG d) (nG d) (fun _ => ⟨vp_in_nI (by omega) (by omega), ?_⟩) (fun q => absurd q (by omega)) Ku.tc.gr)
    rw [tn_n (by omega), (Ku.tc.mr hm).1]
    intro s1 e1 s2 e2
    have u6 : u.1 b 6 = N 116 := by rw [← hr116, q_at a1 (lvb_of (by omega)), pSl_o K.o (by omega) _ g6]
    have v7 : s1.1 b 7 = N 117 := by rw [e1, wi_s, upd_n _ _ (by decide), ← hr117, q_at a1 (lvb_of (by omega)), pSl_o K.o (by omega) _ g6]
    rw [u6] at e1
    rw [v7] at e2
    refine GV.r (hh s2 ?_ ?_ ?_)
    · rw [e2, hw_117, nm_upd (lvb_of (by omega)), e1, hw_116, nm_upd (lvb_of (by omega)), a1]; rfl
    · rw [e2, e1]; exact (a2.wi (by omega)).wi (by omega)
    · rw [e2, e1]; exact a3.tr ((FrH.w (by omega) (by omega)).tr (FrH.w (by omega) (by omega)))
  · intro k hk ih u a1 a2 a3
    have Ku := KU u a3
    refine v_House_handOver_2 b t _ _ hS hH et (pk_le (nG d) k (fun q => absurd q (by omega)) (fun _ => k_wantOf Ku hm hk ?_) Ku.tc.gr)
    rw [pSl] at ih
    refine upto (P := fun h => ∀ u, nm (dE d) (hr u b) = (pSI d k h (pSl d m k N, dWx d m k)).1 → CH b u → FrH b s u → AWP E m_House_handOver 21 0 0 [(0, .ref b), (1, .ref t), (2, .int (nI m)), (3, .int (nI k)), (4, .int (pSI d k h (pSl d m k N, dWx d m k)).2), (5, .int (nI h))] [] (mk g u) (qV g R)) (nH d) ?_ ?_ 0 (Nat.zero_le _) u a1 a2 a3
    · intro u a1 a2 a3
      refine v_House_handOver_21 b t _ _ _ _ hS hH et (pk_le (nH d) (nH d) (fun _ => ?_) (fun q => absurd q (by omega)) (KU u a3).tc.ho)
      rw [nI_1]; exact ih u a1 a2 a3
    · intro h hh' ih2 u a1 a2 a3
      have Ku := KU u a3
      have og := K.o.ow hh'
      refine v_House_handOver_21 b t _ _ _ _ hS hH et (pk_le (nH d) h (fun q => absurd q (by omega)) (fun _ => ⟨vp_in_nI (by omega) (by omega), ?_⟩) Ku.tc.ho)
      rw [tn_n (by omega), Ku.tc.ow hh', x6, tn_n (by omega), nI_1]
      rw [pSI] at ih2
      have ucell : u.1 (b + 2) (6 * h + k) = hr u b (6 + 6 * h + k) := by rw [show 6 + 6 * h + k = 6 + (6 * h + k) by omega]; exact (hr_ho u b (by omega)).symm
      refine pk_eq (dOw d h) k (fun e => f_House_inHole hH (by omega) (by omega) ⟨vp_in_nI (by omega) (by omega), fun s2 e2 => ?_⟩) (fun e => ⟨vp_in_nI (by omega) (by omega), fun s3 e3 => ?_⟩)
      · rw [if_pos e] at ih2
        have uc := q_at a1 (lvb_of (e := dE d) (k := 6 + 6 * h + k) (by omega))
        rw [ucell, uc] at e2
        rw [uc]
        refine ih2 s2 ?_ ?_ ?_
        · rw [e2, hw_ho _ _ (by omega), nm_upd (lvb_of (by omega)), a1, show 6 + (6 * h + k) = 6 + 6 * h + k by omega]
        · rw [e2]; exact a2.wi (by omega)
        · rw [e2]; exact a3.tr (FrH.w (by omega) (by omega))
      · rw [if_neg e] at ih2
        rw [show ∀ z : Int32, z - 0 = z from fun z => by simp]
        refine ih2 s3 ?_ ?_ ?_
        · rw [e3, hw_ho _ _ (by omega), ucell, show ∀ z : Int32, z - 0 = z from fun z => by simp, show 6 + (6 * h + k) = 6 + 6 * h + k by omega, upd_self]; exact a1
        · rw [e3]; exact a2.wi (by omega)
        · rw [e3]; exact a3.tr (FrH.w (by omega) (by omega))
theorem pSl_6 {m : Nat} {N : Row} (hO : TOk d) : ∀ k, nG d ≤ k → pSl d m k N = pSl d m (nG d) N
  | 0, h => by rw [show nG d = 0 by omega]
  | k + 1, h => by
    by_cases e : nG d = k + 1
    · rw [e]
    · rw [pSl, pSI_no _ (fun x hx => by have := hO.ow hx; omega)]; exact pSl_6 hO k (by omega)
theorem dWx_nn (hO : TOk d) (hw : ∀ m k, m < dM d → k < nG d → 0 ≤ dWa d m k) {m k : Nat} (hm : m < dM d) : 0 ≤ dWx d m k := by
  rw [dWx]; split
  · exact hw m k hm (by assumption)
  · decide
theorem o_sell (hc : c < 512) (I : INV d t lv c π g s) (hq : ∀ A π' g' v, INV d t lv (c + 1) π' g' v → Q A A g' v) : XI E m_Rs_sell [.ref 16, .int x1] g s (fun y g' u => GI E m_Mo_sell [.ref 120, .int x1] g' u (fun y' v => Q y y' g' v)) := by
  have hS := I.1.1.sx
  have hO := I.1.1.o
  have m5 := hO.m5
  have g6 := hO.g6
  have h6 := hO.h6
  have h8 : eR (dE d) ≤ 8 := hO.r8
  have P := I.pc
  have R0 := I.2.2.1
  have hv := I.2.1.1.2.2.1
  have fin := hq 0 π g s (I.le hc)
  have ck := I.2.2.2.2.2.2.2.2
  refine v_Rs_sell (Q := rI _) _ t hS P.1.et P.1.ht ?_
  rw [P.1.tc.me]
  refine f_Rs_isOf (fun q => ⟨fun _ => rI.mk ?_, fun c => absurd rfl c⟩) (fun q => ⟨fun c => absurd c (by decide), fun _ => ?_⟩)
  · refine v_Mo_sell (Q := qI g _) _ hS ⟨by rw [I.2.1.1.2.1]; exact vp_in_nI hv (by omega), ?_⟩
    rw [I.2.1.1.2.1, tn_n (by omega), I.2.1.1.1.me]
    exact f_Mo_in (fun _ => ⟨fun _ => GI.r fin, fun c => absurd rfl c⟩) (fun w => absurd ((lt_pred (by omega)).mp w) q)
  obtain ⟨m, hm, rfl⟩ := lt_ex (by omega) q
  have e7 : s.1 74 7 = pN π 117 := by rw [← hr117, q_at P.2.1 (lvb_of (by omega))]
  have p256 : 2 ^ m < 256 := Nat.lt_of_le_of_lt (Nat.pow_le_pow_right (by omega) (show m ≤ 4 by omega)) (by decide)
  have cg : ∀ R : Row, nm (dE d) R = pN π → (eno d (2 ^ m) R ↔ eno d (2 ^ m) (pN π)) := fun R hR => eno_cg hO (fun x hx => by rw [← hR, nm42 hx])
  -- the reference up to where it asks whether there is enough
  have ref : ∀ g' u A, SX g' → IRf d lv π u → ((¬ (pN π 117 &&& ((1 : Int32) <<< (nI m &&& 31)) = 0) ∨ ¬ eno d (2 ^ m) (pN π)) → ∀ v, FrR u v → Q A 0 g' v) → ((pN π 117 &&& ((1 : Int32) <<< (nI m &&& 31)) = 0) → eno d (2 ^ m) (pN π) → ∀ v, FrR u v → nm (dE d) (v.1 163) = pN π → AWP E m_Mo_sell 54 0 0 [(0, .ref 120), (1, .int (nI m)), (2, .int 0)] [] (mk g' v) (qI g' fun y' v => Q A y' g' v)) → GI E m_Mo_sell [.ref 120, .int (nI m)] g' u (fun y' v => Q A y' g' v) := by
    intro g' u A hS' J h0 h1
    refine v_Mo_sell (Q := qI g' _) _ hS' ⟨by rw [J.1.2.1]; exact vp_in_nI hv (by omega), ?_⟩
    rw [J.1.2.1, tn_n (by omega), J.1.1.me]
    refine f_Mo_in (fun w => absurd ((lt_pred (by omega)).mpr q) w) (fun _ => ⟨fun c => absurd c (by decide), fun _ => ?_⟩)
    rw [q_at J.2.1 (lvb_of (by omega))]
    refine ⟨fun w => GI.r (h0 (Or.inl fun y => ?_) u (FrR.rf u)), fun w => ?_⟩
    · have := (bit1 _ (by omega)).mp w
      rw [(bit0 _ (by omega)).mp y] at this
      exact absurd this (by decide)
    · have z : pN π 117 &&& ((1 : Int32) <<< (nI m &&& 31)) = 0 := by
        rw [bit0 _ (by omega)]
        cases y : (pN π 117).toBitVec.getLsbD m
        · rfl
        · exact absurd ((bit1 _ (by omega)).mpr y) w
      refine k_copies hS' J.1 J.2.1 (fun v b1 b2 b3 b4 => ?_)
      rw [bt_pow m (by omega)]
      refine k_isEnough hS' hO (J.1.mv b4) p256 (fun y => ⟨fun c => absurd c (by decide), fun _ => h1 z ((cg _ b3).mp y) v b4 b3⟩) (fun y => ⟨fun _ => GI.r (h0 (Or.inr fun w => y ((cg _ b3).mpr w)) v b4), fun c => absurd rfl c⟩)
  have refNo : (¬ (pN π 117 &&& ((1 : Int32) <<< (nI m &&& 31)) = 0) ∨ ¬ eno d (2 ^ m) (pN π)) → GI E m_Mo_sell [.ref 120, .int (nI m)] g s (fun y' v => Q 0 y' g v) := by
    intro w
    refine ref g s 0 hS I.2.1 (fun _ v hv' => hq _ π g v ⟨I.1.mv hv'.F, I.2.1.r hv', (I.le hc).2.2⟩) (fun z1 z2 => ?_)
    exact absurd w (fun y => y.elim (fun y => y z1) (fun y => y z2))
  rw [e7]
  refine ⟨fun c1 => ?_, fun c1 => rI.mk (refNo (Or.inl c1))⟩
  rw [bt_pow m (by omega)]
  refine k_hasFor P.1 (HS74 hS) p256 (fun y => ⟨fun c => absurd c (by decide), fun _ => ?_⟩) (fun y => ⟨fun _ => rI.mk (refNo (Or.inr fun w => y ((cg _ P.2.1).mpr w))), fun c => absurd rfl c⟩)
  have en := (cg _ P.2.1).mp y
  refine k_rem I (fun g' u K N74 c74 D => ⟨K.sx, K.ht, ?_⟩)
  refine k_handOver K rfl (HS74 K.sx) hm c74 N74 (fun u2 w1 w2 w3 => rI.mk ?_)
  obtain ⟨C, FCs⟩ := D u2 (pSell d m (pN π)) (FrH.C HB74 w3) w1 w2
  have J := I.2.1.mv FCs
  refine ref g' u2 1 K.sx J (fun w => absurd w (fun y => y.elim (fun y => y c1) (fun y => y en))) (fun _ _ v b4 b3 => ?_)
  have hS' := K.sx
  have slo : ∀ j, j < 6 ∨ 42 ≤ j → pSl d m (nG d) (pN π) j = pN π j := fun j hj => pSl_o hO hj _ g6
  have RVn : RV d (c + 1) (pSell d m (pN π)) := by
    have so : ∀ j, (j < 6 ∨ 42 ≤ j) → j ≠ 116 → j ≠ 117 → pSell d m (pN π) j = pN π j := fun j h1 h2 h3 => by
      unfold pSell; rw [upd_n _ _ h3, upd_n _ _ h2, slo j h1]
    refine R0.mk' hO (Nat.le_succ c) (by omega) (fun x hx => ?_) (fun x hx => ?_) (fun x hx => ?_) (fun x hx => ?_) ?_ ?_ ?_
    · have : x < eR (dE d) := hx
      exact ⟨so _ (by omega) (by omega) (by omega), so _ (by omega) (by omega) (by omega), so _ (by omega) (by omega) (by omega), so _ (by omega) (by omega) (by omega), so _ (by omega) (by omega) (by omega)⟩
    · rw [so _ (by omega) (by have : x < eR (dE d) := hx; omega) (by have : x < eR (dE d) := hx; omega)]; exact (R0.1.1 x hx).1
    · rw [so _ (by omega) (by have : x < eR (dE d) := hx; omega) (by have : x < eR (dE d) := hx; omega)]; exact R0.h74 hx
    · rw [so _ (by omega) (by have : x < eR (dE d) := hx; omega) (by have : x < eR (dE d) := hx; omega)]; exact R0.2.2.2.2.1 x hx
    · exact so _ (by omega) (by omega) (by omega)
    · rw [so _ (by omega) (by omega) (by omega)]; exact R0.2.2.2.1
    · have W : ∀ k, k ≤ nG d → WF4 (dE d) (10000 * (c + 6)) (pSl d m k (pN π)) := by
        intro k
        induction k with
        | zero => intro _; exact R0.2.1
        | succ k ih => intro hk; exact (wf4_pSI (q := (pSl d m k (pN π), dWx d m k)) hO (by omega) (ih (by omega)) (dWx_nn hO hO.wa hm) _ (Nat.le_refl _)).1
      refine ((W _ (Nat.le_refl _)).cg (fun y hy => ?_) (fun y hy => ?_)).le (by omega)
      · unfold pSell; rw [upd_n _ _ (by omega), upd_n _ _ (by omega)]
      · unfold pSell; rw [upd_n _ _ (by omega), upd_n _ _ (by omega)]
  refine upto (P := fun k => ∀ w, FrR u2 w → nm (dE d) (w.1 163) = pSl d m k (pN π) → AWP E m_Mo_sell 54 0 0 [(0, .ref 120), (1, .int (nI m)), (2, .int (nI k))] [] (mk g' w) (qI g' fun y' v => Q 1 y' g' v)) 6 ?_ ?_ 0 (Nat.zero_le _) v b4 b3
  · intro w a1 a2
    have Kw := J.1.mv a1
    rw [pSl_6 hO 6 g6] at a2
    refine v_Mo_sell_54 _ _ hS' (pk_le 6 6 (fun _ => ?_) (fun q => absurd q (by omega)))
    rw [Kw.2.1, y5, tn_n (by omega), (Kw.1.mr hm).1]
    refine ⟨vp_in_nI (by omega) (by omega), fun s1 e1 s2 e2 => ?_⟩
    have v6 : w.1 163 116 = pN π 116 := by rw [q_at a2 (lvb_of (by omega)), slo _ (by omega)]
    have v7 : w.1 163 117 = pN π 117 := by rw [q_at a2 (lvb_of (by omega)), slo _ (by omega)]
    rw [v6] at e1
    rw [v7] at e2
    refine k_kee hS' J I.2.2.2.1 (a1.tr (by rw [e2, e1, wi_def w, wi_si]; exact FrR.si163 w _)) (N' := pSell d m (pN π)) ?_ (fun z J' F => GI.r (hq _ _ g' z (fin_do hc I RVn C J' F)))
    rw [e2, wi_s, e1, wi_s, nm_upd (lvb_of (by omega)), nm_upd (lvb_of (by omega)), a2]; rfl
  · intro k hk ih w a1 a2
    have Kw := J.1.mv a1
    refine v_Mo_sell_54 _ _ hS' (pk_le 6 k (fun q => absurd q (by omega)) (fun _ => ?_))
    rw [bt_pow m (by omega)]
    refine k_wantedBy hS' hO Kw p256 hk ?_
    rw [pWt_one, if_pos hm]
    rw [pSl] at ih
    refine upto (P := fun h => ∀ w, FrR u2 w → nm (dE d) (w.1 163) = (pSI d k h (pSl d m k (pN π), dWx d m k)).1 → AWP E m_Mo_sell 72 0 0 [(0, .ref 120), (1, .int (nI m)), (2, .int (nI k)), (3, .int (pSI d k h (pSl d m k (pN π), dWx d m k)).2), (4, .int (nI h))] [] (mk g' w) (qI g' fun y' v => Q 1 y' g' v)) (nH d) ?_ ?_ 0 (Nat.zero_le _) w a1 a2
    · intro w a1 a2
      have Kw := J.1.mv a1
      refine v_Mo_sell_72 _ _ _ _ hS' ⟨by rw [Kw.2.1]; exact vp_in_nI hv (by omega), ?_⟩
      rw [Kw.2.1, tn_n (by omega), nI_1 k]
      exact pk_le (nH d) (nH d) (fun _ => ih w a1 a2) (fun q => absurd q (by omega)) Kw.1.ho
    · intro h hh' ih2 w a1 a2
      have Kw := J.1.mv a1
      have og := hO.ow hh'
      refine v_Mo_sell_72 _ _ _ _ hS' ⟨by rw [Kw.2.1]; exact vp_in_nI hv (by omega), ?_⟩
      rw [Kw.2.1, tn_n (by omega), y6, tn_n (by omega), Kw.1.ow hh', z6, tn_n (by omega), nI_1 h]
      rw [pSI] at ih2
      have wc := q_at a2 (lvb_of (e := dE d) (k := 6 + 6 * h + k) (by omega))
      rw [wc]
      generalize pSI d k h (pSl d m k (pN π), dWx d m k) = q0 at ih2 a2 wc ⊢
      refine pk_le (nH d) h (fun q => absurd q (by omega)) (fun _ => ⟨vp_in_nI (by omega) (by omega), pk_eq (dOw d h) k (fun e => ⟨vp_in_nI (by omega) (by omega), fun c2 s1 e1 => ?_, fun c2 s1 e1 => ?_⟩) (fun e => ?_)⟩) Kw.1.ho
      · rw [if_pos e, if_neg (Int32.not_lt.mpr c2)] at ih2
        refine ih2 s1 (a1.tr (by rw [e1, wi_def]; exact FrR.si163 w _)) ?_
        rw [e1, wi_s, nm_upd (lvb_of (by omega)), a2]
      · rw [if_pos e, if_pos (Int32.not_le.mp c2)] at ih2
        refine ih2 s1 (a1.tr (by rw [e1, wi_def]; exact FrR.si163 w _)) ?_
        rw [e1, wi_s, nm_upd (lvb_of (by omega)), a2]
      · rw [if_neg e] at ih2
        exact ih2 w a1 a2
end Doer3
