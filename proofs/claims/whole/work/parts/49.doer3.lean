/-! send, sell, hold, restore -/
theorem RV.home {d : TD} {c : Nat} {N : Row} {r : Nat} (hO : TOk d) (hr : r < nR d) (hc : c ≤ 512) (hn : HN d N) (h : RV d c N) : RV d c (pHome r N) := by
  have h8 := hO.r8
  have hI := (hn r hr).1
  obtain ⟨w, w4, m, cat, fat, hz⟩ := h
  refine ⟨WFA.home hO hr (by omega) hn w4 w, (WF4.home hO hr (by omega) hn w4).1, ?_, ?_, fun x hx => ?_, HZ.home hO hr hn hz⟩
  · rw [pHome_o hI (by omega) (by omega) (by omega) (by omega) (by omega) (by omega)]; exact m
  · rw [pHome_o hI (by omega) (by omega) (by omega) (by omega) (by omega) (by omega)]; exact cat
  · rw [pHome_o hI (by omega) (by omega) (by omega) (by omega) (by omega) (by omega)]; exact fat x hx
theorem RV.back {d : TD} {c : Nat} {N : Row} {r : Nat} (hO : TOk d) (hr : r < nR d) (h3 : N (42 + r) = 3) (h : RV d c N) : RV d c (upd N (42 + r) 0) := by
  have h8 := hO.r8
  have h8e : eR (dE d) ≤ 8 := hO.r8
  obtain ⟨w, w4, m, cat, fat, hz⟩ := h
  refine ⟨WFA.back hO hr h3 hz w, w4.cg (fun k hk => upd_n _ _ (by omega)) (fun x hx => upd_n _ _ (by omega)), by rw [upd_n _ _ (by omega)]; exact m, by rw [upd_n _ _ (by omega)]; exact cat, fun x hx => by rw [upd_n _ _ (by omega)]; exact fat x hx, HZ.back hO hr hz⟩
/-- what a merchant takes of one grain -/
def pSI (d : TD) (k : Nat) : Nat → Row × Int32 → Row × Int32
  | 0, q => q
  | h + 1, q => if dOw d h = k then (upd (pSI d k h q).1 (6 + 6 * h + k) ((pSI d k h q).1 (6 + 6 * h + k) - (if (pSI d k h q).1 (6 + 6 * h + k) < (pSI d k h q).2 then (pSI d k h q).1 (6 + 6 * h + k) else (pSI d k h q).2)), (pSI d k h q).2 - (if (pSI d k h q).1 (6 + 6 * h + k) < (pSI d k h q).2 then (pSI d k h q).1 (6 + 6 * h + k) else (pSI d k h q).2)) else pSI d k h q
def pSl (d : TD) (m : Nat) : Nat → Row → Row
  | 0, N => N
  | k + 1, N => (pSI d k (nH d) (pSl d m k N, dWx d m k)).1
def pSell (d : TD) (m : Nat) (N : Row) : Row := upd (upd (pSl d m (nG d) N) 116 (N 116 + dPy d m)) 117 (N 117 ||| ((1 : Int32) <<< (nI m &&& 31)))
theorem pSI_o {d : TD} {k : Nat} {q : Row × Int32} {j : Nat} (hk : k < 6) (hj : j < 6 ∨ 42 ≤ j) : ∀ h, h ≤ 6 → (pSI d k h q).1 j = q.1 j
  | 0, _ => rfl
  | h + 1, hh => by
    rw [pSI]
    split
    · rw [upd_n _ _ (by omega), pSI_o hk hj h (by omega)]
    · exact pSI_o hk hj h (by omega)
theorem pSl_o {d : TD} {m : Nat} {N : Row} {j : Nat} (hO : TOk d) (hj : j < 6 ∨ 42 ≤ j) : ∀ k, k ≤ 6 → pSl d m k N j = N j
  | 0, _ => rfl
  | k + 1, hk => by rw [pSl, pSI_o (by omega) hj _ hO.h6]; exact pSl_o hO hj k (by omega)
theorem pSI_no {d : TD} {k : Nat} {q : Row × Int32} : ∀ h, (∀ x, x < h → dOw d x ≠ k) → pSI d k h q = q
  | 0, _ => rfl
  | h + 1, hh => by rw [pSI, if_neg (hh h (by omega)), pSI_no h (fun x hx => hh x (by omega))]
theorem nm_pSI {d : TD} {e : PE} {k : Nat} {q : Row × Int32} (hk : k < 6) : ∀ h, h ≤ 6 → pSI d k h (nm e q.1, q.2) = (nm e (pSI d k h q).1, (pSI d k h q).2)
  | 0, _ => rfl
  | h + 1, hh => by
    rw [pSI, pSI, nm_pSI hk h (by omega)]
    split
    · simp only [nm42 (show 6 + 6 * h + k < 42 by omega)]
      rw [nm_upd (lvb_of (by omega))]
    · rfl
theorem wf4_pSI {d : TD} {k B : Nat} {q : Row × Int32} (hO : TOk d) (hk : k < 6) (w : WF4 (dE d) B q.1) (h0 : 0 ≤ q.2) : ∀ h, h ≤ nH d → WF4 (dE d) B (pSI d k h q).1 ∧ 0 ≤ (pSI d k h q).2
  | 0, _ => ⟨w, h0⟩
  | h + 1, hh => by
    have h6 := hO.h6
    obtain ⟨a1, a2⟩ := wf4_pSI hO hk w h0 h (by omega)
    rw [pSI]
    split
    · have c0 := a1.1 (6 + 6 * h + k) (by omega)
      obtain ⟨x, hx, hxe⟩ := i_nn c0
      obtain ⟨y, hy, hye⟩ := i_nn a2
      rw [hxe, hye]
      by_cases l : x < y
      · rw [if_pos (nI_lt l hy), pk_sub (Nat.le_refl _), pk_sub (by omega), Nat.sub_self]
        exact ⟨WF4.less hO.r8 (by omega) (by decide) (by rw [hxe]; exact nI_le (by omega) hx) a1, nI_pos' (by omega)⟩
      · rw [if_neg (nI_nlt (by omega) hx), pk_sub (by omega), pk_sub (Nat.le_refl _), Nat.sub_self]
        exact ⟨WF4.less hO.r8 (by omega) (nI_pos' (by omega)) (by rw [hxe]; exact nI_le (by omega) hx) a1, by decide⟩
    · exact ⟨a1, a2⟩
theorem pWt_one {d : TD} {m k : Nat} : ∀ n, pWt d (2 ^ m) k n = if m < n then dWx d m k else 0
  | 0 => by rw [if_neg (by omega)]; rfl
  | n + 1 => by
    rw [pWt, pWt_one n, Nat.testBit_two_pow]
    by_cases e : m = n
    · subst e
      rw [if_neg (show ¬ m < m by omega), if_pos (show m < m + 1 by omega)]
      simp
    · have : decide (m = n) = false := by simp [e]
      rw [this]
      simp only [Bool.false_eq_true, if_false]
      by_cases l : m < n
      · rw [if_pos l, if_pos (by omega)]
      · rw [if_neg l, if_neg (by omega)]
section Doer3
variable {E : EN} {d : TD} {t lv c : Nat} {π : PS} {g : GS} {s : MS} {x1 x2 x3 : Int32} {Q : Int32 → Int32 → GS → MS → Prop}
theorem o_send (hc : c < 512) (hb : x2 = 0 ∨ x2 = 1) (I : INV d t lv c π g s) (hq : ∀ A π' g' v, INV d t lv (c + 1) π' g' v → Q A A g' v) : XI E m_Rs_send [.ref 16, .int x1, .int x2] g s (fun y g' u => GI E m_Mo_send [.ref 120, .int x1, .int x2] g' u (fun y' v => Q y y' g' v)) := by
  have hS := I.1.1.sx
  have hO := I.1.1.o
  have h8 : eR (dE d) ≤ 8 := hO.r8
  have h8' := hO.r8
  have P := I.pc
  have R0 := I.2.2.1
  have hn := I.hn
  have fin := hq 0 π g s (I.le hc)
  refine v_Rs_send (Q := rI _) _ _ t hS P.1.et P.1.ht ?_
  rw [P.1.tc.ra]
  refine f_Rs_isOf (fun q => ⟨fun _ => rI.mk ?_, fun c => absurd rfl c⟩) (fun q => ⟨fun c => absurd c (by decide), fun _ => ?_⟩)
  · exact v_Mo_send (Q := qI g _) _ _ hS (f_Mo_isRat hS hO I.2.1.1 (fun _ => ⟨fun _ => GI.r fin, fun c => absurd rfl c⟩) (fun w => absurd w q))
  obtain ⟨r, hr', rfl⟩ := lt_ex (by omega) q
  have hre : r < eR (dE d) := hr'
  have r8 : r < 8 := by omega
  have e78 : s.1 (78 + r) 0 = pN π (42 + r) := by rw [← q_at P.2.1 (lvb_of (k := 42 + r) (by omega))]; exact (hr42 s 74 r8).symm
  rw [tn_n (by omega), e78]
  -- the reference, refusing
  have no : (pN π (42 + r) = 3 ∧ x2 = 1) ∨ (¬ pN π (42 + r) = 3 ∧ x2 = 0) → GI E m_Mo_send [.ref 120, .int (nI r), .int x2] g s (fun y' v => Q 0 y' g v) := by
    intro w
    refine v_Mo_send (Q := qI g _) _ _ hS (f_Mo_isRat hS hO I.2.1.1 (fun w => absurd q w) (fun _ => ⟨fun c => absurd c (by decide), fun _ => ?_⟩))
    rw [ix42 r8, q_at I.pr.2 (lvb_of (by omega))]
    refine ⟨vi42 r8, fun c3 => ⟨fun _ => GI.r fin, fun c4 => ?_⟩, fun c3 => ⟨fun _ => GI.r fin, fun c4 => ?_⟩⟩
    · rcases w with ⟨w1, w2⟩ | ⟨w1, w2⟩
      · exact absurd w2.symm c4
      · exact absurd c3 w1
    · rcases w with ⟨w1, w2⟩ | ⟨w1, w2⟩
      · exact absurd w1 c3
      · exact absurd w2.symm c4
  refine ⟨vp_in_nI (by omega) (by omega), fun c3 => ⟨fun c4 => rI.mk (no (Or.inl ⟨c3, c4.symm⟩)), fun c4 => ?_⟩, fun c3 => ⟨fun c4 => rI.mk (no (Or.inr ⟨c3, c4.symm⟩)), fun c4 => ?_⟩⟩
  · -- called back
    have z : x2 = 0 := hb.resolve_right (fun w => c4 w.symm)
    refine k_rem I (fun g' u K N74 c74 D => ⟨K.sx, fun _ => ?_, fun w => absurd z w⟩)
    have u42 : hr u 74 (42 + r) = pN π (42 + r) := q_at N74 (lvb_of (by omega))
    refine f_House_callBack (HS74 K.sx) r8 c74 (by rw [u42, c3]; decide) (fun u2 w1 w2 w3 => rI.mk ?_)
    obtain ⟨C, FCs⟩ := D u2 (upd (pN π) (42 + r) 0) (FrH.C HB74 w3) (by rw [w1, nm_upd (lvb_of (by omega)), N74]) w2
    have J := I.2.1.mv FCs
    refine v_Mo_send (Q := qI g' _) _ _ K.sx (f_Mo_isRat K.sx hO J.1 (fun w => absurd q w) (fun _ => ⟨fun c => absurd c (by decide), fun _ => ?_⟩))
    rw [ix42 r8, q_at J.2.1 (lvb_of (by omega))]
    refine ⟨vi42 r8, fun _ => ⟨fun w => absurd w c4, fun _ => ?_⟩, fun w => absurd c3 w⟩
    refine k_copies K.sx J.1 J.2.1 (fun v b1 b2 b3 b4 => ⟨fun _ s3 e3 => ?_, fun w => absurd z w⟩)
    refine k_kee K.sx J I.2.2.2.1 (b4.tr (by rw [e3, wi_def]; exact FrR.si163 v _)) (N' := upd (pN π) (42 + r) 0) ?_ (fun w J' F => GI.r (hq _ _ g' w (fin_do hc I (RV.back hO hr' c3 R0).nn C J' F)))
    rw [e3, wi_s, nm_upd (lvb_of (by omega)), b3]
  · -- sent home
    have z : ¬ x2 = 0 := fun w => c4 w.symm
    refine k_rem I (fun g' u K N74 c74 D => ⟨K.sx, fun w => absurd w z, fun _ => ?_⟩)
    refine k_sendHome hO (HS74 K.sx) hr' N74 c74 (R0.1.2.1.2.2 r hre).2.1 (fun u2 w1 w2 w3 => rI.mk ?_)
    obtain ⟨C, FCs⟩ := D u2 (pHome r (pN π)) (FrH.C HB74 w3) w1 w2
    have J := I.2.1.mv FCs
    refine v_Mo_send (Q := qI g' _) _ _ K.sx (f_Mo_isRat K.sx hO J.1 (fun w => absurd q w) (fun _ => ⟨fun c => absurd c (by decide), fun _ => ?_⟩))
    rw [ix42 r8, q_at J.2.1 (lvb_of (by omega))]
    refine ⟨vi42 r8, fun w => absurd w c3, fun _ => ⟨fun w => absurd w c4, fun _ => ?_⟩⟩
    refine k_copies K.sx J.1 J.2.1 (fun v b1 b2 b3 b4 => ⟨fun w => absurd w z, fun _ => ?_⟩)
    refine k_goesHome K.sx hO hr' b3 hn (fun y y1 y2 => ?_)
    exact k_kee K.sx J I.2.2.2.1 (b4.tr y2.R) y1 (fun w J' F => GI.r (hq _ _ g' w (fin_do hc I (RV.home hO hr' (by omega) hn R0).nn C J' F)))
end Doer3
