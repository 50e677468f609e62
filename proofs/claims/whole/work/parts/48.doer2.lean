/-! swap, give, send, sell; hold, restore -/
theorem bit1 (x : Int32) {l : Nat} (hl : l < 32) : ((x >>> (nI l &&& 31)) &&& 1 = 1) ↔ x.toBitVec.getLsbD l = true := by
  have sm : ∀ l, l < 32 → ((nI l &&& 31).toBitVec.smod 32).toNat = l := by decide +kernel
  have e1 : (x >>> (nI l &&& 31)).toBitVec = x.toBitVec.sshiftRight l := by
    apply BitVec.eq_of_toInt_eq
    rw [BitVec.toInt_sshiftRight]
    exact pk_shr x (nI l &&& 31) l (sm l hl)
  have e2 : (x >>> (nI l &&& 31)) &&& 1 = nI ((x >>> (nI l &&& 31)).toBitVec.toNat % 2 ^ 1) := pk_and _ 1 rfl
  rw [e2, e1]
  have e3 : (x.toBitVec.sshiftRight l).toNat % 2 ^ 1 = if x.toBitVec.getLsbD l then 1 else 0 := by
    have : (x.toBitVec.sshiftRight l).getLsbD 0 = x.toBitVec.getLsbD l := by
      rw [BitVec.getLsbD_sshiftRight]
      simp [hl]
    rw [← BitVec.testBit_toNat] at this
    rw [Nat.testBit_zero] at this
    rw [← this]
    by_cases q : (x.toBitVec.sshiftRight l).toNat % 2 = 1
    · simp [q]
    · have : (x.toBitVec.sshiftRight l).toNat % 2 = 0 := by omega
      simp [this]
  rw [e3]
  split
  · rename_i q
    exact ⟨fun _ => q, fun _ => rfl⟩
  · rename_i q
    exact ⟨fun h => absurd h (by decide), fun h => absurd h q⟩
section Doer2
variable {E : EN} {d : TD} {t lv c : Nat} {π : PS} {g : GS} {s : MS} {b : Nat} {N : Row}
theorem k_exchange {R : MS → Prop} {h o : Nat} (hH : HS g b) (h6 : h < 6) (o6 : o < 6) (hC : CH b s) (hN : nm (dE d) (hr s b) = N) (hh : ∀ u, nm (dE d) (hr u b) = pX h o 6 N → CH b u → FrH b s u → R u) : GV E m_House_exchange [.ref b, .int (nI h), .int (nI o)] g s R := by
  refine v_House_exchange (Q := qV g R) b _ _ ?_
  refine upto (P := fun k => ∀ u, nm (dE d) (hr u b) = pX h o k N → CH b u → FrH b s u → AWP E m_House_exchange 2 0 0 [(0, .ref b), (1, .int (nI h)), (2, .int (nI o)), (3, .int (nI k))] [] (mk g u) (qV g R)) 6 ?_ ?_ 0 (Nat.zero_le _) s hN hC (FrH.rf b s)
  · intro u a1 a2 a3
    exact v_House_exchange_2 b _ _ _ hH (pk_le 6 6 (fun _ => GV.r (hh u a1 a2 a3)) (fun q => absurd q (by omega)))
  · intro k hk ih u a1 a2 a3
    refine v_House_exchange_2 b _ _ _ hH (pk_le 6 k (fun q => absurd q (by omega)) (fun _ => f_House_inHole hH h6 hk (f_House_inHole hH o6 hk ?_)))
    rw [x6, x6, tn_n (by omega), tn_n (by omega), nI_1]
    refine ⟨vp_in_nI (by omega) (by omega), fun s3 e3 => ⟨vp_in_nI (by omega) (by omega), fun s4 e4 => ih s4 ?_ ?_ ?_⟩⟩
    · rw [e4, hw_ho _ _ (by omega), e3, hw_ho _ _ (by omega), pX, ← a1, nm_upd (lvb_of (by omega)), nm_upd (lvb_of (by omega)), nm42 (by omega), nm42 (by omega), show 6 + (6 * h + k) = 6 + 6 * h + k by omega, show 6 + (6 * o + k) = 6 + 6 * o + k by omega]
    · rw [e4, e3]; exact (a2.wi (by omega)).wi (by omega)
    · rw [e4, e3]; exact a3.tr ((FrH.w (by omega) (by omega)).tr (FrH.w (by omega) (by omega)))
theorem k_swaps {R : MS → Prop} {h o : Nat} (hS : SX g) (h6 : h < 6) (o6 : o < 6) (hN : nm (dE d) (s.1 163) = N) (hh : ∀ u, nm (dE d) (u.1 163) = pX h o 6 N → FrA s u → R u) : GV E m_Mo_swaps [.ref 120, .int (nI h), .int (nI o)] g s R := by
  refine v_Mo_swaps (Q := qV g R) _ _ ?_
  refine upto (P := fun k => ∀ u, nm (dE d) (u.1 163) = pX h o k N → FrA s u → AWP E m_Mo_swaps 2 0 0 [(0, .ref 120), (1, .int (nI h)), (2, .int (nI o)), (3, .int (nI k))] [] (mk g u) (qV g R)) 6 ?_ ?_ 0 (Nat.zero_le _) s hN (FrA.rf s)
  · intro u a1 a3
    exact v_Mo_swaps_2 _ _ _ hS (pk_le 6 6 (fun _ => GV.r (hh u a1 a3)) (fun q => absurd q (by omega)))
  · intro k hk ih u a1 a3
    refine v_Mo_swaps_2 _ _ _ hS (pk_le 6 k (fun q => absurd q (by omega)) (fun _ => ?_))
    rw [z6, z6, tn_n (by omega), tn_n (by omega), nI_1]
    refine ⟨vp_in_nI (by omega) (by omega), vp_in_nI (by omega) (by omega), fun s3 e3 s4 e4 => ih s4 ?_ ?_⟩
    · rw [e4, wi_s, e3, wi_s, pX, ← a1, nm_upd (lvb_of (by omega)), nm_upd (lvb_of (by omega)), nm42 (by omega), nm42 (by omega)]
    · rw [e4, e3, wi_def u, wi_si]; exact a3.tr (FrA.si163 u _)
variable {x1 x2 x3 : Int32} {Q : Int32 → Int32 → GS → MS → Prop}
theorem o_swap (hc : c < 512) (I : INV d t lv c π g s) (hq : ∀ A π' g' v, INV d t lv (c + 1) π' g' v → Q A A g' v) : XI E m_Rs_swap [.ref 16, .int x1, .int x2] g s (fun y g' u => GI E m_Mo_swap [.ref 120, .int x1, .int x2] g' u (fun y' v => Q y y' g' v)) := by
  have hS := I.1.1.sx
  have hO := I.1.1.o
  have h6 : eHo (dE d) ≤ 6 := hO.h6
  have h6' := hO.h6
  have h8 : eR (dE d) ≤ 8 := hO.r8
  have P := I.pc
  have R0 := I.2.2.1
  have fin := hq 0 π g s (I.le hc)
  have ck := I.2.2.2.2.2.2.2.2
  have no : ((0 ≤ x1 ∧ x1 < nI (nH d)) → (0 ≤ x2 ∧ x2 < nI (nH d)) → x1 = x2) → GI E m_Mo_swap [.ref 120, .int x1, .int x2] g s (fun y' v => Q 0 y' g v) := by
    intro w
    exact v_Mo_swap (Q := qI g _) _ _ hS (f_Mo_isHole hS hO I.2.1.1 (fun _ => ⟨fun _ => GI.r fin, fun c => absurd rfl c⟩) (fun q => ⟨fun c => absurd c (by decide), fun _ => f_Mo_isHole hS hO I.2.1.1 (fun _ => ⟨fun _ => GI.r fin, fun c => absurd rfl c⟩) (fun q2 => ⟨fun c => absurd c (by decide), fun _ => ⟨fun _ => GI.r fin, fun c => absurd (w q q2) c⟩⟩)⟩))
  refine v_Rs_swap (Q := rI _) _ _ t hS P.1.et P.1.ht ?_
  rw [P.1.tc.ho]
  refine f_Rs_isOf (fun q => ⟨fun _ => rI.mk (no fun w => absurd w q), fun c => absurd rfl c⟩) (fun q => ⟨fun c => absurd c (by decide), fun _ => ?_⟩)
  rw [P.1.tc.ho]
  refine f_Rs_isOf (fun q2 => ⟨fun _ => rI.mk (no fun _ w => absurd w q2), fun c => absurd rfl c⟩) (fun q2 => ⟨fun c => absurd c (by decide), fun _ => ⟨fun c1 => rI.mk (no fun _ _ => c1), fun c1 => ?_⟩⟩)
  obtain ⟨h, hh, rfl⟩ := lt_ex (by omega) q
  obtain ⟨o, ho, rfl⟩ := lt_ex (by omega) q2
  have hno : h ≠ o := fun e => c1 (by rw [e])
  refine k_rem I (fun g' u K N74 c74 D => ⟨K.sx, ?_⟩)
  refine k_exchange (HS74 K.sx) (by omega) (by omega) c74 N74 (fun u2 w1 w2 w3 => rI.mk ?_)
  obtain ⟨C, FCs⟩ := D u2 _ (FrH.C HB74 w3) w1 w2
  have J := I.2.1.mv FCs
  refine v_Mo_swap (Q := qI g' _) _ _ K.sx (f_Mo_isHole K.sx hO J.1 (fun w => absurd q w) (fun _ => ⟨fun c => absurd c (by decide), fun _ => f_Mo_isHole K.sx hO J.1 (fun w => absurd q2 w) (fun _ => ⟨fun c => absurd c (by decide), fun _ => ⟨fun w => absurd w c1, fun _ => ?_⟩⟩)⟩))
  refine k_copies K.sx J.1 J.2.1 (fun v b1 b2 b3 b4 => ?_)
  refine k_swaps K.sx (by omega) (by omega) b3 (fun z z1 z2 => ?_)
  refine k_kee K.sx J I.2.2.2.1 (b4.tr z2.R) z1 (fun w J' F => GI.r ?_)
  have xo : ∀ j, j < 6 ∨ 42 ≤ j → pX h o 6 (pN π) j = pN π j := fun j hj => pX_o (by omega) (by omega) hj 6 (Nat.le_refl _)
  refine hq _ _ g' w (fin_do hc I (R0.mk' hO (Nat.le_succ c) (by omega) (fun x hx => ⟨xo _ (by omega), xo _ (by omega), xo _ (by omega), xo _ (by omega), xo _ (by omega)⟩) (fun x hx => ?_) (fun x hx => ?_) (fun x hx => ?_) (xo _ (by omega)) ?_ ?_) C J' F)
  · rw [xo _ (by omega)]; exact (R0.1.1 x hx).1
  · rw [xo _ (by omega)]; exact R0.h74 hx
  · rw [xo _ (by omega)]; exact R0.2.2.2.2.1 x hx
  · rw [xo _ (by omega)]; exact R0.2.2.2.1
  · exact (wf4_pX h8 h6 hno hh ho R0.2.1 6 (Nat.le_refl _)).le (by omega)
def pGv (r k : Nat) (n : Int32) (N : Row) : Row := upd (upd (upd (upd N k (N k - n)) 115 (N 115 + n)) (74 + r) 0) (82 + r) (if 9 ≤ N (82 + r) then N (82 + r) else N (82 + r) + 1)
theorem o_give (hc : c < 512) (I : INV d t lv c π g s) (hq : ∀ A π' g' v, INV d t lv (c + 1) π' g' v → Q A A g' v) : XI E m_Rs_give [.ref 16, .int x1, .int x2, .int x3] g s (fun y g' u => GI E m_Mo_give [.ref 120, .int x1, .int x2, .int x3] g' u (fun y' v => Q y y' g' v)) := by
  have hS := I.1.1.sx
  have hO := I.1.1.o
  have g6 := hO.g6
  have h8 : eR (dE d) ≤ 8 := hO.r8
  have h8' := hO.r8
  have P := I.pc
  have R0 := I.2.2.1
  have fin := hq 0 π g s (I.le hc)
  have ck := I.2.2.2.2.2.2.2.2
  have no : ((0 ≤ x1 ∧ x1 < nI (nR d)) → (0 ≤ x2 ∧ x2 < nI (nG d)) → ¬ x3 < 1 → ¬ pN π x2.toNatClampNeg < x3 → ¬ pN π (42 + x1.toNatClampNeg) = 0) → GI E m_Mo_give [.ref 120, .int x1, .int x2, .int x3] g s (fun y' v => Q 0 y' g v) := by
    intro w
    refine v_Mo_give (Q := qI g _) _ _ _ hS (f_Mo_isRat hS hO I.2.1.1 (fun _ => ⟨fun _ => GI.r fin, fun c => absurd rfl c⟩) (fun q => ⟨fun c => absurd c (by decide), fun _ => f_Mo_isGrain hS hO I.2.1.1 (fun _ => ⟨fun _ => GI.r fin, fun c => absurd rfl c⟩) (fun q2 => ⟨fun c => absurd c (by decide), fun _ => ⟨fun _ => GI.r fin, fun c3 => ?_⟩⟩)⟩))
    have w' := w q q2 c3
    obtain ⟨r, hr', rfl⟩ := lt_ex (by omega) q
    obtain ⟨k, hk, rfl⟩ := lt_ex (by omega) q2
    have hre : r < eR (dE d) := hr'
    rw [tn_n (by omega), tn_n (by omega)] at w'
    rw [tn_n (by omega), ix42 (by omega), q_at I.pr.2 (lvb_of (k := k) (by omega)), q_at I.pr.2 (lvb_of (k := 42 + r) (by omega))]
    exact ⟨vp_in_nI (by omega) (by omega), fun _ => GI.r fin, fun c4 => ⟨vi42 (by omega), fun c5 => absurd c5 (w' c4), fun _ => GI.r fin⟩⟩
  refine v_Rs_give (Q := rI _) _ _ _ t hS P.1.et P.1.ht ?_
  rw [P.1.tc.ra]
  refine f_Rs_isOf (fun q => ⟨fun _ => rI.mk (no fun w => absurd w q), fun c => absurd rfl c⟩) (fun q => ⟨fun c => absurd c (by decide), fun _ => ?_⟩)
  rw [P.1.tc.gr]
  refine f_Rs_isOf (fun q2 => ⟨fun _ => rI.mk (no fun _ w => absurd w q2), fun c => absurd rfl c⟩) (fun q2 => ⟨fun c => absurd c (by decide), fun _ => ⟨fun c3 => rI.mk (no fun _ _ w => absurd c3 w), fun c3 => ?_⟩⟩)
  obtain ⟨r, hr', rfl⟩ := lt_ex (by omega) q
  obtain ⟨k, hk, rfl⟩ := lt_ex (by omega) q2
  have hre : r < eR (dE d) := hr'
  have r8 : r < 8 := by omega
  rw [tn_n (by omega), tn_n (by omega)] at no ⊢
  have e75 : s.1 75 k = pN π k := by rw [← q_at P.2.1 (lvb_of (k := k) (by omega))]; exact (hr_hp s 74 (by omega)).symm
  have e78 : s.1 (78 + r) 0 = pN π (42 + r) := by rw [← q_at P.2.1 (lvb_of (k := 42 + r) (by omega))]; exact (hr42 s 74 r8).symm
  rw [e75, e78]
  obtain ⟨fa, fa9, fae⟩ := R0.2.2.2.2.1 r hr'
  refine ⟨vp_in_nI (by omega) (by omega), fun c4 => rI.mk (no fun _ _ _ w => absurd c4 w), fun c4 => ⟨vp_in_nI (by omega) (by omega), fun c5 => ?_, fun c5 => rI.mk (no fun _ _ _ _ => c5)⟩⟩
  refine k_rem I (fun g' u K N74 c74 D => ⟨K.sx, fun s4 e4 s5 e5 s6 e6 s7 e7 => rI.mk ?_⟩)
  have eu : u.1 75 k = pN π k := by rw [← q_at N74 (lvb_of (k := k) (by omega))]; exact (hr_hp u 74 (by omega)).symm
  have eu5 : u.1 74 5 = pN π 115 := by rw [← hr115, q_at N74 (lvb_of (by omega))]
  have eu82 : u.1 (78 + r) 5 = pN π (82 + r) := by rw [← q_at N74 (lvb_of (k := 82 + r) (by omega))]; exact (hr82 u 74 r8).symm
  have v6 : s6.1 (78 + r) 5 = pN π (82 + r) := by rw [e6, wi_s, upd_n _ _ (by decide), e5, wi_n _ _ _ (by omega), e4, wi_n _ _ _ (by omega)]; exact eu82
  rw [v6] at e7
  have fv : (if pN π (82 + r) + 1 < 9 then pN π (82 + r) + 1 else 9) = (if 9 ≤ pN π (82 + r) then pN π (82 + r) else pN π (82 + r) + 1) := by
    rw [fae, nI_1]
    rcases Nat.lt_or_ge (fa + 1) 9 with w | w
    · rw [if_pos (show nI (fa + 1) < 9 from nI_lt (b := 9) w (by omega)), if_neg (show ¬ (9 : Int32) ≤ nI fa from nI_ge (b := 9) (by omega) (by omega))]
    · rw [if_neg (show ¬ nI (fa + 1) < 9 from nI_nlt (b := 9) w (by omega))]
      rcases Nat.lt_or_ge fa 9 with y | y
      · rw [if_neg (show ¬ (9 : Int32) ≤ nI fa from nI_ge (b := 9) y (by omega)), show fa + 1 = 9 by omega]; rfl
      · rw [if_pos (show (9 : Int32) ≤ nI fa from nI_le (a := 9) y (by omega)), show fa = 9 by omega]; rfl
  have N7 : nm (dE d) (hr s7 74) = pGv r k x3 (pN π) := by
    rw [e7, show hr (wi s6 (78 + r) 5 (if pN π (82 + r) + 1 < 9 then pN π (82 + r) + 1 else 9)) 74 = upd (hr s6 74) (82 + r) (if pN π (82 + r) + 1 < 9 then pN π (82 + r) + 1 else 9) from hw_r5 s6 74 r8 _, nm_upd (lvb_of (by omega)), fv]
    rw [e6, show hr (wi s5 (78 + r) 4 0) 74 = upd (hr s5 74) (74 + r) 0 from hw_r4 s5 74 r8 _, nm_upd (lvb_of (by omega))]
    rw [e5, hw_115, nm_upd (lvb_of (by omega)), eu5]
    rw [e4, show hr (wi u 75 k (u.1 75 k - x3)) 74 = upd (hr u 74) k (u.1 75 k - x3) from hw_hp u 74 (by omega) _, nm_upd (lvb_of (by omega)), N74, eu]
    rfl
  obtain ⟨C, FCs⟩ := D s7 _ (FrH.C HB74 (by rw [e7, e6, e5, e4]; exact ((FrH.w (by omega) (by omega)).tr (FrH.w (by omega) (by omega))).tr ((FrH.w (by omega) (by omega)).tr (FrH.w (by omega) (by omega))))) N7 (by rw [e7, e6, e5, e4]; exact (((c74.wi (by omega)).wi (by omega)).wi (by omega)).wi (by omega))
  have J := I.2.1.mv FCs
  have RVn : RV d (c + 1) (pGv r k x3 (pN π)) := by
    refine R0.mk' hO (Nat.le_succ c) (by omega) (fun x hx => ?_) (fun x hx => ?_) (fun x hx => ?_) (fun x hx => ?_) ?_ ?_ ?_
    · have : x < eR (dE d) := hx
      unfold pGv
      refine ⟨?_, ?_, ?_, ?_, ?_⟩ <;> rw [upd_n _ _ (by omega), upd_n _ _ (by omega), upd_n _ _ (by omega), upd_n _ _ (by omega)]
    · have : x < eR (dE d) := hx
      unfold pGv
      rw [upd_n _ _ (by omega), upd_n _ _ (by omega), upd_n _ _ (by omega), upd_n _ _ (by omega)]; exact (R0.1.1 x hx).1
    · have : x < eR (dE d) := hx
      unfold pGv
      rw [upd_n _ _ (by omega), upd_a]
      split
      · exact ⟨0, by omega, rfl⟩
      · rw [upd_n _ _ (by omega), upd_n _ _ (by omega)]; exact R0.h74 hx
    · have : x < eR (dE d) := hx
      unfold pGv
      rw [upd_a]
      split
      · rw [fae]
        split
        · exact ⟨fa, fa9, rfl⟩
        · rename_i w
          have : fa < 9 := by
            rcases Nat.lt_or_ge fa 9 with y | y
            · exact y
            · exact absurd (nI_le (a := 9) y (by omega)) w
          exact ⟨fa + 1, by omega, by rw [nI_1]⟩
      · rw [upd_n _ _ (by omega), upd_n _ _ (by omega), upd_n _ _ (by omega)]; exact R0.2.2.2.2.1 x hx
    · unfold pGv
      rw [upd_n _ _ (by omega), upd_n _ _ (by omega), upd_n _ _ (by omega), upd_n _ _ (by omega)]
    · unfold pGv
      rw [upd_n _ _ (by omega), upd_n _ _ (by omega), upd_n _ _ (by omega), upd_n _ _ (by omega)]; exact R0.2.2.2.1
    · have x31 : 0 ≤ x3 := Int32.le_trans (by decide) (Int32.not_lt.mp c3)
      obtain ⟨a, ha, hae⟩ := i_nn (R0.2.1.1 k (by omega))
      obtain ⟨n, hn, rfl⟩ := i_nn x31
      have na : n ≤ a := by
        rw [hae] at c4
        exact (nI_leI hn ha).mp (Int32.not_lt.mp c4)
      have W1 : WF4 (dE d) (10000 * (c + 6)) (upd (pN π) k (pN π k - nI n)) := WF4.less h8 (by omega) (by rw [hae, pk_sub na]; exact nI_pos' (by omega)) (by rw [hae, pk_sub na]; exact nI_le (by omega) ha) R0.2.1
      refine (W1.cg (fun y hy => ?_) (fun y hy => ?_)).le (by omega)
      · unfold pGv
        rw [upd_n _ _ (by omega), upd_n _ _ (by omega), upd_n _ _ (by omega)]
      · unfold pGv
        rw [upd_n _ _ (by omega), upd_n _ _ (by omega), upd_n _ _ (by omega)]
  refine v_Mo_give (Q := qI g' _) _ _ _ K.sx (f_Mo_isRat K.sx hO J.1 (fun w => absurd q w) (fun _ => ⟨fun c => absurd c (by decide), fun _ => f_Mo_isGrain K.sx hO J.1 (fun w => absurd q2 w) (fun _ => ⟨fun c => absurd c (by decide), fun _ => ⟨fun w => absurd w c3, fun _ => ?_⟩⟩)⟩))
  rw [tn_n (by omega), ix42 r8, q_at J.2.1 (lvb_of (k := k) (by omega)), q_at J.2.1 (lvb_of (k := 42 + r) (by omega))]
  refine ⟨vp_in_nI (by omega) (by omega), fun w => absurd w c4, fun _ => ⟨vi42 r8, fun _ => ?_, fun w => absurd c5 w⟩⟩
  refine k_copies K.sx J.1 J.2.1 (fun v b1 b2 b3 b4 y4 f4 y5 f5 => ⟨vi74 r8, fun y6 f6 => ⟨vi82 r8, ?_⟩⟩)
  rw [ix74 r8] at f6
  rw [ix82 r8]
  have b3k := q_at b3 (lvb_of (e := dE d) (k := k) (by omega))
  have b3p := q_at b3 (lvb_of (e := dE d) (k := 115) (by omega))
  have b3f := q_at b3 (lvb_of (e := dE d) (k := 82 + r) (by omega))
  have r6 : y6.1 163 = upd (upd (upd (v.1 163) k (pN π k - x3)) 115 (pN π 115 + x3)) (74 + r) 0 := by
    rw [f6, wi_s, f5, wi_s, f4, wi_s, b3k, upd_n _ _ (show 115 ≠ k by omega), b3p]
  have F6 : FrR v y6 := by
    rw [f6, f5, f4, wi_def v, wi_si, wi_si]; exact FrR.si163 v _
  have v82 : y6.1 163 (82 + r) = pN π (82 + r) := by rw [r6, upd_n _ _ (by omega), upd_n _ _ (by omega), upd_n _ _ (by omega)]; exact b3f
  rw [v82]
  have nm6 : nm (dE d) (y6.1 163) = upd (upd (upd (pN π) k (pN π k - x3)) 115 (pN π 115 + x3)) (74 + r) 0 := by
    rw [r6, nm_upd (lvb_of (by omega)), nm_upd (lvb_of (by omega)), nm_upd (lvb_of (by omega)), b3]
  refine ⟨fun w => ?_, fun w y8 f8 => ?_⟩
  · refine k_kee K.sx J I.2.2.2.1 (b4.tr F6) (N' := pGv r k x3 (pN π)) ?_ (fun z J' F => GI.r (hq _ _ g' z (fin_do hc I RVn C J' F)))
    rw [nm6, pGv, if_pos w]
    have : upd (upd (upd (pN π) k (pN π k - x3)) 115 (pN π 115 + x3)) (74 + r) 0 (82 + r) = pN π (82 + r) := by rw [upd_n _ _ (by omega), upd_n _ _ (by omega), upd_n _ _ (by omega)]
    rw [← this, upd_self]
  · refine k_kee K.sx J I.2.2.2.1 (b4.tr (F6.tr (by rw [f8, wi_def]; exact FrR.si163 y6 _))) (N' := pGv r k x3 (pN π)) ?_ (fun z J' F => GI.r (hq _ _ g' z (fin_do hc I RVn C J' F)))
    rw [f8, wi_s, nm_upd (lvb_of (by omega)), nm6, pGv, if_neg w]
end Doer2
