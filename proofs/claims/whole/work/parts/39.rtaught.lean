/-! the reference's taught -/
section RTaught
variable {E : EN} {g : GS} {lv : Nat} {d : TD} {s : MS} {N : Row}
theorem FrR.w66 {k : Nat} {v : Int32} (hk : k = 66 ∨ k = 67) : FrR s (wi s 120 k v) := ⟨fun a _ _ _ _ _ h6 => wi_n s k v h6, fun j _ _ h3 h4 => by rw [wi_s, upd_n _ _ (by omega)], rfl, fun j _ => by rw [wi_n _ _ _ (by decide)]⟩
theorem k_teaches {R : MS → Prop} {st n : Nat} (hS : SX g) (hO : TOk d) (P : PR d lv N s) (hW : RW d 400000 N) (hG : 0 < nG d) (hst : st < 2 ^ nR d) (hp : pcn st 8 ≤ 4) (hn : n ≤ 300) (h : ∀ u, FrR s u → u.1 120 66 = (pTw d st n N (nG d ^ pcn st 8)).1 → u.1 120 67 = (pTw d st n N (nG d ^ pcn st 8)).2 → R u) : GV E m_Mo_teaches [.ref 120, .int (nI st), .int (nI n)] g s R := by
  have h8 : eR (dE d) ≤ 8 := hO.r8
  have h8' := hO.r8
  have g6 := hO.g6
  have p8 := pw_le h8'
  have s256 : st < 256 := by omega
  have pw := pw6 g6 hp
  have hv := P.1.2.2.1
  have bit8 : ∀ k, st.testBit k = true → k < eR (dE d) := by
    intro k hb
    rcases Nat.lt_or_ge k (eR (dE d)) with l | l
    · exact l
    · have : st.testBit k = false := Nat.testBit_lt_two_pow (Nat.lt_of_lt_of_le hst (Nat.pow_le_pow_right (by omega) l))
      rw [hb] at this; exact absurd this (by decide)
  refine v_Mo_teaches (Q := qV g R) _ _ ?_
  have lp := upto (P := fun k => AWP E m_Mo_teaches 5 0 0 [(0, .ref 120), (1, .int (nI st)), (2, .int (nI n)), (3, .int (nI (nG d ^ k))), (4, .int (nI k))] [] (mk g s) (qV g R)) (pcn st 8) ?_ ?_ 0 (Nat.zero_le _)
  · rw [Nat.pow_zero] at lp; exact lp
  · refine v_Mo_teaches_5 _ _ _ _ hS (f_Mo_bits s256 (pk_le (pcn st 8) (pcn st 8) (fun _ s2 e2 s3 e3 => ?_) (fun q => absurd q (by omega))))
    have F3 : FrR s s3 := by rw [e3, e2]; exact (FrR.w66 (Or.inl rfl)).tr (FrR.w66 (Or.inr rfl))
    refine upto (P := fun k => ∀ u, FrR s u → u.1 120 66 = (pTw d st n N k).1 → u.1 120 67 = (pTw d st n N k).2 → AWP E m_Mo_teaches 45 0 0 [(0, .ref 120), (1, .int (nI st)), (2, .int (nI n)), (3, .int (nI (nG d ^ pcn st 8))), (4, .int (nI k))] [] (mk g u) (qV g R)) (nG d ^ pcn st 8) ?_ ?_ 0 (Nat.zero_le _) s3 F3 (by rw [e3, wi_s, upd_n _ _ (by decide), e2, wi_s, upd_s]; rfl) (by rw [e3, wi_s, upd_s]; rfl)
    · intro u a1 a2 a3
      exact v_Mo_teaches_45 _ _ _ _ hS (pk_le (nG d ^ pcn st 8) (nG d ^ pcn st 8) (fun _ => GV.r (h u a1 a2 a3)) (fun q => absurd q (by omega)))
    · intro k hk ih u a1 a2 a3
      have Pu := P.mv a1
      refine v_Mo_teaches_45 _ _ _ _ hS (pk_le (nG d ^ pcn st 8) k (fun q => absurd q (by omega)) (fun _ => ?_))
      refine k_copies2 hS Pu.1 Pu.2 (fun v b1 b2 b3 b4 b5 => ?_)
      have k66 : v.1 120 66 = u.1 120 66 := b5 66 (by decide)
      have k67 : v.1 120 67 = u.1 120 67 := b5 67 (by decide)
      have lp2 := upto (P := fun r => ∀ w, FrA v w → nm (dE d) (w.1 163) = pTu st (nG d) k r N → AWP E m_Mo_teaches 61 0 0 [(0, .ref 120), (1, .int (nI st)), (2, .int (nI n)), (3, .int (nI (nG d ^ pcn st 8))), (4, .int (nI k)), (5, .int (nI (nG d ^ (pcn st 8 - pcn st r)))), (6, .int (nI r))] [] (mk g w) (qV g R)) (nR d) ?_ ?_ 0 (Nat.zero_le _) v (FrA.rf v) (by rw [pTu_0]; exact b3)
      · exact lp2
      · intro w c1 c2
        have Kw := Pu.1.mv (b4.tr c1.R)
        rw [pTu_all h8' hst] at c2
        refine v_Mo_teaches_61 _ _ _ _ _ _ hS ⟨by rw [Kw.2.1]; exact vp_in_nI hv (by omega), ?_⟩
        rw [Kw.2.1, tn_n (by omega)]
        have Wt := RW.td (st := st) (way := k) hO hG hW
        refine pk_le (nR d) (nR d) (fun _ => ?_) (fun q => absurd q (by omega)) Kw.1.ra
        refine k_goes hS hO Kw (c1.fa.trans b1) (c1.l.trans b2) c2 Wt.1 (by omega) (fun z z1 z2 => ?_)
        have FZ := b4.tr (c1.tr z2).R
        have Kz := Pu.1.mv FZ
        have e66 : z.1 120 66 = (pTw d st n N k).1 := by rw [(c1.tr z2).2.1 66 (by decide), k66]; exact a2
        have e67 : z.1 120 67 = (pTw d st n N k).2 := by rw [(c1.tr z2).2.1 67 (by decide), k67]; exact a3
        refine k_worthAll hS hO Kz (N := pMins (dE d) n (pTd st (nG d) k 0 N)) z1 ?_
        show (z.1 120 67 < pTW d st n N k → _) ∧ (¬ z.1 120 67 < pTW d st n N k → _)
        rw [e67, nI_1]
        rw [pTw] at ih
        refine ⟨fun y1 x3 f3 => ?_, fun y1 => ?_⟩
        · rw [if_pos y1] at ih
          have F3 : FrR z x3 := by rw [f3]; exact FrR.w66 (Or.inl rfl)
          refine k_worthAll hS hO (Kz.mv F3) (N := pMins (dE d) n (pTd st (nG d) k 0 N)) (by rw [f3, wi_n _ _ _ (by decide)]; exact z1) ?_
          intro x5 f5
          refine ih x5 (a1.tr (FZ.tr (F3.tr (by rw [f5]; exact FrR.w66 (Or.inr rfl))))) ?_ ?_
          · rw [f5, wi_s, upd_n _ _ (by decide), f3, wi_s, upd_s]
          · rw [f5, wi_s, upd_s]; rfl
        · rw [if_neg y1] at ih
          exact ih z (a1.tr FZ) e66 e67
      · intro r hr' ih2 w c1 c2
        have Kw := Pu.1.mv (b4.tr c1.R)
        have pl := pcn_le st 8
        refine v_Mo_teaches_61 _ _ _ _ _ _ hS ⟨by rw [Kw.2.1]; exact vp_in_nI hv (by omega), ?_⟩
        rw [Kw.2.1, tn_n (by omega), Kw.1.gr, nI_1 r]
        refine pk_le (nR d) r (fun q => absurd q (by omega)) (fun _ => ⟨fun c => ?_, fun c => ?_⟩) Kw.1.ra
        · have hb : ¬ st.testBit r = true := by rw [(bt_sh0 st s256 r (by omega)).mp c]; decide
          rw [pTu_n hb, pcn_s0 hb] at ih2
          exact ih2 w c1 c2
        · have hb : st.testBit r = true := by
            cases q : st.testBit r
            · exact absurd ((bt_sh0 st s256 r (by omega)).mpr q) c
            · rfl
          have ps := pcn_s1 hb
          have pm : pcn st (r + 1) ≤ pcn st 8 := pcn_mono (by omega)
          have re := bit8 r hb
          have e1 : nG d ^ (pcn st 8 - pcn st r) = nG d ^ (pcn st 8 - pcn st (r + 1)) * nG d := by
            rw [← Nat.pow_succ, show (pcn st 8 - pcn st (r + 1)).succ = pcn st 8 - pcn st r by omega]
          have l1 : nG d ^ (pcn st 8 - pcn st r) ≤ 1296 := pw6 g6 (by omega)
          have l2 : nG d ^ (pcn st 8 - pcn st (r + 1)) ≤ 1296 := pw6 g6 (by omega)
          have l3 : 1 ≤ nG d ^ (pcn st 8 - pcn st (r + 1)) := Nat.pow_pos hG
          have l4 : k / nG d ^ (pcn st 8 - pcn st (r + 1)) ≤ k := Nat.div_le_self _ _
          rw [pk_div (by omega) hG (by omega), e1, Nat.mul_div_cancel _ hG, pk_div (by omega) (by omega) (by omega), pk_rem (by omega) hG (by omega), ix90 (by omega)]
          refine ⟨nI_ne0 hG (by omega), nI_ne0 (by omega) (by omega), nI_ne0 hG (by omega), vi90 (by omega), fun z f1 => ih2 z (c1.tr (by rw [f1, wi_def]; exact FrA.si163 w _)) ?_⟩
          rw [pTu_s hb, f1, wi_s, nm_upd (lvb_of (by omega)), c2]
          rfl
  · intro k hk ih
    have pl := pcn_le st 8
    refine v_Mo_teaches_5 _ _ _ _ hS (f_Mo_bits s256 (pk_le (pcn st 8) k (fun q => absurd q (by omega)) (fun _ => ?_)))
    rw [P.1.2.1, tn_n (by omega), P.1.1.gr, pk_mul, nI_1, ← Nat.pow_succ]
    exact ⟨vp_in_nI hv (by omega), ih⟩
theorem r_taught {R : Int32 → MS → Prop} {x1 x2 : Int32} (hS : SX g) (hO : TOk d) (P : PR d lv N s) (hW : RW d 400000 N) (h : ∀ u, FrR s u → R (taughtA d N x1 x2) u) : GI E m_Mo_taught [.ref 120, .int x1, .int x2] g s R := by
  refine v_Mo_taught (Q := qI g R) _ _ hS (f_Mo_isSet hS hO P.1 (fun q => ⟨fun _ => GI.r ?_, fun c => absurd rfl c⟩) (fun q => ⟨fun c => absurd c (by decide), fun _ => ?_⟩))
  · have := h s (FrR.rf s)
    rw [taughtA, if_neg q] at this
    exact this
  · have hh := fun u a1 => h u a1
    simp only [taughtA, if_pos q] at hh
    obtain ⟨st, a1, a2, rfl, a4, a5, a6⟩ := q
    obtain ⟨n, hn, rfl⟩ := okT_x2 a5
    have p8 := pw_le hO.r8
    refine k_teaches hS hO P hW a6 a2 a4 hn (fun u b1 b4 b5 => GI.r ?_)
    have := hh u b1
    rw [tn_n (by omega), tn_n (by omega)] at this
    rw [b5]; exact this
theorem r_taughtAt {R : Int32 → MS → Prop} {x1 x2 x3 : Int32} (hS : SX g) (hO : TOk d) (P : PR d lv N s) (hW : RW d 400000 N) (h : ∀ u, FrR s u → R (taughtAtA d N x1 x2 x3) u) : GI E m_Mo_taughtAt [.ref 120, .int x1, .int x2, .int x3] g s R := by
  have g6 := hO.g6
  have p8 := pw_le hO.r8
  have hv := P.1.2.2.1
  refine v_Mo_taughtAt (Q := qI g R) _ _ _ hS (f_Mo_isSet hS hO P.1 (fun q => ⟨fun _ => GI.r ?_, fun c => absurd rfl c⟩) (fun q => ⟨fun c => absurd c (by decide), fun _ => ?_⟩))
  · have := h s (FrR.rf s)
    rw [taughtAtA, if_neg (fun w => q w.1)] at this
    exact this
  · have q' := q
    obtain ⟨st, a1, a2, rfl, a4, a5, a6⟩ := q
    obtain ⟨n, hn, rfl⟩ := okT_x2 a5
    have pl := pcn_le st 8
    have pw := pw6 g6 a4
    have pw1 : 1 ≤ nG d ^ pcn st 8 := Nat.pow_pos a6
    refine f_Mo_bits (by omega) (f_Mo_in (fun q2 => ⟨fun _ => GI.r ?_, fun c => absurd rfl c⟩) (fun q2' => ⟨fun c => absurd c (by decide), fun _ => ?_⟩))
    · have := h s (FrR.rf s)
      rw [taughtAtA, if_neg (fun w => q2 (by have := w.2; rw [tn_n (by omega)] at this; exact (lt_pred (by omega)).mpr this))] at this
      exact this
    · have q2 := (lt_pred (by omega)).mp q2'
      obtain ⟨i, hi, rfl⟩ := lt_ex (by omega) q2
      refine k_teaches hS hO P hW a6 a2 a4 hn (fun u b1 b4 b5 => ?_)
      have hh := h u b1
      rw [taughtAtA, if_pos ⟨q', by rw [tn_n (by omega)]; exact q2⟩, tn_n (by omega), tn_n (by omega), tn_n (by omega)] at hh
      obtain ⟨c, hcl, hce⟩ := pTw_2 (st := st) (n := n) hO a6 hW _ pw1
      rw [hce, tn_n (by omega)] at hh
      refine f_Mo_bits (by omega) ?_
      rw [b4, hce, show (1 : Int32) = nI 1 from rfl, pk_sub (by omega)]
      have Ku := P.1.mv b1
      have lp : ∀ m, i ≤ m → m ≤ pcn st 8 - 1 → AWP E m_Mo_taughtAt 45 0 0 [(0, .ref 120), (1, .int (nI st)), (2, .int (nI n)), (3, .int (nI i)), (4, .int (nI (c / nG d ^ (pcn st 8 - 1 - m)))), (5, .int (nI m))] [] (mk g u) (qI g R) := by
        intro m
        induction m with
        | zero =>
          intro h1 h2
          have lc : c / nG d ^ (pcn st 8 - 1 - 0) < 2000 := Nat.lt_of_le_of_lt (Nat.div_le_self _ _) (by omega)
          refine v_Mo_taughtAt_45 _ _ _ _ _ hS ?_
          rw [Ku.2.1, tn_n (by omega), Ku.1.gr, pk_rem (by omega) a6 (by omega)]
          refine pk_le 0 i (fun _ => ⟨vp_in_nI hv (by omega), nI_ne0 a6 (by omega), GI.r ?_⟩) (fun q => absurd q (by omega))
          rw [show i = 0 by omega] at hh; exact hh
        | succ m ih =>
          intro h1 h2
          have lc : c / nG d ^ (pcn st 8 - 1 - (m + 1)) < 2000 := Nat.lt_of_le_of_lt (Nat.div_le_self _ _) (by omega)
          refine v_Mo_taughtAt_45 _ _ _ _ _ hS ?_
          rw [Ku.2.1, tn_n (by omega), Ku.1.gr, pk_rem (by omega) a6 (by omega), pk_div (by omega) a6 (by omega), Nat.div_div_eq_div_mul, ← Nat.pow_succ, show (pcn st 8 - 1 - (m + 1)).succ = pcn st 8 - 1 - m by omega, pk_m1]
          refine pk_le (m + 1) i (fun q => ⟨vp_in_nI hv (by omega), nI_ne0 a6 (by omega), GI.r ?_⟩) (fun q => ⟨vp_in_nI hv (by omega), nI_ne0 a6 (by omega), ih (by omega) (by omega)⟩)
          rw [show i = m + 1 by omega] at hh; exact hh
      have := lp (pcn st 8 - 1) (by omega) (Nat.le_refl _)
      rw [Nat.sub_self, Nat.pow_zero, Nat.div_one] at this
      exact this
end RTaught
