/-! hire, bestSwap -/
def pFe (d : TD) (st : Nat) : Nat → Int32
  | 0 => 0
  | k + 1 => if st.testBit k then pFe d st k + dFe d k else pFe d st k
theorem pFe_n {d : TD} (hO : TOk d) (st : Nat) : ∀ k, k ≤ nR d → ∃ c, c ≤ 99 * k ∧ pFe d st k = nI c
  | 0, _ => ⟨0, by omega, rfl⟩
  | k + 1, hk => by
    obtain ⟨c, hc, hce⟩ := pFe_n hO st k (by omega)
    obtain ⟨f, hf, hfe⟩ := (hO.2.2.2.2.2.2.1 k (by omega)).2
    rw [pFe]
    split
    · exact ⟨c + f, by omega, by rw [hce, hfe, nI_add]⟩
    · exact ⟨c, by omega, hce⟩
def pHi (st : Nat) : Nat → Row → Row
  | 0, N => N
  | k + 1, N => if st.testBit k then (if pHi st k N (42 + k) = 3 then upd (pHi st k N) (42 + k) 0 else pHi st k N) else (if pHi st k N (42 + k) = 3 then pHi st k N else pHome k (pHi st k N))
theorem pHi_ok {d : TD} {N : Row} {M st : Nat} (hO : TOk d) (hW : RW d M N) (hn : HN d N) (hz : HZ (dE d) N) : ∀ k, k ≤ nR d → RW d M (pHi st k N) ∧ HN d (pHi st k N) ∧ HZ (dE d) (pHi st k N)
  | 0, _ => ⟨hW, hn, hz⟩
  | k + 1, hk => by
    obtain ⟨a1, a2, a3⟩ := pHi_ok (st := st) hO hW hn hz k (by omega)
    rw [pHi]
    split
    · split
      · rename_i c
        exact ⟨RW.back hO hk c a3 a1, HN.back hO hk c a2, HZ.back hO hk a3⟩
      · exact ⟨a1, a2, a3⟩
    · split
      · exact ⟨a1, a2, a3⟩
      · exact ⟨RW.home hO hk a2 a1, HN.home hO hk a2, HZ.home hO hk a2 a3⟩
def chp (d : TD) (q : Int32 × Int32) (st : Nat) : Prop := q.1 = -2 ∨ pFe d st (nR d) < q.2 ∨ (pFe d st (nR d) = q.2 ∧ pcn st 8 < pcn q.1.toNatClampNeg 8)
noncomputable def pHr (d : TD) (n : Nat) (N : Row) : Nat → Int32 × Int32
  | 0 => (-2, -2)
  | st + 1 => @ite _ (chp d (pHr d n N st) st ∧ cln (dE d) True (pMins (dE d) n (pHi st (nR d) N))) (Classical.propDecidable _) (nI st, pFe d st (nR d)) (pHr d n N st)
theorem pHr_1 (d : TD) (n : Nat) (N : Row) : ∀ k, ((pHr d n N k).1 = -2 ∧ (pHr d n N k).2 = -2) ∨ ∃ c, c < k ∧ (pHr d n N k).1 = nI c ∧ (pHr d n N k).2 = pFe d c (nR d)
  | 0 => Or.inl ⟨rfl, rfl⟩
  | k + 1 => by
    have ih := pHr_1 d n N k
    rw [pHr]
    split
    · exact Or.inr ⟨k, by omega, rfl, rfl⟩
    · rcases ih with h | ⟨j, h1, h2⟩
      · exact Or.inl h
      · exact Or.inr ⟨j, by omega, h2⟩
noncomputable def hireA (d : TD) (N : Row) (x1 x2 : Int32) : Int32 := if (1 ≤ x1 ∧ x1 ≤ 300) ∧ 0 ≤ x2 ∧ x2 < 2 then (if x2 = 0 then (pHr d x1.toNatClampNeg N (2 ^ nR d)).2 else (pHr d x1.toNatClampNeg N (2 ^ nR d)).1) else -1
theorem pw_le {k : Nat} (h : k ≤ 8) : 2 ^ k ≤ 256 := Nat.le_trans (Nat.pow_le_pow_right (by omega) h) (by decide)
section Plan5
variable {E : EN} {g : GS} {b t lv : Nat} {d : TD} {s : MS} {N : Row} {f : Row} {sd : Int32}
theorem k_feesOf {R : Int32 → MS → Prop} {st : Nat} (K : KC d g t f sd s) (hst : st < 256) (h : R (pFe d st (nR d)) s) : GI E m_Planner_feesOf [.ref t, .int (nI st)] g s R := by
  have h8 := K.o.r8
  refine v_Planner_feesOf (Q := qI g R) t _ ?_
  refine upto (P := fun k => AWP E m_Planner_feesOf 4 0 0 [(0, .ref t), (1, .int (nI st)), (2, .int (pFe d st k)), (3, .int (nI k))] [] (mk g s) (qI g R)) (nR d) ?_ ?_ 0 (Nat.zero_le _)
  · exact v_Planner_feesOf_4 t _ _ _ K.sx K.et (pk_le (nR d) (nR d) (fun _ => GI.r h) (fun q => absurd q (by omega)) K.tc.ra)
  · intro k hk ih
    refine v_Planner_feesOf_4 t _ _ _ K.sx K.et (pk_le (nR d) k (fun q => absurd q (by omega)) (fun _ => ⟨fun c => ?_, fun c => ⟨vp_in_nI (by omega) (by omega), ?_⟩⟩) K.tc.ra)
    · rw [pFe, (bt_and st hst k (by omega)).mp c, if_neg (by decide)] at ih
      rw [nI_1, show pFe d st k + 0 = pFe d st k by simp]; exact ih
    · rw [pFe, if_pos (by cases q : st.testBit k; exact absurd ((bt_and st hst k (by omega)).mpr q) c; rfl)] at ih
      rw [nI_1, tn_n (by omega), (K.tc.rt hk).2.2.2]; exact ih
theorem k_rfeesOf {R : Int32 → MS → Prop} {st : Nat} (hS : SX g) (hO : TOk d) (K : KR d lv s) (hst : st < 256) (h : R (pFe d st (nR d)) s) : GI E m_Mo_feesOf [.ref 120, .int (nI st)] g s R := by
  have h8 := hO.r8
  have hv := K.2.2.1
  refine v_Mo_feesOf (Q := qI g R) _ ?_
  refine upto (P := fun k => AWP E m_Mo_feesOf 4 0 0 [(0, .ref 120), (1, .int (nI st)), (2, .int (pFe d st k)), (3, .int (nI k))] [] (mk g s) (qI g R)) (nR d) ?_ ?_ 0 (Nat.zero_le _)
  · refine v_Mo_feesOf_4 _ _ _ hS ⟨by rw [K.2.1]; exact vp_in_nI hv (by omega), ?_⟩
    rw [K.2.1, tn_n (by omega)]
    exact pk_le (nR d) (nR d) (fun _ => GI.r h) (fun q => absurd q (by omega)) K.1.ra
  · intro k hk ih
    refine v_Mo_feesOf_4 _ _ _ hS ⟨by rw [K.2.1]; exact vp_in_nI hv (by omega), ?_⟩
    rw [K.2.1, tn_n (by omega), y8, tn_n (by omega), (K.1.rt hk).2.2.2, nI_1]
    refine pk_le (nR d) k (fun q => absurd q (by omega)) (fun _ => ⟨fun c => ⟨vp_in_nI (by omega) (by omega), ?_⟩, fun c => ?_⟩) K.1.ra
    · rw [pFe, if_pos ((bt_shr st hst k (by omega)).mp c)] at ih; exact ih
    · rw [pFe, if_neg (fun q => c ((bt_shr st hst k (by omega)).mpr q))] at ih; exact ih
theorem k_keepOnly {R : MS → Prop} {st M : Nat} (K : KC d g t f sd s) (hst : st < 256) (hN : nm (dE d) (hr s 32) = N) (hC : CH 32 s) (hW : RW d M N) (hn : HN d N) (hz : HZ (dE d) N) (h : ∀ u, nm (dE d) (hr u 32) = pHi st (nR d) N → CH 32 u → FrH 32 s u → R u) : GV E m_Planner_keepOnly [.ref 31, .ref t, .int (nI st)] g s R := by
  have h8 : eR (dE d) ≤ 8 := K.o.r8
  have h8' := K.o.r8
  have hS := K.sx
  refine v_Planner_keepOnly (Q := qV g R) t _ ?_
  refine upto (P := fun k => ∀ u, nm (dE d) (hr u 32) = pHi st k N → CH 32 u → FrH 32 s u → AWP E m_Planner_keepOnly 2 0 0 [(0, .ref 31), (1, .ref t), (2, .int (nI st)), (3, .int (nI k))] [] (mk g u) (qV g R)) (nR d) ?_ ?_ 0 (Nat.zero_le _) s hN hC (FrH.rf 32 s)
  · intro u a1 a2 a3
    exact v_Planner_keepOnly_2 t _ _ hS K.et (pk_le (nR d) (nR d) (fun _ => GV.r (h u a1 a2 a3)) (fun q => absurd q (by omega)) (K.p (a3.P (Or.inl rfl) K.et)).tc.ra)
  · intro k hk ih u a1 a2 a3
    have hke : k < eR (dE d) := hk
    obtain ⟨o1, o2, o3⟩ := pHi_ok (st := st) K.o hW hn hz k (by omega)
    have e42 : u.1 (36 + k) 0 = pHi st k N (42 + k) := by
      have := hr42 u 32 (r := k) (by omega)
      rw [q_at a1 (lvb_of (by omega))] at this
      exact this.symm
    refine v_Planner_keepOnly_2 t _ _ hS K.et (pk_le (nR d) k (fun q => absurd q (by omega)) (fun _ => ?_) (K.p (a3.P (Or.inl rfl) K.et)).tc.ra)
    rw [tn_n (by omega), e42, nI_1]
    rw [pHi] at ih
    refine ⟨fun c => ⟨vp_in_nI (by omega) (by omega), fun c3 => ?_, fun c3 => ?_⟩, fun c => ⟨vp_in_nI (by omega) (by omega), fun c3 => ?_, fun c3 => ?_⟩⟩
    · rw [(bt_and st hst k (by omega)).mp c, if_neg (by decide), if_pos c3] at ih
      exact ih u a1 a2 a3
    · rw [(bt_and st hst k (by omega)).mp c, if_neg (by decide), if_neg c3] at ih
      exact k_sendHome K.o (HS32 hS) hk a1 a2 (o1.1.2.1.2.2 k hke).2.1 (fun v b1 b2 b3 => ih v b1 b2 (a3.tr b3))
    · rw [if_pos (by cases q : st.testBit k; exact absurd ((bt_and st hst k (by omega)).mpr q) c; rfl), if_pos c3] at ih
      refine f_House_callBack (HS32 hS) (by omega) a2 (fun w => ?_) (fun v b1 b2 b3 => ih v ?_ b2 (a3.tr b3))
      · rw [q_at a1 (lvb_of (by omega)), c3] at w; exact absurd w (by decide)
      · rw [b1, nm_upd (lvb_of (by omega)), a1]
    · rw [if_pos (by cases q : st.testBit k; exact absurd ((bt_and st hst k (by omega)).mpr q) c; rfl), if_neg c3] at ih
      exact ih u a1 a2 a3
theorem k_hires {R : MS → Prop} {st M : Nat} (hS : SX g) (hO : TOk d) (K : KR d lv s) (hst : st < 256) (hN : nm (dE d) (s.1 163) = N) (hW : RW d M N) (hn : HN d N) (hz : HZ (dE d) N) (h : ∀ u, nm (dE d) (u.1 163) = pHi st (nR d) N → FrA s u → R u) : GV E m_Mo_hires [.ref 120, .int (nI st)] g s R := by
  have h8 : eR (dE d) ≤ 8 := hO.r8
  have h8' := hO.r8
  have hv := K.2.2.1
  refine v_Mo_hires (Q := qV g R) _ ?_
  refine upto (P := fun k => ∀ u, nm (dE d) (u.1 163) = pHi st k N → FrA s u → AWP E m_Mo_hires 2 0 0 [(0, .ref 120), (1, .int (nI st)), (2, .int (nI k))] [] (mk g u) (qV g R)) (nR d) ?_ ?_ 0 (Nat.zero_le _) s hN (FrA.rf s)
  · intro u a1 a3
    have K' := K.mv a3.R
    refine v_Mo_hires_2 _ _ hS ⟨by rw [K'.2.1]; exact vp_in_nI hv (by omega), ?_⟩
    rw [K'.2.1, tn_n (by omega)]
    exact pk_le (nR d) (nR d) (fun _ => GV.r (h u a1 a3)) (fun q => absurd q (by omega)) K'.1.ra
  · intro k hk ih u a1 a3
    have hke : k < eR (dE d) := hk
    have K' := K.mv a3.R
    obtain ⟨o1, o2, o3⟩ := pHi_ok (st := st) hO hW hn hz k (by omega)
    refine v_Mo_hires_2 _ _ hS ⟨by rw [K'.2.1]; exact vp_in_nI hv (by omega), ?_⟩
    rw [K'.2.1, tn_n (by omega), ix42 (by omega), q_at a1 (lvb_of (by omega)), nI_1]
    rw [pHi] at ih
    refine pk_le (nR d) k (fun q => absurd q (by omega)) (fun _ => ⟨fun c => ⟨vi42 (by omega), fun c3 v e1 => ?_, fun c3 => ?_⟩, fun c => ⟨vi42 (by omega), fun c3 => ?_, fun c3 => ?_⟩⟩) K'.1.ra
    · rw [if_pos ((bt_shr st hst k (by omega)).mp c), if_pos c3] at ih
      refine ih v ?_ (a3.tr (by rw [e1, wi_def]; exact FrA.si163 u _))
      rw [e1, wi_s, nm_upd (lvb_of (by omega)), a1]
    · rw [if_pos ((bt_shr st hst k (by omega)).mp c), if_neg c3] at ih
      exact ih u a1 a3
    · rw [if_neg (fun q => c ((bt_shr st hst k (by omega)).mpr q)), if_pos c3] at ih
      exact ih u a1 a3
    · rw [if_neg (fun q => c ((bt_shr st hst k (by omega)).mpr q)), if_neg c3] at ih
      exact k_goesHome hS hO hk a1 o2 (fun v b1 b3 => ih v b1 (a3.tr b3))
theorem c_hire {R : Int32 → MS → Prop} {x1 x2 : Int32} (P : PC d g t N s) (hz : HZ (dE d) N) (h : ∀ u, FrP t s u → R (hireA d N x1 x2) u) : GI E m_Rs_hire [.ref 16, .int x1, .int x2] g s R := by
  have hS := P.1.sx
  have hO := P.1.o
  have et := P.1.et
  have h8 := hO.r8
  have p8 := pw_le h8
  have hn0 := HN.of hO P.2.1 P.2.2.1
  have no : ¬ ((1 ≤ x1 ∧ x1 ≤ 300) ∧ 0 ≤ x2 ∧ x2 < 2) → R (-1) s := by
    intro w
    have := h s (FrP.rf t s)
    rw [hireA, if_neg w] at this
    exact this
  refine v_Rs_hire (Q := qI g R) _ _ hS ⟨fun c => GI.r (no fun w => absurd c (Int32.not_lt.mpr w.1.1)), fun c => ⟨fun c2 => GI.r (no fun w => absurd c2 (Int32.not_lt.mpr w.1.2)), fun c2 => f_Rs_isOf (fun q2 => ⟨fun _ => GI.r (no fun w => q2 w.2), fun c => absurd rfl c⟩) (fun q2 => ⟨fun c => absurd c (by decide), fun _ => ?_⟩)⟩⟩
  have q1 : 1 ≤ x1 ∧ x1 ≤ 300 := ⟨Int32.not_lt.mp c, Int32.not_lt.mp c2⟩
  obtain ⟨n, hn, rfl⟩ := le_ex (n := 300) (by decide) rfl ⟨Int32.le_trans (by decide) q1.1, q1.2⟩
  refine v_Planner_seekHired (Q := qV g _) 74 _ hS ?_
  intro s1 e1 s2 e2
  have F2 : FrP t s s2 := by rw [e2, e1]; exact (FrP.w (by omega)).tr (FrP.w (by omega))
  refine upto (P := fun k => ∀ u, FrP t s u → u.1 31 2 = (pHr d n N k).1 → u.1 31 3 = (pHr d n N k).2 → AWP E m_Planner_seekHired 15 0 0 [(0, .ref 31), (1, .ref 28), (2, .ref 74), (3, .int (nI n)), (4, .int (nI k))] [] (mk g u) (qV g _)) (2 ^ nR d) ?_ ?_ 0 (Nat.zero_le _) s2 F2 (by rw [e2, wi_s, upd_n _ _ (by decide), e1, wi_s, upd_s]; rfl) (by rw [e2, wi_s, upd_s]; rfl)
  · intro u a1 a2 a3
    refine v_Planner_seekHired_15 74 _ _ t hS et P.1.hm ?_
    rw [(P.1.p a1).tc.ra, bt_pow _ (by omega)]
    refine pk_le (2 ^ nR d) (2 ^ nR d) (fun _ => GV.r ?_) (fun q => absurd q (by omega))
    have hh := h u a1
    rw [hireA, if_pos ⟨q1, q2⟩, tn_n (by omega)] at hh
    refine ⟨fun c => GI.r ?_, fun c => GI.r ?_⟩
    · rw [if_pos c] at hh; rw [a3]; exact hh
    · rw [if_neg c] at hh; rw [a2]; exact hh
  · intro k hk ih u a1 a2 a3
    have Pu := P.mv a1
    have k256 : k < 256 := by omega
    refine v_Planner_seekHired_15 74 _ _ t hS et P.1.hm ?_
    rw [(P.1.p a1).tc.ra, bt_pow _ (by omega), nI_1]
    rw [pHr] at ih
    refine pk_le (2 ^ nR d) k (fun q => absurd q (by omega)) (fun _ => k_feesOf Pu.1 k256 ?_)
    have skip : ¬ chp d (pHr d n N k) k → AWP E m_Planner_seekHired 15 0 0 [(0, .ref 31), (1, .ref 28), (2, .ref 74), (3, .int (nI n)), (4, .int (nI (k + 1)))] [] (mk g u) (qV g fun t2_ => ((x2 = 0 → qI g R (some (.int (t2_.1 31 3))) (mk g t2_)) ∧ (¬ x2 = 0 → qI g R (some (.int (t2_.1 31 2))) (mk g t2_)))) := by
      intro w
      rw [if_neg (fun q => w q.1)] at ih
      exact ih u a1 a2 a3
    have go : chp d (pHr d n N k) k → GV E m_House_take [.ref 32, .ref 74] g u (fun t3_ => GV E m_Planner_keepOnly [.ref 31, .ref t, .int (nI k)] g t3_ (fun t4_ => GV E m_Mill_goOn [.ref 28, .ref 32, .int (nI n)] g t4_ (fun t5_ => GI E m_House_isSortedFor [.ref 32, .ref t, .int (-1)] g t5_ (fun y6_ t6_ => ((y6_ = 0 → AWP E m_Planner_seekHired 15 0 0 [(0, .ref 31), (1, .ref 28), (2, .ref 74), (3, .int (nI n)), (4, .int (nI (k + 1)))] [] (mk g t6_) (qV g fun t2_ => ((x2 = 0 → qI g R (some (.int (t2_.1 31 3))) (mk g t2_)) ∧ (¬ x2 = 0 → qI g R (some (.int (t2_.1 31 2))) (mk g t2_))))) ∧ (¬ y6_ = 0 → (∀ s7_, s7_ = wi t6_ 31 2 (nI k) → (∀ s8_, s8_ = wi s7_ 31 3 (pFe d k (nR d)) → AWP E m_Planner_seekHired 15 0 0 [(0, .ref 31), (1, .ref 28), (2, .ref 74), (3, .int (nI n)), (4, .int (nI (k + 1)))] [] (mk g s8_) (qV g fun t2_ => ((x2 = 0 → qI g R (some (.int (t2_.1 31 3))) (mk g t2_)) ∧ (¬ x2 = 0 → qI g R (some (.int (t2_.1 31 2))) (mk g t2_)))))))))))) := by
      intro w
      refine k_takeH (HS32 hS) (HS74 hS) (by omega) Pu.2.1 Pu.2.2.1 (fun v b1 b2 b3 => ?_)
      refine k_keepOnly (Pu.1.p (b3.P (Or.inl rfl) et)) k256 b1 b2 P.2.2.2 hn0 hz (fun x c1 c2 c3 => ?_)
      have F3 : FrP t u x := (b3.tr c3).P (Or.inl rfl) et
      have Wx := (pHi_ok (st := k) hO P.2.2.2 hn0 hz (nR d) (Nat.le_refl _)).1
      refine k_goOn (Pu.1.p F3) HB32 (HS32 hS) c2 c1 Wx (by omega) (by omega) (fun z z1 z2 z3 => ?_)
      have F4 : FrP t u z := F3.tr (z3.P (Or.inl rfl) et)
      have e31 : z.1 31 = u.1 31 := by rw [z3.1 31 (by omega) (by omega) (by omega) (by omega), (b3.tr c3).1 31 (by omega)]
      have z1' : nm (dE d) (hr z 32) = pMins (dE d) n (pHi k (nR d) N) := z1
      have hWz := (wfa_hr hO z1' (RW.mins (n := n) (sd := eSd (dE d)) hO hO.fa Wx).1).1
      refine f_House_isSortedFor hS (HS32 hS) et hO (Pu.1.p F4).tc hWz (all := True) (fun r hr' => ?_) (fun cl => ⟨fun q => absurd q (by decide), fun _ s7 f7 s8 f8 => ?_⟩) (fun cl => ⟨fun _ => ?_, fun q => absurd rfl q⟩)
      · exact ⟨fun q => absurd q (hb_all (by omega)), fun q => absurd (Or.inl trivial) q⟩
      · rw [if_pos ⟨w, (q_cln hO z1' hWz).mp cl⟩] at ih
        refine ih s8 (a1.tr (F4.tr (by rw [f8, f7]; exact (FrP.w (by omega)).tr (FrP.w (by omega))))) ?_ ?_
        · rw [f8, wi_s, upd_n _ _ (by decide), f7, wi_s, upd_s]
        · rw [f8, wi_s, upd_s]
      · rw [if_neg (fun q => cl ((q_cln hO z1' hWz).mpr q.2))] at ih
        exact ih z (a1.tr F4) (by rw [e31]; exact a2) (by rw [e31]; exact a3)
    refine v_Planner_isCheaper (Q := qI g _) _ _ hS ?_
    rw [a2, a3]
    refine ⟨fun y1 => GI.r ⟨fun q => absurd q (by decide), fun _ => go (Or.inl y1)⟩, fun y1 => ⟨fun y2 => GI.r ⟨fun q => absurd q (by decide), fun _ => go (Or.inr (Or.inl y2))⟩, fun y2 => ⟨fun y3 => ?_, fun y3 => GI.r ⟨fun _ => skip ?_, fun q => absurd rfl q⟩⟩⟩⟩
    · rcases pHr_1 d n N k with ⟨w, -⟩ | ⟨c, w1, w2, w3⟩
      · exact absurd w y1
      · refine f_Int_bitCount k256 ?_
        rw [a2, w2]
        refine f_Int_bitCount (by omega) ?_
        have b1 := pcn_le k 8
        have b2 := pcn_le c 8
        refine pk_le (pcn c 8) (pcn k 8) (fun q => GI.r ⟨fun _ => skip ?_, fun q => absurd rfl q⟩) (fun q => GI.r ⟨fun q => absurd q (by decide), fun _ => go (Or.inr (Or.inr ⟨y3, ?_⟩))⟩)
        · rintro (w | w | ⟨-, w⟩)
          · exact y1 w
          · exact y2 w
          · rw [w2, tn_n (by omega)] at w; omega
        · rw [w2, tn_n (by omega)]; exact q
    · rintro (w | w | ⟨w, -⟩)
      · exact y1 w
      · exact y2 w
      · exact y3 w
theorem r_hire {R : Int32 → MS → Prop} {x1 x2 : Int32} (hS : SX g) (hO : TOk d) (P : PR d lv N s) (hW : RW d 400000 N) (hn0 : HN d N) (hz : HZ (dE d) N) (h : ∀ u, FrR s u → R (hireA d N x1 x2) u) : GI E m_Mo_hire [.ref 120, .int x1, .int x2] g s R := by
  have h8 := hO.r8
  have p8 := pw_le h8
  have no : ¬ ((1 ≤ x1 ∧ x1 ≤ 300) ∧ 0 ≤ x2 ∧ x2 < 2) → R (-1) s := by
    intro w
    have := h s (FrR.rf s)
    rw [hireA, if_neg w] at this
    exact this
  refine v_Mo_hire (Q := qI g R) _ _ (f_Mo_in (fun q => ⟨fun _ => v_Mo_hire_20 _ _ (GI.r (no fun w => q w.1)), fun c => absurd rfl c⟩) (fun q1 => ⟨fun c => absurd c (by decide), fun _ => f_Mo_in (fun q2 => ⟨fun _ => v_Mo_hire_20 _ _ (GI.r (no fun w => q2 ((lt_pred (n := 2) (by decide)).mpr w.2))), fun c => absurd rfl c⟩) (fun q2' => ⟨fun c => absurd c (by decide), fun _ => ?_⟩)⟩))
  have q2 := (lt_pred (n := 2) (by decide)).mp q2'
  obtain ⟨n, hn, rfl⟩ := le_ex (n := 300) (by decide) rfl ⟨Int32.le_trans (by decide) q1.1, q1.2⟩
  refine upto (P := fun k => ∀ u, FrR s u → AWP E m_Mo_hire 28 0 0 [(0, .ref 120), (1, .int (nI n)), (2, .int x2), (3, .int (pHr d n N k).1), (4, .int (nI k))] [] (mk g u) (qI g R)) (2 ^ nR d) ?_ ?_ 0 (Nat.zero_le _) s (FrR.rf s)
  · intro u a1
    have K := P.1.mv a1
    refine v_Mo_hire_28 _ _ _ _ hS ⟨by rw [K.2.1]; exact vp_in_nI K.2.2.1 (by omega), ?_⟩
    rw [K.2.1, tn_n (by have := K.2.2.1; omega), K.1.ra, bt_pow _ (by omega)]
    have hh := h u a1
    rw [hireA, if_pos ⟨q1, q2⟩, tn_n (by omega)] at hh
    refine pk_le (2 ^ nR d) (2 ^ nR d) (fun _ => ?_) (fun q => absurd q (by omega))
    rcases pHr_1 d n N (2 ^ nR d) with ⟨w1, w2⟩ | ⟨c, w0, w1, w2⟩
    · rw [w1, w2] at hh
      rw [w1]
      refine ⟨fun _ => v_Mo_hire_136 _ _ _ _ (GI.r ?_), fun q => absurd (by decide) q⟩
      split at hh <;> exact hh
    · rw [w1, w2] at hh
      rw [w1]
      refine ⟨fun q => absurd q (nI_pos (by omega)), fun _ => ⟨fun y => v_Mo_hire_136 _ _ _ _ (GI.r ?_), fun y => k_rfeesOf hS hO K (by omega) (GI.r ?_)⟩⟩
      · rw [if_neg (by rw [y]; decide)] at hh; exact hh
      · have : x2 = 0 := by
          obtain ⟨j, hj, rfl⟩ := lt_ex (n := 2) (by decide) q2
          rcases (by omega : j = 0 ∨ j = 1) with rfl | rfl
          · rfl
          · exact absurd rfl y
        rw [if_pos this] at hh; exact hh
  · intro k hk ih u a1
    have Pu := P.mv a1
    have K := Pu.1
    have k256 : k < 256 := by omega
    refine v_Mo_hire_28 _ _ _ _ hS ⟨by rw [K.2.1]; exact vp_in_nI K.2.2.1 (by omega), ?_⟩
    rw [K.2.1, tn_n (by have := K.2.2.1; omega), K.1.ra, bt_pow _ (by omega)]
    refine pk_le (2 ^ nR d) k (fun q => absurd q (by omega)) (fun _ => ?_)
    rw [pHr] at ih
    have skip : ∀ x5 v, FrR u v → ¬ chp d (pHr d n N k) k → AWP E m_Mo_hire 121 0 0 [(0, .ref 120), (1, .int (nI n)), (2, .int x2), (3, .int (pHr d n N k).1), (4, .int (nI k)), (5, .int x5)] [] (mk g v) (qI g R) := by
      intro x5 v hv w
      rw [if_neg (fun q => w q.1)] at ih
      refine v_Mo_hire_121 _ _ _ _ _ ?_
      rw [nI_1]; exact ih v (a1.tr hv)
    have go : ∀ x5 v, FrR u v → chp d (pHr d n N k) k → AWP E m_Mo_hire 95 0 0 [(0, .ref 120), (1, .int (nI n)), (2, .int x2), (3, .int (pHr d n N k).1), (4, .int (nI k)), (5, .int x5)] [] (mk g v) (qI g R) := by
      intro x5 v hv w
      have Pv := Pu.mv hv
      refine v_Mo_hire_95 _ _ _ _ _ hS (k_copies hS Pv.1 Pv.2 (fun y b1 b2 b3 b4 => ?_))
      refine k_hires hS hO (Pv.1.mv b4) k256 b3 hW hn0 hz (fun x c1 c3 => ?_)
      have Wx := (pHi_ok (st := k) hO hW hn0 hz (nR d) (Nat.le_refl _)).1
      refine k_goes hS hO (Pv.1.mv (b4.tr c3.R)) (c3.fa.trans b1) (c3.l.trans b2) c1 Wx.1 (by omega) (fun z z1 z2 => ?_)
      have F := b4.tr (c3.tr z2).R
      have Kz := Pv.1.mv F
      have z1' : nm (dE d) (z.1 163) = pMins (dE d) n (pHi k (nR d) N) := z1
      have hWz : WFr (dE d) (z.1 163) := (WFA.of_nm hO.r8 (by rw [z1']; exact (RW.mins (n := n) (sd := eSd (dE d)) hO hO.fa Wx).1)).1
      refine f_Mo_isCleanNow hS hO Kz.1 Kz.2.1 Kz.2.2.1 hWz (all := True) (by simp) (fun cl => ⟨fun q => absurd q (by decide), fun _ => v_Mo_hire_121 _ _ _ _ _ ?_⟩) (fun cl => ⟨fun _ => v_Mo_hire_121 _ _ _ _ _ ?_, fun q => absurd rfl q⟩)
      · rw [if_pos ⟨w, (q_cln hO z1' hWz).mp cl⟩] at ih
        rw [nI_1]; exact ih z (a1.tr (hv.tr F))
      · rw [if_neg (fun q => cl ((q_cln hO z1' hWz).mpr q.2))] at ih
        rw [nI_1]; exact ih z (a1.tr (hv.tr F))
    obtain ⟨fk, hfk, hfe⟩ := pFe_n hO k (nR d) (Nat.le_refl _)
    rcases pHr_1 d n N k with ⟨w1, w2⟩ | ⟨c, w0, w1, w2⟩
    · refine ⟨fun q => absurd q (by rw [w1]; decide), fun _ => v_Mo_hire_66 _ _ _ _ _ ⟨fun _ => go _ _ (FrR.rf u) (Or.inl w1), fun q => absurd (by rw [w1]; decide) q⟩⟩
    · obtain ⟨fc, hfc, hfce⟩ := pFe_n hO c (nR d) (Nat.le_refl _)
      have nn : ¬ (pHr d n N k).1 = -2 := by rw [w1]; exact fun q => absurd (nI_pos' (n := c) (by omega)) (by rw [q]; decide)
      refine ⟨fun _ => k_rfeesOf hS hO K k256 ?_, fun q => absurd (by rw [w1]; exact nI_pos' (by omega)) q⟩
      rw [w1]
      refine k_rfeesOf hS hO K (by omega) ?_
      rw [← w1]
      refine v_Mo_hire_66 _ _ _ _ _ ⟨fun q => absurd q (by rw [w1]; exact nI_pos (by omega)), fun _ => ?_⟩
      rw [hfe, hfce]
      rw [hfce] at w2
      rcases Nat.lt_trichotomy fk fc with l | l | l
      · have lt0 := pk_sneg (a := fk) (b := fc) (by omega) l
        refine ⟨fun q => absurd (Int32.lt_trans q lt0) (by decide), fun _ => ⟨fun q => absurd lt0 (by rw [q]; decide), fun _ => go _ _ (FrR.rf u) (Or.inr (Or.inl ?_))⟩⟩
        rw [w2, hfe]; exact nI_lt l (by omega)
      · subst l
        rw [pk_sub (Nat.le_refl _), Nat.sub_self]
        refine ⟨fun q => absurd q (by decide), fun _ => ⟨fun _ => f_Mo_bits k256 ?_, fun q => absurd rfl q⟩⟩
        rw [w1]
        refine f_Mo_bits (by omega) ?_
        rw [← w1]
        have b1 := pcn_le k 8
        have b2 := pcn_le c 8
        refine pk_lt (pcn k 8) (pcn c 8) (fun q => go _ _ (FrR.rf u) (Or.inr (Or.inr ⟨by rw [w2, hfe], ?_⟩))) (fun q => skip _ _ (FrR.rf u) ?_)
        · rw [w1, tn_n (by omega)]; exact q
        · rintro (w | w | ⟨-, w⟩)
          · exact nn w
          · rw [w2, hfe] at w; exact Int32.lt_irrefl w
          · rw [w1, tn_n (by omega)] at w; omega
      · rw [pk_sub (by omega)]
        refine ⟨fun _ => skip _ _ (FrR.rf u) ?_, fun q => absurd (nI_lt (a := 0) (b := fk - fc) (by omega) (by omega)) q⟩
        rintro (w | w | ⟨w, -⟩)
        · exact nn w
        · rw [w2, hfe] at w; exact absurd w (nI_nlt (by omega) (by omega))
        · rw [w2, hfe] at w
          have := (nI_eq (by omega) (by omega)).mp w
          omega
end Plan5
