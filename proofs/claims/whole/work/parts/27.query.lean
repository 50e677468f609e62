/-! SUMS AND QUERIES, of a House and of the reference's row -/
theorem upto {P : Nat → Prop} (N : Nat) (hN : P N) (hs : ∀ k, k < N → P (k + 1) → P k) : ∀ k, k ≤ N → P k := by
  have : ∀ m k, N - k = m → k ≤ N → P k := by
    intro m
    induction m with
    | zero => intro k h1 h2; rw [show k = N by omega]; exact hN
    | succ m ih => intro k h1 h2; exact hs k (by omega) (ih (k + 1) (by omega) (by omega))
  exact fun k hk => this _ k rfl hk
theorem x6 (h k : Nat) : nI h * 6 + nI k = nI (6 * h + k) := by rw [show (6 : Int32) = nI 6 from rfl, pk_mul, nI_add, Nat.mul_comm]
theorem y6 (h k : Nat) : 6 * nI h + nI k = nI (6 * h + k) := by rw [show (6 : Int32) = nI 6 from rfl, pk_mul, nI_add]
theorem y8 (h k : Nat) : 8 * nI h + nI k = nI (8 * h + k) := by rw [show (8 : Int32) = nI 8 from rfl, pk_mul, nI_add]
theorem y5 (h k : Nat) : 5 * nI h + nI k = nI (5 * h + k) := by rw [show (5 : Int32) = nI 5 from rfl, pk_mul, nI_add]
theorem z6 (h k : Nat) : 6 + 6 * nI h + nI k = nI (6 + 6 * h + k) := by rw [show (6 : Int32) = nI 6 from rfl, pk_mul, nI_add, nI_add]
section Query
variable {E : EN} {g : GS} {b t lv : Nat} {d : TD} {s : MS}
theorem f_House_inHole {R : Int32 → MS → Prop} (hH : HS g b) {hh k : Nat} (h6 : hh < 6) (k6 : k < 6) (h : R (hr s b (6 + 6 * hh + k)) s) : GI E m_House_inHole [.ref b, .int (nI hh), .int (nI k)] g s R := by
  refine v_House_inHole (Q := qI g R) b _ _ hH ?_
  rw [x6, tn_n (by omega)]
  refine ⟨vp_in_nI (by omega) (by omega), GI.r ?_⟩
  rw [← hr_ho s b (by omega), show 6 + (6 * hh + k) = 6 + 6 * hh + k by omega]; exact h
theorem f_House_allInHole {R : Int32 → MS → Prop} (hH : HS g b) {hh : Nat} (h6 : hh < 6) (h : R (rsum (hr s b) (6 + 6 * hh) 6) s) : GI E m_House_allInHole [.ref b, .int (nI hh)] g s R := by
  refine v_House_allInHole (Q := qI g R) b _ ?_
  refine upto (P := fun k => AWP E m_House_allInHole 4 0 0 [(0, .ref b), (1, .int (nI hh)), (2, .int (rsum (hr s b) (6 + 6 * hh) k)), (3, .int (nI k))] [] (mk g s) (qI g R)) 6 ?_ ?_ 0 (Nat.zero_le _)
  · exact v_House_allInHole_4 b _ _ _ hH (pk_le 6 6 (fun _ => GI.r h) (fun q => absurd q (by omega)))
  · intro k hk ih
    refine v_House_allInHole_4 b _ _ _ hH (pk_le 6 k (fun q => absurd q (by omega)) (fun _ => f_House_inHole hH h6 hk ?_))
    rw [rsum, ← nI_1] at ih
    exact ih
theorem f_House_allInHoles {R : Int32 → MS → Prop} (hH : HS g b) (h : R (hsum (hr s b) 6) s) : GI E m_House_allInHoles [.ref b] g s R := by
  refine v_House_allInHoles (Q := qI g R) b ?_
  refine upto (P := fun k => AWP E m_House_allInHoles 4 0 0 [(0, .ref b), (1, .int (hsum (hr s b) k)), (2, .int (nI k))] [] (mk g s) (qI g R)) 6 ?_ ?_ 0 (Nat.zero_le _)
  · exact v_House_allInHoles_4 b _ _ hH (pk_le 6 6 (fun _ => GI.r h) (fun q => absurd q (by omega)))
  · intro k hk ih
    refine v_House_allInHoles_4 b _ _ hH (pk_le 6 k (fun q => absurd q (by omega)) (fun _ => f_House_allInHole hH hk ?_))
    rw [hsum, ← nI_1] at ih
    exact ih
theorem f_House_worthOf {R : Int32 → MS → Prop} (hS : SX g) (hH : HS g b) (et : t = 88 ∨ t = 104) (hO : TOk d) (hT : TC d t s) {hh : Nat} (h6 : hh < nH d) (h : R (wOf d (hr s b) hh) s) : GI E m_House_worthOf [.ref b, .ref t, .int (nI hh)] g s R := by
  have a6 : hh < 6 := by have := hO.h6; omega
  have o6 : dOw d hh < 6 := by have := hO.ow h6; have := hO.g6; omega
  refine v_House_worthOf (Q := qI g R) b t _ hS hH et ⟨vp_in_nI a6 (by omega), ?_⟩
  rw [tn_lt6 a6, hT.ow h6]
  refine f_House_inHole hH a6 o6 (f_House_allInHole hH a6 ?_)
  rw [hT.ow h6, tn_lt6 o6, hT.pe (hO.ow h6)]
  exact ⟨vp_in_nI o6 (by omega), GI.r h⟩
theorem f_House_allWorth {R : Int32 → MS → Prop} (hS : SX g) (hH : HS g b) (et : t = 88 ∨ t = 104) (hO : TOk d) (hT : TC d t s) (h : R (wAll d (hr s b) (nH d)) s) : GI E m_House_allWorth [.ref b, .ref t] g s R := by
  have h6 := hO.h6
  refine v_House_allWorth (Q := qI g R) b t ?_
  refine upto (P := fun k => AWP E m_House_allWorth 4 0 0 [(0, .ref b), (1, .ref t), (2, .int (wAll d (hr s b) k)), (3, .int (nI k))] [] (mk g s) (qI g R)) (nH d) ?_ ?_ 0 (Nat.zero_le _)
  · exact v_House_allWorth_4 b t _ _ hS hH et (pk_le (nH d) (nH d) (fun _ => GI.r h) (fun q => absurd q (by omega)) hT.ho)
  · intro k hk ih
    refine v_House_allWorth_4 b t _ _ hS hH et (pk_le (nH d) k (fun q => absurd q (by omega)) (fun _ => f_House_worthOf hS hH et hO hT hk ?_) hT.ho)
    rw [wAll, ← nI_1] at ih
    exact ih
theorem f_House_misplaced {R : Int32 → MS → Prop} (hS : SX g) (hH : HS g b) (et : t = 88 ∨ t = 104) (hO : TOk d) (hT : TC d t s) (h : R (mis d (hr s b) (nH d)) s) : GI E m_House_misplaced [.ref b, .ref t] g s R := by
  have h6 := hO.h6
  refine v_House_misplaced (Q := qI g R) b t ?_
  refine upto (P := fun k => AWP E m_House_misplaced 4 0 0 [(0, .ref b), (1, .ref t), (2, .int (mis d (hr s b) k)), (3, .int (nI k))] [] (mk g s) (qI g R)) (nH d) ?_ ?_ 0 (Nat.zero_le _)
  · exact v_House_misplaced_4 b t _ _ hS hH et (pk_le (nH d) (nH d) (fun _ => GI.r h) (fun q => absurd q (by omega)) hT.ho)
  · intro k hk ih
    have o6 : dOw d k < 6 := by have := hO.ow hk; have := hO.g6; omega
    refine v_House_misplaced_4 b t _ _ hS hH et (pk_le (nH d) k (fun q => absurd q (by omega)) (fun _ => f_House_allInHole hH (by omega) ⟨vp_in_nI (by omega) (by omega), ?_⟩) hT.ho)
    rw [tn_n (by omega), hT.ow hk]
    refine f_House_inHole hH (by omega) o6 ?_
    rw [mis, ← nI_1] at ih
    exact ih
theorem f_House_allCarried {R : Int32 → MS → Prop} (hS : SX g) (hH : HS g b) (et : t = 88 ∨ t = 104) (hO : TOk d) (hT : TC d t s) (h : R (rsum (hr s b) 58 (nR d)) s) : GI E m_House_allCarried [.ref b, .ref t] g s R := by
  have h8 := hO.r8
  refine v_House_allCarried (Q := qI g R) b t ?_
  refine upto (P := fun k => AWP E m_House_allCarried 4 0 0 [(0, .ref b), (1, .ref t), (2, .int (rsum (hr s b) 58 k)), (3, .int (nI k))] [] (mk g s) (qI g R)) (nR d) ?_ ?_ 0 (Nat.zero_le _)
  · exact v_House_allCarried_4 b t _ _ hS hH et (pk_le (nR d) (nR d) (fun _ => GI.r h) (fun q => absurd q (by omega)) hT.ra)
  · intro k hk ih
    refine v_House_allCarried_4 b t _ _ hS hH et (pk_le (nR d) k (fun q => absurd q (by omega)) (fun _ => ⟨vp_in_nI (by omega) (by omega), ?_⟩) hT.ra)
    rw [rsum, ← nI_1, hr58 s b (by omega)] at ih
    rw [tn_n (by omega)]
    exact ih
theorem f_House_ratsThatAre {R : Int32 → MS → Prop} (hS : SX g) (hH : HS g b) (et : t = 88 ∨ t = 104) (hO : TOk d) (hT : TC d t s) (h : R (hbits (hr s b) (nR d)) s) : GI E m_House_ratsThatAre [.ref b, .ref t, .int 3] g s R := by
  have h8 := hO.r8
  refine v_House_ratsThatAre (Q := qI g R) b t _ ?_
  refine upto (P := fun k => AWP E m_House_ratsThatAre 5 0 0 [(0, .ref b), (1, .ref t), (2, .int 3), (3, .int (hbits (hr s b) k)), (4, .int (nI k))] [] (mk g s) (qI g R)) (nR d) ?_ ?_ 0 (Nat.zero_le _)
  · exact v_House_ratsThatAre_5 b t _ _ _ hS hH et (pk_le (nR d) (nR d) (fun _ => GI.r h) (fun q => absurd q (by omega)) hT.ra)
  · intro k hk ih
    refine v_House_ratsThatAre_5 b t _ _ _ hS hH et (pk_le (nR d) k (fun q => absurd q (by omega)) (fun _ => ⟨vp_in_nI (by omega) (by omega), ?_⟩) hT.ra)
    rw [tn_n (by omega), ← hr42 s b (by omega), nI_1]
    rw [hbits] at ih
    refine ⟨fun c => ?_, fun c => ?_⟩
    · rw [if_pos c] at ih; exact ih
    · rw [if_neg c] at ih; exact ih
theorem f_House_isSortedFor {R : Int32 → MS → Prop} (hS : SX g) (hH : HS g b) (et : t = 88 ∨ t = 104) (hO : TOk d) (hT : TC d t s) (hW : WFr (dE d) (hr s b)) {all : Prop} {st : Int32} (hs : ∀ r, r < nR d → (st &&& ((1 : Int32) <<< (nI r &&& 31)) = 0 ↔ ¬ (all ∨ ¬ hr s b (42 + r) = 3)))
    (h1 : cln (dE d) all (hr s b) → R 1 s) (h0 : ¬ cln (dE d) all (hr s b) → R 0 s) : GI E m_House_isSortedFor [.ref b, .ref t, .int st] g s R := by
  have h8 := hO.r8
  have g6 := hO.g6
  refine v_House_isSortedFor (Q := qI g R) b t _ ?_
  refine upto (P := fun k => (∀ r, r < k → ¬ hr s b (42 + r) = 1 ∧ ((all ∨ ¬ hr s b (42 + r) = 3) → hr s b (hr s b (90 + r)).toNatClampNeg ≤ 0)) → AWP E m_House_isSortedFor 2 0 0 [(0, .ref b), (1, .ref t), (2, .int st), (3, .int (nI k))] [] (mk g s) (qI g R)) (nR d) ?_ ?_ 0 (Nat.zero_le _) (fun r hr => absurd hr (by omega))
  · intro hg
    exact v_House_isSortedFor_2 b t _ _ hS hH et (pk_le (nR d) (nR d) (fun _ => GI.r (h1 hg)) (fun q => absurd q (by omega)) hT.ra)
  · intro k hk ih hg
    obtain ⟨⟨kk, hkg, hkn⟩, -⟩ := hW k hk
    have hkg' : kk < nG d := hkg
    have e0 : s.1 (b + 4 + k) 0 = hr s b (42 + k) := (hr42 s b (by omega)).symm
    have e6 : s.1 (b + 4 + k) 6 = nI kk := by rw [← hr90 s b (by omega)]; exact hkn
    have ek : s.1 (b + 1) kk = hr s b (hr s b (90 + k)).toNatClampNeg := by rw [hkn, tn_n (by omega), hr_hp s b (by omega)]
    have nx : (¬ hr s b (42 + k) = 1) → ((all ∨ ¬ hr s b (42 + k) = 3) → hr s b (hr s b (90 + k)).toNatClampNeg ≤ 0) → ∀ r, r < k + 1 → ¬ hr s b (42 + r) = 1 ∧ ((all ∨ ¬ hr s b (42 + r) = 3) → hr s b (hr s b (90 + r)).toNatClampNeg ≤ 0) := by
      intro q1 q2 r hr'
      by_cases e : r = k
      · subst e; exact ⟨q1, q2⟩
      · exact hg r (by omega)
    refine v_House_isSortedFor_2 b t _ _ hS hH et (pk_le (nR d) k (fun q => absurd q (by omega)) (fun _ => ?_) hT.ra)
    rw [tn_n (by omega), e0, e6, tn_n (by omega), ek, nI_1]
    refine ⟨fun c => ⟨vp_in_nI (by omega) (by omega), fun c1 => GI.r (h0 (fun q => (q k hk).1 c1)), fun c1 => ih (nx c1 (fun q => absurd q ((hs k hk).mp c)))⟩, fun c => ⟨vp_in_nI (by omega) (by omega), fun c1 => GI.r (h0 (fun q => (q k hk).1 c1)), fun c1 => ⟨vp_in_nI (by omega) (by omega), fun c2 => ih (nx c1 (fun _ => c2)), fun c2 => GI.r (h0 (fun q => c2 ((q k hk).2 ?_)))⟩⟩⟩
    exact Classical.byContradiction fun w => c ((hs k hk).mpr w)
theorem f_House_isSorted {R : Int32 → MS → Prop} (hS : SX g) (hH : HS g b) (et : t = 88 ∨ t = 104) (hO : TOk d) (hT : TC d t s) (hW : WFr (dE d) (hr s b))
    (h1 : cln (dE d) False (hr s b) → R 1 s) (h0 : ¬ cln (dE d) False (hr s b) → R 0 s) : GI E m_House_isSorted [.ref b, .ref t] g s R := by
  refine v_House_isSorted (Q := qI g R) b t hH (f_House_ratsThatAre hS hH et hO hT ?_)
  refine f_House_isSortedFor hS hH et hO hT hW (all := False) (fun r hr' => ?_) (fun q => ⟨Or.inr rfl, GI.r (h1 q)⟩) (fun q => ⟨Or.inl rfl, GI.r (h0 q)⟩)
  rw [hb_not hO.r8 hr']
  simp
/-! the reference's -/
theorem f_Mo_worthOf {R : Int32 → MS → Prop} (hS : SX g) (hO : TOk d) (hT : TR d lv s) (hl : s.1 120 18 = nI lv) (hv : lv < 2) {hh : Nat} (h6 : hh < nH d) (h : R (wOf d (s.1 163) hh) s) : GI E m_Mo_worthOf [.ref 120, .int (nI hh)] g s R := by
  have a6 : hh < 6 := by have := hO.h6; omega
  have o6 : dOw d hh < 6 := by have := hO.ow h6; have := hO.g6; omega
  refine v_Mo_worthOf (Q := qI g R) _ hS ?_
  rw [hl, y6, tn_n (by omega), hT.ow h6, z6, tn_n (by omega)]
  refine ⟨vp_in_nI (by omega) (by omega), vp_in_nI (by omega) (by omega), ?_⟩
  refine upto (P := fun k => AWP E m_Mo_worthOf 33 0 0 [(0, .ref 120), (1, .int (nI hh)), (2, .int (s.1 163 (6 + 6 * hh + dOw d hh))), (3, .int (rsum (s.1 163) (6 + 6 * hh) k)), (4, .int (nI k))] [] (mk g s) (qI g R)) 6 ?_ ?_ 0 (Nat.zero_le _)
  · refine v_Mo_worthOf_33 _ _ _ _ hS (pk_le 6 6 (fun _ => ?_) (fun q => absurd q (by omega)))
    rw [hl, y6, tn_n (by omega), hT.ow h6, y6, tn_n (by omega), hT.pe (hO.ow h6)]
    refine ⟨vp_in_nI (by omega) (by omega), vp_in_nI (by omega) (by omega), fun c => GI.r ?_, fun c => GI.r ?_⟩
    · rw [wOf] at h
      by_cases q : 0 < dPe d (dOw d hh) * (s.1 163 (6 + 6 * hh + dOw d hh) - 2 * (rsum (s.1 163) (6 + 6 * hh) 6 - s.1 163 (6 + 6 * hh + dOw d hh)))
      · rw [if_pos q] at h; exact h
      · rw [if_neg q] at h
        rw [show dPe d (dOw d hh) * (s.1 163 (6 + 6 * hh + dOw d hh) - 2 * (rsum (s.1 163) (6 + 6 * hh) 6 - s.1 163 (6 + 6 * hh + dOw d hh))) = 0 from Int32.le_antisymm (Int32.not_lt.mp q) c]
        exact h
    · rw [wOf, if_neg (fun q => c (Int32.le_of_lt q))] at h; exact h
  · intro k hk ih
    refine v_Mo_worthOf_33 _ _ _ _ hS (pk_le 6 k (fun q => absurd q (by omega)) (fun _ => ?_))
    rw [z6, tn_n (by omega), nI_1]
    rw [rsum] at ih
    exact ⟨vp_in_nI (by omega) (by omega), ih⟩
theorem f_Mo_worthAll {R : Int32 → MS → Prop} (hS : SX g) (hO : TOk d) (hT : TR d lv s) (hl : s.1 120 18 = nI lv) (hv : lv < 2) (h : R (wAll d (s.1 163) (nH d)) s) : GI E m_Mo_worthAll [.ref 120] g s R := by
  have h6 := hO.h6
  refine v_Mo_worthAll (Q := qI g R) ?_
  have tl : (s.1 120 18).toNatClampNeg = lv := by rw [hl, tn_n (by omega)]
  refine upto (P := fun k => AWP E m_Mo_worthAll 4 0 0 [(0, .ref 120), (1, .int (wAll d (s.1 163) k)), (2, .int (nI k))] [] (mk g s) (qI g R)) (nH d) ?_ ?_ 0 (Nat.zero_le _)
  · refine v_Mo_worthAll_4 _ _ hS ⟨by rw [hl]; exact vp_in_nI hv (by omega), ?_⟩
    rw [tl]
    exact pk_le (nH d) (nH d) (fun _ => GI.r h) (fun q => absurd q (by omega)) hT.ho
  · intro k hk ih
    refine v_Mo_worthAll_4 _ _ hS ⟨by rw [hl]; exact vp_in_nI hv (by omega), ?_⟩
    rw [tl]
    refine pk_le (nH d) k (fun q => absurd q (by omega)) (fun _ => f_Mo_worthOf hS hO hT hl hv hk ?_) hT.ho
    rw [wAll, ← nI_1] at ih
    exact ih
theorem f_Mo_inHeap {R : Int32 → MS → Prop} (hS : SX g) (h : R (rsum (s.1 163) 0 6) s) : GI E m_Mo_inHeap [.ref 120] g s R := by
  refine v_Mo_inHeap (Q := qI g R) ?_
  refine upto (P := fun k => AWP E m_Mo_inHeap 4 0 0 [(0, .ref 120), (1, .int (rsum (s.1 163) 0 k)), (2, .int (nI k))] [] (mk g s) (qI g R)) 6 ?_ ?_ 0 (Nat.zero_le _)
  · exact v_Mo_inHeap_4 _ _ hS (pk_le 6 6 (fun _ => GI.r h) (fun q => absurd q (by omega)))
  · intro k hk ih
    refine v_Mo_inHeap_4 _ _ hS (pk_le 6 k (fun q => absurd q (by omega)) (fun _ => ⟨vp_in_nI (by omega) (by omega), ?_⟩))
    rw [tn_n (by omega), nI_1]
    rw [rsum, Nat.zero_add] at ih
    exact ih
theorem l_Mo_inHoles {R : Int32 → MS → Prop} (hS : SX g) (hO : TOk d) (hT : TR d lv s) (hl : s.1 120 18 = nI lv) (hv : lv < 2) {th : Int32} {F : Nat → Int32} (hF : ∀ k, k < nH d → F (k + 1) = iHin (s.1 163) (6 + 6 * k) (dOw d k) th (F k) 6) (hF0 : F 0 = 0) (h : R (F (nH d)) s) : GI E m_Mo_inHoles [.ref 120, .int th] g s R := by
  have h6 := hO.h6
  have tl : (s.1 120 18).toNatClampNeg = lv := by rw [hl, tn_n (by omega)]
  refine v_Mo_inHoles (Q := qI g R) _ ?_
  have := upto (P := fun k => AWP E m_Mo_inHoles 4 0 0 [(0, .ref 120), (1, .int th), (2, .int (F k)), (3, .int (nI k))] [] (mk g s) (qI g R)) (nH d) ?_ ?_ 0 (Nat.zero_le _)
  · rw [hF0] at this; exact this
  · refine v_Mo_inHoles_4 _ _ _ hS ⟨by rw [hl]; exact vp_in_nI hv (by omega), ?_⟩
    rw [tl]
    exact pk_le (nH d) (nH d) (fun _ => GI.r h) (fun q => absurd q (by omega)) hT.ho
  · intro k hk ih
    refine v_Mo_inHoles_4 _ _ _ hS ⟨by rw [hl]; exact vp_in_nI hv (by omega), ?_⟩
    rw [tl]
    refine pk_le (nH d) k (fun q => absurd q (by omega)) (fun _ => ?_) hT.ho
    refine upto (P := fun j => AWP E m_Mo_inHoles 20 0 0 [(0, .ref 120), (1, .int th), (2, .int (iHin (s.1 163) (6 + 6 * k) (dOw d k) th (F k) j)), (3, .int (nI k)), (4, .int (nI j))] [] (mk g s) (qI g R)) 6 ?_ ?_ 0 (Nat.zero_le _)
    · refine v_Mo_inHoles_20 _ _ _ _ hS (pk_le 6 6 (fun _ => ?_) (fun q => absurd q (by omega)))
      rw [← hF k hk, nI_1]; exact ih
    · intro j hj ih2
      refine v_Mo_inHoles_20 _ _ _ _ hS (pk_le 6 j (fun q => absurd q (by omega)) (fun _ => ?_))
      have o6 : dOw d k < 6 := by have := hO.ow hk; have := hO.g6; omega
      rw [hl, y6, tn_n (by omega), hT.ow hk, z6, tn_n (by omega), nI_1]
      rw [iHin] at ih2
      refine ⟨vp_in_nI (by omega) (by omega), pk_eq (dOw d k) j (fun q => ?_) (fun q => ?_)⟩
      · rw [if_pos q] at ih2
        refine ⟨fun c => ⟨vp_in_nI (by omega) (by omega), ?_⟩, fun c => ?_⟩
        · rw [if_pos c] at ih2; exact ih2
        · rw [if_neg c] at ih2; exact ih2
      · rw [if_neg q] at ih2
        refine ⟨fun c => ⟨vp_in_nI (by omega) (by omega), ?_⟩, fun c => ?_⟩
        · rw [if_pos c] at ih2; exact ih2
        · rw [if_neg c] at ih2; exact ih2
theorem f_Mo_inHolesF {R : Int32 → MS → Prop} (hS : SX g) (hO : TOk d) (hT : TR d lv s) (hl : s.1 120 18 = nI lv) (hv : lv < 2) (h : R (mis d (s.1 163) (nH d)) s) : GI E m_Mo_inHoles [.ref 120, .int 0] g s R :=
  l_Mo_inHoles hS hO hT hl hv (F := mis d (s.1 163)) (fun k hk => by rw [iHin_0 (by have := hO.ow hk; have := hO.g6; omega), mis]) rfl h
theorem f_Mo_inHolesT {R : Int32 → MS → Prop} (hS : SX g) (hO : TOk d) (hT : TR d lv s) (hl : s.1 120 18 = nI lv) (hv : lv < 2) (h : R (thr d (s.1 163) (nH d)) s) : GI E m_Mo_inHoles [.ref 120, .int 1] g s R :=
  l_Mo_inHoles hS hO hT hl hv (F := thr d (s.1 163)) (fun k hk => by rw [iHin_1 (by have := hO.ow hk; have := hO.g6; omega), thr]) rfl h
theorem f_Mo_isCleanNow {R : Int32 → MS → Prop} (hS : SX g) (hO : TOk d) (hT : TR d lv s) (hl : s.1 120 18 = nI lv) (hv : lv < 2) (hW : WFr (dE d) (s.1 163)) {x : Int32} {all : Prop} (hx : x = 0 ↔ ¬ all)
    (h1 : cln (dE d) all (s.1 163) → R 1 s) (h0 : ¬ cln (dE d) all (s.1 163) → R 0 s) : GI E m_Mo_isCleanNow [.ref 120, .int x] g s R := by
  have h8 := hO.r8
  have g6 := hO.g6
  have tl : (s.1 120 18).toNatClampNeg = lv := by rw [hl, tn_n (by omega)]
  refine v_Mo_isCleanNow (Q := qI g R) _ ?_
  refine upto (P := fun k => (∀ r, r < k → ¬ s.1 163 (42 + r) = 1 ∧ ((all ∨ ¬ s.1 163 (42 + r) = 3) → s.1 163 (s.1 163 (90 + r)).toNatClampNeg ≤ 0)) → AWP E m_Mo_isCleanNow 2 0 0 [(0, .ref 120), (1, .int x), (2, .int (nI k))] [] (mk g s) (qI g R)) (nR d) ?_ ?_ 0 (Nat.zero_le _) (fun r hr => absurd hr (by omega))
  · intro hg
    refine v_Mo_isCleanNow_2 _ _ hS ⟨by rw [hl]; exact vp_in_nI hv (by omega), ?_⟩
    rw [tl]
    exact pk_le (nR d) (nR d) (fun _ => GI.r (h1 hg)) (fun q => absurd q (by omega)) hT.ra
  · intro k hk ih hg
    obtain ⟨⟨kk, hkg, hkn⟩, -⟩ := hW k hk
    have hkg' : kk < nG d := hkg
    have nx : (¬ s.1 163 (42 + k) = 1) → ((all ∨ ¬ s.1 163 (42 + k) = 3) → s.1 163 (s.1 163 (90 + k)).toNatClampNeg ≤ 0) → ∀ r, r < k + 1 → ¬ s.1 163 (42 + r) = 1 ∧ ((all ∨ ¬ s.1 163 (42 + r) = 3) → s.1 163 (s.1 163 (90 + r)).toNatClampNeg ≤ 0) := by
      intro q1 q2 r hr'
      by_cases e : r = k
      · subst e; exact ⟨q1, q2⟩
      · exact hg r (by omega)
    have vk : vp_in (s.1 163 (90 + k)) 120 := by rw [hkn]; exact vp_in_nI (by omega) (by omega)
    refine v_Mo_isCleanNow_2 _ _ hS ⟨by rw [hl]; exact vp_in_nI hv (by omega), ?_⟩
    rw [tl, ix42 (by omega), ix90 (by omega), nI_1]
    refine pk_le (nR d) k (fun q => absurd q (by omega)) (fun _ => ⟨vi42 (by omega), fun c1 => GI.r (h0 (fun q => (q k hk).1 c1)), fun c1 => ⟨fun cx => ⟨fun c3 => ih (nx c1 (fun q => ?_)), fun c3 => ⟨vi90 (by omega), vk, fun c2 => ih (nx c1 (fun _ => c2)), fun c2 => GI.r (h0 (fun q => c2 ((q k hk).2 (Or.inr c3))))⟩⟩, fun cx => ⟨vi90 (by omega), vk, fun c2 => ih (nx c1 (fun _ => c2)), fun c2 => GI.r (h0 (fun q => c2 ((q k hk).2 (Or.inl ?_))))⟩⟩⟩) hT.ra
    · rcases q with q | q
      · exact absurd q (hx.mp cx)
      · exact absurd c3 q
    · exact Classical.byContradiction fun w => cx (hx.mpr w)
end Query
