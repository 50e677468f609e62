/-! bestSwap, sales -/
def swp (h o : Nat) (f : Row) : Row := upd (upd f h (f o)) o (f h)
theorem swp_swp {h o : Nat} (hn : h ≠ o) (f : Row) : swp h o (swp h o f) = f := by
  funext j
  simp only [swp, upd]
  by_cases a : j = o
  · subst a
    have : h ≠ j := hn
    simp [this]
  · by_cases b : j = h
    · subst b; simp [a]
    · simp [a, b]
theorem swp_cg {h o n : Nat} {f f' : Row} (hh : h < n) (ho : o < n) (q : ∀ j, j < n → f j = f' j) : ∀ j, j < n → swp h o f j = swp h o f' j := by
  intro j hj
  simp only [swp, upd]
  split
  · exact q h hh
  · split
    · exact q o ho
    · exact q j hj
theorem swp_b {h o n : Nat} {f : Row} (hh : h < n) (ho : o < n) (q : ∀ j, j < n → ∃ x, 1 ≤ x ∧ x ≤ 30 ∧ f j = nI x) : ∀ j, j < n → ∃ x, 1 ≤ x ∧ x ≤ 30 ∧ swp h o f j = nI x := by
  intro j hj
  simp only [swp, upd]
  split
  · exact q h hh
  · split
    · exact q o ho
    · exact q j hj
theorem pCB_rg (e : PE) : ∀ (F k : Nat) (N : Row), pCB e F k N = -2 ∨ ∃ m, k ≤ m ∧ m < k + F ∧ pCB e F k N = nI m
  | 0, _, _ => Or.inl rfl
  | F + 1, k, N => by
    rw [pCB]
    split
    · exact Or.inr ⟨k, by omega, by omega, rfl⟩
    · rcases pCB_rg e F (k + 1) (pMin e N) with h | ⟨m, h1, h2, h3⟩
      · exact Or.inl h
      · exact Or.inr ⟨m, by omega, by omega, h3⟩
theorem pCB_cut (e : PE) : ∀ (F G k : Nat) (N : Row), F ≤ G → (∃ m, m < k + F ∧ k ≤ m ∧ pCB e G k N = nI m ∧ pCB e F k N = nI m) ∨ (pCB e F k N = -2 ∧ (pCB e G k N = -2 ∨ ∃ m, k + F ≤ m ∧ m < k + G ∧ pCB e G k N = nI m))
  | 0, G, k, N, _ => by
    refine Or.inr ⟨rfl, ?_⟩
    rcases pCB_rg e G k N with h | ⟨m, h1, h2, h3⟩
    · exact Or.inl h
    · exact Or.inr ⟨m, by omega, by omega, h3⟩
  | F + 1, 0, k, N, h => by omega
  | F + 1, G + 1, k, N, h => by
    rw [pCB, pCB]
    by_cases c : cln e False N
    · rw [if_pos c, if_pos c]
      exact Or.inl ⟨k, by omega, by omega, rfl, rfl⟩
    · rw [if_neg c, if_neg c]
      rcases pCB_cut e F G (k + 1) (pMin e N) (by omega) with ⟨m, h1, h2, h3, h4⟩ | ⟨h1, h2⟩
      · exact Or.inl ⟨m, by omega, by omega, h3, h4⟩
      · refine Or.inr ⟨h1, ?_⟩
        rcases h2 with h2 | ⟨m, h2, h3, h4⟩
        · exact Or.inl h2
        · exact Or.inr ⟨m, by omega, by omega, h4⟩
noncomputable def pSwC (d : TD) (N : Row) (h o : Nat) : Int32 := pCB (eV (dE d) (swp h o (eFa (dE d))) (eSd (dE d))) 601 0 N
noncomputable def pSw (d : TD) (N : Row) (h o : Nat) (q : Int32 × Int32) : Int32 × Int32 := if pSwC d N h o < 0 ∨ (0 ≤ q.2 ∧ q.2 ≤ pSwC d N h o) then q else (10 * nI h + nI o, pSwC d N h o)
noncomputable def pBi (d : TD) (N : Row) (h : Nat) (q : Int32 × Int32) : Nat → Int32 × Int32
  | 0 => q
  | j + 1 => pSw d N h (h + 1 + j) (pBi d N h q j)
noncomputable def pBo (d : TD) (N : Row) : Nat → Int32 × Int32
  | 0 => (-2, pCB (dE d) 601 0 N)
  | h + 1 => pBi d N h (pBo d N h) (nH d - (h + 1))
def vOk (x : Int32) : Prop := x = -2 ∨ ∃ m, m < 601 ∧ x = nI m
theorem vOk_CB (e : PE) (N : Row) : vOk (pCB e 601 0 N) := by
  rcases pCB_rg e 601 0 N with h | ⟨m, h1, h2, h3⟩
  · exact Or.inl h
  · exact Or.inr ⟨m, by omega, h3⟩
theorem vOk_Bi {d : TD} {N : Row} {h : Nat} {q : Int32 × Int32} (hq : vOk q.2) : ∀ j, vOk (pBi d N h q j).2
  | 0 => hq
  | j + 1 => by
    rw [pBi, pSw]
    split
    · exact vOk_Bi hq j
    · exact vOk_CB _ _
theorem vOk_Bo {d : TD} {N : Row} : ∀ h, vOk (pBo d N h).2
  | 0 => vOk_CB _ _
  | h + 1 => vOk_Bi (vOk_Bo h) _
noncomputable def bestA (d : TD) (N : Row) (x : Int32) : Int32 := if 0 ≤ x ∧ x < 2 then (if x = 0 then (pBo d N (nH d)).1 else (pBo d N (nH d)).2) else -1
section Plan6
variable {E : EN} {g : GS} {b t lv : Nat} {d : TD} {s : MS} {N : Row} {f : Row} {sd : Int32}
theorem f_Mill_exchangeFar {R : MS → Prop} {h o : Nat} (hS : SX g) (h6 : h < 6) (o6 : o < 6) (hr' : R (si s 29 (swp h o (s.1 29)))) : GV E m_Mill_exchangeFar [.ref 28, .int (nI h), .int (nI o)] g s R := by
  refine v_Mill_exchangeFar (Q := qV g R) _ _ hS ?_
  rw [tn_n (by omega), tn_n (by omega)]
  refine ⟨vp_in_nI h6 (by omega), vp_in_nI o6 (by omega), fun s1 e1 s2 e2 => GV.r ?_⟩
  rw [e2, e1, wi_def s, wi_si]
  exact hr'
theorem FrG.si29 (s : MS) (f : Row) : FrG t s (si s 29 f) := ⟨fun a h1 _ => si_1n s f (by omega), fun j _ => by rw [si_1n s f (by decide)], rfl⟩
theorem c_bestSwap {R : Int32 → MS → Prop} {x1 : Int32} (P : PC d g t N s) (h : ∀ u, FrP t s u → R (bestA d N x1) u) : GI E m_Rs_bestSwap [.ref 16, .int x1] g s R := by
  have hS := P.1.sx
  have hO := P.1.o
  have et := P.1.et
  have h6 := hO.h6
  refine v_Rs_bestSwap (Q := qI g R) _ hS (f_Rs_isOf (fun q => ⟨fun _ => GI.r ?_, fun c => absurd rfl c⟩) (fun q => ⟨fun c => absurd c (by decide), fun _ => ?_⟩))
  · have := h s (FrP.rf t s)
    rw [bestA, if_neg q] at this
    exact this
  refine v_Planner_seekSwap (Q := qV g _) 74 hS ?_
  intro s1 e1
  have F1 : FrP t s s1 := by rw [e1]; exact FrP.w (by omega)
  have P1 := P.mv F1
  refine k_cleanBy P1.1 P1.2.1 P1.2.2.1 P.2.2.2.1 (F := 601) (by omega) x600 (fun s2 F2 E2 s3 e3 => ?_)
  have F3 : FrP t s s3 := F1.tr (F2.tr (by rw [e3]; exact FrP.w (by omega)))
  refine upto (P := fun k => ∀ u, FrP t s u → u.1 31 2 = (pBo d N k).1 → u.1 31 3 = (pBo d N k).2 → AWP E m_Planner_seekSwap 21 0 0 [(0, .ref 31), (1, .ref 28), (2, .ref 74), (3, .int (nI k))] [] (mk g u) (qV g _)) (nH d) ?_ ?_ 0 (Nat.zero_le _) s3 F3 (by rw [e3, wi_s, upd_n _ _ (by decide), E2, e1, wi_s, upd_s]; rfl) (by rw [e3, wi_s, upd_s]; rfl)
  · intro u a1 a2 a3
    refine v_Planner_seekSwap_21 74 _ t hS et P.1.hm (pk_le (nH d) (nH d) (fun _ => GV.r ?_) (fun q => absurd q (by omega)) (P.1.p a1).tc.ho)
    have hh := h u a1
    rw [bestA, if_pos q] at hh
    refine ⟨fun c => GI.r ?_, fun c => GI.r ?_⟩
    · rw [if_pos c] at hh; rw [a2]; exact hh
    · rw [if_neg c] at hh; rw [a3]; exact hh
  · intro k hk ih u a1 a2 a3
    refine v_Planner_seekSwap_21 74 _ t hS et P.1.hm (pk_le (nH d) k (fun q => absurd q (by omega)) (fun _ => ?_) (P.1.p a1).tc.ho)
    rw [nI_1]
    rw [pBo] at ih
    refine upto (P := fun j => ∀ u, FrP t s u → u.1 31 2 = (pBi d N k (pBo d N k) j).1 → u.1 31 3 = (pBi d N k (pBo d N k) j).2 → AWP E m_Planner_seekSwap 37 0 0 [(0, .ref 31), (1, .ref 28), (2, .ref 74), (3, .int (nI k)), (4, .int (nI (k + 1 + j)))] [] (mk g u) (qV g _)) (nH d - (k + 1)) ?_ ?_ 0 (Nat.zero_le _) u a1 a2 a3
    · intro u a1 a2 a3
      refine v_Planner_seekSwap_37 74 _ _ t hS et P.1.hm (pk_le (nH d) (k + 1 + (nH d - (k + 1))) (fun _ => ?_) (fun q => absurd q (by omega)) (P.1.p a1).tc.ho)
      rw [nI_1]; exact ih u a1 a2 a3
    · intro j hj ih2 u a1 a2 a3
      have Pu := P.mv a1
      have o6 : k + 1 + j < nH d := by omega
      rw [pBi] at ih2
      generalize hq : pBi d N k (pBo d N k) j = q0 at ih2 a2 a3
      have vq : vOk q0.2 := by rw [← hq]; exact vOk_Bi (vOk_Bo k) j
      refine v_Planner_seekSwap_37 74 _ _ t hS et P.1.hm (pk_le (nH d) (k + 1 + j) (fun q => absurd q (by omega)) (fun _ => ?_) (P.1.p a1).tc.ho)
      refine f_Mill_exchangeFar hS (by omega) (by omega) ?_
      have G1 : FrG t u (si u 29 (swp k (k + 1 + j) (u.1 29))) := FrG.si29 u _
      have K1 : KC d g t (swp k (k + 1 + j) (eFa (dE d))) (eSd (dE d)) (si u 29 (swp k (k + 1 + j) (u.1 29))) := by
        refine Pu.1.g G1 (fun x hx => ?_) ?_ (swp_b (by omega) o6 hO.fa)
        · rw [si_1s]; exact swp_cg (by omega) o6 Pu.1.2.2.2.2.2.2.1 x hx
        · rw [si_1n _ _ (by decide)]; exact Pu.1.2.2.2.2.2.2.2.1
      have w31 : (si u 29 (swp k (k + 1 + j) (u.1 29))).1 31 3 = q0.2 := by rw [si_1n _ _ (by decide)]; exact a3
      rw [w31]
      -- what the search leaves, whatever bound it had
      have fin : ∀ (y : Int32) (v : MS), FrP t (si u 29 (swp k (k + 1 + j) (u.1 29))) v → v.1 31 = (si u 29 (swp k (k + 1 + j) (u.1 29))).1 31 → ((y = -2 ∧ (pSwC d N k (k + 1 + j) < 0 ∨ (0 ≤ q0.2 ∧ q0.2 ≤ pSwC d N k (k + 1 + j)))) ∨ (¬ y = -2 ∧ y = pSwC d N k (k + 1 + j) ∧ ¬ (pSwC d N k (k + 1 + j) < 0 ∨ (0 ≤ q0.2 ∧ q0.2 ≤ pSwC d N k (k + 1 + j))))) →
          GV E m_Mill_exchangeFar [.ref 28, .int (nI k), .int (nI (k + 1 + j))] g v (fun t3_ => ((y = (-2) → AWP E m_Planner_seekSwap 37 0 0 [(0, .ref 31), (1, .ref 28), (2, .ref 74), (3, .int (nI k)), (4, .int (nI (k + 1 + j) + 1))] [] (mk g t3_) (qV g fun t2_ => ((x1 = 0 → qI g R (some (.int (t2_.1 31 2))) (mk g t2_)) ∧ (¬ x1 = 0 → qI g R (some (.int (t2_.1 31 3))) (mk g t2_))))) ∧ (¬ y = (-2) → (∀ s4_, s4_ = wi t3_ 31 2 ((10 * nI k) + nI (k + 1 + j)) → (∀ s5_, s5_ = wi s4_ 31 3 y → AWP E m_Planner_seekSwap 37 0 0 [(0, .ref 31), (1, .ref 28), (2, .ref 74), (3, .int (nI k)), (4, .int (nI (k + 1 + j) + 1))] [] (mk g s5_) (qV g fun t2_ => ((x1 = 0 → qI g R (some (.int (t2_.1 31 2))) (mk g t2_)) ∧ (¬ x1 = 0 → qI g R (some (.int (t2_.1 31 3))) (mk g t2_))))))))) := by
        intro y v hv hv31 hy
        refine f_Mill_exchangeFar hS (by omega) (by omega) ?_
        rw [nI_1]
        have e29 : swp k (k + 1 + j) (v.1 29) = u.1 29 := by rw [hv.2.1, si_1s, swp_swp (by omega)]
        have FU : FrP t u (si v 29 (swp k (k + 1 + j) (v.1 29))) := by
          refine ⟨G1.tr (hv.1.tr (FrG.si29 v _)), by rw [si_1s, e29], fun x hx => ?_⟩
          rw [si_1n _ _ (by decide), hv.2.2 x hx, si_1n _ _ (by decide)]
        have E31 : (si v 29 (swp k (k + 1 + j) (v.1 29))).1 31 = u.1 31 := by rw [si_1n _ _ (by decide), hv31, si_1n _ _ (by decide)]
        rcases hy with ⟨y1, y2⟩ | ⟨y1, y2, y3⟩
        · refine ⟨fun _ => ?_, fun w => absurd y1 w⟩
          rw [pSw, if_pos y2] at ih2
          exact ih2 _ (a1.tr FU) (by rw [E31]; exact a2) (by rw [E31]; exact a3)
        · refine ⟨fun w => absurd w y1, fun _ s4 f4 s5 f5 => ?_⟩
          rw [pSw, if_neg y3] at ih2
          refine ih2 s5 (a1.tr (FU.tr (by rw [f5, f4]; exact (FrP.w (by omega)).tr (FrP.w (by omega))))) ?_ ?_
          · rw [f5, wi_s, upd_n _ _ (by decide), f4, wi_s, upd_s]
          · rw [f5, wi_s, upd_s]; exact y2
      have N1 : nm (dE d) (hr (si u 29 (swp k (k + 1 + j) (u.1 29))) 74) = N := by rw [G1.h74 et]; exact Pu.2.1
      have C1 := G1.c74 et Pu.2.2.1
      refine ⟨fun z => k_cleanBy K1 N1 C1 P.2.2.2.1 (F := 601) (by omega) x600 (fun v hv hv31 => fin _ v hv hv31 ?_), fun z => ?_⟩
      · rcases vOk_CB (eV (dE d) (swp k (k + 1 + j) (eFa (dE d))) (eSd (dE d))) N with w | ⟨m, w1, w2⟩
        · exact Or.inl ⟨w, Or.inl (by rw [pSwC, w]; decide)⟩
        · refine Or.inr ⟨by rw [w2]; exact fun e => absurd (nI_pos' (n := m) (by omega)) (by rw [e]; decide), rfl, ?_⟩
          rintro (e | ⟨e, -⟩)
          · rw [pSwC, w2] at e; exact absurd e (nI_pos (by omega))
          · rw [z] at e; exact absurd e (by decide)
      · rcases vq with w | ⟨m, w1, w2⟩
        · exact absurd w z
        · rw [w2]
          refine k_cleanBy K1 N1 C1 P.2.2.2.1 (F := m) (by omega) (fun x hx => ?_) (fun v hv hv31 => fin _ v hv hv31 ?_)
          · rcases Nat.eq_zero_or_pos m with z0 | z0
            · subst z0
              have : x = 0 := by omega
              subst this
              exact ⟨fun _ => rfl, fun _ => by decide⟩
            · rw [show (1 : Int32) = nI 1 from rfl, pk_sub z0, nI_ltI (by omega) (by omega)]
              omega
          · rw [w2]
            rcases pCB_cut (eV (dE d) (swp k (k + 1 + j) (eFa (dE d))) (eSd (dE d))) m 601 0 N (by omega) with ⟨m', c1, c2, c3, c4⟩ | ⟨c1, c2⟩
            · have e' : pSwC d N k (k + 1 + j) = nI m' := c3
              refine Or.inr ⟨by rw [c4]; exact fun e => absurd (nI_pos' (n := m') (by omega)) (by rw [e]; decide), by rw [c4, e'], ?_⟩
              rw [e']
              rintro (e | ⟨-, e⟩)
              · exact absurd e (nI_pos (by omega))
              · have := (nI_leI (by omega) (by omega)).mp e; omega
            · refine Or.inl ⟨c1, ?_⟩
              rcases c2 with c2 | ⟨m', c2, c3, c4⟩
              · exact Or.inl (by rw [pSwC, c2]; decide)
              · refine Or.inr ⟨nI_pos' (by omega), ?_⟩
                rw [pSwC, c4]; exact nI_le (by omega) (by omega)
theorem r_bestSwap {R : Int32 → MS → Prop} {x1 : Int32} (hS : SX g) (hO : TOk d) (P : PR d lv N s) (hW : RW d 400000 N) (h : ∀ u, FrR s u → R (bestA d N x1) u) : GI E m_Mo_bestSwap [.ref 120, .int x1] g s R := by
  have h6 := hO.h6
  refine v_Mo_bestSwap (Q := qI g R) _ hS (f_Mo_in (fun q2 => ⟨fun _ => GI.r ?_, fun c => absurd rfl c⟩) (fun q2' => ⟨fun c => absurd c (by decide), fun _ => ?_⟩))
  · have := h s (FrR.rf s)
    rw [bestA, if_neg (fun w : 0 ≤ x1 ∧ x1 < 2 => q2 ((lt_pred (n := 2) (by decide)).mpr w))] at this
    exact this
  have q2 : 0 ≤ x1 ∧ x1 < 2 := (lt_pred (n := 2) (by decide)).mp q2'
  refine k_copies hS P.1 P.2 (fun v b1 b2 b3 b4 => ?_)
  refine k_rcleanBy hS hO (P.1.mv b4) b1 b2 hO.fa b3 hW.1 (fun w c1 => ?_)
  refine upto (P := fun k => ∀ u, FrR s u → AWP E m_Mo_bestSwap 26 0 0 [(0, .ref 120), (1, .int x1), (2, .int (pBo d N k).1), (3, .int (pBo d N k).2), (4, .int (nI k))] [] (mk g u) (qI g R)) (nH d) ?_ ?_ 0 (Nat.zero_le _) w (b4.tr c1.R)
  · intro u a1
    have K := P.1.mv a1
    refine v_Mo_bestSwap_26 _ _ _ _ hS ⟨by rw [K.2.1]; exact vp_in_nI K.2.2.1 (by omega), ?_⟩
    rw [K.2.1, tn_n (by have := K.2.2.1; omega)]
    have hh := h u a1
    rw [bestA, if_pos q2] at hh
    refine pk_le (nH d) (nH d) (fun _ => ⟨fun c => GI.r ?_, fun c => GI.r ?_⟩) (fun q => absurd q (by omega)) K.1.ho
    · rw [if_pos c] at hh; exact hh
    · rw [if_neg c] at hh; exact hh
  · intro k hk ih u a1
    have K := P.1.mv a1
    refine v_Mo_bestSwap_26 _ _ _ _ hS ⟨by rw [K.2.1]; exact vp_in_nI K.2.2.1 (by omega), ?_⟩
    rw [K.2.1, tn_n (by have := K.2.2.1; omega), nI_1]
    rw [pBo] at ih
    refine pk_le (nH d) k (fun q => absurd q (by omega)) (fun _ => ?_) K.1.ho
    refine upto (P := fun j => ∀ u, FrR s u → AWP E m_Mo_bestSwap 46 0 0 [(0, .ref 120), (1, .int x1), (2, .int (pBi d N k (pBo d N k) j).1), (3, .int (pBi d N k (pBo d N k) j).2), (4, .int (nI k)), (5, .int (nI (k + 1 + j)))] [] (mk g u) (qI g R)) (nH d - (k + 1)) ?_ ?_ 0 (Nat.zero_le _) u a1
    · intro u a1
      have K := P.1.mv a1
      refine v_Mo_bestSwap_46 _ _ _ _ _ hS ⟨by rw [K.2.1]; exact vp_in_nI K.2.2.1 (by omega), ?_⟩
      rw [K.2.1, tn_n (by have := K.2.2.1; omega), nI_1]
      exact pk_le (nH d) (k + 1 + (nH d - (k + 1))) (fun _ => ih u a1) (fun q => absurd q (by omega)) K.1.ho
    · intro j hj ih2 u a1
      have Pu := P.mv a1
      have K := Pu.1
      have o6 : k + 1 + j < nH d := by omega
      rw [pBi] at ih2
      generalize hq : pBi d N k (pBo d N k) j = q0 at ih2 ⊢
      have vq : vOk q0.2 := by rw [← hq]; exact vOk_Bi (vOk_Bo k) j
      refine v_Mo_bestSwap_46 _ _ _ _ _ hS ⟨by rw [K.2.1]; exact vp_in_nI K.2.2.1 (by omega), ?_⟩
      rw [K.2.1, tn_n (by have := K.2.2.1; omega), nI_1 k, nI_1 (k + 1 + j), tn_n (by omega), tn_n (by omega)]
      refine pk_le (nH d) (k + 1 + j) (fun q => absurd q (by omega)) (fun _ => ?_) K.1.ho
      refine k_copies hS K Pu.2 (fun v b1 b2 b3 b4 => ⟨vp_in_nI (by omega) (by omega), vp_in_nI (by omega) (by omega), fun s2 e2 s3 e3 => ?_⟩)
      have F3 : FrR v s3 := by
        refine ⟨fun a _ _ _ h4 _ _ => ?_, fun x _ _ _ _ => ?_, ?_, fun x hx => ?_⟩
        · rw [e3, wi_n _ _ _ h4, e2, wi_n _ _ _ h4]
        · rw [e3, wi_n _ _ _ (by decide), e2, wi_n _ _ _ (by decide)]
        · rw [e3, wi_2, e2, wi_2]
        · rw [e3, wi_s, upd_n _ _ (by omega), e2, wi_s, upd_n _ _ (by omega)]
      have e164 : s3.1 164 = swp k (k + 1 + j) (eFa (dE d)) := by rw [e3, wi_s, e2, wi_s, b1]; rfl
      have e61 : s3.1 120 61 = eSd (dE d) := by rw [e3, wi_n _ _ _ (by decide), e2, wi_n _ _ _ (by decide)]; exact b2
      have e163 : nm (dE d) (s3.1 163) = N := by rw [e3, wi_n _ _ _ (by decide), e2, wi_n _ _ _ (by decide)]; exact b3
      refine k_rcleanBy hS hO (K.mv (b4.tr F3)) e164 e61 (swp_b (by omega) o6 hO.fa) e163 hW.1 (fun z hz => ?_)
      have FZ := a1.tr (b4.tr (F3.tr hz.R))
      show (pSwC d N k (k + 1 + j) < 0 → _) ∧ (¬ pSwC d N k (k + 1 + j) < 0 → _)
      refine ⟨fun y1 => ?_, fun y1 => ⟨fun y2 => ?_, fun y2 => ⟨fun y3 => ?_, fun y3 => ?_⟩⟩⟩
      · rw [pSw, if_pos (Or.inl y1)] at ih2; exact ih2 z FZ
      · rw [pSw, if_neg (fun w => w.elim y1 (fun w => absurd y2 (Int32.not_lt.mpr w.1)))] at ih2; exact ih2 z FZ
      · rw [pSw, if_neg (fun w => w.elim y1 (fun w => absurd y3 (Int32.not_lt.mpr w.2)))] at ih2; exact ih2 z FZ
      · rw [pSw, if_pos (Or.inr ⟨Int32.not_lt.mp y2, Int32.not_lt.mp y3⟩)] at ih2; exact ih2 z FZ
end Plan6
