/-! THE REFERENCE tells a rat: tellRat -/
section RRat2
variable {E : EN} {g : GS} {s : MS} {T : Nat → Nat} {L M : Nat} {d : TD} {nl : NL} {sd lv : Nat}
theorem RQ.o {u : MS} {q : Nat × Nat} (h : RQ T L M q s) (k : u.1 120 = s.1 120) : RQ T L M q u := by unfold RQ; rw [k]; exact h
theorem WQ.o {u : MS} {b : Option (Nat × Nat)} (h : WQ T L M b s) (k : u.1 120 = s.1 120) : WQ T L M b u := by unfold WQ at *; rw [k]; exact h
theorem NQ.w {a k : Nat} {v : Int32} (h : NQ nl s) (ha : 131 ≤ a) : NQ nl (wi s a k v) := fun i hi => by rw [wi_2, wi_n _ _ _ (by omega), wi_n _ _ _ (by omega)]; exact h i hi
theorem f_M_rat {R : MS → Prop} {q : Nat × Nat} {cG cH cR cM : Nat} {b : Option (Nat × Nat)} (hl : lv + sd = 1) (hL : L ≤ 2000) (hS : SX g) (hT : TkR T L M s) (hq : RQ T L M q s) (hz : q.2 = 0) (hb : BE b q.1) (hX : RX T L M sd cG cH cR cM b d nl s) (r8 : cR < 8)
    (h : ∀ u, FPa lv s u → RQ T L M (gRow (kK T L M) [2, 2, 2, 3, 3, 24] q) u → ((gRow (kK T L M) [2, 2, 2, 3, 3, 24] q).2 = 0 → RX T L M sd cG cH (cR + 1) cM (rB b (sRat T L q.1 d nl)) (rD d (sRat T L q.1 d nl)) (rN nl (sRat T L q.1 d nl)) u) → R u) : GV E m_Mo_tellRat [.ref 120] g s R := by
  obtain ⟨x1, x2, x3, ⟨x4, x4'⟩, ⟨x5, x5'⟩, ⟨x6, x6'⟩, ⟨x7, x7'⟩, x8, x9⟩ := hX
  refine v_Mo_tellRat (Q := qV g R) hS ?_
  rw [x2, tn_n (by omega), x6, y8, tn_n (by omega)]
  refine ⟨vp_in_nI (by omega) (by omega), ?_⟩
  refine f_M_named hL hS hT hq hz x1 hb x8 (by omega) (fun b1 u1 q1 f1 w1 _ m1 n1 => ?_)
  generalize hQ1 : gk (kK T L M) 2 q = Q1 at *
  have be1 : Q1.2 = 0 → BE b1 Q1.1 := fun z => by
    rw [← hQ1] at z ⊢
    refine be_nx (c := 3) (b := b) z (fun _ => hb) ?_
    by_cases y : b = none
    · obtain ⟨-, N, l, -⟩ := x9 y
      rw [n1 (by rw [← hQ1]; exact z) y nl N l]
      split
      · exact Or.inr (Or.inl rfl)
      · exact Or.inr (Or.inr rfl)
    · exact Or.inl (m1 y)
  have N1 : NQ nl s → NQ nl u1 := fun N => N.q f1
  have c1s : u1.1 120 20 = nI (cG + cH + cR) := by rw [f1.2.1 20 (by decide) (by decide) (by decide) (by decide) (by decide)]; exact x8
  -- what it knows
  refine f_M_known (sort := 0) rfl (by omega) hL hS (hT.q f1) q1 w1 be1 c1s (by omega) (fun y2 b2 u2 q2 f2 w2 v2 m2 n2 => ⟨vp_in_nI (by omega) (by omega), fun s3 e3 => ?_⟩)
  generalize hQ2 : gk (kK T L M) 2 Q1 = Q2 at *
  have s3' : s3.1 120 = u2.1 120 := by rw [e3, wi_n _ _ _ (by decide)]
  have F3 : FPa lv s s3 := (f1.tr f2).P.tr (by rw [e3]; exact FPa.w hl (by omega) (by unfold own; omega))
  have N3 : NQ nl s → NQ nl s3 := fun N => by rw [e3]; exact ((N1 N).q f2).w (by omega)
  have kb : ∀ (bb bb' : Option (Nat × Nat)) (sort : Nat) (Qa : Nat × Nat) (y : Int32), (bb ≠ none → bb' = bb) → (bb = none → ∀ nl' : NL, nl' = nl → (∀ i, nlF (vV T L Qa.1) sort nl' = some i → y = nI i ∧ bb' = none) ∧ (nlF (vV T L Qa.1) sort nl' = none → bb' = some (4, Qa.1))) → bb' = bb ∨ bb' = some (4, Qa.1) ∨ bb' = none := fun bb bb' sort Qa y h1 h2 => by
    by_cases z : bb = none
    · have := h2 z nl rfl
      cases hf : nlF (vV T L Qa.1) sort nl with
      | none => exact Or.inr (Or.inl (this.2 hf))
      | some i => exact Or.inr (Or.inr (this.1 i hf).2)
    · exact Or.inl (h1 z)
  have nb : b ≠ none → ∀ bb, (b ≠ none → bb = b) → bb ≠ none := fun h1 bb h2 => by rw [h2 h1]; exact h1
  have be2 : Q2.2 = 0 → BE b2 Q2.1 := fun z => by
    have z' := z
    rw [← hQ2] at z ⊢
    refine be_nx (c := 4) (b := b1) z be1 ?_
    by_cases y : b1 = none
    · have yb : b = none := Decidable.not_not.mp (fun w => nb w b1 m1 y)
      obtain ⟨-, N, l, -⟩ := x9 yb
      exact kb b1 b2 0 Q1 y2 m2 (fun _ nl' e => by rw [e]; exact n2 z' y nl (N1 N) l)
    · exact Or.inl (m2 y)
  have c3s : s3.1 120 20 = nI (cG + cH + cR) := by rw [s3', f2.2.1 20 (by decide) (by decide) (by decide) (by decide) (by decide)]; exact c1s
  -- where it lives
  refine f_M_known (sort := 1) rfl (by omega) hL hS (hT.P F3) (q2.o s3') (w2.o s3') be2 c3s (by omega) (fun y4 b4 u4 q4 f4 w4 v4 m4 n4 s5 e5 => ?_)
  generalize hQ3 : gk (kK T L M) 2 Q2 = Q3 at *
  have s5' : s5.1 120 = u4.1 120 := by rw [e5, wi_n _ _ _ (by decide)]
  have F5 : FPa lv s s5 := F3.tr (f4.P.tr (by rw [e5]; exact FPa.w hl (by omega) (by unfold own; omega)))
  have be3 : Q3.2 = 0 → BE b4 Q3.1 := fun z => by
    have z' := z
    rw [← hQ3] at z ⊢
    refine be_nx (c := 4) (b := b2) z be2 ?_
    by_cases y : b2 = none
    · have y1 : b1 = none := Decidable.not_not.mp (fun w => by rw [m2 w] at y; exact w y)
      have yb : b = none := Decidable.not_not.mp (fun w => nb w b1 m1 y1)
      obtain ⟨-, N, l, -⟩ := x9 yb
      exact kb b2 b4 1 Q2 y4 m4 (fun _ nl' e => by rw [e]; exact n4 z' y nl (N3 N) l)
    · exact Or.inl (m4 y)
  -- fat, fee
  have bo : ∀ (bb bb' : Option (Nat × Nat)) (p : Prop) [Decidable p] (j : Nat), (bb ≠ none → bb' = bb) → (bb = none → bb' = if p then none else some (5, j)) → bb' = bb ∨ bb' = some (5, j) ∨ bb' = none := fun bb bb' p _ j h1 h2 => by
    by_cases z : bb = none
    · rw [h2 z]
      split
      · exact Or.inr (Or.inr rfl)
      · exact Or.inr (Or.inl rfl)
    · exact Or.inl (h1 z)
  refine f_M_bounded (lo := 0) (hi := 9) rfl rfl (by omega) (by omega) hL hS (hT.P F5) (q4.o s5') (w4.o s5') be3 (fun y6 b6 u6 q6 f6 w6 m6 n6 s7 e7 => ?_)
  generalize hQ4 : gk (kK T L M) 3 Q3 = Q4 at *
  have s7' : s7.1 120 = u6.1 120 := by rw [e7, wi_n _ _ _ (by decide)]
  have F7 : FPa lv s s7 := F5.tr (f6.P.tr (by rw [e7]; exact FPa.w hl (by omega) (by unfold own; omega)))
  have be4 : Q4.2 = 0 → BE b6 Q4.1 := fun z => by
    have z' := z
    rw [← hQ4] at z ⊢
    exact be_nx (c := 5) (b := b4) z be3 (bo b4 b6 _ Q3.1 m6 (n6 z').2)
  refine f_M_bounded (lo := 0) (hi := 99) rfl rfl (by omega) (by omega) hL hS (hT.P F7) (q6.o s7') (w6.o s7') be4 (fun y8 b8 u8 q8 f8 w8 m8 n8 s9 e9 => ?_)
  generalize hQ5 : gk (kK T L M) 3 Q4 = Q5 at *
  have s9' : s9.1 120 = u8.1 120 := by rw [e9, wi_n _ _ _ (by decide)]
  have F9 : FPa lv s s9 := F7.tr (f8.P.tr (by rw [e9]; exact FPa.w hl (by omega) (by unfold own; omega)))
  refine f_M_must (κ := 24) rfl (by omega) (by omega) hS (hT.P F9) (q8.o s9') (fun u10 q10 f10 => ?_)
  have F10 : FPa lv s u10 := F9.tr f10.q.P
  have gr6 : gk (kK T L M) 24 Q5 = gRow (kK T L M) [2, 2, 2, 3, 3, 24] q := by rw [← hQ5, ← hQ4, ← hQ3, ← hQ2, ← hQ1]; rfl
  rw [gr6] at q10
  rw [q10.1]
  refine pk_le (gRow (kK T L M) [2, 2, 2, 3, 3, 24] q).2 0 (fun z => ?_) (fun z => GV.r (h u10 F10 q10 (fun w => absurd w (by omega)))) rfl rfl (by have := q10.2.2.2.2.2.2; omega) (by omega)
  have z0 : (gRow (kK T L M) [2, 2, 2, 3, 3, 24] q).2 = 0 := by omega
  obtain ⟨⟨k1, -⟩, g1, g2, g3, g4, g5, -⟩ := gRow6 z0
  rw [g1] at hQ1; subst hQ1
  rw [g2] at hQ2; subst hQ2
  rw [g3] at hQ3; subst hQ3
  rw [g4] at hQ4; subst hQ4
  rw [g5] at hQ5; subst hQ5
  obtain ⟨jm, kk⟩ := kK_m k1 (by omega)
  have ea : ∀ x, x ≠ 120 → (x < 138 ∨ 141 < x) → u10.1 x = s.1 x := fun x h1 h2 => by rw [f10.1 x h1, e9, wi_n _ _ _ (by omega), f8.1 x h1, e7, wi_n _ _ _ (by omega), f6.1 x h1, e5, wi_n _ _ _ (by omega), f4.1 x h1, e3, wi_n _ _ _ (by omega), f2.1 x h1, f1.1 x h1]
  have e2' : u10.2 = s.2 := by rw [f10.2.2, e9, wi_2, f8.2.2, e7, wi_2, f6.2.2, e5, wi_2, f4.2.2, e3, wi_2, f2.2.2, f1.2.2]
  have q5 : ∀ {v w : MS}, FRq v w → ∀ j, ¬ (11 ≤ j ∧ j < 17) → w.1 120 j = v.1 120 j := fun k j hj => k.2.1 j (by omega) (by omega) (by omega) (by omega) (by omega)
  have e120 : ∀ j, ¬ (11 ≤ j ∧ j < 17) → u10.1 120 j = s.1 120 j := fun j hj => by rw [q5 f10.q j hj, s9', q5 f8 j hj, s7', q5 f6 j hj, s5', q5 f4 j hj, s3', q5 f2 j hj, q5 f1 j hj]
  rw [e120 19 (by omega), x2, tn_n (by omega), ea 137 (by decide) (by omega), x6]
  refine ⟨vp_in_nI (by omega) (by omega), ?_⟩
  have q5l := hq.2.2.2.2.1
  refine f_M_notes (j := q.1) (sort := 2) (idx := cR) rfl rfl rfl jm (by omega) kk (by omega) hS (hT.P F10) (by rw [e120 20 (by omega)]; exact x8) (by omega) (fun u11 o1 o2 o3 o4 o5 => ?_)
  rw [o4 19 (by decide), e120 19 (by omega), x2, tn_n (by omega)]
  refine ⟨vp_in_nI (by omega) (by omega), fun s12 e12 => GV.r (h s12 ?_ ?_ (fun _ => ?_))⟩
  · refine F10.tr (FPa.tr (u := u11) ⟨fun a h1 h2 => o3 a h1 (by omega) (by omega), o5, fun j _ h2 => o4 j h2, OS.of (fun a h1 h2 => o3 a (by omega) (by omega) (by omega))⟩ (by rw [e12]; exact FPa.w hl (by omega) (by unfold own; omega)))
  · have : s12.1 120 = u11.1 120 := by rw [e12, wi_n _ _ _ (by decide)]
    unfold RQ; rw [this, o4 13 (by decide), o4 11 (by decide), o4 14 (by decide)]; exact q10
  · have t120 : ∀ j, j ≠ 20 → s12.1 120 j = u10.1 120 j := fun j hj => by rw [e12, wi_n _ _ _ (by decide), o4 j hj]
    have t8 : ∀ x, x ≠ 120 → x ≠ 129 → x ≠ 130 → x ≠ 137 → s12.1 x = u10.1 x := fun x h1 h2 h3 h4 => by rw [e12, wi_n _ _ _ h4, o3 x h1 h2 h3]
    have w12 : WQ T L M b8 s12 := by
      have := (w8.o s9').p f10
      unfold WQ at *; rw [t120 15 (by decide), t120 16 (by decide)]; exact this
    have s137 : s12.1 137 sd = nI (cR + 1) := by rw [e12, wi_s, upd_s, o3 137 (by decide) (by decide) (by decide), ea 137 (by decide) (by omega), x6, nI_1]
    have bb : b8 = rB b (sRat T L q.1 d nl) ∧ (b8 = none → b = none ∧ ∃ i j, y2 = nI i ∧ y4 = nI j ∧ sRat T L q.1 d nl = .inr (aRa d i j (nI (vV T L (q.1 + 3))) (nI (vV T L (q.1 + 4))), nl ++ [(vV T L q.1, 2, nR d)])) := by
      have n6' := (n6 rfl).2
      have n8' := (n8 rfl).2
      cases b with
      | some x =>
        have r1 := m1 (by simp)
        have r2 := m2 (by rw [r1]; simp)
        have r4 := m4 (by rw [r2, r1]; simp)
        have r6 := m6 (by rw [r4, r2, r1]; simp)
        have r8 := m8 (by rw [r6, r4, r2, r1]; simp)
        rw [r8, r6, r4, r2, r1]
        exact ⟨rfl, fun w => absurd w (by simp)⟩
      | none =>
        obtain ⟨-, N, l, -⟩ := x9 rfl
        have r1 := n1 rfl rfl nl N l
        unfold sRat
        by_cases dup : nlH (vV T L q.1) nl = true
        · rw [if_pos dup] at r1 ⊢
          have r2 := m2 (by rw [r1]; simp)
          have r4 := m4 (by rw [r2, r1]; simp)
          have r6 := m6 (by rw [r4, r2, r1]; simp)
          have r8 := m8 (by rw [r6, r4, r2, r1]; simp)
          rw [r8, r6, r4, r2, r1]
          exact ⟨rfl, fun w => absurd w (by simp)⟩
        · rw [if_neg dup] at r1 ⊢
          have r2 := n2 rfl r1 nl (N1 N) l
          cases hf : nlF (vV T L (q.1 + 1)) 0 nl with
          | none =>
            have r2' := r2.2 hf
            have r4 := m4 (by rw [r2']; simp)
            have r6 := m6 (by rw [r4, r2']; simp)
            have r8 := m8 (by rw [r6, r4, r2']; simp)
            rw [r8, r6, r4, r2']
            exact ⟨rfl, fun w => absurd w (by simp)⟩
          | some i =>
            obtain ⟨v2e, r2'⟩ := r2.1 i hf
            have r4 := n4 rfl r2' nl (N3 N) l
            cases hg : nlF (vV T L (q.1 + 2)) 1 nl with
            | none =>
              have r4' := r4.2 hg
              have r6 := m6 (by rw [r4']; simp)
              have r8 := m8 (by rw [r6, r4']; simp)
              rw [r8, r6, r4']
              exact ⟨rfl, fun w => absurd w (by simp)⟩
            | some j =>
              obtain ⟨v4e, r4'⟩ := r4.1 j hg
              have r6 := n6' r4'
              show b8 = rB none (if ¬ (0 ≤ vV T L (q.1 + 3) ∧ vV T L (q.1 + 3) ≤ 9) then .inl (5, q.1 + 3) else if ¬ (0 ≤ vV T L (q.1 + 4) ∧ vV T L (q.1 + 4) ≤ 99) then .inl (5, q.1 + 4) else .inr (aRa d i j (nI (vV T L (q.1 + 3))) (nI (vV T L (q.1 + 4))), nl ++ [(vV T L q.1, 2, nR d)])) ∧ (b8 = none → none = none ∧ ∃ i' j', y2 = nI i' ∧ y4 = nI j' ∧ (if ¬ (0 ≤ vV T L (q.1 + 3) ∧ vV T L (q.1 + 3) ≤ 9) then .inl (5, q.1 + 3) else if ¬ (0 ≤ vV T L (q.1 + 4) ∧ vV T L (q.1 + 4) ≤ 99) then .inl (5, q.1 + 4) else .inr (aRa d i j (nI (vV T L (q.1 + 3))) (nI (vV T L (q.1 + 4))), nl ++ [(vV T L q.1, 2, nR d)])) = (Sum.inr (aRa d i' j' (nI (vV T L (q.1 + 3))) (nI (vV T L (q.1 + 4))), nl ++ [(vV T L q.1, 2, nR d)]) : SR))
              by_cases p1 : 0 ≤ vV T L (q.1 + 3) ∧ vV T L (q.1 + 3) ≤ 9
              · rw [if_pos p1] at r6
                rw [if_neg (fun w => w p1)]
                have r8 := n8' r6
                by_cases p2 : 0 ≤ vV T L (q.1 + 4) ∧ vV T L (q.1 + 4) ≤ 99
                · rw [if_pos p2] at r8
                  rw [if_neg (fun w => w p2), r8]
                  exact ⟨rfl, fun _ => ⟨rfl, i, j, v2e, v4e, rfl⟩⟩
                · rw [if_neg p2] at r8
                  rw [if_pos p2, r8]
                  exact ⟨rfl, fun w => absurd w (by simp)⟩
              · rw [if_neg p1] at r6
                rw [if_pos p1]
                have r8 := m8 (by rw [r6]; simp)
                rw [r8, r6]
                exact ⟨rfl, fun w => absurd w (by simp)⟩
    rw [← bb.1]
    refine ⟨w12, by rw [t120 19 (by decide), e120 19 (by omega)]; exact x2, x3, ⟨by rw [t8 131 (by decide) (by decide) (by decide) (by decide), ea 131 (by decide) (by omega)]; exact x4, x4'⟩, ⟨by rw [t8 134 (by decide) (by decide) (by decide) (by decide), ea 134 (by decide) (by omega)]; exact x5, x5'⟩, ⟨s137, by omega⟩, ⟨by rw [t8 142 (by decide) (by decide) (by decide) (by decide), ea 142 (by decide) (by omega)]; exact x7, x7'⟩, ?_, fun bn => ?_⟩
    · rw [e12, wi_n _ _ _ (by decide), o1]; congr 1
    · obtain ⟨bn0, i, j, y2v, y4v, sg⟩ := bb.2 bn
      obtain ⟨tr, N, l, v1, v2', v3, v4'⟩ := x9 bn0
      have y6v := (n6 rfl).1
      have y8v := (n8 rfl).1
      rw [sg]
      refine ⟨tr.ra' (by omega) (by rw [v3]; exact s137) ?_ ?_ ?_ ?_ (fun x h1 h2 h3 => ?_), ?_, ?_, v1, v2', ?_, v4'⟩
      · rw [t8 138 (by decide) (by decide) (by decide) (by decide), f10.1 138 (by decide), e9, wi_n _ _ _ (by decide), f8.1 138 (by decide), e7, wi_n _ _ _ (by decide), f6.1 138 (by decide), e5, wi_n _ _ _ (by decide), f4.1 138 (by decide), e3, wi_s, f2.1 138 (by decide), f1.1 138 (by decide), v3, y2v]
      · rw [t8 139 (by decide) (by decide) (by decide) (by decide), f10.1 139 (by decide), e9, wi_n _ _ _ (by decide), f8.1 139 (by decide), e7, wi_n _ _ _ (by decide), f6.1 139 (by decide), e5, wi_s, f4.1 139 (by decide), e3, wi_n _ _ _ (by decide), f2.1 139 (by decide), f1.1 139 (by decide), v3, y4v]
      · rw [t8 140 (by decide) (by decide) (by decide) (by decide), f10.1 140 (by decide), e9, wi_n _ _ _ (by decide), f8.1 140 (by decide), e7, wi_s, f6.1 140 (by decide), e5, wi_n _ _ _ (by decide), f4.1 140 (by decide), e3, wi_n _ _ _ (by decide), f2.1 140 (by decide), f1.1 140 (by decide), v3, y6v]
      · rw [t8 141 (by decide) (by decide) (by decide) (by decide), f10.1 141 (by decide), e9, wi_s, f8.1 141 (by decide), e7, wi_n _ _ _ (by decide), f6.1 141 (by decide), e5, wi_n _ _ _ (by decide), f4.1 141 (by decide), e3, wi_n _ _ _ (by decide), f2.1 141 (by decide), f1.1 141 (by decide), v3, y8v]
      · rw [t8 x (by omega) (by omega) (by omega) (by omega), ea x (by omega) (by omega)]
      · have N10 : NQ nl u10 := fun i hi => by rw [e2', ea 129 (by decide) (by omega), ea 130 (by decide) (by omega)]; exact N i hi
        have N11 := o2 nl N10 l
        rw [← v3] at N11
        exact fun i hi => by rw [e12, wi_2, wi_n _ _ _ (by decide), wi_n _ _ _ (by decide)]; exact N11 i hi
      · show (nl ++ [(vV T L q.1, 2, nR d)]).length = _
        rw [List.length_append, l]; rfl
      · show nR d + 1 = cR + 1; omega
end RRat2
