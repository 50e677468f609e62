/-! THE REFERENCE tells a grain -/
section RGrain
variable {E : EN} {g : GS} {s : MS} {T : Nat → Nat} {L M : Nat} {d : TD} {nl : NL} {sd lv : Nat}
def RX (T : Nat → Nat) (L M sd cG cH cR cM : Nat) (b : Option (Nat × Nat)) (d : TD) (nl : NL) (s : MS) : Prop := WQ T L M b s ∧ s.1 120 19 = nI sd ∧ sd < 2 ∧ (s.1 131 sd = nI cG ∧ cG ≤ 6) ∧ (s.1 134 sd = nI cH ∧ cH ≤ 6) ∧ (s.1 137 sd = nI cR ∧ cR ≤ 8) ∧ (s.1 142 sd = nI cM ∧ cM ≤ 5) ∧ s.1 120 20 = nI (cG + cH + cR) ∧ (b = none → TR d sd s ∧ NQ nl s ∧ nl.length = cG + cH + cR ∧ nG d = cG ∧ nH d = cH ∧ nR d = cR ∧ dM d = cM)
/-- what a statement makes of the first wrong one, the text and the names -/
def rB (b : Option (Nat × Nat)) (r : SR) : Option (Nat × Nat) := match b, r with
  | some x, _ => some x
  | none, .inl x => some x
  | none, .inr _ => none
def rD (d : TD) (r : SR) : TD := match r with
  | .inl _ => d
  | .inr y => y.1
def rN (nl : NL) (r : SR) : NL := match r with
  | .inl _ => nl
  | .inr y => y.2
theorem gRow4 {K : Nat → Nat} {q : Nat × Nat} {k1 k2 k3 k4 : Nat} (h : (gRow K [k1, k2, k3, k4] q).2 = 0) : q.2 = 0 ∧ (K q.1 = k1 ∧ K (q.1 + 1) = k2 ∧ K (q.1 + 2) = k3 ∧ K (q.1 + 3) = k4) ∧ gk K k1 q = (q.1 + 1, 0) ∧ gk K k2 (q.1 + 1, 0) = (q.1 + 2, 0) ∧ gk K k3 (q.1 + 2, 0) = (q.1 + 3, 0) ∧ gRow K [k1, k2, k3, k4] q = (q.1 + 4, 0) := by
  have h4 : (gk K k4 (gk K k3 (gk K k2 (gk K k1 q)))).2 = 0 := h
  obtain ⟨a4, b4, -, c4⟩ := gk_ok h4
  obtain ⟨a3, b3, -, c3⟩ := gk_ok a4
  obtain ⟨a2, b2, -, c2⟩ := gk_ok a3
  obtain ⟨a1, b1, -, c1⟩ := gk_ok a2
  rw [c1] at b2 c2
  rw [c1, c2] at b3 c3
  rw [c1, c2, c3] at b4 c4
  refine ⟨a1, ⟨b1, b2, b3, b4⟩, c1, c2, c3, ?_⟩
  show gk K k4 (gk K k3 (gk K k2 (gk K k1 q))) = _
  rw [c1, c2, c3]; exact c4
theorem f_M_grain {R : MS → Prop} {q : Nat × Nat} {cG cH cR cM : Nat} {b : Option (Nat × Nat)} (hl : lv + sd = 1) (hL : L ≤ 2000) (hS : SX g) (hT : TkR T L M s) (hq : RQ T L M q s) (hz : q.2 = 0) (hb : BE b q.1) (hX : RX T L M sd cG cH cR cM b d nl s) (g6 : cG < 6) (hD : b = none → DI d)
    (h : ∀ u, FPa lv s u → RQ T L M (gRow (kK T L M) [2, 3, 3, 24] q) u → ((gRow (kK T L M) [2, 3, 3, 24] q).2 = 0 → RX T L M sd (cG + 1) cH cR cM (rB b (sGrain T L q.1 d nl)) (rD d (sGrain T L q.1 d nl)) (rN nl (sGrain T L q.1 d nl)) u) → R u) : GV E m_Mo_tellGrain [.ref 120] g s R := by
  obtain ⟨x1, x2, x3, ⟨x4, x4'⟩, ⟨x5, x5'⟩, ⟨x6, x6'⟩, ⟨x7, x7'⟩, x8, x9⟩ := hX
  refine v_Mo_tellGrain (Q := qV g R) hS ?_
  rw [x2, tn_n (by omega), x4, y6, tn_n (by omega)]
  refine ⟨vp_in_nI (by omega) (by omega), ?_⟩
  -- the name
  refine f_M_named hL hS hT hq hz x1 hb x8 (by omega) (fun b1 u1 q1 f1 w1 _ m1 n1 => ?_)
  have fz : ∀ z : Nat, z = 0 ∨ z ≠ 0 := fun z => by omega
  have be1 : (gk (kK T L M) 2 q).2 = 0 → BE b1 (gk (kK T L M) 2 q).1 := fun z c' j' e => by
    have g4 := (gk_ok z).2.2.2
    rw [g4]
    by_cases y : b = none
    · obtain ⟨-, N, l, -⟩ := x9 y
      rw [n1 z y nl N l] at e
      split at e
      · injection e with e; injection e with e1 e2; show j' < q.1 + 1; omega
      · exact absurd e (by simp)
    · rw [m1 y] at e; have := hb c' j' e; show j' < q.1 + 1; omega
  refine f_M_bounded (lo := 0) (hi := 9999) rfl rfl (by omega) (by omega) hL hS (hT.q f1) q1 w1 be1 (fun y2 b2 u2 q2 f2 w2 m2 n2 => ⟨vp_in_nI (by omega) (by omega), fun s3 e3 => ?_⟩)
  have s3' : s3.1 120 = u2.1 120 := by rw [e3, wi_n _ _ _ (by decide)]
  have q3 : RQ T L M (gk (kK T L M) 3 (gk (kK T L M) 2 q)) s3 := by unfold RQ; rw [s3']; exact q2
  have w3 : WQ T L M b2 s3 := by unfold WQ at *; rw [s3']; exact w2
  have F3 : FPa lv s s3 := (f1.tr f2).P.tr (by rw [e3]; exact FPa.w hl (by omega) (by unfold own; omega))
  have be2 : (gk (kK T L M) 3 (gk (kK T L M) 2 q)).2 = 0 → BE b2 (gk (kK T L M) 3 (gk (kK T L M) 2 q)).1 := fun z c' j' e => by
    obtain ⟨g1, -, -, g4⟩ := gk_ok z
    rw [g4]
    show j' < (gk (kK T L M) 2 q).1 + 1
    by_cases y : b1 = none
    · rw [(n2 z).2 y] at e
      split at e
      · exact absurd e (by simp)
      · injection e with e; injection e with e1 e2; omega
    · rw [m2 y] at e; have := be1 g1 c' j' e; omega
  refine f_M_bounded (lo := 0) (hi := 99) rfl rfl (by omega) (by omega) hL hS (hT.P F3) q3 w3 be2 (fun y4 b4 u4 q4 f4 w4 m4 n4 s5 e5 => ?_)
  have s5' : s5.1 120 = u4.1 120 := by rw [e5, wi_n _ _ _ (by decide)]
  have q5 : RQ T L M (gk (kK T L M) 3 (gk (kK T L M) 3 (gk (kK T L M) 2 q))) s5 := by unfold RQ; rw [s5']; exact q4
  have w5 : WQ T L M b4 s5 := by unfold WQ at *; rw [s5']; exact w4
  have F5 : FPa lv s s5 := F3.tr (f4.P.tr (by rw [e5]; exact FPa.w hl (by omega) (by unfold own; omega)))
  refine f_M_must (κ := 24) rfl (by omega) (by omega) hS (hT.P F5) q5 (fun u6 q6 f6 => ?_)
  have F6 : FPa lv s u6 := F5.tr f6.q.P
  have q6' : RQ T L M (gRow (kK T L M) [2, 3, 3, 24] q) u6 := q6
  rw [q6'.1]
  refine pk_le (gRow (kK T L M) [2, 3, 3, 24] q).2 0 (fun z => ?_) (fun z => GV.r (h u6 F6 q6' (fun w => absurd w (by omega)))) rfl rfl (by have := q6'.2.2.2.2.2.2; omega) (by omega)
  have z0 : (gRow (kK T L M) [2, 3, 3, 24] q).2 = 0 := by omega
  obtain ⟨-, ⟨k1, k2, k3, k4⟩, c1, c2, c3, c4⟩ := gRow4 z0
  obtain ⟨jm, kk⟩ := kK_m k1 (by omega)
  have ea : ∀ x, x ≠ 120 → x ≠ 132 → x ≠ 133 → u6.1 x = s.1 x := fun x h1 h2 h3 => by rw [f6.1 x h1, e5, wi_n _ _ _ h3, f4.1 x h1, e3, wi_n _ _ _ h2, f2.1 x h1, f1.1 x h1]
  have e2' : u6.2 = s.2 := by rw [f6.2.2, e5, wi_2, f4.2.2, e3, wi_2, f2.2.2, f1.2.2]
  have e120 : ∀ j, ¬ (11 ≤ j ∧ j < 17) → u6.1 120 j = s.1 120 j := fun j hj => by rw [f6.2.1 j (by omega) (by omega) (by omega), s5', f4.2.1 j (by omega) (by omega) (by omega) (by omega) (by omega), s3', f2.2.1 j (by omega) (by omega) (by omega) (by omega) (by omega), f1.2.1 j (by omega) (by omega) (by omega) (by omega) (by omega)]
  rw [e120 19 (by omega), x2, tn_n (by omega), ea 131 (by decide) (by decide) (by decide), x4]
  refine ⟨vp_in_nI (by omega) (by omega), ?_⟩
  have q5l := hq.2.2.2.2.1
  refine f_M_notes (j := q.1) (sort := 0) (idx := cG) rfl rfl rfl jm (by omega) kk (by omega) hS (hT.P F6) (by rw [e120 20 (by omega)]; exact x8) (by omega) (fun u7 o1 o2 o3 o4 o5 => ?_)
  rw [o4 19 (by decide), e120 19 (by omega), x2, tn_n (by omega)]
  refine ⟨vp_in_nI (by omega) (by omega), fun s8 e8 => GV.r (h s8 ?_ ?_ (fun _ => ?_))⟩
  · refine F6.tr (FPa.tr (u := u7) ⟨fun a h1 h2 => o3 a h1 (by omega) (by omega), o5, fun j _ h2 => o4 j h2, OS.of (fun a h1 h2 => o3 a (by omega) (by omega) (by omega))⟩ (by rw [e8]; exact FPa.w hl (by omega) (by unfold own; omega)))
  · have : s8.1 120 = u7.1 120 := by rw [e8, wi_n _ _ _ (by decide)]
    unfold RQ; rw [this, o4 13 (by decide), o4 11 (by decide), o4 14 (by decide)]; exact q6'
  · have t120 : ∀ j, j ≠ 20 → s8.1 120 j = u6.1 120 j := fun j hj => by rw [e8, wi_n _ _ _ (by decide), o4 j hj]
    have t8 : ∀ x, x ≠ 120 → x ≠ 129 → x ≠ 130 → x ≠ 131 → s8.1 x = u6.1 x := fun x h1 h2 h3 h4 => by rw [e8, wi_n _ _ _ h4, o3 x h1 h2 h3]
    have w8 : WQ T L M b4 s8 := by
      have := w5.p f6
      unfold WQ at *; rw [t120 15 (by decide), t120 16 (by decide)]; exact this
    have s131 : s8.1 131 sd = nI (cG + 1) := by rw [e8, wi_s, upd_s, o3 131 (by decide) (by decide) (by decide), ea 131 (by decide) (by decide) (by decide), x4, nI_1]
    -- the first wrong one
    have bb : b4 = rB b (sGrain T L q.1 d nl) ∧ (b4 = none → b = none ∧ sGrain T L q.1 d nl = .inr (aGr d (nI (vV T L (q.1 + 1))) (nI (vV T L (q.1 + 2))), nl ++ [(vV T L q.1, 0, nG d)])) := by
      have z1 : (gk (kK T L M) 2 q).2 = 0 := by rw [c1]
      have z2 : (gk (kK T L M) 3 (gk (kK T L M) 2 q)).2 = 0 := by rw [c1, c2]
      have z3 : (gk (kK T L M) 3 (gk (kK T L M) 3 (gk (kK T L M) 2 q))).2 = 0 := by rw [c1, c2, c3]
      have n2' := (n2 z2).2
      have n4' := (n4 z3).2
      rw [c1] at n2'
      rw [c1, c2] at n4'
      cases b with
      | some x =>
        have r1 := m1 (by simp)
        have r2 := m2 (by rw [r1]; simp)
        have r4 := m4 (by rw [r2, r1]; simp)
        rw [r4, r2, r1]
        exact ⟨rfl, fun w => absurd w (by simp)⟩
      | none =>
        obtain ⟨-, N, l, -⟩ := x9 rfl
        have r1 := n1 z1 rfl nl N l
        unfold sGrain
        by_cases dup : nlH (vV T L q.1) nl = true
        · rw [if_pos dup] at r1 ⊢
          have r2 := m2 (by rw [r1]; simp)
          have r4 := m4 (by rw [r2, r1]; simp)
          rw [r4, r2, r1]
          exact ⟨rfl, fun w => absurd w (by simp)⟩
        · rw [if_neg dup] at r1 ⊢
          have r2 := n2' r1
          by_cases p1 : 0 ≤ vV T L (q.1 + 1) ∧ vV T L (q.1 + 1) ≤ 9999
          · rw [if_pos p1] at r2
            rw [if_neg (fun w => w p1)]
            have r4 := n4' r2
            by_cases p2 : 0 ≤ vV T L (q.1 + 2) ∧ vV T L (q.1 + 2) ≤ 99
            · rw [if_pos p2] at r4
              rw [if_neg (fun w => w p2), r4]
              exact ⟨rfl, fun _ => ⟨rfl, rfl⟩⟩
            · rw [if_neg p2] at r4
              rw [if_pos p2, r4]
              exact ⟨rfl, fun w => absurd w (by simp)⟩
          · rw [if_neg p1] at r2
            rw [if_pos p1]
            have r4 := m4 (by rw [r2]; simp)
            rw [r4, r2]
            exact ⟨rfl, fun w => absurd w (by simp)⟩
    rw [← bb.1]
    refine ⟨w8, by rw [t120 19 (by decide), e120 19 (by omega)]; exact x2, x3, ⟨s131, by omega⟩, ⟨by rw [t8 134 (by decide) (by decide) (by decide) (by decide), ea 134 (by decide) (by decide) (by decide)]; exact x5, x5'⟩, ⟨by rw [t8 137 (by decide) (by decide) (by decide) (by decide), ea 137 (by decide) (by decide) (by decide)]; exact x6, x6'⟩, ⟨by rw [t8 142 (by decide) (by decide) (by decide) (by decide), ea 142 (by decide) (by decide) (by decide)]; exact x7, x7'⟩, ?_, fun bn => ?_⟩
    · rw [e8, wi_n _ _ _ (by decide), o1]; congr 1; omega
    · obtain ⟨bn0, sg⟩ := bb.2 bn
      obtain ⟨tr, N, l, v1, v2, v3, v4⟩ := x9 bn0
      have z2 : (gk (kK T L M) 3 (gk (kK T L M) 2 q)).2 = 0 := by rw [c1, c2]
      have z3 : (gk (kK T L M) 3 (gk (kK T L M) 3 (gk (kK T L M) 2 q))).2 = 0 := by rw [c1, c2, c3]
      have y2v := (n2 z2).1
      have y4v := (n4 z3).1
      rw [c1] at y2v
      rw [c1, c2] at y4v
      rw [sg]
      refine ⟨tr.gr' (hD bn0) (by omega) (by rw [v1]; exact s131) ?_ ?_ (fun x h1 h2 => ?_), ?_, ?_, ?_, v2, v3, v4⟩
      · rw [t8 132 (by decide) (by decide) (by decide) (by decide), f6.1 132 (by decide), e5, wi_n _ _ _ (by decide), f4.1 132 (by decide), e3, wi_s, f2.1 132 (by decide), f1.1 132 (by decide), v1, y2v]
      · rw [t8 133 (by decide) (by decide) (by decide) (by decide), f6.1 133 (by decide), e5, wi_s, f4.1 133 (by decide), e3, wi_n _ _ _ (by decide), f2.1 133 (by decide), f1.1 133 (by decide), v1, y4v]
      · rw [t8 x (by omega) (by omega) (by omega) (by omega), ea x (by omega) (by omega) (by omega)]
      · have N6 : NQ nl u6 := fun i hi => by rw [e2', ea 129 (by decide) (by decide) (by decide), ea 130 (by decide) (by decide) (by decide)]; exact N i hi
        have N7 := o2 nl N6 l
        rw [← v1] at N7
        exact fun i hi => by rw [e8, wi_2, wi_n _ _ _ (by decide), wi_n _ _ _ (by decide)]; exact N7 i hi
      · show (nl ++ [(vV T L q.1, 0, nG d)]).length = _
        rw [List.length_append, l]; show cG + cH + cR + 1 = _; omega
      · show nG d + 1 = cG + 1; omega
end RGrain
