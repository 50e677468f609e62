/-! THE REFERENCE tells a law: its branches -/
section RLaw2
variable {E : EN} {g : GS} {s : MS} {T : Nat → Nat} {L M sd lv k f0 : Nat}
def LwP (T : Nat → Nat) (L M sd k f0 cB cC : Nat) (u : MS) (qe : Nat × Nat) (l : List Br) (v : MS) : Prop := RQ T L M qe v ∧ FLr sd k cB cC u v ∧ (qe.2 = 0 → v.1 120 12 = 0 ∧ RL v cB l ∧ ∃ cC', v.1 120 51 = nI cC' ∧ cC ≤ cC' ∧ cC' ≤ 420 * sd + qe.1 ∧ RRl v cC cC' cB l.length ∧ v.1 120 45 = nI (cB + l.length) ∧ 4 * (cB + l.length) ≤ 520 * sd + qe.1 ∧ v.1 150 (3 * sd + k) = nI f0 ∧ v.1 151 (3 * sd + k) = nI (cB + l.length))
theorem FLr.w15 {cB cC a : Nat} {u : MS} {v : Int32} (ha : a = 150 ∨ a = 151) : FLr sd k cB cC u (wi u a (3 * sd + k) v) := ⟨fun x _ h2 => wi_n _ _ _ (by omega), fun i _ _ _ _ => by rw [wi_n _ _ _ (by omega)], fun i hi => by
  rcases ha with rfl | rfl
  · rw [wi_s, upd_n _ _ hi, wi_n _ _ _ (by decide)]; exact ⟨rfl, rfl⟩
  · rw [wi_s, upd_n _ _ hi, wi_n _ _ _ (by decide)]; exact ⟨rfl, rfl⟩, fun x _ _ i _ => by rw [wi_n _ _ _ (by omega)], fun i _ => by rw [wi_n _ _ _ (by omega), wi_n _ _ _ (by omega)]; exact ⟨rfl, rfl⟩, wi_2 _ _ _ _⟩
theorem y3 (h k : Nat) : 3 * nI h + nI k = nI (3 * h + k) := by rw [show (3 : Int32) = nI 3 from rfl, pk_mul, nI_add]
theorem l_M_lawE {R : MS → Prop} {q : Nat × Nat} {cB cC : Nat} {x3 : Int32} {u : MS} (hsd : sd < 2) (hk : k < 3) (hS : SX g) (hT : TkR T L M u) (h19 : u.1 120 19 = nI sd) (hq : RQ T L M q u) (hz : q.2 = 0 → u.1 120 12 = 0 ∧ 4 * cB + 2 ≤ 520 * sd + q.1 ∧ cC ≤ 420 * sd + q.1) (h45 : u.1 120 45 = nI cB) (hB : 130 * sd ≤ cB) (hB2 : cB ≤ 130 * sd + 120) (h51 : u.1 120 51 = nI cC) (hC : cC ≤ 420 * sd + 401) (h : ∀ v, LwP T L M sd k f0 cB cC u (gSum (kK T L M) 24 q) [(false, [], [], ceC (kK T L M) (vV T L) q.1)] v → R v) : AWP E m_Mo_tellLaw 129 0 0 [(0, .ref 120), (1, .int (nI k)), (2, .int (nI f0)), (3, .int x3)] [] (mk g u) (qV g R) := by
  have q5 := hq.2.2.2.2.1
  refine v_Mo_tellLaw_129 _ _ _ hS ?_
  rw [h45, tn_n (by omega)]
  refine ⟨vp_in_nI (by omega) (by omega), fun s1 e1 => ?_⟩
  have c1 : s1.1 120 = u.1 120 := by rw [e1, wi_n _ _ _ (by decide)]
  have F1 : FLr sd k cB cC u s1 := by rw [e1]; exact FLr.w (by omega) (by omega)
  have g24 := gSum_le (K := kK T L M) (e := 24) (q := q) (by omega) q5
  refine f_M_term (k := k) hsd hS (hT.r F1) (hq.m c1) (fun z => by rw [c1]; exact (hz z).1) (by rw [c1]; exact h45) (by omega) (by rw [c1]; exact h51) (fun z => (hz z).2.2) hC (fun t2 tp => ?_)
  obtain ⟨p1, p2, p3, p4, p5, p6⟩ := tp
  refine f_M_must (κ := 24) rfl (by omega) (by omega) hS (hT.r (F1.tr p2)) p1 (fun t3 r1 r2 => ?_)
  rw [← g24.1] at r1
  have F3 : FLr sd k cB cC u t3 := F1.tr (p2.tr r2.r)
  rw [r1.1, F3.2.1 19 (by omega) (by decide) (by decide) (by decide), h19, y3, tn_n (by omega)]
  have r7 := r1.2.2.2.2.2.2
  refine pk_le _ 0 (fun z => ⟨vp_in_nI (by omega) (by omega), fun s4 e4 s5 e5 => GV.r (h s5 ?_)⟩) (fun z => GV.r (h t3 ⟨r1, F3, fun w => absurd w (by omega)⟩)) rfl rfl (by omega) (by omega)
  have z0 : (gSum (kK T L M) 24 q).2 = 0 := by omega
  obtain ⟨a', ek, b1, b2, b3⟩ := gSum_e (V := vV T L) hVk (Or.inr (Or.inr (Or.inr rfl))) q5 z0
  obtain ⟨-, ek2, ek3, ek4, -, -, ek7⟩ := ek
  rw [b1] at p6
  obtain ⟨o1, o2, o3, o4, o5⟩ := p6 rfl
  have c5 : s5.1 120 = t3.1 120 := by rw [e5, wi_n _ _ _ (by decide), e4, wi_n _ _ _ (by decide)]
  have cx : ∀ a, a ≠ 150 → a ≠ 151 → s5.1 a = t3.1 a := fun a h1 h2 => by rw [e5, wi_n _ _ _ h2, e4, wi_n _ _ _ h1]
  have m2 : ∀ a, a ≠ 120 → t3.1 a = t2.1 a := fun a ha => r2.1 a ha
  have t45 : t3.1 120 45 = nI (cB + 1) := by rw [r2.2.1 45 (by decide) (by decide) (by decide)]; exact p3
  have h152 : s5.1 152 cB = 0 := by rw [cx 152 (by decide) (by decide), m2 152 (by decide), p5 152 (by omega) (by omega), e1, wi_s, upd_s]; rfl
  have h155 : s5.1 155 cB = nI cC := by rw [cx 155 (by decide) (by decide), m2 155 (by decide)]; exact o4
  have h156 : s5.1 156 cB = nI (cC + (ceC (kK T L M) (vV T L) q.1).length) := by rw [cx 156 (by decide) (by decide), m2 156 (by decide)]; exact o5
  have zq := hz b2
  refine ⟨r1.m c5, F3.tr (by rw [e5, e4]; exact (FLr.w15 (Or.inl rfl)).tr (FLr.w15 (Or.inr rfl))), fun _ => ⟨?_, ⟨⟨0, 0, cC, cC + (ceC (kK T L M) (vV T L) q.1).length, h155, h156, rfl, by omega, ?_, fun _ => h152, fun w => absurd (show false = true from w) (by decide)⟩, trivial⟩, cC + (ceC (kK T L M) (vV T L) q.1).length, ?_, by omega, ?_, ?_, ?_, ?_, ?_, ?_⟩⟩
  · rw [c5, r2.2.1 12 (by decide) (by decide) (by decide)]; exact o1
  · rw [cx 157 (by decide) (by decide), cx 158 (by decide) (by decide), m2 157 (by decide), m2 158 (by decide)]; exact o3
  · rw [c5, r2.2.1 51 (by decide) (by decide) (by decide)]; exact o2
  · rw [b3]; show _ ≤ 420 * sd + (a' + 1); omega
  · intro i hi
    have i0 : i = 0 := by simp at hi; exact hi
    subst i0
    refine ⟨0, cC, cC + (ceC (kK T L M) (vV T L) q.1).length, h155, h156, Nat.le_refl _, Nat.le_refl _, by omega, fun w => ?_⟩
    have : s5.1 152 (cB + 0) = 0 := h152
    rw [this] at w; exact absurd w (by decide)
  · rw [c5]; exact t45
  · rw [b3]; show 4 * (cB + 1) ≤ 520 * sd + (a' + 1); omega
  · rw [e5, wi_n _ _ _ (by decide), e4, wi_s, upd_s]
  · rw [e5, wi_s, upd_s]; exact t45
theorem l_M_law {R : MS → Prop} (hsd : sd < 2) (hk : k < 3) (hS : SX g) : ∀ (m n : Nat) (q : Nat × Nat) (cB cC : Nat) (u : MS), n + m = 4 → TkR T L M u → u.1 120 19 = nI sd → RQ T L M q u → (q.2 = 0 → u.1 120 12 = 0 ∧ 4 * cB + 2 ≤ 520 * sd + q.1 ∧ cC ≤ 420 * sd + q.1) → u.1 120 45 = nI cB → 130 * sd ≤ cB → cB ≤ 130 * sd + 120 → u.1 120 51 = nI cC → cC ≤ 420 * sd + 401 → (∀ v, LwP T L M sd k f0 cB cC u (gSum (kK T L M) 24 (gL (kK T L M) (m + 1) q)) (lB (kK T L M) (vV T L) (m + 1) q) v → R v) → AWP E m_Mo_tellLaw 12 0 0 [(0, .ref 120), (1, .int (nI k)), (2, .int (nI f0)), (3, .int (nI n))] [] (mk g u) (qV g R)
  | m, n, q, cB, cC, u, hnm, hT, h19, hq, hz, h45, hB, hB2, h51, hC, h => by
    have q5 := hq.2.2.2.2.1
    have q7 := hq.2.2.2.2.2.2
    have ex : ¬ (q.2 = 0 ∧ kK T L M q.1 = 14) → AWP E m_Mo_tellLaw 129 0 0 [(0, .ref 120), (1, .int (nI k)), (2, .int (nI f0)), (3, .int (nI n))] [] (mk g u) (qV g R) := fun w => by
      refine l_M_lawE hsd hk hS hT h19 hq hz h45 hB hB2 h51 hC (fun v xp => h v ?_)
      rw [gL, if_neg w, lB, if_neg w]; exact xp
    refine v_Mo_tellLaw_12 _ _ _ hS ?_
    rw [hq.1]
    refine pk_eq q.2 0 (fun z => ?_) (fun z => ex (fun w => z w.1)) rfl rfl (by omega) (by omega)
    refine f_M_is (κ := 14) rfl (by omega) hS hT hq (fun w => ⟨fun _ => ex w, fun y => absurd rfl y⟩) (fun kif => ⟨fun y => absurd y (by decide), fun _ => ?_⟩)
    refine pk_eq n 4 (fun n4 => ?_) (fun n4 => ?_)
    · refine f_M_fail (c := 2) rfl (Or.inr rfl) hS hT hq (fun t2 r1 r2 => ?_)
      rw [if_pos z] at r1
      refine v_Mo_tellLaw_38 _ _ _ hS ?_
      rw [r1.1]
      refine pk_le 2 0 (fun y => absurd y (by omega)) (fun _ => GV.r (h t2 ?_)) rfl rfl (by omega) (by omega)
      have m0 : m = 0 := by omega
      subst m0
      have e1 : gp true (decide (1 ≤ 0)) q = (q.1, 2) := by unfold gp; rw [if_neg (fun y => y z), if_neg (by decide), if_pos (Or.inl (by decide))]
      have nz : ((q.1, 2) : Nat × Nat).2 ≠ 0 := by show (2 : Nat) ≠ 0; omega
      have e2 : gSum (kK T L M) 24 (gL (kK T L M) (0 + 1) q) = (q.1, 2) := by rw [gL, if_pos kif, e1, gSum_f nz, gSum_f nz, gSum_f nz, gL, gSum_f nz]
      rw [e2]
      exact ⟨r1, r2.r, fun w => absurd w nz⟩
    · obtain ⟨m, rfl⟩ : ∃ m', m = m' + 1 := ⟨m - 1, by omega⟩
      have egp : gp true (decide (1 ≤ m + 1)) q = gp true true q := by rw [decide_eq_true (by omega)]
      rw [gL, if_pos kif, lB, if_pos kif, egp] at h
      have q1le := gp_le (fits := true) (room := true) (q := q) q5
      obtain ⟨s30, l30⟩ := gSum_le (K := kK T L M) (e := 30) (q := gp true true q) (by omega) q1le
      obtain ⟨s15, l15⟩ := gSum_le (K := kK T L M) (e := 15) (q := gSum (kK T L M) 30 (gp true true q)) (by omega) l30
      obtain ⟨s16, l16⟩ := gSum_le (K := kK T L M) (e := 16) (q := gSum (kK T L M) 15 (gSum (kK T L M) 30 (gp true true q))) (by omega) l15
      obtain ⟨h12, hb4, hcc⟩ := hz z
      have q1ge := gp_ge true true q
      refine v_Mo_tellLaw_38 _ _ _ hS ?_
      rw [hq.1]
      refine pk_le q.2 0 (fun _ => ?_) (fun y => absurd y (by omega)) rfl rfl (by omega) (by omega)
      refine f_M_goesOn hS hT hq (fun _ => by rw [kif.2]; decide) (fun t1 r1 r2 => ?_)
      have T1 := hT.p r2
      have t45 : t1.1 120 45 = nI cB := by rw [r2.2.1 45 (by decide) (by decide) (by decide)]; exact h45
      have t51 : t1.1 120 51 = nI cC := by rw [r2.2.1 51 (by decide) (by decide) (by decide)]; exact h51
      have t12 : t1.1 120 12 = 0 := by rw [r2.2.1 12 (by decide) (by decide) (by decide)]; exact h12
      rw [t45, t51, tn_n (by omega), nI_1 n]
      refine ⟨vp_in_nI (by omega) (by omega), fun s2 e2 s3 e3 => ?_⟩
      have c3 : s3.1 120 = t1.1 120 := by rw [e3, wi_n _ _ _ (by decide), e2, wi_n _ _ _ (by decide)]
      have F3 : FLr sd k cB cC u s3 := r2.r.tr (by rw [e3, e2]; exact (FLr.w (by omega) (by omega)).tr (FLr.w (by omega) (by omega)))
      have T3 := hT.r F3
      -- the first E
      refine f_M_exp (c0 := cC) hsd hS T3 (r1.m c3) (fun _ => by rw [c3]; exact t12) (by rw [c3]; exact t51) (fun _ => by omega) hC (fun v1 xp1 => ?_)
      obtain ⟨x1, x2, ⟨c1, c1e, c1a, c1b⟩, x4⟩ := xp1
      refine f_M_must (κ := 30) rfl (by omega) (by omega) hS (T3.y x2) x1 (fun t5 r5 r6 => ?_)
      rw [← s30] at r5
      have F5 : FLr sd k cB cC u t5 := F3.tr (x2.r.tr r6.r)
      have t45' : t5.1 120 45 = nI cB := by rw [r6.2.1 45 (by decide) (by decide) (by decide), x2.2.1 45 (by omega) (by decide) (by decide), c3]; exact t45
      have t51' : t5.1 120 51 = nI c1 := by rw [r6.2.1 51 (by decide) (by decide) (by decide)]; exact c1e
      rw [t45', t51', tn_n (by omega)]
      refine ⟨vp_in_nI (by omega) (by omega), fun s6 e6 => ?_⟩
      have c6 : s6.1 120 = t5.1 120 := by rw [e6, wi_n _ _ _ (by decide)]
      have F6 : FLr sd k cB cC u s6 := F5.tr (by rw [e6]; exact FLr.w (by omega) (by omega))
      have T6 := hT.r F6
      -- facts of the first E
      have fac1 : (gSum (kK T L M) 30 (gp true true q)).2 = 0 → (gp true true q).1 = q.1 + 1 ∧ c1 = cC + (ceC (kK T L M) (vV T L) (q.1 + 1)).length ∧ q.1 + 1 + (ceC (kK T L M) (vV T L) (q.1 + 1)).length + 1 ≤ (gSum (kK T L M) 30 (gp true true q)).1 ∧ q.1 + 3 ≤ (gSum (kK T L M) 30 (gp true true q)).1 ∧ s6.1 120 12 = 0 ∧ RC (s6.1 157) (s6.1 158) cC (ceC (kK T L M) (vV T L) (q.1 + 1)) := fun w => by
        obtain ⟨a', ek, b1, b2, b3⟩ := gSum_e (V := vV T L) hVk (Or.inl rfl) q1le w
        obtain ⟨-, ek2, ek3, ek4, -, -, ek7⟩ := ek
        have en := gp_nx b2
        rw [b1] at x4
        obtain ⟨o1, o2, o3⟩ := x4 rfl
        rw [en] at ek4 ek7 o2 o3
        have ec : c1 = cC + (ceC (kK T L M) (vV T L) (q.1 + 1)).length := (nI_eq (by omega) (by omega)).mp (c1e.symm.trans o2)
        refine ⟨en, ec, ?_, ?_, ?_, ?_⟩
        · rw [b3]; show _ ≤ a' + 1; omega
        · rw [b3]; show _ ≤ a' + 1; omega
        · rw [c6, r6.2.1 12 (by decide) (by decide) (by decide)]; exact o1
        · rw [e6, wi_n _ _ _ (by decide), wi_n _ _ _ (by decide), r6.1 157 (by decide), r6.1 158 (by decide)]; exact o3
      -- behind the second E
      have aft : ∀ t7, XP T L M c1 (420 * sd + 401) s6 (gE (kK T L M) 401 0 true (gSum (kK T L M) 30 (gp true true q))) (ceC (kK T L M) (vV T L) (gSum (kK T L M) 30 (gp true true q)).1) t7 → AWP E m_Mo_tellLaw 110 0 0 [(0, .ref 120), (1, .int (nI k)), (2, .int (nI f0)), (3, .int (nI (n + 1)))] [] (mk g t7) (qV g R) := fun t7 xp2 => by
        obtain ⟨y1, y2, ⟨c2, c2e, c2a, c2b⟩, y4⟩ := xp2
        have F7 : FLr sd k cB cC u t7 := F6.tr (FLr.le (cC' := c1) (cB' := cB) y2.r (Nat.le_refl _) (by omega))
        have T7 := hT.r F7
        refine v_Mo_tellLaw_110 _ _ _ hS ?_
        refine f_M_must (κ := 15) rfl (by omega) (by omega) hS T7 y1 (fun t8 r7 r8 => ?_)
        rw [← s15] at r7
        have F8 : FLr sd k cB cC u t8 := F7.tr r8.r
        have u45 : t8.1 120 45 = nI cB := by rw [r8.2.1 45 (by decide) (by decide) (by decide), y2.2.1 45 (by omega) (by decide) (by decide), c6]; exact t45'
        have u51 : t8.1 120 51 = nI c2 := by rw [r8.2.1 51 (by decide) (by decide) (by decide)]; exact c2e
        have fac2 : (gSum (kK T L M) 15 (gSum (kK T L M) 30 (gp true true q))).2 = 0 → c2 = c1 + (ceC (kK T L M) (vV T L) (gSum (kK T L M) 30 (gp true true q)).1).length ∧ (gSum (kK T L M) 30 (gp true true q)).1 + (ceC (kK T L M) (vV T L) (gSum (kK T L M) 30 (gp true true q)).1).length + 1 ≤ (gSum (kK T L M) 15 (gSum (kK T L M) 30 (gp true true q))).1 ∧ (gSum (kK T L M) 30 (gp true true q)).1 + 2 ≤ (gSum (kK T L M) 15 (gSum (kK T L M) 30 (gp true true q))).1 ∧ t8.1 120 12 = 0 ∧ RC (t8.1 157) (t8.1 158) c1 (ceC (kK T L M) (vV T L) (gSum (kK T L M) 30 (gp true true q)).1) := fun w => by
          obtain ⟨a', ek, b1, b2, b3⟩ := gSum_e (V := vV T L) hVk (Or.inr (Or.inl rfl)) l30 w
          obtain ⟨-, ek2, ek3, ek4, -, -, ek7⟩ := ek
          rw [b1] at y4
          obtain ⟨o1, o2, o3⟩ := y4 rfl
          have ec : c2 = c1 + (ceC (kK T L M) (vV T L) (gSum (kK T L M) 30 (gp true true q)).1).length := (nI_eq (by omega) (by omega)).mp (c2e.symm.trans o2)
          refine ⟨ec, ?_, ?_, ?_, ?_⟩
          · rw [b3]; show _ ≤ a' + 1; omega
          · rw [b3]; show _ ≤ a' + 1; omega
          · rw [r8.2.1 12 (by decide) (by decide) (by decide)]; exact o1
          · rw [r8.1 157 (by decide), r8.1 158 (by decide)]; exact o3
        refine f_M_term (k := k) (cB := cB) (cC := c2) hsd hS (hT.r F8) r7 (fun w => (fac2 w).2.2.2.1) u45 (by omega) u51 (fun w => ?_) c2b (fun t9 tp => ?_)
        · obtain ⟨d1, d2, d3, -⟩ := fac2 w
          obtain ⟨d4, d5, d6, -⟩ := fac1 (gSum_z w)
          omega
        · obtain ⟨p1, p2, p3, ⟨cc3, c3e, c3a, c3b⟩, p5, p6⟩ := tp
          have F9 : FLr sd k cB cC u t9 := F8.tr (p2.le (Nat.le_refl _) (by omega))
          refine f_M_must (κ := 16) rfl (by omega) (by omega) hS (hT.r F9) p1 (fun t10 r9 r10 => ?_)
          rw [← s16] at r9
          have F10 : FLr sd k cB cC u t10 := F9.tr r10.r
          have v45 : t10.1 120 45 = nI (cB + 1) := by rw [r10.2.1 45 (by decide) (by decide) (by decide)]; exact p3
          have v51 : t10.1 120 51 = nI cc3 := by rw [r10.2.1 51 (by decide) (by decide) (by decide)]; exact c3e
          have fac3 : (gSum (kK T L M) 16 (gSum (kK T L M) 15 (gSum (kK T L M) 30 (gp true true q)))).2 = 0 → cc3 = c2 + (ceC (kK T L M) (vV T L) (gSum (kK T L M) 15 (gSum (kK T L M) 30 (gp true true q))).1).length ∧ (gSum (kK T L M) 15 (gSum (kK T L M) 30 (gp true true q))).1 + (ceC (kK T L M) (vV T L) (gSum (kK T L M) 15 (gSum (kK T L M) 30 (gp true true q))).1).length + 1 ≤ (gSum (kK T L M) 16 (gSum (kK T L M) 15 (gSum (kK T L M) 30 (gp true true q)))).1 ∧ (gSum (kK T L M) 15 (gSum (kK T L M) 30 (gp true true q))).1 + 2 ≤ (gSum (kK T L M) 16 (gSum (kK T L M) 15 (gSum (kK T L M) 30 (gp true true q)))).1 ∧ t10.1 120 12 = 0 ∧ RC (t10.1 157) (t10.1 158) c2 (ceC (kK T L M) (vV T L) (gSum (kK T L M) 15 (gSum (kK T L M) 30 (gp true true q))).1) ∧ t10.1 155 cB = nI c2 ∧ t10.1 156 cB = nI cc3 := fun w => by
            obtain ⟨a', ek, b1, b2, b3⟩ := gSum_e (V := vV T L) hVk (Or.inr (Or.inr (Or.inl rfl))) l15 w
            obtain ⟨-, ek2, ek3, ek4, -, -, ek7⟩ := ek
            rw [b1] at p6
            obtain ⟨o1, o2, o3, o4, o5⟩ := p6 rfl
            have ec : cc3 = c2 + (ceC (kK T L M) (vV T L) (gSum (kK T L M) 15 (gSum (kK T L M) 30 (gp true true q))).1).length := (nI_eq (by omega) (by omega)).mp (c3e.symm.trans o2)
            refine ⟨ec, ?_, ?_, ?_, ?_, ?_, ?_⟩
            · rw [b3]; show _ ≤ a' + 1; omega
            · rw [b3]; show _ ≤ a' + 1; omega
            · rw [r10.2.1 12 (by decide) (by decide) (by decide)]; exact o1
            · rw [r10.1 157 (by decide), r10.1 158 (by decide)]; exact o3
            · rw [r10.1 155 (by decide)]; exact o4
            · rw [r10.1 156 (by decide), ec]; exact o5
          refine l_M_law hsd hk hS m (n + 1) (gSum (kK T L M) 16 (gSum (kK T L M) 15 (gSum (kK T L M) 30 (gp true true q)))) (cB + 1) cc3 t10 (by omega) (hT.r F10) (by rw [F10.2.1 19 (by omega) (by decide) (by decide) (by decide)]; exact h19) r9 (fun w => ?_) v45 (by omega) (by omega) v51 c3b (fun v lp => h v ?_)
          · obtain ⟨d1, d2, d3, d4, -⟩ := fac3 w
            obtain ⟨d5, d6, d7, -⟩ := fac2 (gSum_z w)
            obtain ⟨d8, d9, d10, d11, -⟩ := fac1 (gSum_z (gSum_z w))
            exact ⟨d4, by omega, by omega⟩
          · obtain ⟨w1, w2, w3⟩ := lp
            refine ⟨w1, F10.tr (w2.le (by omega) (by omega)), fun zf => ?_⟩
            obtain ⟨k1, k2, cC', k3, k4, k5, k6, k7, k8, k9, k10⟩ := w3 zf
            have z4 := gL_z (gSum_z zf)
            obtain ⟨d1, d2, d3, d4, d5, d6, d7⟩ := fac3 z4
            obtain ⟨e1, e2', e3', e4, e5⟩ := fac2 (gSum_z z4)
            obtain ⟨f1, f2, f3, f4, f5, f6⟩ := fac1 (gSum_z (gSum_z z4))
            have row : ∀ a, 152 ≤ a → a ≤ 156 → v.1 a cB = t10.1 a cB := fun a a1 a2 => w2.2.2.2.1 a a1 a2 cB (by omega)
            -- rows that stood from early on
            have y10 : ∀ a, 152 ≤ a → a ≤ 154 → t10.1 a = s6.1 a := fun a a1 a2 => by rw [r10.1 a (by omega), p5 a a1 a2, r8.1 a (by omega), y2.1 a (by omega) (by omega) (by omega) (by omega)]
            have y5' : ∀ a, 152 ≤ a → a ≤ 153 → s6.1 a = s3.1 a := fun a a1 a2 => by rw [e6, wi_n _ _ _ (by omega), r6.1 a (by omega), x2.1 a (by omega) (by omega) (by omega) (by omega)]
            have v152 : v.1 152 cB = 1 := by rw [row 152 (by omega) (by omega), y10 152 (by omega) (by omega), y5' 152 (by omega) (by omega), e3, wi_n _ _ _ (by decide), e2, wi_s, upd_s]; rfl
            have v153 : v.1 153 cB = nI cC := by rw [row 153 (by omega) (by omega), y10 153 (by omega) (by omega), y5' 153 (by omega) (by omega), e3, wi_s, upd_s]
            have v154 : v.1 154 cB = nI c1 := by rw [row 154 (by omega) (by omega), y10 154 (by omega) (by omega), e6, wi_s, upd_s]
            have v155 : v.1 155 cB = nI c2 := by rw [row 155 (by omega) (by omega)]; exact d6
            have v156 : v.1 156 cB = nI cc3 := by rw [row 156 (by omega) (by omega)]; exact d7
            have cd : ∀ j, j < cc3 → v.1 157 j = t10.1 157 j ∧ v.1 158 j = t10.1 158 j := fun j hj => w2.2.2.2.2.1 j (Or.inl hj)
            have cd2 : ∀ j, j < c2 → t10.1 157 j = t8.1 157 j ∧ t10.1 158 j = t8.1 158 j := fun j hj => by rw [r10.1 157 (by decide), r10.1 158 (by decide)]; exact p2.2.2.2.2.1 j (Or.inl hj)
            have cd1 : ∀ j, j < c1 → t8.1 157 j = s6.1 157 j ∧ t8.1 158 j = s6.1 158 j := fun j hj => by rw [r8.1 157 (by decide), r8.1 158 (by decide)]; exact y2.2.2.1 j (Or.inl hj)
            refine ⟨k1, ⟨⟨cC, c1, c2, cc3, v155, v156, d1, by omega, RC.up _ _ (fun j j1 j2 => cd j (by have j2' : j < c2 + (ceC (kK T L M) (vV T L) (gSum (kK T L M) 15 (gSum (kK T L M) 30 (gp true true q))).1).length := j2; omega)) d5, fun w => absurd (show true = false from w) (by decide), fun _ => ⟨v152, v153, v154, f2, e1, RC.up _ _ (fun j j1 j2 => ?_) f6, RC.up _ _ (fun j j1 j2 => ?_) e5⟩⟩, k2⟩, cC', k3, by omega, k5, ?_, ?_, ?_, k9, ?_⟩
            · have j2' : j < cC + (ceC (kK T L M) (vV T L) (q.1 + 1)).length := j2
              exact ⟨(cd j (by omega)).1.trans ((cd2 j (by omega)).1.trans (cd1 j (by omega)).1), (cd j (by omega)).2.trans ((cd2 j (by omega)).2.trans (cd1 j (by omega)).2)⟩
            · have j2' : j < c1 + (ceC (kK T L M) (vV T L) (gSum (kK T L M) 30 (gp true true q)).1).length := j2
              exact ⟨(cd j (by omega)).1.trans (cd2 j (by omega)).1, (cd j (by omega)).2.trans (cd2 j (by omega)).2⟩
            · intro i hi
              cases i with
              | zero => exact ⟨cC, c2, cc3, v155, v156, by omega, by omega, by omega, fun _ => ⟨v153, by omega, by omega⟩⟩
              | succ i =>
                have := k6 i (by simp at hi; omega)
                rw [show cB + (i + 1) = cB + 1 + i by omega]
                exact this.up (by omega) (Nat.le_refl _) (fun _ _ _ => rfl)
            · rw [k7, List.length_cons]; congr 1; omega
            · rw [List.length_cons]; omega
            · rw [k10, List.length_cons]; congr 1; omega
      have r57 := r5.2.2.2.2.2.2
      rw [r5.1]
      refine pk_eq _ 0 (fun y => ?_) (fun y => aft s6 ⟨by rw [gE_f y]; exact r5.m c6, FRy.rf _ _ _, ⟨c1, by rw [c6]; exact t51', Nat.le_refl _, c1b⟩, fun w => absurd (by rw [gE_f y] at w; exact w) y⟩) rfl rfl (by omega) (by omega)
      refine f_M_exp (c0 := c1) hsd hS T6 (r5.m c6) (fun _ => (fac1 y).2.2.2.2.1) (by rw [c6]; exact t51') (fun _ => ?_) c1b aft
      obtain ⟨f1, f2, f3, -⟩ := fac1 y
      omega
  termination_by m => m
end RLaw2
