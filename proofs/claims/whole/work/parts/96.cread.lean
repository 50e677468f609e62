/-! THE CLASS READS; both -/
section CRead
variable {E : EN} {g : GS} {s : MS} {d : TD} {π : PS} {t lv : Nat}
theorem f_Facts_clear {R : MS → Prop} (hS : SX g) (h : ∀ u, u.1 56 7 = 0 → u.1 56 6 = 0 → (∀ a, a ≠ 56 → u.1 a = s.1 a) → u.2 = s.2 → R u) : GV E m_Facts_clear [.ref 56] g s R :=
  v_Facts_clear (Q := qV g R) hS (fun s1 e1 s2 e2 => GV.r (h s2 (by rw [e2, wi_s, upd_n _ _ (by decide), e1, wi_s, upd_s]) (by rw [e2, wi_s, upd_s]) (fun a ha => by rw [e2, wi_n _ _ _ ha, e1, wi_n _ _ _ ha]) (by rw [e2, wi_2, e1, wi_2])))
/-- a new text is begun -/
theorem f_Rs_start {R : GS → MS → Prop} {d' : TD} {t2 e : Nat} (hS : SX g) (et : t2 = 88 ∨ t2 = 104) (h10 : g.2.2 16 10 = some t2) (hO : TOk d') (hC : TCf d' t2 s) (h74 : CH 74 s) (h62 : CH 62 s)
    (h : ∀ u, TC d' t2 u → (∀ j, j < nH d' → u.1 29 j = eFa (dE d') j) → u.1 28 2 = eSd (dE d') → nm (dE d') (hr u 74) = beg d' → CH 74 u → CH 62 u → u.1 31 4 = 0 → u.1 16 15 = 0 → u.1 16 16 = 0 → u.1 56 7 = 0 → u.1 56 6 = 0 → (∀ j, j ≠ 15 → j ≠ 16 → u.1 16 j = s.1 16 j) → (∀ a, a ≠ 16 → a ≠ 28 → a ≠ 29 → a ≠ 31 → a ≠ 56 → ¬ (74 ≤ a ∧ a < 86) → u.1 a = s.1 a) → u.2 = s.2 → R (gr g 28 0 (some t2)) u) : XV E m_Rs_startOver [.ref 16] g s R := by
  have hS' : SX (gr g 28 0 (some t2)) := SX.gro hS (by decide)
  refine v_Rs_startOver (Q := rV R) t2 hS h10 ?_
  refine v_Mill_use (Q := rV _) t2 hS et (fun s1 e1 s2 e2 => ⟨_, _, rfl, rfl, hS', ?_, ?_⟩)
  · rw [gr_rf, if_neg (by decide)]; exact h10
  have h6 := hO.h6
  have k2 : ∀ a, a ≠ 28 → a ≠ 29 → s2.1 a = s.1 a := fun a x1 x2 => by rw [e2]; show (if a = 29 then _ else s1.1 a) = _; rw [if_neg x2, e1, wi_n _ _ _ x1]
  have l2 : s2.2 = s.2 := by rw [e2]; show s1.2 = _; rw [e1, wi_2]
  have c29 : ∀ j, j < 6 → s2.1 29 j = s.1 (t2 + 3) j := fun j hj => by
    rw [e2]
    show (if 29 = 29 then va_cpy (s1.1 (t2 + 3)) (s1.1 29) 0 0 6 else s1.1 29) j = _
    rw [if_pos rfl, cpy_b hj, e1, wi_n _ _ _ (by omega)]
  have c28 : s2.1 28 2 = eSd (dE d') := by
    have e28 : s2.1 28 = s1.1 28 := by rw [e2]; simp [si]
    rw [e28, e1, wi_s, upd_s]; exact hC.1.sd
  have C2 : TC d' t2 s2 := hC.1.mv (fun a x1 x2 => k2 a (by omega) (by omega))
  refine f_House_begin hS' (HS74 hS') (Or.inr (Or.inr (Or.inr (Or.inl rfl)))) et hO C2 (h74.cg (fun a x1 x2 => k2 a (by omega) (by omega))) (fun u3 f1 f2 f3 => f_Facts_clear hS' (fun u4 f4 f5 f6 f7 => v_Planner_dropWays (Q := qV _ _) hS' (fun u5 e5 => GV.r (fun s6 e6 s7 e7 => ?_))))
  have ka : ∀ a, a ≠ 16 → a ≠ 28 → a ≠ 29 → a ≠ 31 → a ≠ 56 → ¬ (74 ≤ a ∧ a < 86) → s7.1 a = s.1 a := fun a x1 x2 x3 x4 x5 x6 => by rw [e7, wi_n _ _ _ x1, e6, wi_n _ _ _ x1, e5, wi_n _ _ _ x4, f6 a x5, f3.1 a (by omega), k2 a x2 x3]
  have kb : ∀ a, 74 ≤ a → a < 86 → s7.1 a = u3.1 a := fun a x1 x2 => by rw [e7, wi_n _ _ _ (by omega), e6, wi_n _ _ _ (by omega), e5, wi_n _ _ _ (by omega), f6 a (by omega)]
  have kc : ∀ a, a = 28 ∨ a = 29 → s7.1 a = s2.1 a := fun a x => by rw [e7, wi_n _ _ _ (by omega), e6, wi_n _ _ _ (by omega), e5, wi_n _ _ _ (by omega), f6 a (by omega), f3.1 a (by omega)]
  have k16 : s7.1 16 = upd (upd (s.1 16) 15 0) 16 0 := by rw [e7, wi_s, e6, wi_s, e5, wi_n _ _ _ (by decide), f6 16 (by decide), f3.1 16 (by omega), k2 16 (by decide) (by decide)]
  refine rV.mk (h s7 (hC.1.mv (fun a x1 x2 => ka a (by omega) (by omega) (by omega) (by omega) (by omega) (by omega))) (fun j hj => ?_) (by rw [kc 28 (by omega)]; exact c28) (by rw [hr_c2 (s := u3) (fun a x1 x2 => kb a x1 (by omega))]; exact f1) (f2.cg (fun a x1 x2 => kb a x1 (by omega))) (h62.cg (fun a x1 x2 => ka a (by omega) (by omega) (by omega) (by omega) (by omega) (by omega))) ?_ ?_ ?_ ?_ ?_ (fun j x1 x2 => by rw [k16, upd_n _ _ x2, upd_n _ _ x1]) ka ?_)
  · rw [kc 29 (by omega), c29 j (by omega)]; exact hC.1.fa hj
  · rw [e7, wi_n _ _ _ (by decide), e6, wi_n _ _ _ (by decide), e5, wi_s, upd_s]
  · rw [k16, upd_n _ _ (by decide), upd_s]
  · rw [k16, upd_s]
  · rw [e7, wi_n _ _ _ (by decide), e6, wi_n _ _ _ (by decide), e5, wi_n _ _ _ (by decide)]; exact f4
  · rw [e7, wi_n _ _ _ (by decide), e6, wi_n _ _ _ (by decide), e5, wi_n _ _ _ (by decide)]; exact f5
  · rw [e7, wi_2, e6, wi_2, e5, wi_2, f7, f3.2, l2]
theorem POOL.grx {a f : Nat} {b : Option Nat} (h : POOL g) (ha : a < 86) : POOL (gr g a f b) := by
  obtain ⟨n, h1, h2, h3⟩ := h
  have pe : ∀ i, pa (gr g a f b) i = pa g i := fun i => by
    unfold pa
    rw [gr_r, gr_r, if_neg (show ¬ 86 = a by omega), if_neg (show ¬ 87 = a by omega)]
  refine ⟨n, h1, fun i b' hi e => ?_, fun i i' b' hi hi' e e' => ?_⟩
  · rw [pe] at e
    obtain ⟨j, j1, j2, j3⟩ := h2 i b' hi e
    exact ⟨j, j1, j2, j3.gro (by omega)⟩
  · rw [pe] at e e'
    exact h3 i i' b' hi hi' e e'
theorem pa_gr {a f i : Nat} {b : Option Nat} (ha : a < 86) : pa (gr g a f b) i = pa g i := by
  unfold pa
  rw [gr_r, gr_r, if_neg (show ¬ 86 = a by omega), if_neg (show ¬ 87 = a by omega)]
/-- a wrong text changes nothing but the tape -/
theorem ICl.bad {u : MS} {g' : GS} {P : Int32} (I : ICl d t π g s) (hS' : SX g') (hr : ∀ x y, (x = 16 ∨ x = 28) → g'.2.2 x y = g.2.2 x y) (hp : POOL g') (hpa : ∀ i, pa g' i = pa g i) (h1 : u.1 16 12 = 0) (h2 : u.1 16 13 = P) (h3 : ∀ j, j ≠ 12 → j ≠ 13 → u.1 16 j = s.1 16 j) (h4 : ∀ a, a ≠ 16 → ¬ (18 ≤ a ∧ a < 28) → ¬ (192 - t ≤ a ∧ a < 192 - t + 16) → u.1 a = s.1 a) : ICl d t (sRd π P) g' u := by
  have et := I.1.et
  obtain ⟨⟨k1, k2, k3, k4, k5, k6, k7, k8, k9, k10⟩, i2, i3, i4, i5, ⟨e, e1, e2, e3, e4⟩, ⟨hb, b1, b2, b3⟩, i8, i9, i10, i11⟩ := I
  refine ⟨⟨hS', k2, by rw [hr 16 10 (Or.inl rfl)]; exact k3, by rw [hr 28 0 (Or.inr rfl)]; exact k4, k5, k6.mv (fun a x1 x2 => h4 a (by omega) (by omega) (by omega)), fun j hj => by rw [h4 29 (by omega) (by omega) (by omega)]; exact k7 j hj, by rw [h4 28 (by omega) (by omega) (by omega)]; exact k8, fun j hj => by rw [h4 1 (by omega) (by omega) (by omega)]; exact k9 j hj, k10⟩, by rw [hr 16 11 (Or.inl rfl)]; exact i2, ⟨by rw [hr_c2 (fun a x1 x2 => h4 a (by omega) (by omega) (by omega))]; exact i3.1, i3.2.cg (fun a x1 x2 => h4 a (by omega) (by omega) (by omega))⟩, ?_, hp, ⟨e, e1, by rw [h3 14 (by decide) (by decide)]; exact e2, by rw [h3 15 (by decide) (by decide)]; exact e3, fun i hi => ?_⟩, ⟨hb, b1, by rw [h3 16 (by decide) (by decide)]; exact b2, fun i hi => ?_⟩, ?_, ?_, ⟨h1, fun i hi => absurd hi (Nat.not_lt_zero _)⟩, h2⟩
  · unfold CW; rw [h4 31 (by omega) (by omega) (by omega)]; exact i4
  · obtain ⟨b, x1, x2, x3⟩ := e4 i hi
    have := (pool_at i5 (by omega) x1).1
    exact ⟨b, by rw [hpa]; exact x1, x2.cg (fun a y1 y2 => h4 a (by omega) (by omega) (by omega)), by rw [hr_c2 (fun a y1 y2 => h4 a (by omega) (by omega) (by omega))]; exact x3⟩
  · rcases b3 i hi with q | ⟨q1, b, R, q2, q3, q4, q5⟩
    · exact Or.inl q
    · have := (pool_at i5 (by omega) q3).1
      exact Or.inr ⟨q1, b, R, q2, by rw [hpa]; exact q3, q4.cg (fun a y1 y2 => h4 a (by omega) (by omega) (by omega)), by rw [hr_c2 (fun a y1 y2 => h4 a (by omega) (by omega) (by omega))]; exact q5⟩
  · unfold Fact
    rw [h4 56 (by omega) (by omega) (by omega), h4 57 (by omega) (by omega) (by omega), h4 58 (by omega) (by omega) (by omega), h4 59 (by omega) (by omega) (by omega), h4 60 (by omega) (by omega) (by omega)]; exact i8
  · exact i9.mv (by rw [h4 56 (by omega) (by omega) (by omega)]) (h4 61 (by omega) (by omega) (by omega)) (fun a _ _ => h4 a (by omega) (by omega) (by omega))
theorem f_C_read {R : Int32 → GS → MS → Prop} (fa : Row) (I : ICl d t π g s) (hL : pL π ≤ 2000) (hT : ∀ i, i < pL π → pT π i < 256)
    (h1 : ∀ M g' v, Mf (pT π) (pL π) M → (gCheck (kK (pT π) (pL π) M)).2 ≠ 0 → ICl d t (sRd π (nI (pl (pT π) (pL π) M (gCheck (kK (pT π) (pL π) M)).1))) g' v → FC s v → R (nI (gCheck (kK (pT π) (pL π) M)).2) g' v)
    (h2 : ∀ M g' v x, Mf (pT π) (pL π) M → (gCheck (kK (pT π) (pL π) M)).2 = 0 → sAll (pT π) (pL π) (kK (pT π) (pL π) M) 401 (fun _ => 0) (0, 0) (d0 fa) [] = .inl x → ICl d t (sRd π (nI (bp (pT π) (pL π) x.2))) g' v → FC s v → R (nI x.1) g' v)
    (h3 : ∀ M g' v y, Mf (pT π) (pL π) M → (gCheck (kK (pT π) (pL π) M)).2 = 0 → sAll (pT π) (pL π) (kK (pT π) (pL π) M) 401 (fun _ => 0) (0, 0) (d0 fa) [] = .inr y → TOk y.1 → ICl y.1 (192 - t) (sNw y.1 π) g' v → FC s v → R 0 g' v) : XI E m_Rs_read [.ref 16] g s R := by
  have I0 := I
  have et := I.1.et
  have hS := I.1.sx
  obtain ⟨⟨k1, k2, k3, k4, k5, k6, k7, k8, k9, k10⟩, i2, i3, i4, i5, ⟨e, e1, e2, e3, e4⟩, ⟨hb, b1, b2, b3⟩, i8, i9, ⟨i10, i10'⟩, i11⟩ := I
  refine v_Rs_read (Q := rI R) t (192 - t) hS ?_
  rw [i10]
  refine f_T_scan hS ⟨hL, hT, i10'⟩ (fun u1 M T1 F1 s2 es2 => ?_)
  have hM : Mf (pT π) (pL π) M := ⟨fun j hj => (T1.2.2.1 j hj).1, T1.2.2.2.2.2, T1.2.1⟩
  have T2 : TkC (pT π) (pL π) M s2 := T1.mv (by rw [es2, wi_n _ _ _ (by decide)]) (by rw [es2, wi_n _ _ _ (by decide)]) (by rw [es2, wi_n _ _ _ (by decide)]) (by rw [es2, wi_2])
  have m2 : ∀ a, a ≠ 16 → ¬ (18 ≤ a ∧ a < 21) → s2.1 a = s.1 a := fun a x1 x2 => by rw [es2, wi_n _ _ _ x1, F1.1 a x2]
  have n2 : s2.1 16 = upd (s.1 16) 12 0 := by rw [es2, wi_s, F1.1 16 (by omega)]
  have l2 : ∀ a, a ≠ 21 → s2.2 a = s.2 a := fun a ha => by rw [es2, wi_2, F1.2.2 a ha]
  refine f_G_check hS T2 (fun u3 q3 F3 => ?_)
  have hS3 : SX g := hS
  have P3 : POOL g := i5
  have r3 : ∀ x y, (x = 16 ∨ x = 28) → g.2.2 x y = g.2.2 x y := fun _ _ _ => rfl
  have pa3 : ∀ i, pa g i = pa g i := fun _ => rfl
  have T3 : TkC (pT π) (pL π) M u3 := T2.gr F3
  have m3 : ∀ a, a ≠ 16 → ¬ (18 ≤ a ∧ a < 24) → u3.1 a = s.1 a := fun a x1 x2 => by rw [F3.1 a (by omega) (by omega), m2 a x1 (by omega)]
  have n3 : u3.1 16 = upd (s.1 16) 12 0 := by rw [F3.1 16 (by decide) (by decide)]; exact n2
  have l3 : ∀ a, a ≠ 21 → u3.2 a = s.2 a := fun a ha => by rw [F3.2.2, l2 a ha]
  have qM : (gCheck (kK (pT π) (pL π) M)).1 ≤ M := gAll_M 401 _ _ (by show 0 ≤ 400; omega) (Nat.zero_le _)
  have q7 := q3.2.2.2
  refine ⟨hS3, by rw [r3 16 11 (Or.inl rfl)]; exact i2, by rw [r3 16 10 (Or.inl rfl)]; exact k3, ?_⟩
  refine pk_eq (gCheck (kK (pT π) (pL π) M)).2 0 (fun z => ?_) (fun z => ?_) rfl rfl (by omega) (by omega)
  · -- the text is told
    have t2 : 192 - t = 88 ∨ 192 - t = 104 := by omega
    have hS4 : SX (gr g 24 5 (some (192 - t))) := SX.gro hS3 (by decide)
    have hy4 : (gr g 24 5 (some (192 - t))).2.2 24 4 = some 18 := by rw [gr_rf, if_neg (by decide)]; exact hS.r rfl
    have hx4 : (gr g 24 5 (some (192 - t))).2.2 24 5 = some (192 - t) := by rw [gr_rf, if_pos ⟨rfl, rfl⟩]
    have r4 : ∀ x y, (x = 16 ∨ x = 28) → (gr g 24 5 (some (192 - t))).2.2 x y = g.2.2 x y := fun x y hx => by rw [gr_rf, if_neg (by omega)]
    have P4 : POOL (gr g 24 5 (some (192 - t))) := P3.grx (by omega)
    have pa4 : ∀ i, pa (gr g 24 5 (some (192 - t))) i = pa g i := fun i => by rw [pa_gr (by omega)]
    refine v_Teller_fill (Q := rI _) (192 - t) hS3 t2 ?_
    generalize gr g 24 5 (some (192 - t)) = g4 at *
    refine f_Text_clear fa hS4 t2 (fun u4 c1 c2 c3 c4 s5 e5 s6 e6 s7 e7 => ?_)
    have m7 : ∀ a, a ≠ 24 → s7.1 a = u4.1 a := fun a ha => by rw [e7, wi_n _ _ _ ha, e6, wi_n _ _ _ ha, e5, wi_n _ _ _ ha]
    have n7 : s7.1 24 = upd (upd (upd (u4.1 24) 3 0) 6 0) 7 0 := by rw [e7, wi_s, e6, wi_s, e5, wi_s]
    have l7 : s7.2 = u3.2 := by rw [e7, wi_2, e6, wi_2, e5, wi_2, c4]
    have F7 : FTL (192 - t) u3 s7 := ⟨fun a x1 x2 => by rw [m7 a (by omega), c3 a (by omega)], fun a _ => by rw [l7]⟩
    refine l_L_fill (s := u3) hS4 t2 hy4 hx4 T3 401 (fun _ => 0) (0, 0) (d0 fa) [] s7 0 0 z (by omega) (by omega) (by omega) ⟨by rw [n7, upd_n _ _ (by decide), upd_s]; rfl, by rw [n7, upd_s]; rfl, by omega, by omega⟩ ⟨by rw [n7, upd_n _ _ (by decide), upd_n _ _ (by decide), upd_s]; rfl, Nat.zero_le _, fun i hi => absurd hi (Nat.not_lt_zero _)⟩ (d0_PI fa) (d0_CN fa) (c1.mv' (fun a x1 x2 => m7 a (by omega))) (by rw [m7 (192 - t + 11) (by omega)]; exact c2) (by omega) F7 (fun v v1 v2 => ⟨hS4, by rw [r4 16 10 (Or.inl rfl)]; exact k3, by rw [r4 16 11 (Or.inl rfl)]; exact i2, ?_⟩)
    have mv : ∀ a, a ≠ 16 → ¬ (18 ≤ a ∧ a < 28) → ¬ (192 - t ≤ a ∧ a < 192 - t + 16) → v.1 a = s.1 a := fun a x1 x2 x3 => by rw [v1.1 a (by omega) x3, m3 a x1 (by omega)]
    have nv : v.1 16 = upd (s.1 16) 12 0 := by rw [v1.1 16 (by omega) (by omega)]; exact n3
    have lv' : ∀ a, a ≠ 21 → a ≠ 25 → v.2 a = s.2 a := fun a x1 x2 => by rw [v1.2 a x2, l3 a x1]
    have TV := T3.LL t2 v1
    cases hs : sAll (pT π) (pL π) (kK (pT π) (pL π) M) 401 (fun _ => 0) (0, 0) (d0 fa) [] with
    | inl x =>
      rw [hs] at v2
      obtain ⟨w1, w2, w3⟩ := v2
      rw [w1.2.1, w1.1]
      refine pk_eq x.1 0 (fun w => absurd w (by omega)) (fun _ => f_T_place hS4 TV (by omega) (fun s8 e8 => rI.mk (h2 M g4 s8 x hM z hs ?_ ?_))) rfl rfl (by omega) (by omega)
      · rw [show pl (pT π) (pL π) M x.2 = bp (pT π) (pL π) x.2 from if_pos w3] at e8
        exact I0.bad hS4 r4 P4 pa4 (by rw [e8, wi_s, upd_n _ _ (by decide), nv, upd_s]) (by rw [e8, wi_s, upd_s]) (fun j x1 x2 => by rw [e8, wi_s, upd_n _ _ x2, nv, upd_n _ _ x1]) (fun a x1 x2 x3 => by rw [e8, wi_n _ _ _ x1, mv a x1 x2 x3])
      · exact ⟨fun a x1 x2 => by rw [e8, wi_n _ _ _ (by omega), mv a (by omega) (by omega) (by omega)], fun a x1 x2 => by rw [e8, wi_2, lv' a (by omega) (by omega)]⟩
    | inr y =>
      rw [hs] at v2
      obtain ⟨w1, w2, w3⟩ := v2
      rw [w1]
      refine ⟨fun _ s5 e5' => ?_, fun w => absurd rfl w⟩
      have hS5 : SX (gr (gr g4 16 10 (some (192 - t))) 16 11 (some t)) := SX.gro (SX.gro hS4 (by decide)) (by decide)
      have r5 : (gr (gr g4 16 10 (some (192 - t))) 16 11 (some t)).2.2 16 10 = some (192 - t) := by rw [gr_rf, if_neg (by decide), gr_rf, if_pos ⟨rfl, rfl⟩]
      have r5' : (gr (gr g4 16 10 (some (192 - t))) 16 11 (some t)).2.2 16 11 = some t := by rw [gr_rf, if_pos ⟨rfl, rfl⟩]
      have P5 : POOL (gr (gr g4 16 10 (some (192 - t))) 16 11 (some t)) := (P4.grx (by omega)).grx (by omega)
      generalize gr (gr g4 16 10 (some (192 - t))) 16 11 (some t) = g5 at *
      have m5 : ∀ a, a ≠ 16 → s5.1 a = v.1 a := fun a ha => by rw [e5', wi_n _ _ _ ha]
      have hz : ∀ j, j < nH y.1 → ∃ f, 1 ≤ f ∧ f ≤ 30 ∧ eFa (dE y.1) j = nI f := w3.1.2.2
      refine f_Rs_start (e := e) hS5 t2 r5 w3 (w2.mv' (fun a x1 x2 => m5 a (by omega))) (i3.2.cg (fun a x1 x2 => by rw [m5 a (by omega), mv a (by omega) (by omega) (by omega)])) (i9.2.cg (fun a x1 x2 => by rw [m5 a (by omega), mv a (by omega) (by omega) (by omega)])) (fun u o1 o2 o3 o4 o5 o6 o7 o8 o9 o10 o11 o12 o13 o14 => ⟨SX.gro hS5 (by decide), rI.mk (h3 M _ u y hM z hs w3 ?_ ?_)⟩)
      · refine ⟨⟨SX.gro hS5 (by decide), t2, by rw [gr_rf, if_neg (by decide)]; exact r5, by rw [gr_rf, if_pos ⟨rfl, rfl⟩], w3, o1, o2, o3, fun k hk => ?_, hz⟩, ?_, ⟨o4, o5⟩, Or.inl o7, P5.grx (by omega), ⟨e, e1, ?_, o8, fun i hi => absurd hi (Nat.not_lt_zero _)⟩, ⟨0, by omega, o9, fun i hi => Or.inl ⟨Nat.zero_testBit i, rfl⟩⟩, ⟨o10, fun i hi => absurd hi (Nat.not_lt_zero _)⟩, ⟨Or.inl o11, o6⟩, ⟨?_, fun i hi => absurd hi (Nat.not_lt_zero _)⟩, ?_⟩
        · rw [o13 1 (by omega) (by omega) (by omega) (by omega) (by omega) (by omega), m5 1 (by omega), mv 1 (by omega) (by omega) (by omega)]; exact k9 k hk
        · rw [gr_rf, if_neg (by decide), r5']; congr 1; omega
        · rw [o12 14 (by decide) (by decide), e5', wi_s, upd_n _ _ (by decide), nv, upd_n _ _ (by decide)]; exact e2
        · rw [o12 12 (by decide) (by decide), e5', wi_s, upd_n _ _ (by decide), nv, upd_s]; rfl
        · rw [o12 13 (by decide) (by decide), e5', wi_s, upd_s]; rfl
      · exact ⟨fun a x1 x2 => by rw [o13 a (by omega) (by omega) (by omega) (by omega) (by omega) (by omega), m5 a (by omega), mv a (by omega) (by omega) (by omega)], fun a x1 x2 => by rw [o14, e5', wi_2, lv' a (by omega) (by omega)]⟩
  · -- a fault of the grammar
    rw [q3.1]
    refine ⟨fun w => absurd w ?_, fun _ => f_T_place hS3 T3 qM (fun s8 e8 => rI.mk (h1 M g s8 hM z ?_ ?_))⟩
    · intro w
      exact z ((nI_eq (by omega) (by omega)).mp (show nI _ = nI 0 from w))
    · exact I0.bad hS3 r3 P3 pa3 (by rw [e8, wi_s, upd_n _ _ (by decide), n3, upd_s]) (by rw [e8, wi_s, upd_s]) (fun j x1 x2 => by rw [e8, wi_s, upd_n _ _ x2, n3, upd_n _ _ x1]) (fun a x1 x2 x3 => by rw [e8, wi_n _ _ _ x1, m3 a x1 (by omega)])
    · exact ⟨fun a x1 x2 => by rw [e8, wi_n _ _ _ (by omega), m3 a (by omega) (by omega)], fun a x1 x2 => by rw [e8, wi_2, l3 a (by omega)]⟩
theorem gCheck_M {T : Nat → Nat} {L M M' : Nat} (h : Mf T L M) (k : Mf T L M') : M = M' := tk_uniq h.1 h.2.1 h.2.2 k.1 k.2.1 k.2.2
theorem o_read {Q : Int32 → Int32 → GS → MS → Prop} {c : Nat} (hc : c < 512) (I : INV d t lv c π g s) (hq : ∀ A d' t' lv' π' g' v, INV d' t' lv' (c + 1) π' g' v → Q A A g' v) : XI E m_Rs_read [.ref 16] g s (fun y g' u => GI E m_Mo_read [.ref 120] g' u (fun y' v => Q y y' g' v)) := by
  obtain ⟨IC, IR, IP⟩ := I
  have hO : TOk d := IC.1.o
  have lv2 := IR.1.2.2.1
  obtain ⟨p1, p2, p3, p4, p5, ⟨p6, p6'⟩, p7⟩ := IP
  have ipb : ∀ P, IPu d (c + 1) (sRd π P) := fun P => ⟨p1.nn, p2, fun i hi => (p3 i hi).nn, fun i R hi e => (p4 i R hi e).nn, p5, ⟨Nat.zero_le _, fun i hi => absurd hi (Nat.not_lt_zero _)⟩, by omega⟩
  have ipn : ∀ d', TOk d' → IPu d' (c + 1) (sNw d' π) := fun d' h => ⟨beg_RV h (c + 1), Nat.zero_le _, fun i hi => absurd hi (Nat.not_lt_zero _), fun i R hi e => absurd e (by show ¬ (none : Option Row) = some R; simp), ⟨Nat.zero_le _, fun i hi => absurd hi (Nat.not_lt_zero _)⟩, ⟨Nat.zero_le _, fun i hi => absurd hi (Nat.not_lt_zero _)⟩, by omega⟩
  have hf : ∀ u, FC s u → ∀ j, j < 6 → u.1 135 (6 * (1 - lv) + j) = (fun k => if k < 6 then s.1 135 (6 * (1 - lv) + k) else 0) j := fun u hu j hj => by
    rw [hu.1 135 (by omega) (by omega)]; exact (if_pos hj).symm
  have hf2 : ∀ j, 6 ≤ j → (fun k => if k < 6 then s.1 135 (6 * (1 - lv) + k) else (0 : Int32)) j = 0 := fun j hj => if_neg (by omega)
  refine f_C_read (fun k => if k < 6 then s.1 135 (6 * (1 - lv) + k) else 0) IC p6 p6' (fun M g' v hM z C1 F1 => ?_) (fun M g' v x hM z hs C1 F1 => ?_) (fun M g' v y hM z hs hO' C1 F1 => ?_)
  · refine f_M_read (sd := 1 - lv) (fa := fun k => if k < 6 then s.1 135 (6 * (1 - lv) + k) else 0) C1.1.sx hO (by omega) (IR.mv F1) p6 p6' hM (hf v F1) hf2 (fun w _ J F => hq _ d t lv _ g' w ⟨C1.mv F, J, ipb _⟩) (fun w x z' _ _ _ => absurd z' z) (fun w y z' _ _ _ => absurd z' z)
  · refine f_M_read (sd := 1 - lv) (fa := fun k => if k < 6 then s.1 135 (6 * (1 - lv) + k) else 0) C1.1.sx hO (by omega) (IR.mv F1) p6 p6' hM (hf v F1) hf2 (fun w z' _ _ => absurd z z') (fun w x' _ hs' J F => ?_) (fun w y _ hs' _ _ => by rw [hs] at hs'; exact absurd hs' (by simp))
    rw [hs] at hs'
    have ex : x = x' := by injection hs'
    subst ex
    exact hq _ d t lv _ g' w ⟨C1.mv F, J, ipb _⟩
  · refine f_M_read (sd := 1 - lv) (fa := fun k => if k < 6 then s.1 135 (6 * (1 - lv) + k) else 0) C1.1.sx hO (by omega) (IR.mv F1) p6 p6' hM (hf v F1) hf2 (fun w z' _ _ => absurd z z') (fun w x' _ hs' _ _ => by rw [hs] at hs'; exact absurd hs' (by simp)) (fun w y' _ hs' J F => ?_)
    rw [hs] at hs'
    have ey : y = y' := by injection hs'
    subst ey
    exact hq _ y.1 (192 - t) (1 - lv) _ g' w ⟨C1.mv F, J, ipn _ hO'⟩
end CRead
