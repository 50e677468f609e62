/-! tell, forget, count -/
def F56 (s u : MS) : Prop := (∀ a, ¬ (56 ≤ a ∧ a < 61) → u.1 a = s.1 a) ∧ (∀ j, j ≠ 7 → u.1 56 j = s.1 56 j) ∧ u.2 = s.2
def F68 (s u : MS) : Prop := (∀ a, a ≠ 120 → ¬ (167 ≤ a ∧ a < 171) → u.1 a = s.1 a) ∧ (∀ j, j ≠ 68 → u.1 120 j = s.1 120 j) ∧ u.2 = s.2
theorem ICl.fa {d : TD} {t : Nat} {π : PS} {g : GS} {s u : MS} {m : Nat} {F : Nat → Nat × Nat × Nat × Int32} (h : ICl d t π g s) (k : F56 s u) (hT : Fact (sFa π m F) u) : ICl d t (sFa π m F) g u := by
  have et := h.1.et
  obtain ⟨⟨k1, k2, k3, k4, k5, k6, k7, k8, k9, k10⟩, h2, h3, h4, h5, h6, h7, h8, h9, h10, h11⟩ := h
  refine ⟨⟨k1, k2, k3, k4, k5, k6.mv (fun a a1 a2 => k.1 a (by omega)), fun j hj => by rw [k.1 29 (by omega)]; exact k7 j hj, by rw [k.1 28 (by omega)]; exact k8, fun j hj => by rw [k.1 1 (by omega)]; exact k9 j hj, k10⟩, h2, ⟨by rw [hr_c2 (fun a a1 a2 => k.1 a (by omega))]; exact h3.1, h3.2.cg (fun a a1 a2 => k.1 a (by omega))⟩, ?_, h5, ?_, ?_, hT, ?_, ?_, by rw [k.1 16 (by omega)]; exact h11⟩
  · unfold CW; rw [k.1 31 (by omega)]; exact h4
  · obtain ⟨e, e1, e2, e3, e4⟩ := h6
    refine ⟨e, e1, by rw [k.1 16 (by omega)]; exact e2, by rw [k.1 16 (by omega)]; exact e3, fun i hi => ?_⟩
    obtain ⟨b, b1, b2, b3⟩ := e4 i hi
    have := (pool_at h5 (by omega) b1).1
    exact ⟨b, b1, b2.cg (fun a a1 _ => k.1 a (by omega)), by rw [hr_c2 (fun a a1 _ => k.1 a (by omega))]; exact b3⟩
  · obtain ⟨e, e1, e2, e3⟩ := h7
    refine ⟨e, e1, by rw [k.1 16 (by omega)]; exact e2, fun i hi => ?_⟩
    rcases e3 i hi with q | ⟨q1, b, R, q2, q3, q4, q5⟩
    · exact Or.inl q
    · have := (pool_at h5 (by omega) q3).1
      exact Or.inr ⟨q1, b, R, q2, q3, q4.cg (fun a a1 _ => k.1 a (by omega)), by rw [hr_c2 (fun a a1 _ => k.1 a (by omega))]; exact q5⟩
  · exact h9.mv (k.2.1 6 (by decide)) (k.1 61 (by omega)) (fun a _ _ => k.1 a (by omega))
  · unfold Tape
    rw [k.1 16 (by omega), k.1 17 (by omega)]; exact h10
theorem IRf.fa {d : TD} {lv : Nat} {π : PS} {s u : MS} {m : Nat} {F : Nat → Nat × Nat × Nat × Int32} (h : IRf d lv π s) (k : F68 s u) (hT : u.1 120 68 = nI m ∧ ∀ i, i < m → u.1 167 i = nI (F i).1 ∧ u.1 168 i = nI (F i).2.1 ∧ u.1 169 i = nI (F i).2.2.1 ∧ u.1 170 i = (F i).2.2.2) : IRf d lv (sFa π m F) u := by
  obtain ⟨⟨a1, a2, a3, a4⟩, h2, h3, h4, h5, h6, h7, h8⟩ := h
  refine ⟨⟨a1.mv (fun a h1 h2 => k.1 a (by omega) (by omega)), by rw [k.2.1 18 (by decide)]; exact a2, a3, fun j hj => by rw [k.1 164 (by omega) (by omega)]; exact a4 j hj⟩, by rw [k.1 162 (by omega) (by omega)]; exact h2, ?_, ?_, hT, ?_, by rw [k.2.1 17 (by decide)]; exact h7, by rw [k.2.2]; exact h8⟩
  · unfold hrow; rw [k.2.1 64 (by decide), k.1 166 (by omega) (by omega)]; exact h3
  · unfold srow; rw [k.1 171 (by omega) (by omega), k.1 172 (by omega) (by omega)]; exact h4
  · rw [k.2.1 2 (by decide), k.1 121 (by omega) (by omega)]; exact h6
theorem F56.C {s u : MS} (h : F56 s u) : FC s u := ⟨fun a _ _ => h.1 a (by omega), fun a _ _ => by rw [h.2.2]⟩
theorem F68.F {s u : MS} (h : F68 s u) : FF s u := ⟨fun a _ => h.1 a (by omega) (by omega), fun a _ => by rw [h.2.2]⟩
def cntV (d : TD) (π : PS) : Nat → Int32
  | 0 => nI (nG d)
  | 1 => nI (nH d)
  | 2 => nI (nR d)
  | 3 => nI (dM d)
  | 4 => pN π 114
  | 5 => pN π 115
  | 6 => pN π 116
  | 7 => pN π 117
  | 8 => hbits (pN π) (nR d)
  | 9 => pN π 118
  | 10 => pN π 119
  | 11 => nI (pL π)
  | 12 => nI (pM π)
  | 13 => nI (pK π)
  | 14 => nI ((if (pS π 0).isSome then 1 else 0) + (if (pS π 1).isSome then 1 else 0) + (if (pS π 2).isSome then 1 else 0))
  | _ => rsum (pN π) 0 6 + (thr d (pN π) (nH d) + mis d (pN π) (nH d)) + rsum (pN π) 58 (nR d)
def cntA (d : TD) (π : PS) (x : Int32) : Int32 := if x < 0 ∨ 15 < x then -1 else cntV d π x.toNatClampNeg
theorem pcn3 : ∀ n, n < 8 → pcn n 8 = (if n.testBit 0 then 1 else 0) + (if n.testBit 1 then 1 else 0) + (if n.testBit 2 then 1 else 0) := by decide +kernel
section Count
variable {E : EN} {d : TD} {t lv c : Nat} {π : PS} {g : GS} {s : MS} {x1 x2 x3 x4 : Int32} {Q : Int32 → Int32 → MS → Prop}
theorem ro2 {zc zr : MD} {ac ar : List Value} {A : Int32} (I : INV d t lv c π g s) (hc : ∀ R : Int32 → MS → Prop, (∀ u, FrP t s u → R A u) → GI E zc ac g s R) (hr' : ∀ u, IRf d lv π u → ∀ R : Int32 → MS → Prop, (∀ v, FrR u v → R A v) → GI E zr ar g u R) (hq : ∀ v, INV d t lv c π g v → Q A A v) : GI E zc ac g s (fun y u => GI E zr ar g u (fun y' v => Q y y' v)) := by
  refine hc _ (fun u hu => ?_)
  have I1 := I.1.p hu
  have I2 := I.2.1.mv (hu.C I.1.1.et)
  refine hr' u I2 _ (fun v hv => hq v ⟨I1.mv hv.F, I2.r hv, I.2.2⟩)
theorem o_forget (I : INV d t lv c π g s) (hq : ∀ A π' v, INV d t lv c π' g v → Q A A v) : GI E m_Rs_forget [.ref 16] g s (fun y u => GI E m_Mo_forget [.ref 120] g u (fun y' v => Q y y' v)) := by
  have hS := I.1.1.sx
  obtain ⟨i1, i2, i3⟩ := I
  have fc := i1.2.2.2.2.2.2.2.1
  refine v_Rs_forget (Q := qI g _) hS (fun s1 e1 => GI.r (v_Mo_forget (Q := qI g _) hS (fun s2 e2 => GI.r ?_)))
  have F : F56 s s1 := by rw [e1]; exact ⟨fun a h1 => wi_n _ _ _ (by omega), fun j hj => by rw [wi_s, upd_n _ _ hj], rfl⟩
  have J2 := i2.mv F.C
  have G : F68 s1 s2 := by rw [e2]; exact ⟨fun a h1 _ => wi_n _ _ _ h1, fun j hj => by rw [wi_s, upd_n _ _ hj], rfl⟩
  have fr := J2.2.2.2.2.1
  rw [fc.1, fr.1]
  refine hq _ (sFa π 0 (pF π)) s2 ⟨(i1.fa (m := 0) (F := pF π) F ⟨by rw [e1, wi_s, upd_s]; rfl, fun i hi => absurd hi (by show ¬ i < 0; omega)⟩).mv G.F, J2.fa G ⟨by rw [e2, wi_s, upd_s]; rfl, fun i hi => absurd hi (by omega)⟩, i3.1, i3.2.1, i3.2.2.1, i3.2.2.2.1, ⟨by show 0 ≤ 20; omega, fun i hi => absurd hi (by show ¬ i < 0; omega)⟩, i3.2.2.2.2.2.1, i3.2.2.2.2.2.2⟩
theorem o_tell (I : INV d t lv c π g s) (hq : ∀ A π' v, INV d t lv c π' g v → Q A A v) : GI E m_Rs_tell [.ref 16, .int x1, .int x2, .int x3, .int x4] g s (fun y u => GI E m_Mo_tell [.ref 120, .int x1, .int x2, .int x3, .int x4] g u (fun y' v => Q y y' v)) := by
  have hS := I.1.1.sx
  have hO := I.1.1.o
  have h6 := hO.h6
  have g6 := hO.g6
  have I' := I
  obtain ⟨i1, i2, i3⟩ := I
  have fc := i1.2.2.2.2.2.2.2.1
  have fr := i2.2.2.2.2.1
  have fl := i3.2.2.2.2.1.1
  -- the reference, where the call is refused
  have no : (pK π = 20 ∨ ¬ (0 ≤ x1 ∧ x1 < nI (nH d)) ∨ ¬ (0 ≤ x2 ∧ x2 < nI (nG d)) ∨ ¬ (0 ≤ x3 ∧ x3 < 100) ∨ ¬ (0 ≤ x4 ∧ x4 < 10000)) → GI E m_Mo_tell [.ref 120, .int x1, .int x2, .int x3, .int x4] g s (fun y' v => Q (-1) y' v) := by
    intro w
    have fin := hq (-1) π s I'
    refine v_Mo_tell (Q := qI g _) _ _ _ _ hS ?_
    rw [fr.1]
    refine pk_eq (pK π) 20 (fun _ => GI.r fin) (fun c0 => ?_)
    refine f_Mo_isHole hS hO i2.1 (fun q => ⟨fun _ => GI.r fin, fun c => absurd rfl c⟩) (fun q1 => ⟨fun c => absurd c (by decide), fun _ => ?_⟩)
    refine f_Mo_isGrain hS hO i2.1 (fun q => ⟨fun _ => GI.r fin, fun c => absurd rfl c⟩) (fun q2 => ⟨fun c => absurd c (by decide), fun _ => ?_⟩)
    refine f_Mo_in (fun q => ⟨fun _ => GI.r fin, fun c => absurd rfl c⟩) (fun q3 => ⟨fun c => absurd c (by decide), fun _ => ?_⟩)
    refine f_Mo_in (fun q => ⟨fun _ => GI.r fin, fun c => absurd rfl c⟩) (fun q4 => ⟨fun c => absurd c (by decide), fun _ => ?_⟩)
    exfalso
    rcases w with w | w | w | w | w
    · exact c0 w
    · exact w q1
    · exact w q2
    · exact w ((lt_pred (n := 100) (by decide)).mp q3)
    · exact w ((lt_pred (n := 10000) (by decide)).mp q4)
  refine v_Rs_tell (Q := qI g _) _ _ _ _ t hS i1.1.et i1.1.ht ?_
  rw [i1.1.tc.ho]
  refine f_Rs_isOf (fun q => ⟨fun _ => GI.r (no (Or.inr (Or.inl q))), fun c => absurd rfl c⟩) (fun q1 => ⟨fun c => absurd c (by decide), fun _ => ?_⟩)
  rw [i1.1.tc.gr]
  refine f_Rs_isOf (fun q => ⟨fun _ => GI.r (no (Or.inr (Or.inr (Or.inl q)))), fun c => absurd rfl c⟩) (fun q2 => ⟨fun c => absurd c (by decide), fun _ => ?_⟩)
  refine f_Rs_isOf (fun q => ⟨fun _ => GI.r (no (Or.inr (Or.inr (Or.inr (Or.inl q))))), fun c => absurd rfl c⟩) (fun q3 => ⟨fun c => absurd c (by decide), fun _ => ?_⟩)
  refine f_Rs_isOf (fun q => ⟨fun _ => GI.r (no (Or.inr (Or.inr (Or.inr (Or.inr q))))), fun c => absurd rfl c⟩) (fun q4 => ⟨fun c => absurd c (by decide), fun _ => ?_⟩)
  refine v_Facts_note (Q := qI g _) _ _ _ _ hS ?_
  rw [fc.1]
  refine pk_lt (pK π) 20 (fun kl => ?_) (fun kl => GI.r (GI.r (no (Or.inl (by omega)))))
  obtain ⟨a, ha, rfl⟩ := lt_ex (by omega) q1
  obtain ⟨b, hb, rfl⟩ := lt_ex (by omega) q2
  obtain ⟨n, hn, rfl⟩ := lt_ex (n := 100) (by decide) q3
  rw [tn_n (by omega)]
  refine ⟨vp_in_nI (by omega) (by omega), fun s1 e1 s2 e2 s3 e3 s4 e4 s5 e5 => GI.r (GI.r ?_)⟩
  have F : F56 s s5 := by
    refine ⟨fun y hy => ?_, fun j hj => ?_, ?_⟩
    · rw [e5, wi_n _ _ _ (by omega), e4, wi_n _ _ _ (by omega), e3, wi_n _ _ _ (by omega), e2, wi_n _ _ _ (by omega), e1, wi_n _ _ _ (by omega)]
    · rw [e5, wi_s, upd_n _ _ hj, e4, wi_n _ _ _ (by omega), e3, wi_n _ _ _ (by omega), e2, wi_n _ _ _ (by omega), e1, wi_n _ _ _ (by omega)]
    · rw [e5, wi_2, e4, wi_2, e3, wi_2, e2, wi_2, e1, wi_2]
  have J2 := i2.mv F.C
  have fr' := J2.2.2.2.2.1
  have NF : Fact (sFa π (pK π + 1) (fun i => if i = pK π then (a, b, n, x4) else pF π i)) s5 := by
    refine ⟨by rw [e5, wi_s, upd_s, nI_1]; rfl, fun i hi => ?_⟩
    have hi' : i < pK π + 1 := hi
    have v57 : s5.1 57 i = if i = pK π then nI a else s.1 57 i := by rw [e5, wi_n _ _ _ (by omega), e4, wi_n _ _ _ (by omega), e3, wi_n _ _ _ (by omega), e2, wi_n _ _ _ (by omega), e1, wi_s, upd_a]
    have v58 : s5.1 58 i = if i = pK π then nI b else s.1 58 i := by rw [e5, wi_n _ _ _ (by omega), e4, wi_n _ _ _ (by omega), e3, wi_n _ _ _ (by omega), e2, wi_s, upd_a, e1, wi_n _ _ _ (by omega)]
    have v59 : s5.1 59 i = if i = pK π then nI n else s.1 59 i := by rw [e5, wi_n _ _ _ (by omega), e4, wi_n _ _ _ (by omega), e3, wi_s, upd_a, e2, wi_n _ _ _ (by omega), e1, wi_n _ _ _ (by omega)]
    have v60 : s5.1 60 i = if i = pK π then x4 else s.1 60 i := by rw [e5, wi_n _ _ _ (by omega), e4, wi_s, upd_a, e3, wi_n _ _ _ (by omega), e2, wi_n _ _ _ (by omega), e1, wi_n _ _ _ (by omega)]
    rw [v57, v58, v59, v60]
    show _ = nI (if i = pK π then (a, b, n, x4) else pF π i).1 ∧ _ = nI (if i = pK π then (a, b, n, x4) else pF π i).2.1 ∧ _ = nI (if i = pK π then (a, b, n, x4) else pF π i).2.2.1 ∧ _ = (if i = pK π then (a, b, n, x4) else pF π i).2.2.2
    by_cases e : i = pK π
    · simp only [if_pos e]; exact ⟨trivial, trivial, trivial, trivial⟩
    · simp only [if_neg e]; exact fc.2 i (by omega)
  refine v_Mo_tell (Q := qI g _) _ _ _ _ hS ?_
  rw [fr'.1]
  refine pk_eq (pK π) 20 (fun w => absurd w (by omega)) (fun c0 => ?_)
  refine f_Mo_isHole hS hO J2.1 (fun q => absurd q1 q) (fun _ => ⟨fun c => absurd c (by decide), fun _ => ?_⟩)
  refine f_Mo_isGrain hS hO J2.1 (fun q => absurd q2 q) (fun _ => ⟨fun c => absurd c (by decide), fun _ => ?_⟩)
  refine f_Mo_in (fun q => absurd ((lt_pred (n := 100) (by decide)).mpr q3) q) (fun _ => ⟨fun c => absurd c (by decide), fun _ => ?_⟩)
  refine f_Mo_in (fun q => absurd ((lt_pred (n := 10000) (by decide)).mpr q4) q) (fun _ => ⟨fun c => absurd c (by decide), fun _ => ?_⟩)
  rw [fr'.1, tn_n (by omega)]
  refine ⟨vp_in_nI (by omega) (by omega), fun u1 f1 u2 f2 u3 f3 u4 f4 u5 f5 => GI.r ?_⟩
  have G : F68 s5 u5 := by
    refine ⟨fun y h1 h2 => ?_, fun j hj => ?_, ?_⟩
    · rw [f5, wi_n _ _ _ h1, f4, wi_n _ _ _ (by omega), f3, wi_n _ _ _ (by omega), f2, wi_n _ _ _ (by omega), f1, wi_n _ _ _ (by omega)]
    · rw [f5, wi_s, upd_n _ _ hj, f4, wi_n _ _ _ (by omega), f3, wi_n _ _ _ (by omega), f2, wi_n _ _ _ (by omega), f1, wi_n _ _ _ (by omega)]
    · rw [f5, wi_2, f4, wi_2, f3, wi_2, f2, wi_2, f1, wi_2]
  refine hq _ (sFa π (pK π + 1) (fun i => if i = pK π then (a, b, n, x4) else pF π i)) u5 ⟨(i1.fa F NF).mv G.F, J2.fa G ⟨by rw [f5, wi_s, upd_s, nI_1], fun i hi => ?_⟩, i3.1, i3.2.1, i3.2.2.1, i3.2.2.2.1, ⟨by show pK π + 1 ≤ 20; omega, fun i hi => ?_⟩, i3.2.2.2.2.2.1, i3.2.2.2.2.2.2⟩
  · have v57 : u5.1 167 i = if i = pK π then nI a else s5.1 167 i := by rw [f5, wi_n _ _ _ (by omega), f4, wi_n _ _ _ (by omega), f3, wi_n _ _ _ (by omega), f2, wi_n _ _ _ (by omega), f1, wi_s, upd_a]
    have v58 : u5.1 168 i = if i = pK π then nI b else s5.1 168 i := by rw [f5, wi_n _ _ _ (by omega), f4, wi_n _ _ _ (by omega), f3, wi_n _ _ _ (by omega), f2, wi_s, upd_a, f1, wi_n _ _ _ (by omega)]
    have v59 : u5.1 169 i = if i = pK π then nI n else s5.1 169 i := by rw [f5, wi_n _ _ _ (by omega), f4, wi_n _ _ _ (by omega), f3, wi_s, upd_a, f2, wi_n _ _ _ (by omega), f1, wi_n _ _ _ (by omega)]
    have v60 : u5.1 170 i = if i = pK π then x4 else s5.1 170 i := by rw [f5, wi_n _ _ _ (by omega), f4, wi_s, upd_a, f3, wi_n _ _ _ (by omega), f2, wi_n _ _ _ (by omega), f1, wi_n _ _ _ (by omega)]
    rw [v57, v58, v59, v60]
    by_cases e : i = pK π
    · simp only [if_pos e]; exact ⟨trivial, trivial, trivial, trivial⟩
    · simp only [if_neg e]; exact fr'.2 i (by omega)
  · have hi' : i < pK π + 1 := hi
    show (if i = pK π then (a, b, n, x4) else pF π i).1 < nH d ∧ (if i = pK π then (a, b, n, x4) else pF π i).2.1 < nG d ∧ (if i = pK π then (a, b, n, x4) else pF π i).2.2.1 ≤ 99
    by_cases e : i = pK π
    · simp only [if_pos e]; exact ⟨ha, hb, by omega⟩
    · simp only [if_neg e]; exact i3.2.2.2.2.1.2 i (by omega)
theorem o_count (I : INV d t lv c π g s) (hq : ∀ A v, INV d t lv c π g v → Q A A v) : GI E m_Rs_count [.ref 16, .int x1] g s (fun y u => GI E m_Mo_count [.ref 120, .int x1] g u (fun y' v => Q y y' v)) := by
  have hS := I.1.1.sx
  have hO := I.1.1.o
  have h8 : eR (dE d) ≤ 8 := hO.r8
  have h8' := hO.r8
  have P := I.pc
  have i1 := I.1
  obtain ⟨hb, hb8, hbe, hbi⟩ := i1.2.2.2.2.2.2.1
  obtain ⟨pe, pe1, pe2, pe3, -⟩ := i1.2.2.2.2.2.1
  refine ro2 (A := cntA d π x1) I (fun R h => ?_) (fun u J R h => ?_) (hq _)
  · have hh := h s (FrP.rf t s)
    refine v_Rs_count (Q := qI g R) _ t hS i1.1.et i1.1.ht ⟨fun q => GI.r ?_, fun q => ?_, fun q => ?_, fun q => ?_, fun q => ?_, fun q => ?_, fun q => ?_, fun q => ?_, fun q => ?_, fun q => ?_, fun q => ?_, fun q => ?_, fun q => ?_, fun q => ?_, fun q => ?_, fun q => ?_, fun q => ?_⟩
    · rw [cntA, if_pos q] at hh; exact hh
    · subst q; rw [i1.1.tc.gr]; exact GI.r hh
    · subst q; rw [i1.1.tc.ho]; exact GI.r hh
    · subst q; rw [i1.1.tc.ra]; exact GI.r hh
    · subst q; rw [i1.1.tc.me]; exact GI.r hh
    · subst q; rw [← hr114, q_at P.2.1 (lvb_of (by omega))]; exact GI.r hh
    · subst q; rw [← hr115, q_at P.2.1 (lvb_of (by omega))]; exact GI.r hh
    · subst q; rw [← hr116, q_at P.2.1 (lvb_of (by omega))]; exact GI.r hh
    · subst q; rw [← hr117, q_at P.2.1 (lvb_of (by omega))]; exact GI.r hh
    · subst q
      exact f_House_ratsThatAre hS (HS74 hS) i1.1.et hO i1.1.tc (GI.r (by rw [q_hb hO P.2.1]; exact hh))
    · subst q; rw [← hr118, q_at P.2.1 (lvb_of (by omega))]; exact GI.r hh
    · subst q; rw [← hr119, q_at P.2.1 (lvb_of (by omega))]; exact GI.r hh
    · subst q; rw [i1.2.2.2.2.2.2.2.2.2.1.1]; exact GI.r hh
    · subst q; rw [pe3]; exact GI.r hh
    · subst q; rw [i1.2.2.2.2.2.2.2.1.1]; exact GI.r hh
    · subst q
      rw [hbe]
      refine f_Int_bitCount (by omega) (GI.r ?_)
      have e : ∀ i, i < 3 → (if hb.testBit i then 1 else 0) = (if (pS π i).isSome then 1 else 0) := by
        intro i hi
        rcases hbi i hi with ⟨w1, w2⟩ | ⟨w1, b, R', w2, -⟩
        · rw [w1, w2]; rfl
        · rw [w1, w2]; rfl
      rw [pcn3 hb hb8, e 0 (by omega), e 1 (by omega), e 2 (by omega)]
      exact hh
    · subst q
      refine f_House_allInHeap (HS74 hS) (f_House_allInHoles (HS74 hS) (f_House_allCarried hS (HS74 hS) i1.1.et hO i1.1.tc (GI.r ?_)))
      rw [q_heap P.2.1, q_hsum P.2.1, q_car hO P.2.1, hsum_z (m := nH d) P.2.2.2.2.1.2.2.2 6 hO.h6 (Nat.le_refl _), hsum_mt (d := d)]
      exact hh
  · have hh := h u (FrR.rf u)
    have K := J.1
    have hv := K.2.2.1
    have vi2 : vp_in (u.1 120 18) 2 := by rw [K.2.1]; exact vp_in_nI hv (by omega)
    have tl : (u.1 120 18).toNatClampNeg = lv := by rw [K.2.1, tn_n (by omega)]
    refine v_Mo_count (Q := qI g R) _ hS ?_
    rw [tl]
    refine ⟨fun q => GI.r ?_, fun q => ?_, fun q => ?_, fun q => ?_, fun q => ?_, fun q => ?_, fun q => ?_, fun q => ?_, fun q => ?_, fun q => ?_, fun q => ?_, fun q => ?_, fun q => ?_, fun q => ?_, fun q => ?_, fun q => ?_, fun q => ?_⟩
    · rw [cntA, if_pos q] at hh; exact hh
    · subst q; rw [K.1.gr]; exact ⟨vi2, GI.r hh⟩
    · subst q; rw [K.1.ho]; exact ⟨vi2, GI.r hh⟩
    · subst q; rw [K.1.ra]; exact ⟨vi2, GI.r hh⟩
    · subst q; rw [K.1.me]; exact ⟨vi2, GI.r hh⟩
    · subst q
      rw [show ((110 : Int32) + 4).toNatClampNeg = 114 from rfl, q_at J.2.1 (lvb_of (by omega))]
      exact ⟨pk_in 114 120 (by omega), GI.r hh⟩
    · subst q
      rw [show ((110 : Int32) + 5).toNatClampNeg = 115 from rfl, q_at J.2.1 (lvb_of (by omega))]
      exact ⟨pk_in 115 120 (by omega), GI.r hh⟩
    · subst q
      rw [show ((110 : Int32) + 6).toNatClampNeg = 116 from rfl, q_at J.2.1 (lvb_of (by omega))]
      exact ⟨pk_in 116 120 (by omega), GI.r hh⟩
    · subst q
      rw [show ((110 : Int32) + 7).toNatClampNeg = 117 from rfl, q_at J.2.1 (lvb_of (by omega))]
      exact ⟨pk_in 117 120 (by omega), GI.r hh⟩
    · subst q
      refine upto (P := fun k => AWP E m_Mo_count 134 0 0 [(0, .ref 120), (1, .int 8), (2, .int (hbits (pN π) k)), (3, .int (nI k))] [] (mk g u) (qI g R)) (nR d) ?_ ?_ 0 (Nat.zero_le _)
      · refine v_Mo_count_134 _ _ _ hS ⟨vi2, ?_⟩
        rw [tl]
        exact pk_le (nR d) (nR d) (fun _ => GI.r hh) (fun q => absurd q (by omega)) K.1.ra
      · intro k hk ih
        have hke : k < eR (dE d) := hk
        refine v_Mo_count_134 _ _ _ hS ⟨vi2, ?_⟩
        rw [tl, ix42 (by omega), q_at J.2.1 (lvb_of (by omega)), nI_1]
        rw [hbits] at ih
        refine pk_le (nR d) k (fun q => absurd q (by omega)) (fun _ => ⟨vi42 (by omega), fun c => ?_, fun c => ?_⟩) K.1.ra
        · rw [if_pos c] at ih; exact ih
        · rw [if_neg c] at ih; exact ih
    · subst q; rw [q_at J.2.1 (lvb_of (by omega))]; exact GI.r hh
    · subst q; rw [q_at J.2.1 (lvb_of (by omega))]; exact GI.r hh
    · subst q; rw [J.2.2.2.2.2.1.1]; exact GI.r hh
    · subst q; rw [J.2.2.1.1]; exact GI.r hh
    · subst q; rw [J.2.2.2.2.1.1]; exact GI.r hh
    · subst q
      have fl : ∀ i, i < 3 → (u.1 171 i = 0 ∧ (if (pS π i).isSome then 1 else 0) = 0) ∨ (u.1 171 i = 1 ∧ (if (pS π i).isSome then 1 else 0) = 1) := by
        intro i hi
        rcases J.2.2.2.1 i hi with ⟨w1, w2⟩ | ⟨w1, R', w2, -⟩
        · exact Or.inl ⟨w1, by rw [w2]; rfl⟩
        · exact Or.inr ⟨w1, by rw [w2]; rfl⟩
      have hh' : R (nI ((if (pS π 0).isSome then 1 else 0) + (if (pS π 1).isSome then 1 else 0) + (if (pS π 2).isSome then 1 else 0))) u := hh
      rcases fl 0 (by omega) with ⟨a1, a2⟩ | ⟨a1, a2⟩ <;> rcases fl 1 (by omega) with ⟨b1, b2⟩ | ⟨b1, b2⟩ <;> rcases fl 2 (by omega) with ⟨c1, c2⟩ | ⟨c1, c2⟩ <;> rw [a2, b2, c2] at hh' <;> rw [a1, b1, c1] <;> simp <;> exact GI.r hh'
    · subst q
      refine k_copies hS K J.2.1 (fun v b1 b2 b3 b4 => ?_)
      have Kv := K.mv b4
      have hh2 := h v b4
      refine f_Mo_inHeap hS (f_Mo_inHolesT hS hO Kv.1 Kv.2.1 hv (f_Mo_inHolesF hS hO Kv.1 Kv.2.1 hv ?_))
      rw [q_heap b3, q_thr hO b3, q_mis hO b3]
      have vi3 : vp_in (v.1 120 18) 2 := by rw [Kv.2.1]; exact vp_in_nI hv (by omega)
      have tl' : (v.1 120 18).toNatClampNeg = lv := by rw [Kv.2.1, tn_n (by omega)]
      have lp := upto (P := fun k => AWP E m_Mo_count 273 0 0 [(0, .ref 120), (1, .int 15), (2, .int (rsum (pN π) 0 6 + thr d (pN π) (nH d) + mis d (pN π) (nH d) + rsum (pN π) 58 k)), (3, .int (nI k))] [] (mk g v) (qI g R)) (nR d) ?_ ?_ 0 (Nat.zero_le _)
      · rw [rsum, show ∀ z : Int32, z + 0 = z from fun z => by simp] at lp; exact lp
      · refine v_Mo_count_273 _ _ _ hS ⟨vi3, ?_⟩
        rw [tl']
        refine pk_le (nR d) (nR d) (fun _ => GI.r ?_) (fun q => absurd q (by omega)) Kv.1.ra
        rw [Int32.add_assoc (rsum (pN π) 0 6)]; exact hh2
      · intro k hk ih
        have hke : k < eR (dE d) := hk
        refine v_Mo_count_273 _ _ _ hS ⟨vi3, ?_⟩
        rw [tl', ix58 (by omega), q_at b3 (lvb_of (by omega)), nI_1]
        rw [show rsum (pN π) 58 (k + 1) = rsum (pN π) 58 k + pN π (58 + k) from rfl, ← Int32.add_assoc] at ih
        exact pk_le (nR d) k (fun q => absurd q (by omega)) (fun _ => ⟨vi58 (by omega), ih⟩) Kv.1.ra
end Count
