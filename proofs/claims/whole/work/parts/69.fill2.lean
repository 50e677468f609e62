/-! THE CLASS'S TELLER: fillGrain, fillHole, fillRat -/
section Fill2
variable {E : EN} {g : GS} {s : MS} {T : Nat → Nat} {L M : Nat} {d : TD} {nl : NL} {t : Nat}
theorem LQ.mv {u : MS} {a f : Nat} (h : LQ a f s) (k : u.1 24 = s.1 24) : LQ a f u := by unfold LQ; rw [k]; exact h
theorem NCl.mv {u : MS} (h : NCl nl s) (k1 : u.1 24 3 = s.1 24 3) (k2 : u.2 25 = s.2 25) (k3 : u.1 26 = s.1 26) (k4 : u.1 27 = s.1 27) : NCl nl u := by unfold NCl; rw [k1, k2, k3, k4]; exact h
theorem NCl.a {u : MS} (h : NCl nl s) (k : FTa s u) : NCl nl u := h.mv (k.2.1 3 (by decide) (by decide)) (by rw [k.2.2]) (k.1 26 (by decide)) (k.1 27 (by decide))
theorem NCl.w {a k : Nat} {v : Int32} (h : NCl nl s) (ha : 28 ≤ a) : NCl nl (wi s a k v) := h.mv (by rw [wi_n _ _ _ (by omega)]) (by rw [wi_2]) (wi_n _ _ _ (by omega)) (wi_n _ _ _ (by omega))
def SRok (t a' : Nat) (r : SR) (u : MS) : Prop := match r with
  | .inl x => LQ x.2 x.1 u ∧ x.1 ≠ 0
  | .inr y => LQ a' 0 u ∧ TCf y.1 t u ∧ NCl y.2 u
theorem f_L_grain {R : MS → Prop} {a : Nat} (hS : SX g) (et : t = 88 ∨ t = 104) (hy : g.2.2 24 4 = some 18) (hx : g.2.2 24 5 = some t) (hT : TkC T L M s) (hq : LQ a 0 s) (k1 : kK T L M a = 2) (k2 : kK T L M (a + 1) = 3) (k3 : kK T L M (a + 2) = 3) (hN : NCl nl s) (n20 : nl.length < 20) (hD : DI d) (g6 : nG d < 6) (m5 : dM d ≤ 5) (hC : TCf d t s)
    (h : ∀ u, FTl t s u → SRok t (a + 3) (sGrain T L a d nl) u → R u) : GV E m_Teller_fillGrain [.ref 24] g s R := by
  refine v_Teller_fillGrain (Q := qV g R) t hS et hx ?_
  rw [hC.1.gr, tn_n (by omega)]
  refine pk_lt (nG d) 6 (fun _ => ?_) (fun w => absurd w (by omega))
  refine f_L_new (sort := 0) (idx := nG d) rfl rfl (by omega) hS hy hT hq k1 hN n20 (fun u1 b1 b2 b3 b4 => ?_)
  have F1 : FTl t s u1 := ⟨fun x h1 _ => b1 x h1, b2⟩
  have T1 := hT.l et F1
  have key : ∀ a1 f1, LQ a1 f1 u1 → (f1 = 0 → kK T L M a1 = 3 ∧ kK T L M (a1 + 1) = 3) → (∀ u y2 y4 a4 f4, LQ a4 f4 u → FTl t u1 u → u.1 t 11 = nI (nG d + 1) → (∀ j, j ≠ 11 → u.1 t j = s.1 t j) → u.1 (t + 1) = upd (s.1 (t + 1)) (nG d) y2 → u.1 (t + 2) = upd (s.1 (t + 2)) (nG d) y4 → (∀ x, t + 3 ≤ x → x < t + 14 → u.1 x = s.1 x) → u.1 24 3 = u1.1 24 3 → u.2 25 = u1.2 25 → u.1 26 = u1.1 26 → u.1 27 = u1.1 27 → (f1 ≠ 0 → a4 = a1 ∧ f4 = f1) → (f1 = 0 → ¬ (0 ≤ vV T L a1 ∧ vV T L a1 ≤ 9999) → a4 = a1 ∧ f4 = 5) → (f1 = 0 → (0 ≤ vV T L a1 ∧ vV T L a1 ≤ 9999) → if 0 ≤ vV T L (a1 + 1) ∧ vV T L (a1 + 1) ≤ 99 then a4 = a1 + 2 ∧ f4 = 0 ∧ y2 = nI (vV T L a1) ∧ y4 = nI (vV T L (a1 + 1)) else a4 = a1 + 1 ∧ f4 = 5) → R u) → GI E m_Teller_takeNumber [.ref 24, .int 0, .int 9999] g u1 (fun y2_ t2_ => vp_in (nI (nG d)) 6 ∧ (∀ s3_, s3_ = wi t2_ (t + 1) (nG d) y2_ → GI E m_Teller_takeNumber [.ref 24, .int 0, .int 99] g s3_ (fun y4_ t4_ => (∀ s5_, s5_ = wi t4_ (t + 2) (nG d) y4_ → (∀ s6_, s6_ = wi s5_ t 11 ((s5_.1 t 11) + 1) → qV g R none (mk g s6_)))))) := by
    intro a1 f1 q1 kk hh
    refine f_L_number (lo := 0) (hi := 9999) rfl rfl (by omega) (by omega) hS hy T1 q1 (fun w => (kk w).1) (fun y2 a2 f2 u2 c1 c2 c3 c4 => ⟨vp_in_nI (by omega) (by omega), fun s3 e3 => ?_⟩)
    have q3 : LQ a2 f2 s3 := c1.mv (by rw [e3, wi_n _ _ _ (by omega)])
    have F3 : FTl t u1 s3 := c2.l.tr (by rw [e3]; exact FTl.w (by omega))
    refine f_L_number (lo := 0) (hi := 99) rfl rfl (by omega) (by omega) hS hy (T1.l et F3) q3 (fun w => ?_) (fun y4 a4 f4 u4 p1 p2 p3 p4 s5 e5 s6 e6 => GV.r ?_)
    · by_cases z : f1 = 0
      · have := c4 z
        split at this
        · rw [this.1]; exact (kk z).2
        · omega
      · have := c3 z; omega
    · have au : ∀ x, x ≠ t → x ≠ t + 1 → x ≠ t + 2 → x ≠ 24 → s6.1 x = u1.1 x := fun x h1 h2 h3 h4 => by
        rw [e6, wi_n _ _ _ h1, e5, wi_n _ _ _ h3, p2.1 x h4, e3, wi_n _ _ _ h2, c2.1 x h4]
      have at0 : s5.1 t = s.1 t := by rw [e5, wi_n _ _ _ (by omega), p2.1 t (by omega), e3, wi_n _ _ _ (by omega), c2.1 t (by omega), b1 t (by omega)]
      have a24 : s6.1 24 = u4.1 24 := by rw [e6, wi_n _ _ _ (by omega), e5, wi_n _ _ _ (by omega)]
      refine hh s6 y2 y4 a4 f4 (p1.mv a24) ?_ ?_ ?_ ?_ ?_ ?_ ?_ ?_ ?_ ?_ (fun z => ?_) (fun z nb => ?_) (fun z nb => ?_)
      · exact F3.tr (p2.l.tr (by rw [e6, e5]; exact (FTl.w (by omega)).tr (FTl.w (by omega))))
      · rw [e6, wi_s, upd_s, at0, hC.1.gr, nI_1]
      · intro j hj; rw [e6, wi_s, upd_n _ _ hj, at0]
      · rw [e6, wi_n _ _ _ (by omega), e5, wi_n _ _ _ (by omega), p2.1 _ (by omega), e3, wi_s, c2.1 _ (by omega), b1 _ (by omega)]
      · rw [e6, wi_n _ _ _ (by omega), e5, wi_s, p2.1 _ (by omega), e3, wi_n _ _ _ (by omega), c2.1 _ (by omega), b1 _ (by omega)]
      · intro x h1 h2; rw [au x (by omega) (by omega) (by omega) (by omega), b1 x (by omega)]
      · rw [a24, p2.2.1 3 (by decide) (by decide), e3, wi_n _ _ _ (by omega), c2.2.1 3 (by decide) (by decide)]
      · rw [e6, wi_2, e5, wi_2, p2.2.2, e3, wi_2, c2.2.2]
      · exact au 26 (by omega) (by omega) (by omega) (by omega)
      · exact au 27 (by omega) (by omega) (by omega) (by omega)
      · obtain ⟨w1, w2, -⟩ := c3 z
        obtain ⟨w3, w4, -⟩ := p3 (by omega)
        exact ⟨by omega, by omega⟩
      · have := c4 z
        rw [if_neg nb] at this
        obtain ⟨w3, w4, -⟩ := p3 (by omega)
        exact ⟨by omega, by omega⟩
      · have := c4 z
        rw [if_pos nb] at this
        have p := p4 this.2.1
        rw [this.1] at p
        split
        · rename_i w; rw [if_pos w] at p; exact ⟨by omega, p.2.1, this.2.2, p.2.2⟩
        · rename_i w; rw [if_neg w] at p; exact ⟨by omega, p.2.1⟩
  by_cases dup : nlH (vV T L a) nl = true
  · refine key a 3 (b3 dup) (fun w => absurd w (by omega)) (fun u y2 y4 a4 f4 q c1 _ _ _ _ _ _ _ _ _ w1 _ _ => h u (F1.tr c1) ?_)
    unfold sGrain
    rw [if_pos dup]
    obtain ⟨x1, x2⟩ := w1 (by omega)
    rw [x1, x2] at q
    exact ⟨q, by show (3 : Nat) ≠ 0; omega⟩
  · obtain ⟨q1, N1⟩ := b4 dup
    refine key (a + 1) 0 q1 (fun _ => ⟨k2, k3⟩) (fun u y2 y4 a4 f4 q c1 d1 d2 d3 d4 d5 d6 d7 d8 d9 _ w2 w3 => h u (F1.tr c1) ?_)
    unfold sGrain
    rw [if_neg dup]
    by_cases r1 : 0 ≤ vV T L (a + 1) ∧ vV T L (a + 1) ≤ 9999
    · rw [if_neg (fun w => w r1)]
      have w := w3 rfl r1
      by_cases r2 : 0 ≤ vV T L (a + 2) ∧ vV T L (a + 2) ≤ 99
      · rw [if_pos r2] at w
        rw [if_neg (fun y => y r2)]
        obtain ⟨x1, x2, x3, x4⟩ := w
        rw [x1, x2] at q
        rw [x3] at d3
        rw [x4] at d4
        exact ⟨q, hC.gr hD g6 m5 d1 d2 d3 d4 d5, N1.mv d6 d7 d8 d9⟩
      · rw [if_neg r2] at w
        rw [if_pos r2]
        rw [w.1, w.2] at q
        exact ⟨q, by show (5 : Nat) ≠ 0; omega⟩
    · rw [if_pos r1]
      have w := w2 rfl r1
      rw [w.1, w.2] at q
      exact ⟨q, by show (5 : Nat) ≠ 0; omega⟩
theorem f_L_hole {R : MS → Prop} {a : Nat} (hS : SX g) (et : t = 88 ∨ t = 104) (hy : g.2.2 24 4 = some 18) (hx : g.2.2 24 5 = some t) (hT : TkC T L M s) (hq : LQ a 0 s) (k1 : kK T L M a = 2) (k2 : kK T L M (a + 1) = 3) (k3 : kK T L M (a + 2) = 2) (hN : NCl nl s) (n20 : nl.length < 20) (h6 : nH d < 6) (hC : TCf d t s)
    (h : ∀ u, FTl t s u → SRok t (a + 3) (sHole T L a d nl) u → R u) : GV E m_Teller_fillHole [.ref 24] g s R := by
  refine v_Teller_fillHole (Q := qV g R) t hS et hx ?_
  rw [hC.1.ho, tn_n (by omega)]
  refine pk_lt (nH d) 6 (fun _ => ?_) (fun w => absurd w (by omega))
  refine f_L_new (sort := 1) (idx := nH d) rfl rfl (by omega) hS hy hT hq k1 hN n20 (fun u1 b1 b2 b3 b4 => ?_)
  have F1 : FTl t s u1 := ⟨fun x h1 _ => b1 x h1, b2⟩
  have T1 := hT.l et F1
  have key : ∀ a1 f1, LQ a1 f1 u1 → (f1 = 0 → kK T L M a1 = 3 ∧ kK T L M (a1 + 1) = 2) → (f1 = 0 → NCl (nl ++ [(vV T L a, 1, nH d)]) u1) → (∀ u y2 y4 a4 f4, LQ a4 f4 u → FTl t u1 u → u.1 t 12 = nI (nH d + 1) → (∀ j, j ≠ 12 → u.1 t j = s.1 t j) → u.1 (t + 3) = upd (s.1 (t + 3)) (nH d) y2 → u.1 (t + 4) = upd (s.1 (t + 4)) (nH d) y4 → (∀ x, t + 1 ≤ x → x < t + 14 → x ≠ t + 3 → x ≠ t + 4 → u.1 x = s.1 x) → u.1 24 3 = u1.1 24 3 → u.2 25 = u1.2 25 → u.1 26 = u1.1 26 → u.1 27 = u1.1 27 → (f1 ≠ 0 → a4 = a1 ∧ f4 = f1) → (f1 = 0 → ¬ (1 ≤ vV T L a1 ∧ vV T L a1 ≤ 30) → a4 = a1 ∧ f4 = 5) → (f1 = 0 → (1 ≤ vV T L a1 ∧ vV T L a1 ≤ 30) → (∀ i, nlF (vV T L (a1 + 1)) 0 nl = some i → a4 = a1 + 2 ∧ f4 = 0 ∧ y2 = nI (vV T L a1) ∧ y4 = nI i) ∧ (nlF (vV T L (a1 + 1)) 0 nl = none → a4 = a1 + 1 ∧ f4 = 4)) → R u) → GI E m_Teller_takeNumber [.ref 24, .int 1, .int 30] g u1 (fun y2_ t2_ => vp_in (nI (nH d)) 6 ∧ (∀ s3_, s3_ = wi t2_ (t + 3) (nH d) y2_ → GI E m_Teller_takeName [.ref 24, .int 4] g s3_ (fun y4_ t4_ => (∀ s5_, s5_ = wi t4_ (t + 4) (nH d) y4_ → (∀ s6_, s6_ = wi s5_ t 12 ((s5_.1 t 12) + 1) → qV g R none (mk g s6_)))))) := by
    intro a1 f1 q1 kk nn hh
    refine f_L_number (lo := 1) (hi := 30) rfl rfl (by omega) (by omega) hS hy T1 q1 (fun w => (kk w).1) (fun y2 a2 f2 u2 c1 c2 c3 c4 => ⟨vp_in_nI (by omega) (by omega), fun s3 e3 => ?_⟩)
    have q3 : LQ a2 f2 s3 := c1.mv (by rw [e3, wi_n _ _ _ (by omega)])
    have F3 : FTl t u1 s3 := c2.l.tr (by rw [e3]; exact FTl.w (by omega))
    have f0 : f2 = 0 → f1 = 0 ∧ (1 ≤ vV T L a1 ∧ vV T L a1 ≤ 30) ∧ a2 = a1 + 1 := fun w => by
      by_cases z : f1 = 0
      · have := c4 z
        split at this
        · rename_i w; exact ⟨z, w, this.1⟩
        · omega
      · have := c3 z; omega
    refine f_L_name (sort := 0) (nl := nl ++ [(vV T L a, 1, nH d)]) rfl (by omega) hS hy (T1.l et F3) q3 (fun w => ?_) (fun w => ?_) (fun y4 a4 f4 u4 p1 p2 p3 p4 s5 e5 s6 e6 => GV.r ?_)
    · rw [(f0 w).2.2]; exact (kk (f0 w).1).2
    · rw [e3]; exact ((nn (f0 w).1).a c2).w (by omega)
    · rw [nlF_app (x := (vV T L a, 1, nH d)) (show (1 : Nat) ≠ 0 by omega)] at p4
      have au : ∀ x, x ≠ t → x ≠ t + 3 → x ≠ t + 4 → x ≠ 24 → s6.1 x = u1.1 x := fun x h1 h2 h3 h4 => by
        rw [e6, wi_n _ _ _ h1, e5, wi_n _ _ _ h3, p2.1 x h4, e3, wi_n _ _ _ h2, c2.1 x h4]
      have at0 : s5.1 t = s.1 t := by rw [e5, wi_n _ _ _ (by omega), p2.1 t (by omega), e3, wi_n _ _ _ (by omega), c2.1 t (by omega), b1 t (by omega)]
      have a24 : s6.1 24 = u4.1 24 := by rw [e6, wi_n _ _ _ (by omega), e5, wi_n _ _ _ (by omega)]
      refine hh s6 y2 y4 a4 f4 (p1.mv a24) ?_ ?_ ?_ ?_ ?_ ?_ ?_ ?_ ?_ ?_ (fun z => ?_) (fun z nb => ?_) (fun z nb => ?_)
      · exact F3.tr (p2.l.tr (by rw [e6, e5]; exact (FTl.w (by omega)).tr (FTl.w (by omega))))
      · rw [e6, wi_s, upd_s, at0, hC.1.ho, nI_1]
      · intro j hj; rw [e6, wi_s, upd_n _ _ hj, at0]
      · rw [e6, wi_n _ _ _ (by omega), e5, wi_n _ _ _ (by omega), p2.1 _ (by omega), e3, wi_s, c2.1 _ (by omega), b1 _ (by omega)]
      · rw [e6, wi_n _ _ _ (by omega), e5, wi_s, p2.1 _ (by omega), e3, wi_n _ _ _ (by omega), c2.1 _ (by omega), b1 _ (by omega)]
      · intro x h1 h2 h3 h4; rw [au x (by omega) (by omega) (by omega) (by omega), b1 x (by omega)]
      · rw [a24, p2.2.1 3 (by decide) (by decide), e3, wi_n _ _ _ (by omega), c2.2.1 3 (by decide) (by decide)]
      · rw [e6, wi_2, e5, wi_2, p2.2.2, e3, wi_2, c2.2.2]
      · exact au 26 (by omega) (by omega) (by omega) (by omega)
      · exact au 27 (by omega) (by omega) (by omega) (by omega)
      · obtain ⟨w1, w2, -⟩ := c3 z
        obtain ⟨w3, w4, -⟩ := p3 (by omega)
        exact ⟨by omega, by omega⟩
      · have := c4 z
        rw [if_neg nb] at this
        obtain ⟨w3, w4, -⟩ := p3 (by omega)
        exact ⟨by omega, by omega⟩
      · have := c4 z
        rw [if_pos nb] at this
        have p := p4 this.2.1
        rw [this.1] at p
        refine ⟨fun i ei => ?_, fun ei => ?_⟩
        · obtain ⟨w1, w2, w3⟩ := p.1 i ei; exact ⟨by omega, w2, this.2.2, w3⟩
        · obtain ⟨w1, w2, -⟩ := p.2 ei; exact ⟨w1, w2⟩
  by_cases dup : nlH (vV T L a) nl = true
  · refine key a 3 (b3 dup) (fun w => absurd w (by omega)) (fun w => absurd w (by omega)) (fun u y2 y4 a4 f4 q c1 _ _ _ _ _ _ _ _ _ w1 _ _ => h u (F1.tr c1) ?_)
    unfold sHole
    rw [if_pos dup]
    obtain ⟨x1, x2⟩ := w1 (by omega)
    rw [x1, x2] at q
    exact ⟨q, by show (3 : Nat) ≠ 0; omega⟩
  · obtain ⟨q1, N1⟩ := b4 dup
    refine key (a + 1) 0 q1 (fun _ => ⟨k2, k3⟩) (fun _ => N1) (fun u y2 y4 a4 f4 q c1 d1 d2 d3 d4 d5 d6 d7 d8 d9 _ w2 w3 => h u (F1.tr c1) ?_)
    unfold sHole
    rw [if_neg dup]
    by_cases r1 : 1 ≤ vV T L (a + 1) ∧ vV T L (a + 1) ≤ 30
    · rw [if_neg (fun w => w r1)]
      have w := w3 rfl r1
      rw [show a + 1 + 1 = a + 2 by omega] at w
      cases hf : nlF (vV T L (a + 2)) 0 nl with
      | none =>
        obtain ⟨x1, x2⟩ := w.2 hf
        rw [x1, x2] at q
        exact ⟨q, by show (4 : Nat) ≠ 0; omega⟩
      | some i =>
        obtain ⟨x1, x2, x3, x4⟩ := w.1 i hf
        rw [x1, x2] at q
        rw [x3] at d3
        rw [x4] at d4
        exact ⟨q, hC.ho h6 d1 d2 d3 d4 d5, N1.mv d6 d7 d8 d9⟩
    · rw [if_pos r1]
      have w := w2 rfl r1
      rw [w.1, w.2] at q
      exact ⟨q, by show (5 : Nat) ≠ 0; omega⟩
end Fill2
