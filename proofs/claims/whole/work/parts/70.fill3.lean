/-! THE CLASS'S TELLER: fillRat -/
section Fill3
variable {E : EN} {g : GS} {s : MS} {T : Nat → Nat} {L M : Nat} {d : TD} {nl : NL} {t : Nat}
theorem f_L_rat {R : MS → Prop} {a : Nat} (hS : SX g) (et : t = 88 ∨ t = 104) (hy : g.2.2 24 4 = some 18) (hx : g.2.2 24 5 = some t) (hT : TkC T L M s) (hq : LQ a 0 s) (k1 : kK T L M a = 2) (k2 : kK T L M (a + 1) = 2) (k3 : kK T L M (a + 2) = 2) (k4 : kK T L M (a + 3) = 3) (k5 : kK T L M (a + 4) = 3) (hN : NCl nl s) (n20 : nl.length < 20) (r8 : nR d < 8) (hC : TCf d t s)
    (h : ∀ u, FTl t s u → SRok t (a + 5) (sRat T L a d nl) u → R u) : GV E m_Teller_fillRat [.ref 24] g s R := by
  refine v_Teller_fillRat (Q := qV g R) t hS et hx ?_
  rw [hC.1.ra, tn_n (by omega)]
  refine pk_lt (nR d) 8 (fun _ => ?_) (fun w => absurd w (by omega))
  refine f_L_new (sort := 2) (idx := nR d) rfl rfl (by omega) hS hy hT hq k1 hN n20 (fun u1 b1 b2 b3 b4 => ?_)
  have F1 : FTl t s u1 := ⟨fun x h1 _ => b1 x h1, b2⟩
  have T1 := hT.l et F1
  have ini : ∃ a1 f1, LQ a1 f1 u1 ∧ (nlH (vV T L a) nl = true → a1 = a ∧ f1 = 3) ∧ (f1 = 0 → ¬ nlH (vV T L a) nl = true ∧ a1 = a + 1 ∧ NCl (nl ++ [(vV T L a, 2, nR d)]) u1) ∧ (¬ nlH (vV T L a) nl = true → f1 = 0) := by
    by_cases dup : nlH (vV T L a) nl = true
    · exact ⟨a, 3, b3 dup, fun _ => ⟨rfl, rfl⟩, fun w => absurd w (by omega), fun w => absurd dup w⟩
    · exact ⟨a + 1, 0, (b4 dup).1, fun w => absurd w dup, fun _ => ⟨dup, rfl, (b4 dup).2⟩, fun _ => rfl⟩
  obtain ⟨a1, f1, q1, i1, i2, i3⟩ := ini
  -- the first name
  refine f_L_name (sort := 0) (nl := nl ++ [(vV T L a, 2, nR d)]) rfl (by omega) hS hy T1 q1 (fun w => by rw [(i2 w).2.1]; exact k2) (fun w => (i2 w).2.2) (fun y2 a2 f2 u2 c1 c2 c3 c4 => ⟨vp_in_nI (by omega) (by omega), fun s3 e3 => ?_⟩)
  rw [nlF_app (x := (vV T L a, 2, nR d)) (show (2 : Nat) ≠ 0 by omega)] at c4
  have q3 : LQ a2 f2 s3 := c1.mv (by rw [e3, wi_n _ _ _ (by omega)])
  have F3 : FTl t u1 s3 := c2.l.tr (by rw [e3]; exact FTl.w (by omega))
  have j2 : f2 = 0 → f1 = 0 ∧ a2 = a + 2 ∧ ∃ i, nlF (vV T L (a + 1)) 0 nl = some i ∧ y2 = nI i := fun w => by
    by_cases z : f1 = 0
    · have := c4 z
      rw [(i2 z).2.1] at this
      cases hf : nlF (vV T L (a + 1)) 0 nl with
      | none => have := (this.2 hf).2.1; omega
      | some i => exact ⟨z, by have := (this.1 i hf).1; omega, i, rfl, (this.1 i hf).2.2⟩
    · have := c3 z; omega
  -- the second
  refine f_L_name (sort := 1) (nl := nl ++ [(vV T L a, 2, nR d)]) rfl (by omega) hS hy (T1.l et F3) q3 (fun w => by rw [(j2 w).2.1]; exact k3) (fun w => by rw [e3]; exact ((i2 (j2 w).1).2.2.a c2).w (by omega)) (fun y4 a4 f4 u4 p1 p2 p3 p4 s5 e5 => ?_)
  rw [nlF_app (x := (vV T L a, 2, nR d)) (show (2 : Nat) ≠ 1 by omega)] at p4
  have q5 : LQ a4 f4 s5 := p1.mv (by rw [e5, wi_n _ _ _ (by omega)])
  have F5 : FTl t u1 s5 := F3.tr (p2.l.tr (by rw [e5]; exact FTl.w (by omega)))
  have j4 : f4 = 0 → f2 = 0 ∧ a4 = a + 3 ∧ ∃ i, nlF (vV T L (a + 2)) 1 nl = some i ∧ y4 = nI i := fun w => by
    by_cases z : f2 = 0
    · have := p4 z
      rw [(j2 z).2.1] at this
      cases hf : nlF (vV T L (a + 2)) 1 nl with
      | none => have := (this.2 hf).2.1; omega
      | some i => exact ⟨z, by have := (this.1 i hf).1; omega, i, rfl, (this.1 i hf).2.2⟩
    · have := p3 z; omega
  -- fat
  refine f_L_number (lo := 0) (hi := 9) rfl rfl (by omega) (by omega) hS hy (T1.l et F5) q5 (fun w => by rw [(j4 w).2.1]; exact k4) (fun y6 a6 f6 u6 r1 r2 r3 r4 s7 e7 => ?_)
  have q7 : LQ a6 f6 s7 := r1.mv (by rw [e7, wi_n _ _ _ (by omega)])
  have F7 : FTl t u1 s7 := F5.tr (r2.l.tr (by rw [e7]; exact FTl.w (by omega)))
  have j6 : f6 = 0 → f4 = 0 ∧ a6 = a + 4 ∧ (0 ≤ vV T L (a + 3) ∧ vV T L (a + 3) ≤ 9) ∧ y6 = nI (vV T L (a + 3)) := fun w => by
    by_cases z : f4 = 0
    · have := r4 z
      rw [(j4 z).2.1] at this
      split at this
      · rename_i y; exact ⟨z, by omega, y, this.2.2⟩
      · omega
    · have := r3 z; omega
  -- fee
  refine f_L_number (lo := 0) (hi := 99) rfl rfl (by omega) (by omega) hS hy (T1.l et F7) q7 (fun w => by rw [(j6 w).2.1]; exact k5) (fun y8 a8 f8 u8 x1 x2 x3 x4 s9 e9 s10 e10 => GV.r (h s10 ?_ ?_))
  · exact F1.tr (F7.tr (x2.l.tr (by rw [e10, e9]; exact (FTl.w (by omega)).tr (FTl.w (by omega)))))
  have a24 : s10.1 24 = u8.1 24 := by rw [e10, wi_n _ _ _ (by omega), e9, wi_n _ _ _ (by omega)]
  have q10 : LQ a8 f8 s10 := x1.mv a24
  have flt : ∀ j c : Nat, c ≠ 0 → f8 = c → a8 = j → SRok t (a + 5) (.inl (c, j)) s10 := fun j c hc e1 e2 => by
    rw [e1, e2] at q10; exact ⟨q10, hc⟩
  unfold sRat
  by_cases dup : nlH (vV T L a) nl = true
  · rw [if_pos dup]
    obtain ⟨w1, w2⟩ := i1 dup
    obtain ⟨w3, w4, -⟩ := c3 (by omega)
    obtain ⟨w5, w6, -⟩ := p3 (by omega)
    obtain ⟨w7, w8, -⟩ := r3 (by omega)
    obtain ⟨w9, w10, -⟩ := x3 (by omega)
    exact flt a 3 (by omega) (by omega) (by omega)
  rw [if_neg dup]
  have z1 := i3 dup
  obtain ⟨-, ea1, N1⟩ := i2 z1
  have cc := c4 z1
  rw [ea1] at cc
  cases hf : nlF (vV T L (a + 1)) 0 nl with
  | none =>
    obtain ⟨w3, w4, -⟩ := cc.2 hf
    obtain ⟨w5, w6, -⟩ := p3 (by omega)
    obtain ⟨w7, w8, -⟩ := r3 (by omega)
    obtain ⟨w9, w10, -⟩ := x3 (by omega)
    exact flt (a + 1) 4 (by omega) (by omega) (by omega)
  | some i =>
    obtain ⟨w3, w4, w5⟩ := cc.1 i hf
    have pp := p4 w4
    rw [w3] at pp
    cases hg : nlF (vV T L (a + 2)) 1 nl with
    | none =>
      obtain ⟨w6, w7, -⟩ := pp.2 hg
      obtain ⟨w8, w9, -⟩ := r3 (by omega)
      obtain ⟨w10, w11, -⟩ := x3 (by omega)
      exact flt (a + 2) 4 (by omega) (by omega) (by omega)
    | some j =>
      obtain ⟨w6, w7, w8⟩ := pp.1 j hg
      have rr := r4 w7
      rw [w6] at rr
      show SRok t (a + 5) (if ¬ (0 ≤ vV T L (a + 3) ∧ vV T L (a + 3) ≤ 9) then .inl (5, a + 3) else if ¬ (0 ≤ vV T L (a + 4) ∧ vV T L (a + 4) ≤ 99) then .inl (5, a + 4) else .inr (aRa d i j (nI (vV T L (a + 3))) (nI (vV T L (a + 4))), nl ++ [(vV T L a, 2, nR d)])) s10
      by_cases c9 : 0 ≤ vV T L (a + 3) ∧ vV T L (a + 3) ≤ 9
      · rw [if_neg (fun y => y c9)]
        rw [if_pos (show 0 ≤ vV T L (a + 1 + 1 + 1) ∧ vV T L (a + 1 + 1 + 1) ≤ 9 from c9)] at rr
        obtain ⟨w9, w10, w11⟩ := rr
        have xx := x4 w10
        rw [w9] at xx
        by_cases c99 : 0 ≤ vV T L (a + 4) ∧ vV T L (a + 4) ≤ 99
        · rw [if_neg (fun y => y c99)]
          rw [if_pos (show 0 ≤ vV T L (a + 1 + 1 + 1 + 1) ∧ vV T L (a + 1 + 1 + 1 + 1) ≤ 99 from c99)] at xx
          obtain ⟨w12, w13, w14⟩ := xx
          rw [w12, w13] at q10
          have au : ∀ x, x ≠ t → (x < t + 5 ∨ t + 9 ≤ x) → x ≠ 24 → s10.1 x = u1.1 x := fun x h1 h2 h3 => by
            rw [e10, wi_n _ _ _ h1, e9, wi_n _ _ _ (by omega), x2.1 x h3, e7, wi_n _ _ _ (by omega), r2.1 x h3, e5, wi_n _ _ _ (by omega), p2.1 x h3, e3, wi_n _ _ _ (by omega), c2.1 x h3]
          have s9t : s9.1 t = s.1 t := by rw [e9, wi_n _ _ _ (by omega), x2.1 t (by omega), e7, wi_n _ _ _ (by omega), r2.1 t (by omega), e5, wi_n _ _ _ (by omega), p2.1 t (by omega), e3, wi_n _ _ _ (by omega), c2.1 t (by omega), b1 t (by omega)]
          refine ⟨q10, hC.ra r8 ?_ ?_ ?_ ?_ ?_ ?_ ?_, N1.mv ?_ ?_ ?_ ?_⟩
          · rw [e10, wi_s, upd_s, s9t, hC.1.ra, nI_1]
          · intro k hk; rw [e10, wi_s, upd_n _ _ hk, s9t]
          · rw [e10, wi_n _ _ _ (by omega), e9, wi_n _ _ _ (by omega), x2.1 _ (by omega), e7, wi_n _ _ _ (by omega), r2.1 _ (by omega), e5, wi_n _ _ _ (by omega), p2.1 _ (by omega), e3, wi_s, c2.1 _ (by omega), b1 _ (by omega), w5]
          · rw [e10, wi_n _ _ _ (by omega), e9, wi_n _ _ _ (by omega), x2.1 _ (by omega), e7, wi_n _ _ _ (by omega), r2.1 _ (by omega), e5, wi_s, p2.1 _ (by omega), e3, wi_n _ _ _ (by omega), c2.1 _ (by omega), b1 _ (by omega), w8]
          · rw [e10, wi_n _ _ _ (by omega), e9, wi_n _ _ _ (by omega), x2.1 _ (by omega), e7, wi_s, r2.1 _ (by omega), e5, wi_n _ _ _ (by omega), p2.1 _ (by omega), e3, wi_n _ _ _ (by omega), c2.1 _ (by omega), b1 _ (by omega), w11]
          · rw [e10, wi_n _ _ _ (by omega), e9, wi_s, x2.1 _ (by omega), e7, wi_n _ _ _ (by omega), r2.1 _ (by omega), e5, wi_n _ _ _ (by omega), p2.1 _ (by omega), e3, wi_n _ _ _ (by omega), c2.1 _ (by omega), b1 _ (by omega), w14]
          · intro x h1 h2 h3; rw [au x (by omega) h3 (by omega), b1 x (by omega)]
          · rw [a24, x2.2.1 3 (by decide) (by decide), e7, wi_n _ _ _ (by omega), r2.2.1 3 (by decide) (by decide), e5, wi_n _ _ _ (by omega), p2.2.1 3 (by decide) (by decide), e3, wi_n _ _ _ (by omega), c2.2.1 3 (by decide) (by decide)]
          · rw [e10, wi_2, e9, wi_2, x2.2.2, e7, wi_2, r2.2.2, e5, wi_2, p2.2.2, e3, wi_2, c2.2.2]
          · exact au 26 (by omega) (by omega) (by omega)
          · exact au 27 (by omega) (by omega) (by omega)
        · rw [if_pos c99]
          rw [if_neg (show ¬ (0 ≤ vV T L (a + 1 + 1 + 1 + 1) ∧ vV T L (a + 1 + 1 + 1 + 1) ≤ 99) from c99)] at xx
          exact flt (a + 4) 5 (by omega) xx.2.1 xx.1
      · rw [if_pos c9]
        rw [if_neg (show ¬ (0 ≤ vV T L (a + 1 + 1 + 1) ∧ vV T L (a + 1 + 1 + 1) ≤ 9) from c9)] at rr
        obtain ⟨w9, w10, -⟩ := rr
        obtain ⟨w12, w13, -⟩ := x3 (by omega)
        exact flt (a + 3) 5 (by omega) (by omega) (by omega)
end Fill3
