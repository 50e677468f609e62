/-! THE REFERENCE's tellOne -/
section One2
variable {E : EN} {g : GS} {s : MS} {T : Nat → Nat} {L M sd lv : Nat} {d : TD} {nl : NL}
theorem rk_else1 : ∀ k, k < 33 → ¬ (4 ≤ k ∧ k ≤ 13) → (rk k < 20 ∨ 29 < rk k) := by decide +kernel
theorem rk_else2 : ∀ k, k < 33 → ¬ (4 ≤ k ∧ k ≤ 13) → (nI (rk k) - 23 < 0 ∨ (¬ nI (rk k) - 23 < 0 ∧ ¬ nI (rk k) ≤ 25)) := by decide +kernel
theorem rk_else3 {k : Nat} (h : k < 33) (hk : ¬ (4 ≤ k ∧ k ≤ 13)) {j : Nat} (h1 : 20 ≤ j) (h2 : j ≤ 29) : ¬ nI (rk k) = nI j := fun z => by
  have := rk_else1 k h hk
  have := rk_lt k h
  have := (nI_eq (by omega) (by omega)).mp z
  omega
theorem dL_t {T : Nat → Nat} {L M : Nat} {q : Nat × Nat} {d : TD} {nl : NL} {y : TD × NL} (hk : ¬ (kK T L M q.1 = 7 ∨ kK T L M q.1 = 8 ∨ kK T L M q.1 = 9)) (hb : 4 ≤ kK T L M q.1 ∧ kK T L M q.1 ≤ 13) (e : sTell T L (kK T L M) q.1 d nl = .inr y) : dL y.1 = dL d := by
  unfold sTell at e
  split at e
  · unfold sGrain at e
    split at e
    · exact absurd e (by simp)
    · split at e
      · exact absurd e (by simp)
      · split at e
        · exact absurd e (by simp)
        · injection e with e; rw [← e]; rfl
  · split at e
    · unfold sHole at e
      split at e
      · exact absurd e (by simp)
      · split at e
        · exact absurd e (by simp)
        · split at e
          · exact absurd e (by simp)
          · injection e with e; rw [← e]; rfl
    · split at e
      · unfold sRat at e
        split at e
        · exact absurd e (by simp)
        · split at e
          · exact absurd e (by simp)
          · split at e
            · exact absurd e (by simp)
            · split at e
              · exact absurd e (by simp)
              · split at e
                · exact absurd e (by simp)
                · injection e with e; rw [← e]; rfl
      · split at e
        · unfold sMer at e
          split at e
          · exact absurd e (by simp)
          · split at e
            · exact absurd e (by simp)
            · injection e with e; rw [← e]; rfl
        · split at e
          · unfold sNum at e
            split at e
            · injection e with e; rw [← e]; rfl
            · exact absurd e (by simp)
          · split at e
            · unfold sNum at e
              split at e
              · injection e with e; rw [← e]; rfl
              · exact absurd e (by simp)
            · split at e
              · unfold sNum at e
                split at e
                · injection e with e; rw [← e]; rfl
                · exact absurd e (by simp)
              · omega
theorem f_M_one {R : MS → Prop} {q : Nat × Nat} {c : Nat → Nat} {cB cC : Nat} {b : Option (Nat × Nat)} (hl : lv + sd = 1) (hL : L ≤ 2000) (hS : SX g) (hT : TkR T L M s) (hq : RQ T L M q s) (hz : q.2 = 0) (k0 : kK T L M q.1 ≠ 0) (hb : BE b q.1) (hZ : RZ T L M sd c cB cC q.1 b d nl s) (hP : b = none → PIv d nl) (hc : ∀ w, c w ≤ q.1)
    (h : ∀ u, FPb lv s u → RQ T L M (gTell (kK T L M) c q) u → ((gTell (kK T L M) c q).2 = 0 → ∃ cB' cC', RZ T L M sd (gInc c (kK T L M q.1)) cB' cC' (gTell (kK T L M) c q).1 (rB b (sTell T L (kK T L M) q.1 d nl)) (rD d (sTell T L (kK T L M) q.1 d nl)) (rN nl (sTell T L (kK T L M) q.1 d nl)) u) → R u) : GV E m_Mo_tellOne [.ref 120] g s R := by
  have q5 := hq.2.2.2.2.1
  have q6 := hq.2.2.2.2.2.1
  have kl := kK_lt T L M q.1
  obtain ⟨zx, z2, z3, z4, z5, z6, z7, z8, z9⟩ := hZ
  have hZ' : RZ T L M sd c cB cC q.1 b d nl s := ⟨zx, z2, z3, z4, z5, z6, z7, z8, z9⟩
  have zx' := zx
  obtain ⟨x1, x2, x3, ⟨x4, x4'⟩, ⟨x5, x5'⟩, ⟨x6, x6'⟩, ⟨x7, x7'⟩, x8, x9⟩ := zx
  refine v_Mo_tellOne (Q := qV g R) hS ?_
  rw [hq.2.1 hz, tn_n (by omega), (hT.k q5 q6).1, x2, tn_n (by omega), x4, x5, x6, x7]
  refine ⟨vp_in_nI (by omega) (by omega), ?_⟩
  by_cases hk : 4 ≤ kK T L M q.1 ∧ kK T L M q.1 ≤ 13
  · -- a fault at the word itself
    have fw : ∀ q1 u, gBeg (kK T L M) c q = q1 → q1.2 ≠ 0 → RQ T L M q1 u → FPb lv s u → R u := fun q1 u e1 e2 u1 u2 => by
      have e3 : gTell (kK T L M) c q = q1 := by rw [gTell_b e1, if_pos e2]
      exact h u u2 (by rw [e3]; exact u1) (fun w => absurd (by rw [e3] at w; exact w) e2)
    have gw : ∀ q1, gBeg (kK T L M) c q = q1 → q1.2 = 0 → gTell (kK T L M) c q = gBody (kK T L M) (kK T L M q.1) q1 ∧ q1 = (q.1 + 1, 0) := fun q1 e1 e2 => by
      refine ⟨by rw [gTell_b e1, if_neg (fun w => w e2)], ?_⟩
      have : (gBeg (kK T L M) c q).2 = 0 := by rw [e1]; exact e2
      unfold gBeg at this e1
      rw [← e1]; exact (gp_ok this).2.2.2.2
    have bw := gBeg_w (K := kK T L M) (c := c) (q := q) hk
    -- rows of names and numbers
    have row : ∀ (mm : Nat) (q1 : Nat × Nat) (t : MS), gMost (kK T L M q.1) = mm → RQ T L M (gp true (decide (c (kK T L M q.1) < mm)) q) t → FRp s t → (∀ (f : MS → Prop), (t.1 120 13 = 0 → gBeg (kK T L M) c q = (q.1 + 1, 0) → RQ T L M (q.1 + 1, 0) t → c (kK T L M q.1) < mm → f t) → (¬ t.1 120 13 = 0 → R t)) := fun mm q1 t em t1 t2 f _ nz => by
      have e1 : gBeg (kK T L M) c q = gp true (decide (c (kK T L M q.1) < mm)) q := by rw [bw, em]
      refine fw _ t e1 (fun w => nz ?_) t1 (FPa.b t2.q.P)
      rw [t1.1, w]; rfl
    have rowz : ∀ (mm : Nat) (t : MS), gMost (kK T L M q.1) = mm → RQ T L M (gp true (decide (c (kK T L M q.1) < mm)) q) t → t.1 120 13 = 0 → gBeg (kK T L M) c q = (q.1 + 1, 0) ∧ RQ T L M (q.1 + 1, 0) t ∧ c (kK T L M q.1) < mm := fun mm t em t1 tz => by
      have e1 : gBeg (kK T L M) c q = gp true (decide (c (kK T L M q.1) < mm)) q := by rw [bw, em]
      have t7 := t1.2.2.2.2.2.2
      rw [t1.1] at tz
      have z : (gp true (decide (c (kK T L M q.1) < mm)) q).2 = 0 := (nI_eq (by omega) (by omega)).mp (show nI _ = nI 0 from tz)
      obtain ⟨-, -, g3, -, g5⟩ := gp_ok z
      rw [g5] at e1 t1
      exact ⟨e1, t1, by simpa using g3⟩
    have be1 : BE b (q.1 + 1) := fun c' j' e => by have := hb c' j' e; omega
    -- numbers
    have num : ∀ (A lo hi : Nat) (f : TD → Int32 → TD) (t : MS) (x1' x2' : Int32), x1' = nI lo → x2' = nI hi → lo ≤ 1 → hi ≤ 9999 → (A = 147 ∨ A = 148 ∨ A = 149) → gMost (kK T L M q.1) = 400 → (∀ q1, gBody (kK T L M) (kK T L M q.1) q1 = gRow (kK T L M) [3, 24] q1) → sTell T L (kK T L M) q.1 d nl = sNum T L lo hi (q.1 + 1) f d nl → (∀ x, x = 4 ∨ x = 5 ∨ x = 6 ∨ x = 10 → gInc c (kK T L M q.1) x = c x) → (∀ v, nG (f d v) = nG d ∧ nH (f d v) = nH d ∧ nR (f d v) = nR d ∧ dM (f d v) = dM d ∧ dL (f d v) = dL d) → (∀ v (s' u' : MS), TR d sd s' → u'.1 A sd = v → (∀ x, 131 ≤ x → x < 159 → x ≠ A → u'.1 x = s'.1 x) → TR (f d v) sd u') → RQ T L M (gp true true q) t → FRp s t → GI E m_Mo_bounded [.ref 120, .int x1', .int x2'] g t (fun y10_ t10_ => vp_in (t.1 120 19) 2 ∧ (∀ s11_, s11_ = wi t10_ A (((t.1 120 19)).toNatClampNeg) y10_ → GV E m_Mo_must [.ref 120, .int 4] g s11_ (fun t12_ => AWP E m_Mo_tellOne 318 0 0 [(0, .ref 120)] [] (mk g t12_) (qV g R)))) := by
      intro A lo hi f t x1' x2' ex1 ex2 hlo hhi hA em eb es ei hf ht t1 t2
      have e1 := gBeg_4 (c := c) hk em (hc _)
      have TT := hT.p t2
      have zt := hZ'.p t2
      have qge := gp_ge true true q
      refine f_M_num (R := R) (q := q) (c := gInc c (kK T L M q.1)) (A := A) (lo := lo) (hi := hi) (cB := cB) (cC := cC) (f := f) (d := d) (nl := nl) (b := b) ex1 ex2 hlo hhi hA hl hL hS TT t1 (fun c' j' e => by have := hb c' j' e; omega) (by rw [t2.2.1 19 (by decide) (by decide) (by decide)]; exact x2) (x1.p t2) (fun w => ?_) hf ht (fun u u1 u2 u3 => GV.r ?_)
      · have en := gp_nx w
        rw [en]
        show RZ T L M sd (gInc c (kK T L M q.1)) cB cC q.1 b d nl t
        have rx := zt.1
        rw [← ei 4 (by omega), ← ei 5 (by omega), ← ei 6 (by omega), ← ei 10 (by omega)] at rx
        exact ⟨rx, zt.2⟩
      · have FB : FPb lv s u := (FPa.b t2.q.P).tr u1.b
        by_cases w : (gp true true q).2 = 0
        · obtain ⟨gg, eq⟩ := gw _ e1 w
          have en := gp_nx w
          rw [eb] at gg
          refine h u FB (by rw [gg]; exact u2) (fun zf => ?_)
          rw [gg] at zf ⊢
          have r := u3 zf
          rw [en] at r
          have r2 := (gRow2 zf).2.2.2
          rw [r2, en, es]
          exact ⟨cB, cC, r⟩
        · have e2 : gRow (kK T L M) [3, 24] (gp true true q) = gp true true q := by
            show gk (kK T L M) 24 (gk (kK T L M) 3 (gp true true q)) = _
            rw [gk_f w, gk_f w]
          rw [e2] at u2
          exact fw _ u e1 w u2 FB
    -- laws
    have law : ∀ (k : Nat), kK T L M q.1 = 7 + k → k < 3 → AWP E m_Mo_tellOne 301 0 0 [(0, .ref 120), (1, .int (nI k))] [] (mk g s) (qV g R) := by
      intro k ek k3
      have em : gMost (kK T L M q.1) = 400 := by unfold gMost; rw [if_neg (by omega), if_neg (by omega), if_neg (by omega)]
      have e1 := gBeg_4 (c := c) hk em (hc _)
      refine v_Mo_tellOne_301 _ hS ?_
      rw [hq.1, hz]
      refine pk_le 0 0 (fun _ => ?_) (fun w => absurd w (by omega))
      refine f_M_goesOn hS hT hq (fun _ => k0) (fun t t1 t2 => ?_)
      have zt := hZ'.p t2
      refine f_M_law (c := gInc c (kK T L M q.1)) (cB := cB) (cC := cC) (b := b) (d := d) (nl := nl) (k := k) rfl k3 hl hS (hT.p t2) t1 (fun w => ?_) (by rw [t2.2.1 45 (by decide) (by decide) (by decide)]; exact z3) (by rw [t2.2.1 51 (by decide) (by decide) (by decide)]; exact z6) ⟨z4, by omega⟩ ⟨z7, by omega⟩ (by rw [t2.2.1 19 (by decide) (by decide) (by decide)]; exact x2) (fun u u1 u2 u3 => v_Mo_tellOne_318 (GV.r ?_))
      · have en := gp_nx w
        rw [en]
        refine ⟨?_, by omega⟩
        show RZ T L M sd (gInc c (kK T L M q.1)) cB cC q.1 b d nl t
        have ei : ∀ x, x = 4 ∨ x = 5 ∨ x = 6 ∨ x = 10 → gInc c (kK T L M q.1) x = c x := fun x hx => by unfold gInc; rw [if_neg (by omega)]
        have rx := zt.1
        rw [← ei 4 (by omega), ← ei 5 (by omega), ← ei 6 (by omega), ← ei 10 (by omega)] at rx
        exact ⟨rx, zt.2⟩
      · have FB : FPb lv s u := (FPa.b t2.q.P).tr u1
        by_cases w : (gp true true q).2 = 0
        · obtain ⟨gg, eq⟩ := gw _ e1 w
          have en := gp_nx w
          have eb : gBody (kK T L M) (kK T L M q.1) (gp true true q) = gLaw (kK T L M) (gp true true q) := by unfold gBody; rw [if_neg (by omega), if_neg (by omega), if_neg (by omega), if_pos (by omega)]
          rw [eb] at gg
          refine h u FB (by rw [gg]; exact u2) (fun zf => ?_)
          rw [gg] at zf ⊢
          obtain ⟨cB', cC', r⟩ := u3 zf
          refine ⟨cB', cC', ?_⟩
          have es : sTell T L (kK T L M) q.1 d nl = .inr (aLaw d k (sLaw (kK T L M) (vV T L) (q.1 + 1)), nl) := by
            unfold sTell
            rw [if_neg (by omega), if_neg (by omega), if_neg (by omega), if_neg (by omega), if_neg (by omega), if_neg (by omega), if_neg (by omega), ek, show 7 + k - 7 = k by omega]
          rw [es]
          rw [en] at r
          have eb2 : rB b (.inr (aLaw d k (sLaw (kK T L M) (vV T L) (q.1 + 1)), nl)) = b := by cases b <;> rfl
          rw [eb2]; exact r
        · have e2 : gLaw (kK T L M) (gp true true q) = gp true true q := by
            unfold gLaw; rw [gk_f w, gL_f w, gSum_f w]
          rw [e2] at u2
          exact fw _ u e1 w u2 FB
    have inc : ∀ (P : Nat → Prop) (w x : Nat), P (gInc c w x) → P (if x = w then c x + 1 else c x) := fun P w x h => h
    -- one by one
    have cases_ : kK T L M q.1 = 4 ∨ kK T L M q.1 = 5 ∨ kK T L M q.1 = 6 ∨ kK T L M q.1 = 7 ∨ kK T L M q.1 = 8 ∨ kK T L M q.1 = 9 ∨ kK T L M q.1 = 10 ∨ kK T L M q.1 = 11 ∨ kK T L M q.1 = 12 ∨ kK T L M q.1 = 13 := by omega
    have sn : ∀ y, rB b (sTell T L (kK T L M) q.1 d nl) = none → ¬ (kK T L M q.1 = 7 ∨ kK T L M q.1 = 8 ∨ kK T L M q.1 = 9) → sTell T L (kK T L M) q.1 d nl = y → b = none ∧ dL (rD d y) = dL d := fun y bn n7 ey => by
      obtain ⟨b0, y', e⟩ := rB_n bn
      refine ⟨b0, ?_⟩
      rw [← ey, e]
      exact dL_t n7 hk e
    rcases cases_ with k | k | k | k | k | k | k | k | k | k
    · -- grain
      have em : gMost (kK T L M q.1) = 6 := by rw [k]; rfl
      have es : sTell T L (kK T L M) q.1 d nl = sGrain T L (q.1 + 1) d nl := by unfold sTell; rw [if_pos k]
      have row' := row 6 q
      have rowz' := rowz 6
      rw [k] at row' rowz' ⊢
      refine ⟨fun z => absurd z (by decide), fun _ => ⟨vp_in_nI x3 (by omega), f_M_roomFor (c := c 4) (m := 6) rfl rfl x4' (by omega) hS hT hq hz k0 (fun t t1 t2 => ⟨fun tz => ?_, fun tz => v_Mo_tellOne_318 (GV.r (row' t (by rw [← k]; exact em) t1 t2 (fun _ => True) (fun _ _ _ _ => trivial) tz))⟩)⟩, fun z => absurd z (by decide), fun z => absurd z (by decide), fun z => absurd z (by decide), fun z => absurd z (by decide), fun z => absurd z (by decide), fun z => absurd z (by decide), fun z => absurd z (by decide), fun z => absurd z (by decide), fun z => absurd z (by decide)⟩
      obtain ⟨eb, t3, t4⟩ := rowz' t (by rw [← k]; exact em) t1 tz
      obtain ⟨gg, -⟩ := gw _ eb rfl
      have gg' : gTell (kK T L M) c q = gRow (kK T L M) [2, 3, 3, 24] (q.1 + 1, 0) := by rw [gg]; unfold gBody; rw [if_pos k]
      refine f_M_grain hl hL hS (hT.p t2) t3 rfl be1 (zx'.p t2) t4 (fun bn => (hP bn).2.1) (fun u u1 u2 u3 => v_Mo_tellOne_318 (GV.r (h u ((FPa.b t2.q.P).tr u1.b) (by rw [gg']; exact u2) (fun zf => ?_))))
      rw [gg'] at zf ⊢
      have r2 := (gRow4 zf).2.2.2.2.2
      refine ⟨cB, cC, RZ.st (hZ'.p t2) u1 (by rw [r2]; show q.1 ≤ q.1 + 1 + 4; omega) ?_ (fun bn => sn _ bn (by omega) rfl)⟩
      rw [k, es]
      exact u3 zf
    · -- hole
      have em : gMost (kK T L M q.1) = 6 := by rw [k]; rfl
      have es : sTell T L (kK T L M) q.1 d nl = sHole T L (q.1 + 1) d nl := by unfold sTell; rw [if_neg (by omega), if_pos k]
      have row' := row 6 q
      have rowz' := rowz 6
      rw [k] at row' rowz' ⊢
      refine ⟨fun z => absurd z (by decide), fun z => absurd z (by decide), fun _ => ⟨vp_in_nI x3 (by omega), f_M_roomFor (c := c 5) (m := 6) rfl rfl x5' (by omega) hS hT hq hz k0 (fun t t1 t2 => ⟨fun tz => ?_, fun tz => v_Mo_tellOne_318 (GV.r (row' t (by rw [← k]; exact em) t1 t2 (fun _ => True) (fun _ _ _ _ => trivial) tz))⟩)⟩, fun z => absurd z (by decide), fun z => absurd z (by decide), fun z => absurd z (by decide), fun z => absurd z (by decide), fun z => absurd z (by decide), fun z => absurd z (by decide), fun z => absurd z (by decide), fun z => absurd z (by decide)⟩
      obtain ⟨eb, t3, t4⟩ := rowz' t (by rw [← k]; exact em) t1 tz
      obtain ⟨gg, -⟩ := gw _ eb rfl
      have gg' : gTell (kK T L M) c q = gRow (kK T L M) [2, 3, 2, 24] (q.1 + 1, 0) := by rw [gg]; unfold gBody; rw [if_neg (by omega), if_pos k]
      refine f_M_hole hl hL hS (hT.p t2) t3 rfl be1 (zx'.p t2) t4 (fun u u1 u2 u3 => v_Mo_tellOne_318 (GV.r (h u ((FPa.b t2.q.P).tr u1.b) (by rw [gg']; exact u2) (fun zf => ?_))))
      rw [gg'] at zf ⊢
      have r2 := (gRow4 zf).2.2.2.2.2
      refine ⟨cB, cC, RZ.st (hZ'.p t2) u1 (by rw [r2]; show q.1 ≤ q.1 + 1 + 4; omega) ?_ (fun bn => sn _ bn (by omega) rfl)⟩
      rw [k, es]
      exact u3 zf
    · -- rat
      have em : gMost (kK T L M q.1) = 8 := by rw [k]; rfl
      have es : sTell T L (kK T L M) q.1 d nl = sRat T L (q.1 + 1) d nl := by unfold sTell; rw [if_neg (by omega), if_neg (by omega), if_pos k]
      have row' := row 8 q
      have rowz' := rowz 8
      rw [k] at row' rowz' ⊢
      refine ⟨fun z => absurd z (by decide), fun z => absurd z (by decide), fun z => absurd z (by decide), fun _ => ⟨vp_in_nI x3 (by omega), f_M_roomFor (c := c 6) (m := 8) rfl rfl x6' (by omega) hS hT hq hz k0 (fun t t1 t2 => ⟨fun tz => ?_, fun tz => v_Mo_tellOne_318 (GV.r (row' t (by rw [← k]; exact em) t1 t2 (fun _ => True) (fun _ _ _ _ => trivial) tz))⟩)⟩, fun z => absurd z (by decide), fun z => absurd z (by decide), fun z => absurd z (by decide), fun z => absurd z (by decide), fun z => absurd z (by decide), fun z => absurd z (by decide), fun z => absurd z (by decide)⟩
      obtain ⟨eb, t3, t4⟩ := rowz' t (by rw [← k]; exact em) t1 tz
      obtain ⟨gg, -⟩ := gw _ eb rfl
      have gg' : gTell (kK T L M) c q = gRow (kK T L M) [2, 2, 2, 3, 3, 24] (q.1 + 1, 0) := by rw [gg]; unfold gBody; rw [if_neg (by omega), if_neg (by omega), if_pos k]
      refine f_M_rat hl hL hS (hT.p t2) t3 rfl be1 (zx'.p t2) t4 (fun u u1 u2 u3 => v_Mo_tellOne_318 (GV.r (h u ((FPa.b t2.q.P).tr u1.b) (by rw [gg']; exact u2) (fun zf => ?_))))
      rw [gg'] at zf ⊢
      have r2 := (gRow6 zf).2.2.2.2.2.2
      refine ⟨cB, cC, RZ.st (hZ'.p t2) u1 (by rw [r2]; show q.1 ≤ q.1 + 1 + 6; omega) ?_ (fun bn => sn _ bn (by omega) rfl)⟩
      rw [k, es]
      exact u3 zf
    · -- load
      have lw := law 0 (by omega) (by omega)
      rw [k]
      exact ⟨fun z => absurd z (by decide), fun z => absurd z (by decide), fun z => absurd z (by decide), fun z => absurd z (by decide), fun _ => ⟨fun z => absurd z (by decide), fun _ => ⟨fun _ => lw, fun z => absurd (by decide) z⟩⟩, fun z => absurd z (by decide), fun z => absurd z (by decide), fun z => absurd z (by decide), fun z => absurd z (by decide), fun z => absurd z (by decide), fun z => absurd z (by decide)⟩
    · have lw := law 1 (by omega) (by omega)
      rw [k]
      exact ⟨fun z => absurd z (by decide), fun z => absurd z (by decide), fun z => absurd z (by decide), fun z => absurd z (by decide), fun z => absurd z (by decide), fun _ => ⟨fun z => absurd z (by decide), fun _ => ⟨fun _ => lw, fun z => absurd (by decide) z⟩⟩, fun z => absurd z (by decide), fun z => absurd z (by decide), fun z => absurd z (by decide), fun z => absurd z (by decide), fun z => absurd z (by decide)⟩
    · have lw := law 2 (by omega) (by omega)
      rw [k]
      exact ⟨fun z => absurd z (by decide), fun z => absurd z (by decide), fun z => absurd z (by decide), fun z => absurd z (by decide), fun z => absurd z (by decide), fun z => absurd z (by decide), fun _ => ⟨fun z => absurd z (by decide), fun _ => ⟨fun _ => lw, fun z => absurd (by decide) z⟩⟩, fun z => absurd z (by decide), fun z => absurd z (by decide), fun z => absurd z (by decide), fun z => absurd z (by decide)⟩
    · -- wants
      have em : gMost (kK T L M q.1) = 5 := by rw [k]; rfl
      have es : sTell T L (kK T L M) q.1 d nl = sMer T L (kK T L M) (q.1 + 1) d nl := by unfold sTell; rw [if_neg (by omega), if_neg (by omega), if_neg (by omega), if_pos k]
      have row' := row 5 q
      have rowz' := rowz 5
      rw [k] at row' rowz' ⊢
      refine ⟨fun z => absurd z (by decide), fun z => absurd z (by decide), fun z => absurd z (by decide), fun z => absurd z (by decide), fun z => absurd z (by decide), fun z => absurd z (by decide), fun z => absurd z (by decide), fun _ => ⟨vp_in_nI x3 (by omega), f_M_roomFor (c := c 10) (m := 5) rfl rfl x7' (by omega) hS hT hq hz k0 (fun t t1 t2 => ⟨fun tz => ?_, fun tz => v_Mo_tellOne_318 (GV.r (row' t (by rw [← k]; exact em) t1 t2 (fun _ => True) (fun _ _ _ _ => trivial) tz))⟩)⟩, fun z => absurd z (by decide), fun z => absurd z (by decide), fun z => absurd z (by decide)⟩
      obtain ⟨eb, t3, t4⟩ := rowz' t (by rw [← k]; exact em) t1 tz
      obtain ⟨gg, -⟩ := gw _ eb rfl
      have gg' : gTell (kK T L M) c q = gWants (kK T L M) (q.1 + 1, 0) := by rw [gg]; unfold gBody; rw [if_neg (by omega), if_neg (by omega), if_neg (by omega), if_neg (by omega), if_pos k]
      refine f_M_wants hl hL hS (hT.p t2) t3 rfl be1 (zx'.p t2) t4 (fun bn => (hP bn).2.2.1) (fun u u1 u2 u3 => v_Mo_tellOne_318 (GV.r (h u ((FPa.b t2.q.P).tr u1.b) (by rw [gg']; exact u2) (fun zf => ?_))))
      rw [gg'] at zf ⊢
      have r2 := (gWants_ok zf).2.2.2.2.2.2
      refine ⟨cB, cC, RZ.st (hZ'.p t2) u1 (by rw [r2]; show q.1 ≤ q.1 + 1 + 1 + 2 * _ + 1; omega) ?_ (fun bn => sn _ bn (by omega) rfl)⟩
      rw [k, es]
      exact u3 zf
    · -- lamp
      have n := fun t => num 147 0 9999 aLm t 0 9999 rfl rfl (by omega) (by omega) (by omega) (by rw [k]; rfl) (fun q1 => by unfold gBody; rw [k]; rfl) (by unfold sTell; rw [k]; rfl) (fun x hx => by unfold gInc; rw [if_neg (by omega)]) (fun v => ⟨rfl, rfl, rfl, rfl, rfl⟩) (fun v s' u' a1 a2 a3 => a1.lm' a2 a3)
      rw [k]
      refine ⟨fun z => absurd z (by decide), fun z => absurd z (by decide), fun z => absurd z (by decide), fun z => absurd z (by decide), fun z => absurd z (by decide), fun z => absurd z (by decide), fun z => absurd z (by decide), fun z => absurd z (by decide), fun _ => f_M_goesOn hS hT hq (fun _ => k0) (fun t t1 t2 => n t t1 t2), fun z => absurd z (by decide), fun z => absurd z (by decide)⟩
    · -- odd
      have n := fun t => num 148 1 99 aOd t 1 99 rfl rfl (by omega) (by omega) (by omega) (by rw [k]; rfl) (fun q1 => by unfold gBody; rw [k]; rfl) (by unfold sTell; rw [k]; rfl) (fun x hx => by unfold gInc; rw [if_neg (by omega)]) (fun v => ⟨rfl, rfl, rfl, rfl, rfl⟩) (fun v s' u' a1 a2 a3 => a1.od' a2 a3)
      rw [k]
      refine ⟨fun z => absurd z (by decide), fun z => absurd z (by decide), fun z => absurd z (by decide), fun z => absurd z (by decide), fun z => absurd z (by decide), fun z => absurd z (by decide), fun z => absurd z (by decide), fun z => absurd z (by decide), fun z => absurd z (by decide), fun _ => f_M_goesOn hS hT hq (fun _ => k0) (fun t t1 t2 => n t t1 t2), fun z => absurd z (by decide)⟩
    · -- seed
      have n := fun t => num 149 0 9999 aSe t 0 9999 rfl rfl (by omega) (by omega) (by omega) (by rw [k]; rfl) (fun q1 => by unfold gBody; rw [k]; rfl) (by unfold sTell; rw [k]; rfl) (fun x hx => by unfold gInc; rw [if_neg (by omega)]) (fun v => ⟨rfl, rfl, rfl, rfl, rfl⟩) (fun v s' u' a1 a2 a3 => a1.se' a2 a3)
      rw [k]
      refine ⟨fun z => absurd z (by decide), fun z => absurd z (by decide), fun z => absurd z (by decide), fun z => absurd z (by decide), fun z => absurd z (by decide), fun z => absurd z (by decide), fun z => absurd z (by decide), fun z => absurd z (by decide), fun z => absurd z (by decide), fun z => absurd z (by decide), fun _ => f_M_goesOn hS hT hq (fun _ => k0) (fun t t1 t2 => n t t1 t2)⟩
  · -- no word that begins one
    have e1 : gBeg (kK T L M) c q = (q.1, 1) := by unfold gBeg gp; rw [if_neg (fun y => y hz), decide_eq_false hk, if_pos rfl]
    have e2 : gTell (kK T L M) c q = (q.1, 1) := by rw [gTell_b e1, if_pos (by show (1 : Nat) ≠ 0; omega)]
    have bad : ∀ x, AWP E m_Mo_tellOne 296 0 0 [(0, .ref 120), (1, .int x)] [] (mk g s) (qV g R) := fun x => by
      refine v_Mo_tellOne_296 _ hS (f_M_fail (c := 1) rfl (Or.inl rfl) hS hT hq (fun u u1 u2 => v_Mo_tellOne_301 _ hS ?_))
      rw [if_pos hz] at u1
      rw [u1.1]
      refine pk_le 1 0 (fun w => absurd w (by omega)) (fun _ => GV.r (h u (FPa.b u2.q.P) (by rw [e2]; exact u1) (fun w => absurd (by rw [e2] at w; exact w) (by show ¬ (1 : Nat) = 0; omega)))) rfl rfl (by omega) (by omega)
    have r1 := rk_else2 _ kl hk
    have nn := fun j (h1 : 20 ≤ j) (h2 : j ≤ 29) => rk_else3 kl hk h1 h2
    refine ⟨fun _ => ⟨fun _ => bad _, fun y => ⟨fun y2 => ?_, fun _ => bad _⟩⟩, fun z => absurd z (nn 20 (by omega) (by omega)), fun z => absurd z (nn 21 (by omega) (by omega)), fun z => absurd z (nn 22 (by omega) (by omega)), fun z => absurd z (nn 23 (by omega) (by omega)), fun z => absurd z (nn 24 (by omega) (by omega)), fun z => absurd z (nn 25 (by omega) (by omega)), fun z => absurd z (nn 26 (by omega) (by omega)), fun z => absurd z (nn 27 (by omega) (by omega)), fun z => absurd z (nn 28 (by omega) (by omega)), fun z => absurd z (nn 29 (by omega) (by omega))⟩
    rcases r1 with r1 | r1
    · exact absurd r1 y
    · exact absurd y2 r1.2
end One2
