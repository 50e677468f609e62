/-! A STATEMENT: where its wrongs lie; the reference's tellOne -/
theorem gRow2 {K : Nat → Nat} {q : Nat × Nat} {k1 k2 : Nat} (h : (gRow K [k1, k2] q).2 = 0) : q.2 = 0 ∧ (K q.1 = k1 ∧ K (q.1 + 1) = k2) ∧ gk K k1 q = (q.1 + 1, 0) ∧ gRow K [k1, k2] q = (q.1 + 2, 0) := by
  have h2 : (gk K k2 (gk K k1 q)).2 = 0 := h
  obtain ⟨a2, b2, -, c2⟩ := gk_ok h2
  obtain ⟨a1, b1, -, c1⟩ := gk_ok a2
  rw [c1] at b2 c2
  refine ⟨a1, ⟨b1, b2⟩, c1, ?_⟩
  show gk K k2 (gk K k1 q) = _
  rw [c1]; exact c2
theorem sW_in {T : Nat → Nat} {L : Nat} {nl : NL} {K : Nat → Nat} {x : Nat × Nat} : ∀ (m a : Nat) (W : Nat → Nat), sW T L K nl m a W = .inl x → a ≤ x.2 ∧ x.2 < a + 2 * wn K m a ∧ 1 ≤ x.1 ∧ x.1 ≤ 5
  | 0, _, W, e => by rw [sW] at e; exact absurd e (by simp)
  | m + 1, a, W, e => by
    by_cases k : K a = 2
    · rw [wn, if_pos k]
      cases hf : nlF (vV T L a) 0 nl with
      | none =>
        rw [sW_n k hf] at e
        injection e with e; rw [← e]
        exact ⟨Nat.le_refl _, by show a < _; omega, by show 1 ≤ 4; omega, by show 4 ≤ 5; omega⟩
      | some gi =>
        rw [sW_s k hf] at e
        split at e
        · injection e with e; rw [← e]
          exact ⟨Nat.le_refl _, by show a < _; omega, by show 1 ≤ 3; omega, by show 3 ≤ 5; omega⟩
        · split at e
          · injection e with e; rw [← e]
            exact ⟨by show a ≤ a + 1; omega, by show a + 1 < _; omega, by show 1 ≤ 5; omega, by show 5 ≤ 5; omega⟩
          · have := sW_in m (a + 2) _ e
            exact ⟨by omega, by omega, this.2.2⟩
    · rw [sW, if_pos k] at e; exact absurd e (by simp)
theorem sTell_in {T : Nat → Nat} {L M : Nat} {c : Nat → Nat} {q : Nat × Nat} {d : TD} {nl : NL} {x : Nat × Nat} (hg : (gTell (kK T L M) c q).2 = 0) (e : sTell T L (kK T L M) q.1 d nl = .inl x) : q.1 < x.2 ∧ x.2 < (gTell (kK T L M) c q).1 ∧ 1 ≤ x.1 ∧ x.1 ≤ 5 := by
  obtain ⟨g1, g2, g3, g4, g5, g6⟩ := gTell_ok hg
  rw [g6] at hg ⊢
  unfold sTell at e
  unfold gBody at hg ⊢
  by_cases k4 : kK T L M q.1 = 4
  · rw [if_pos k4] at e hg ⊢
    have r := (gRow4 hg).2.2.2.2.2
    rw [r]
    show q.1 < x.2 ∧ x.2 < q.1 + 1 + 4 ∧ _
    unfold sGrain at e
    split at e
    · injection e with e; rw [← e]; refine ⟨?_, ?_, ?_, ?_⟩ <;> simp <;> omega
    · split at e
      · injection e with e; rw [← e]; refine ⟨?_, ?_, ?_, ?_⟩ <;> simp <;> omega
      · split at e
        · injection e with e; rw [← e]; refine ⟨?_, ?_, ?_, ?_⟩ <;> simp <;> omega
        · exact absurd e (by simp)
  · rw [if_neg k4] at e hg ⊢
    by_cases k5 : kK T L M q.1 = 5
    · rw [if_pos k5] at e hg ⊢
      have r := (gRow4 hg).2.2.2.2.2
      rw [r]
      show q.1 < x.2 ∧ x.2 < q.1 + 1 + 4 ∧ _
      unfold sHole at e
      split at e
      · injection e with e; rw [← e]; refine ⟨?_, ?_, ?_, ?_⟩ <;> simp <;> omega
      · split at e
        · injection e with e; rw [← e]; refine ⟨?_, ?_, ?_, ?_⟩ <;> simp <;> omega
        · cases hf : nlF (vV T L (q.1 + 1 + 2)) 0 nl with
          | none => rw [hf] at e; injection e with e; rw [← e]; refine ⟨?_, ?_, ?_, ?_⟩ <;> simp <;> omega
          | some i => rw [hf] at e; exact absurd e (by simp)
    · rw [if_neg k5] at e hg ⊢
      by_cases k6 : kK T L M q.1 = 6
      · rw [if_pos k6] at e hg ⊢
        have r := (gRow6 hg).2.2.2.2.2.2
        rw [r]
        show q.1 < x.2 ∧ x.2 < q.1 + 1 + 6 ∧ _
        unfold sRat at e
        split at e
        · injection e with e; rw [← e]; refine ⟨?_, ?_, ?_, ?_⟩ <;> simp <;> omega
        · cases hf : nlF (vV T L (q.1 + 1 + 1)) 0 nl with
          | none => rw [hf] at e; injection e with e; rw [← e]; refine ⟨?_, ?_, ?_, ?_⟩ <;> simp <;> omega
          | some i =>
            cases hf2 : nlF (vV T L (q.1 + 1 + 2)) 1 nl with
            | none => simp only [hf, hf2] at e; injection e with e; rw [← e]; refine ⟨?_, ?_, ?_, ?_⟩ <;> simp <;> omega
            | some j =>
              simp only [hf, hf2] at e
              split at e
              · injection e with e; rw [← e]; refine ⟨?_, ?_, ?_, ?_⟩ <;> simp <;> omega
              · split at e
                · injection e with e; rw [← e]; refine ⟨?_, ?_, ?_, ?_⟩ <;> simp <;> omega
                · exact absurd e (by simp)
      · rw [if_neg k6] at e hg ⊢
        by_cases k10 : kK T L M q.1 = 10
        · rw [if_pos k10] at e
          rw [if_neg (by omega), if_pos k10] at hg ⊢
          have r := (gWants_ok hg).2.2.2.2.2.2
          rw [r]
          show q.1 < x.2 ∧ x.2 < q.1 + 1 + 1 + 2 * wn (kK T L M) 4 (q.1 + 1 + 1) + 1 ∧ _
          unfold sMer at e
          split at e
          · injection e with e; rw [← e]; refine ⟨?_, ?_, ?_, ?_⟩ <;> simp <;> omega
          · cases hs : sW T L (kK T L M) nl 4 (q.1 + 1 + 1) (fun _ => 0) with
            | inl y =>
              rw [hs] at e
              have e' : y = x := by injection e
              rw [e'] at hs
              have := sW_in 4 _ _ hs
              exact ⟨by omega, by omega, this.2.2⟩
            | inr W => rw [hs] at e; exact absurd e (by simp)
        · rw [if_neg k10] at e
          by_cases k7 : kK T L M q.1 = 7 ∨ kK T L M q.1 = 8 ∨ kK T L M q.1 = 9
          · rw [if_neg (by omega), if_neg (by omega), if_neg (by omega)] at e; exact absurd e (by simp)
          · rw [if_neg k7, if_neg k10] at hg ⊢
            have r := (gRow2 hg).2.2.2
            rw [r]
            show q.1 < x.2 ∧ x.2 < q.1 + 1 + 2 ∧ _
            have num : ∀ lo hi f, sNum T L lo hi (q.1 + 1) f d nl = .inl x → q.1 < x.2 ∧ x.2 < q.1 + 1 + 2 ∧ 1 ≤ x.1 ∧ x.1 ≤ 5 := fun lo hi f e => by
              unfold sNum at e
              split at e
              · exact absurd e (by simp)
              · injection e with e; rw [← e]; refine ⟨?_, ?_, ?_, ?_⟩ <;> simp <;> omega
            split at e
            · exact num _ _ _ e
            · split at e
              · exact num _ _ _ e
              · split at e
                · exact num _ _ _ e
                · exact absurd e (by simp)
theorem gBeg_w {K c : Nat → Nat} {q : Nat × Nat} (h : 4 ≤ K q.1 ∧ K q.1 ≤ 13) : gBeg K c q = gp true (decide (c (K q.1) < gMost (K q.1))) q := by
  unfold gBeg
  rw [decide_eq_true h]
  congr 1
  simp [h]
theorem gBeg_4 {K c : Nat → Nat} {q : Nat × Nat} (h : 4 ≤ K q.1 ∧ K q.1 ≤ 13) (hm : gMost (K q.1) = 400) (hc : c (K q.1) ≤ q.1) : gBeg K c q = gp true true q := by
  rw [gBeg_w h, hm]
  by_cases z : c (K q.1) < 400
  · rw [decide_eq_true z]
  · rw [decide_eq_false z]
    unfold gp
    split
    · rfl
    · rw [if_neg (show ¬ true = false by decide), if_pos (show false = false ∨ 400 ≤ q.1 from Or.inl rfl), if_neg (show ¬ true = false by decide), if_pos (show true = false ∨ 400 ≤ q.1 from Or.inr (by omega))]
theorem gTell_b {K c : Nat → Nat} {q q1 : Nat × Nat} (h : gBeg K c q = q1) : gTell K c q = if q1.2 ≠ 0 then q1 else gBody K (K q.1) q1 := by unfold gTell; rw [h]
section One
variable {E : EN} {g : GS} {s : MS} {T : Nat → Nat} {L M sd lv : Nat} {d : TD} {nl : NL}
theorem RX.p {u : MS} {cG cH cR cM : Nat} {b : Option (Nat × Nat)} (h : RX T L M sd cG cH cR cM b d nl s) (k : FRp s u) : RX T L M sd cG cH cR cM b d nl u := by
  obtain ⟨x1, x2, x3, x4, x5, x6, x7, x8, x9⟩ := h
  refine ⟨x1.p k, by rw [k.2.1 19 (by decide) (by decide) (by decide)]; exact x2, x3, by rw [k.1 131 (by decide)]; exact x4, by rw [k.1 134 (by decide)]; exact x5, by rw [k.1 137 (by decide)]; exact x6, by rw [k.1 142 (by decide)]; exact x7, by rw [k.2.1 20 (by decide) (by decide) (by decide)]; exact x8, fun bn => ?_⟩
  obtain ⟨y1, y2, y3⟩ := x9 bn
  exact ⟨y1.mv (fun a a1 a2 => k.1 a (by omega)), y2.q k.q, y3⟩
theorem RZ.p {u : MS} {c : Nat → Nat} {cB cC p : Nat} {b : Option (Nat × Nat)} (h : RZ T L M sd c cB cC p b d nl s) (k : FRp s u) : RZ T L M sd c cB cC p b d nl u := by
  obtain ⟨z1, z2, z3, z4, z5, z6, z7, z8, z9⟩ := h
  exact ⟨z1.p k, by rw [k.2.1 12 (by decide) (by decide) (by decide)]; exact z2, by rw [k.2.1 45 (by decide) (by decide) (by decide)]; exact z3, z4, z5, by rw [k.2.1 51 (by decide) (by decide) (by decide)]; exact z6, z7, z8, fun bn k' hk' => (z9 bn k' hk').mv (fun a a1 a2 => k.1 a (by omega))⟩
theorem RZ.st {u : MS} {c c' : Nat → Nat} {cB cC p p' : Nat} {b b' : Option (Nat × Nat)} {d' : TD} {nl' : NL} (h : RZ T L M sd c cB cC p b d nl s) (k : FPa lv s u) (hp : p ≤ p') (hx : RX T L M sd (c' 4) (c' 5) (c' 6) (c' 10) b' d' nl' u) (hd : b' = none → b = none ∧ dL d' = dL d) : RZ T L M sd c' cB cC p' b' d' nl' u := by
  obtain ⟨z1, z2, z3, z4, z5, z6, z7, z8, z9⟩ := h
  refine ⟨hx, by rw [k.2.2.1 12 (by omega) (by decide)]; exact z2, by rw [k.2.2.1 45 (by omega) (by decide)]; exact z3, z4, by omega, by rw [k.2.2.1 51 (by omega) (by decide)]; exact z6, z7, by omega, fun bn k' hk' => ?_⟩
  obtain ⟨b0, e⟩ := hd bn
  rw [e]
  exact (z9 b0 k' hk').mv (fun a a1 a2 => k.1 a (by omega) (by omega))
theorem rB_n {b : Option (Nat × Nat)} {r : SR} (h : rB b r = none) : b = none ∧ ∃ y, r = .inr y := by
  cases b with
  | some x => cases r <;> exact absurd h (by simp [rB])
  | none =>
    cases r with
    | inl x => exact absurd h (by simp [rB])
    | inr y => exact ⟨rfl, y, rfl⟩
theorem rB_be {b : Option (Nat × Nat)} {r : SR} {p p' : Nat} (hb : BE b p) (hp : p ≤ p') (hr : ∀ x, r = .inl x → x.2 < p') : BE (rB b r) p' := fun c' j' e => by
  cases b with
  | some x =>
    have e' : some x = some (c', j') := by cases r <;> exact e
    have := hb c' j' e'
    omega
  | none =>
    cases r with
    | inl x =>
      have e' : x = (c', j') := by injection e
      have := hr x rfl
      rw [e'] at this; exact this
    | inr y => exact absurd e (by simp [rB])
theorem f_M_num {R : MS → Prop} {Q : Option Value → SG → Prop} {q q1 : Nat × Nat} {c : Nat → Nat} {A lo hi cB cC : Nat} {f : TD → Int32 → TD} {b : Option (Nat × Nat)} {x1 x2 : Int32} (e1 : x1 = nI lo) (e2 : x2 = nI hi) (hlo : lo ≤ 1) (hhi : hi ≤ 9999) (hA : A = 147 ∨ A = 148 ∨ A = 149) (hl : lv + sd = 1) (hL : L ≤ 2000) (hS : SX g) (hT : TkR T L M s) (hq : RQ T L M q1 s) (hb : BE b q1.1) (h19 : s.1 120 19 = nI sd) (hw : WQ T L M b s) (hZ : q1.2 = 0 → RZ T L M sd c cB cC (q1.1 - 1) b d nl s)
    (hf : ∀ v, nG (f d v) = nG d ∧ nH (f d v) = nH d ∧ nR (f d v) = nR d ∧ dM (f d v) = dM d ∧ dL (f d v) = dL d) (ht : ∀ v (s' u' : MS), TR d sd s' → u'.1 A sd = v → (∀ x, 131 ≤ x → x < 159 → x ≠ A → u'.1 x = s'.1 x) → TR (f d v) sd u')
    (h : ∀ u, FPa lv s u → RQ T L M (gRow (kK T L M) [3, 24] q1) u → ((gRow (kK T L M) [3, 24] q1).2 = 0 → RZ T L M sd c cB cC (q1.1 + 2) (rB b (sNum T L lo hi q1.1 f d nl)) (rD d (sNum T L lo hi q1.1 f d nl)) (rN nl (sNum T L lo hi q1.1 f d nl)) u) → Q none (mk g u)) : GI E m_Mo_bounded [.ref 120, .int x1, .int x2] g s (fun y10_ t10_ => vp_in (s.1 120 19) 2 ∧ (∀ s11_, s11_ = wi t10_ A (((s.1 120 19)).toNatClampNeg) y10_ → GV E m_Mo_must [.ref 120, .int 4] g s11_ (fun t12_ => AWP E m_Mo_tellOne 318 0 0 [(0, .ref 120)] [] (mk g t12_) Q))) := by
  rw [h19, tn_n (by omega)]
  refine f_M_bounded e1 e2 hlo hhi hL hS hT hq hw (fun _ => hb) (fun y b' u r1 r2 r3 r4 r5 => ⟨vp_in_nI (by omega) (by omega), fun s3 e3 => ?_⟩)
  have c3 : s3.1 120 = u.1 120 := by rw [e3, wi_n _ _ _ (by omega)]
  have F3 : FPa lv s s3 := r2.P.tr (by rw [e3]; exact FPa.w hl (by omega) (by unfold own; omega))
  refine f_M_must (κ := 24) rfl (by omega) (by omega) hS (hT.P F3) (r1.m c3) (fun v v1 v2 => v_Mo_tellOne_318 (h v (F3.tr v2.q.P) v1 (fun zf => ?_)))
  obtain ⟨g1, ⟨g2, g3⟩, g4, g5⟩ := gRow2 zf
  have z := hZ g1
  obtain ⟨x1', x2', x3, x4, x5, x6, x7, x8, x9⟩ := z.1
  rw [g4] at r5
  obtain ⟨o1, o2⟩ := r5 rfl
  have va : ∀ a, a ≠ 120 → a ≠ A → v.1 a = s.1 a := fun a h1 h2 => by rw [v2.1 a h1, e3, wi_n _ _ _ h2, r2.1 a h1]
  have v120 : ∀ j, ¬ (11 ≤ j ∧ j < 17) → v.1 120 j = s.1 120 j := fun j hj => by rw [v2.2.1 j (by omega) (by omega) (by omega), c3, r2.2.1 j (by omega) (by omega) (by omega) (by omega) (by omega)]
  have vA : v.1 A sd = y := by rw [v2.1 A (by omega), e3, wi_s, upd_s]
  have wv : WQ T L M b' v := (r3.m c3).p v2
  have bb : b' = rB b (sNum T L lo hi q1.1 f d nl) ∧ (b' = none → b = none ∧ sNum T L lo hi q1.1 f d nl = .inr (f d (nI (vV T L q1.1)), nl)) := by
    cases b with
    | some x =>
      have := r4 (by simp)
      rw [this]
      refine ⟨?_, fun w => absurd w (by simp)⟩
      cases sNum T L lo hi q1.1 f d nl <;> rfl
    | none =>
      have := o2 rfl
      unfold sNum
      by_cases r : lo ≤ vV T L q1.1 ∧ vV T L q1.1 ≤ hi
      · rw [if_pos r] at this ⊢
        exact ⟨this, fun _ => ⟨rfl, rfl⟩⟩
      · rw [if_neg r] at this ⊢
        exact ⟨this, fun w => by rw [this] at w; exact absurd w (by simp)⟩
  rw [← bb.1]
  refine RZ.st z (F3.tr v2.q.P) (by omega) ⟨wv, by rw [v120 19 (by omega)]; exact x2', x3, by rw [va 131 (by decide) (by omega)]; exact x4, by rw [va 134 (by decide) (by omega)]; exact x5, by rw [va 137 (by decide) (by omega)]; exact x6, by rw [va 142 (by decide) (by omega)]; exact x7, by rw [v120 20 (by omega)]; exact x8, fun bn => ?_⟩ (fun bn => ?_)
  · obtain ⟨b0, sn⟩ := bb.2 bn
    obtain ⟨y1, y2, y3, y4, y5, y6, y7⟩ := x9 b0
    rw [sn]
    obtain ⟨w1, w2, w3, w4, w5⟩ := hf (nI (vV T L q1.1))
    refine ⟨ht _ s v y1 (by rw [vA]; exact o1) (fun x a1 a2 a3 => va x (by omega) a3), fun i hi => ?_, y3, by show nG (f d _) = _; rw [w1]; exact y4, by show nH (f d _) = _; rw [w2]; exact y5, by show nR (f d _) = _; rw [w3]; exact y6, by show dM (f d _) = _; rw [w4]; exact y7⟩
    rw [v2.2.2, e3, wi_2, r2.2.2]
    rw [va 129 (by decide) (by omega), va 130 (by decide) (by omega)]
    exact y2 i hi
  · obtain ⟨b0, sn⟩ := bb.2 bn
    rw [sn]
    exact ⟨b0, (hf _).2.2.2.2⟩
end One
