/-! ALL STATEMENTS: the class's fill, the reference's loop -/
theorem tkK_nz (T : Nat → Nat) (L i : Nat) : tkK T L i ≠ 0 := by
  unfold tkK
  split
  · split
    · omega
    · split <;> omega
  · split
    · split <;> omega
    · split <;> omega
theorem kK_M {T : Nat → Nat} {L M a : Nat} : a < M ↔ kK T L M a ≠ 0 := by
  unfold kK
  constructor
  · intro h; rw [if_pos h]; exact tkK_nz _ _ _
  · intro h
    by_cases w : a < M
    · exact w
    · rw [if_neg w] at h; exact absurd rfl h
def sAll (T : Nat → Nat) (L : Nat) (K : Nat → Nat) : Nat → (Nat → Nat) → Nat × Nat → TD → NL → SR
  | 0, _, _, d, nl => .inr (d, nl)
  | n + 1, c, q, d, nl => if q.2 = 0 ∧ K q.1 ≠ 0 then match sTell T L K q.1 d nl with
    | .inl x => .inl x
    | .inr y => sAll T L K n (gInc c (K q.1)) (gTell K c q) y.1 y.2 else .inr (d, nl)
theorem sAll_l {T : Nat → Nat} {L n : Nat} {K c : Nat → Nat} {q x : Nat × Nat} {d : TD} {nl : NL} (h : q.2 = 0 ∧ K q.1 ≠ 0) (e : sTell T L K q.1 d nl = .inl x) : sAll T L K (n + 1) c q d nl = .inl x := by rw [sAll, if_pos h, e]
theorem sAll_r {T : Nat → Nat} {L n : Nat} {K c : Nat → Nat} {q : Nat × Nat} {d : TD} {nl : NL} {y : TD × NL} (h : q.2 = 0 ∧ K q.1 ≠ 0) (e : sTell T L K q.1 d nl = .inr y) : sAll T L K (n + 1) c q d nl = sAll T L K n (gInc c (K q.1)) (gTell K c q) y.1 y.2 := by rw [sAll, if_pos h, e]
theorem gAll_f {K : Nat → Nat} {q : Nat × Nat} (h : q.2 ≠ 0) : ∀ n c, gAll K n c q = q
  | 0, _ => rfl
  | n + 1, c => by rw [gAll, if_neg (fun w => h w.1)]
theorem gAll_z {K : Nat → Nat} {n : Nat} {c : Nat → Nat} {q : Nat × Nat} (h : (gAll K n c q).2 = 0) : q.2 = 0 := by
  by_cases z : q.2 = 0
  · exact z
  · rw [gAll_f z] at h; exact h
theorem gSum_ge {K : Nat → Nat} {e : Nat} {q : Nat × Nat} (he : e = 30 ∨ e = 15 ∨ e = 16 ∨ e = 24) (h : q.1 ≤ 400) : q.1 ≤ (gSum K e q).1 := by
  rw [(gSum_le he h).1]
  exact Nat.le_trans (gE_ge 401 0 true q) (gp_ge _ _ _)
theorem gL_bd {K : Nat → Nat} : ∀ (m : Nat) (q : Nat × Nat), q.1 ≤ 400 → q.1 ≤ (gL K m q).1 ∧ (gL K m q).1 ≤ 400
  | 0, q, h => ⟨Nat.le_refl _, h⟩
  | m + 1, q, h => by
    rw [gL]
    split
    · have l0 := gp_le (fits := true) (room := decide (1 ≤ m)) h
      have g0 := gp_ge true (decide (1 ≤ m)) q
      have l1 := (gSum_le (K := K) (e := 30) (by omega) l0).2
      have g1 := gSum_ge (K := K) (e := 30) (by omega) l0
      have l2 := (gSum_le (K := K) (e := 15) (by omega) l1).2
      have g2 := gSum_ge (K := K) (e := 15) (by omega) l1
      have l3 := (gSum_le (K := K) (e := 16) (by omega) l2).2
      have g3 := gSum_ge (K := K) (e := 16) (by omega) l2
      have := gL_bd (K := K) m _ l3
      exact ⟨by omega, this.2⟩
    · exact ⟨Nat.le_refl _, h⟩
theorem gTell_bd {K c : Nat → Nat} {q : Nat × Nat} (h : (gTell K c q).2 = 0) : q.1 + 2 ≤ (gTell K c q).1 ∧ (gTell K c q).1 ≤ 400 := by
  obtain ⟨g1, g2, g3, g4, g5, g6⟩ := gTell_ok h
  rw [g6] at h ⊢
  unfold gBody at h ⊢
  have row4 : ∀ a b c d, (gRow K [a, b, c, d] (q.1 + 1, 0)).2 = 0 → q.1 + 2 ≤ (gRow K [a, b, c, d] (q.1 + 1, 0)).1 ∧ (gRow K [a, b, c, d] (q.1 + 1, 0)).1 ≤ 400 := fun a b c d h => by
    have r := (gRow4 h).2.2.2.2.2
    have h4 : (gk K d (gk K c (gk K b (gk K a (q.1 + 1, 0))))).2 = 0 := h
    have := (gk_ok h4).2.2
    have e : gk K d (gk K c (gk K b (gk K a (q.1 + 1, 0)))) = (q.1 + 1 + 4, 0) := r
    rw [r]
    have l := this.1
    have e2 := this.2
    rw [e] at e2
    injection e2 with e2 _
    exact ⟨by show q.1 + 2 ≤ q.1 + 1 + 4; omega, by show q.1 + 1 + 4 ≤ 400; omega⟩
  split at h
  · rename_i k; rw [if_pos k]; exact row4 _ _ _ _ h
  · rename_i k; rw [if_neg k]
    split at h
    · rename_i k; rw [if_pos k]; exact row4 _ _ _ _ h
    · rename_i k; rw [if_neg k]
      split at h
      · rename_i k; rw [if_pos k]
        have r := (gRow6 h).2.2.2.2.2
        have h4 : (gk K 24 (gk K 3 (gk K 3 (gk K 2 (gk K 2 (gk K 2 (q.1 + 1, 0))))))).2 = 0 := h
        have t := (gk_ok h4).2.2
        have e : gk K 24 (gk K 3 (gk K 3 (gk K 2 (gk K 2 (gk K 2 (q.1 + 1, 0)))))) = (q.1 + 1 + 6, 0) := r.2
        rw [r.2]
        have l := t.1
        have e2 := t.2
        rw [e] at e2
        injection e2 with e2 _
        exact ⟨by show q.1 + 2 ≤ q.1 + 1 + 6; omega, by show q.1 + 1 + 6 ≤ 400; omega⟩
      · rename_i k; rw [if_neg k]
        split at h
        · rename_i k; rw [if_pos k]
          unfold gLaw at h ⊢
          have z1 := gk_ok (gL_z (gSum_z h))
          have e : gk K 25 (q.1 + 1, 0) = (q.1 + 2, 0) := z1.2.2.2
          have l : q.1 + 1 < 400 := z1.2.2.1
          rw [e]
          have b := gL_bd (K := K) 5 (q.1 + 2, 0) (by show q.1 + 2 ≤ 400; omega)
          have b1 : q.1 + 2 ≤ (gL K 5 (q.1 + 2, 0)).1 := b.1
          have c1 := gSum_ge (K := K) (e := 24) (by omega) b.2
          have c2 := (gSum_le (K := K) (e := 24) (by omega) b.2).2
          exact ⟨by omega, c2⟩
        · rename_i k; rw [if_neg k]
          split at h
          · rename_i k; rw [if_pos k]
            have hg2 := h
            unfold gWants at hg2
            obtain ⟨p1, p2, p3, p4, p5, p6, p7⟩ := gWants_ok h
            rw [p3] at hg2
            have p5' : gW K 5 (q.1 + 1 + 1, 0) = (q.1 + 1 + 1 + 2 * wn K 4 (q.1 + 1 + 1), 0) := p5
            have hg3 : (gk K 24 (gW K 5 (q.1 + 1 + 1, 0))).2 = 0 := hg2
            rw [p5'] at hg3
            have l : q.1 + 1 + 1 + 2 * wn K 4 (q.1 + 1 + 1) < 400 := (gk_ok hg3).2.2.1
            rw [p7]
            exact ⟨by show q.1 + 2 ≤ q.1 + 1 + 1 + 2 * _ + 1; omega, by show q.1 + 1 + 1 + 2 * wn K 4 (q.1 + 1 + 1) + 1 ≤ 400; omega⟩
          · rename_i k; rw [if_neg k]
            have r := (gRow2 h).2.2
            have h4 : (gk K 24 (gk K 3 (q.1 + 1, 0))).2 = 0 := h
            rw [r.1] at h4
            have l : q.1 + 1 + 1 < 400 := (gk_ok h4).2.2.1
            rw [r.2]
            exact ⟨by show q.1 + 2 ≤ q.1 + 1 + 2; omega, by show q.1 + 1 + 2 ≤ 400; omega⟩
theorem gInc_le {c : Nat → Nat} {p p' w : Nat} (h : ∀ x, c x ≤ p) (hp : p + 1 ≤ p') : ∀ x, gInc c w x ≤ p' := fun x => by
  have := h x
  unfold gInc
  split <;> omega
theorem sW_k {T : Nat → Nat} {L : Nat} {nl : NL} {K : Nat → Nat} {x : Nat × Nat} : ∀ (m a : Nat) (W : Nat → Nat), wk K m a → sW T L K nl m a W = .inl x → K x.2 ≠ 0
  | 0, _, W, _, e => by rw [sW] at e; exact absurd e (by simp)
  | m + 1, a, W, hw, e => by
    by_cases k : K a = 2
    · obtain ⟨w1, w2⟩ := hw k
      cases hf : nlF (vV T L a) 0 nl with
      | none =>
        rw [sW_n k hf] at e
        injection e with e; rw [← e]
        show K a ≠ 0; omega
      | some gi =>
        rw [sW_s k hf] at e
        split at e
        · injection e with e; rw [← e]
          show K a ≠ 0; omega
        · split at e
          · injection e with e; rw [← e]
            show K (a + 1) ≠ 0; omega
          · exact sW_k m (a + 2) _ w2 e
    · rw [sW, if_pos k] at e; exact absurd e (by simp)
theorem sTell_k {T : Nat → Nat} {L M : Nat} {c : Nat → Nat} {q : Nat × Nat} {d : TD} {nl : NL} {x : Nat × Nat} (hg : (gTell (kK T L M) c q).2 = 0) (e : sTell T L (kK T L M) q.1 d nl = .inl x) : kK T L M x.2 ≠ 0 := by
  obtain ⟨g1, g2, g3, g4, g5, g6⟩ := gTell_ok hg
  rw [g6] at hg
  unfold sTell at e
  unfold gBody at hg
  by_cases k4 : kK T L M q.1 = 4
  · rw [if_pos k4] at e hg
    obtain ⟨-, ⟨p1, p2, p3, p4⟩, -⟩ := gRow4 hg
    have p1' : kK T L M (q.1 + 1) = 2 := p1
    have p2' : kK T L M (q.1 + 1 + 1) = 3 := p2
    have p3' : kK T L M (q.1 + 1 + 2) = 3 := p3
    unfold sGrain at e
    split at e
    · injection e with e; rw [← e]; show kK T L M (q.1 + 1) ≠ 0; omega
    · split at e
      · injection e with e; rw [← e]; show kK T L M (q.1 + 1 + 1) ≠ 0; omega
      · split at e
        · injection e with e; rw [← e]; show kK T L M (q.1 + 1 + 2) ≠ 0; omega
        · exact absurd e (by simp)
  · rw [if_neg k4] at e hg
    by_cases k5 : kK T L M q.1 = 5
    · rw [if_pos k5] at e hg
      obtain ⟨-, ⟨p1, p2, p3, p4⟩, -⟩ := gRow4 hg
      have p1' : kK T L M (q.1 + 1) = 2 := p1
      have p2' : kK T L M (q.1 + 1 + 1) = 3 := p2
      have p3' : kK T L M (q.1 + 1 + 2) = 2 := p3
      unfold sHole at e
      split at e
      · injection e with e; rw [← e]; show kK T L M (q.1 + 1) ≠ 0; omega
      · split at e
        · injection e with e; rw [← e]; show kK T L M (q.1 + 1 + 1) ≠ 0; omega
        · cases hf : nlF (vV T L (q.1 + 1 + 2)) 0 nl with
          | none => rw [hf] at e; injection e with e; rw [← e]; show kK T L M (q.1 + 1 + 2) ≠ 0; omega
          | some i => rw [hf] at e; exact absurd e (by simp)
    · rw [if_neg k5] at e hg
      by_cases k6 : kK T L M q.1 = 6
      · rw [if_pos k6] at e hg
        obtain ⟨⟨p1, p2, p3, p4, p5, p6⟩, -⟩ := gRow6 hg
        have p1' : kK T L M (q.1 + 1) = 2 := p1
        have p2' : kK T L M (q.1 + 1 + 1) = 2 := p2
        have p3' : kK T L M (q.1 + 1 + 2) = 2 := p3
        have p4' : kK T L M (q.1 + 1 + 3) = 3 := p4
        have p5' : kK T L M (q.1 + 1 + 4) = 3 := p5
        unfold sRat at e
        split at e
        · injection e with e; rw [← e]; show kK T L M (q.1 + 1) ≠ 0; omega
        · cases hf : nlF (vV T L (q.1 + 1 + 1)) 0 nl with
          | none => rw [hf] at e; injection e with e; rw [← e]; show kK T L M (q.1 + 1 + 1) ≠ 0; omega
          | some i =>
            cases hf2 : nlF (vV T L (q.1 + 1 + 2)) 1 nl with
            | none => simp only [hf, hf2] at e; injection e with e; rw [← e]; show kK T L M (q.1 + 1 + 2) ≠ 0; omega
            | some j =>
              simp only [hf, hf2] at e
              split at e
              · injection e with e; rw [← e]; show kK T L M (q.1 + 1 + 3) ≠ 0; omega
              · split at e
                · injection e with e; rw [← e]; show kK T L M (q.1 + 1 + 4) ≠ 0; omega
                · exact absurd e (by simp)
      · rw [if_neg k6] at e hg
        by_cases k10 : kK T L M q.1 = 10
        · rw [if_pos k10] at e
          rw [if_neg (by omega), if_pos k10] at hg
          obtain ⟨-, p2, -, p4, -⟩ := gWants_ok hg
          have p2' : kK T L M (q.1 + 1) = 3 := p2
          unfold sMer at e
          split at e
          · injection e with e; rw [← e]; show kK T L M (q.1 + 1) ≠ 0; omega
          · cases hs : sW T L (kK T L M) nl 4 (q.1 + 1 + 1) (fun _ => 0) with
            | inl y =>
              rw [hs] at e
              have e' : y = x := by injection e
              rw [e'] at hs
              exact sW_k 4 _ _ p4 hs
            | inr W => rw [hs] at e; exact absurd e (by simp)
        · rw [if_neg k10] at e
          by_cases k7 : kK T L M q.1 = 7 ∨ kK T L M q.1 = 8 ∨ kK T L M q.1 = 9
          · rw [if_neg (by omega), if_neg (by omega), if_neg (by omega)] at e; exact absurd e (by simp)
          · rw [if_neg k7, if_neg k10] at hg
            have p1 : kK T L M (q.1 + 1) = 3 := (gRow2 hg).2.1.1
            have num : ∀ lo hi f, sNum T L lo hi (q.1 + 1) f d nl = .inl x → kK T L M x.2 ≠ 0 := fun lo hi f e => by
              unfold sNum at e
              split at e
              · exact absurd e (by simp)
              · injection e with e; rw [← e]; show kK T L M (q.1 + 1) ≠ 0; omega
            split at e
            · exact num _ _ _ e
            · split at e
              · exact num _ _ _ e
              · split at e
                · exact num _ _ _ e
                · exact absurd e (by simp)
section Loops
variable {E : EN} {g : GS} {s : MS} {T : Nat → Nat} {L M sd lv t : Nat}
/-- what fill leaves -/
def FlP (t M : Nat) (r : SR) (v : MS) : Prop := match r with
  | .inl x => LQ x.2 x.1 v ∧ (1 ≤ x.1 ∧ x.1 ≤ 5) ∧ x.2 < M
  | .inr y => v.1 24 7 = 0 ∧ TCf y.1 t v ∧ TOk y.1
theorem l_L_fill {R : Int32 → GS → MS → Prop} (hS : SX g) (et : t = 88 ∨ t = 104) (hy : g.2.2 24 4 = some 18) (hx : g.2.2 24 5 = some t) (hT : TkC T L M s) : ∀ (n : Nat) (c : Nat → Nat) (q : Nat × Nat) (d : TD) (nl : NL) (u : MS) (i ms : Nat), (gAll (kK T L M) n c q).2 = 0 → 401 ≤ q.1 + n → q.1 ≤ 400 → 2 * i ≤ q.1 → LQ q.1 0 u → NCl nl u → PIv d nl → CNt c d → TCf d t u → u.1 (t + 11) 4 = nI ms → ms ≤ q.1 → FTL t s u → (∀ v, FTL t s v → FlP t M (sAll T L (kK T L M) n c q d nl) v → R (v.1 24 7) g v) → AWP E m_Teller_fill 29 0 0 [(0, .ref 24), (1, .ref t), (2, .int (nI i))] [] (mk g u) (rI R)
  | n, c, q, d, nl, u, i, ms, hg, hn, h4, hi, hq, hN, hP, hC, hF, hms, hm, hFT, h => by
    have TU := hT.LL et hFT
    have z := gAll_z hg
    obtain ⟨n, rfl⟩ : ∃ n', n = n' + 1 := ⟨n - 1, by omega⟩
    have m4 := TU.2.1
    refine v_Teller_fill_29 t _ hS hy ?_
    rw [hq.2.1, hq.1, TU.1, nI_1 i]
    refine pk_le 400 i (fun w => absurd w (by omega)) (fun _ => ⟨fun _ => pk_le M q.1 (fun w => rI.mk ?_) (fun w => ?_), fun w => absurd rfl w⟩)
    · have k0 : ¬ kK T L M q.1 ≠ 0 := fun y => by have := kK_M.mpr y; omega
      have := h u hFT (by rw [sAll, if_neg (fun y => k0 y.2)]; exact ⟨hq.2.1, hF, hP.1⟩)
      rw [hq.2.1] at this
      exact this
    · have k0 : q.2 = 0 ∧ kK T L M q.1 ≠ 0 := ⟨z, kK_M.mp w⟩
      rw [gAll, if_pos k0] at hg
      have gt := gAll_z hg
      have bd := gTell_bd gt
      refine f_L_tell hS et hy hx TU hq gt hN hP hC hF hms hm (fun v v1 v2 => ?_)
      have FV := hFT.tr v1
      cases hs : sTell T L (kK T L M) q.1 d nl with
      | inl x =>
        rw [hs] at v2
        rw [sAll_l k0 hs] at h
        obtain ⟨x1, x2, x3⟩ := sTell_in gt hs
        have xM : x.2 < M := kK_M.mpr (sTell_k gt hs)
        obtain ⟨v3, v4⟩ := v2
        have f5 := v3.2.2.1
        refine v_Teller_fill_29 t _ hS hy ?_
        rw [v3.2.1]
        have := h v FV ⟨v3, x3, xM⟩
        rw [v3.2.1] at this
        exact pk_le 400 (i + 1) (fun w => rI.mk this) (fun _ => pk_eq x.1 0 (fun w => absurd w v4) (fun _ => rI.mk this) rfl rfl (by omega) (by omega))
      | inr y =>
        rw [hs] at v2
        rw [sAll_r k0 hs] at h
        obtain ⟨v3, v4, v5, ms', v6, v7⟩ := v2
        obtain ⟨p1, p2⟩ := sTell_ok gt hP hC (d' := y.1) (nl' := y.2) hs
        exact l_L_fill hS et hy hx hT n _ _ y.1 y.2 v (i + 1) ms' hg (by omega) bd.2 (by omega) v3 v5 p1 p2 v4 v6 v7 FV h
  termination_by n => n
/-- a wrong one stays; else the texts are the same -/
theorem RZ.cg {c : Nat → Nat} {cB cC p : Nat} {b b' : Option (Nat × Nat)} {d d' : TD} {nl nl' : NL} (h : RZ T L M sd c cB cC p b d nl s) (eb : b = b') (e : b' = none → d = d' ∧ nl = nl') : RZ T L M sd c cB cC p b' d' nl' s := by
  subst eb
  obtain ⟨⟨x1, x2, x3, x4, x5, x6, x7, x8, x9⟩, z2, z3, z4, z5, z6, z7, z8, z9⟩ := h
  refine ⟨⟨x1, x2, x3, x4, x5, x6, x7, x8, fun bn => ?_⟩, z2, z3, z4, z5, z6, z7, z8, fun bn => ?_⟩
  · obtain ⟨e1, e2⟩ := e bn
    subst e1 e2
    exact x9 bn
  · obtain ⟨e1, e2⟩ := e bn
    subst e1 e2
    exact z9 bn
theorem l_M_all {Q : Option Value → SG → Prop} {x1 : Int32} (hl : lv + sd = 1) (hL : L ≤ 2000) (hS : SX g) (hT : TkR T L M s) : ∀ (n : Nat) (c : Nat → Nat) (q : Nat × Nat) (b : Option (Nat × Nat)) (d : TD) (nl : NL) (cB cC : Nat) (u : MS), RQ T L M q u → (q.2 = 0 → 401 ≤ q.1 + n ∧ BE b q.1 ∧ RZ T L M sd c cB cC q.1 b d nl u ∧ (b = none → PIv d nl ∧ CNt c d) ∧ ∀ w, c w ≤ q.1) → FPb lv s u → (∀ v, FPb lv s v → RQ T L M (gAll (kK T L M) n c q) v → ((gAll (kK T L M) n c q).2 = 0 → ∃ c' cB' cC', RZ T L M sd c' cB' cC' (gAll (kK T L M) n c q).1 (rB b (sAll T L (kK T L M) n c q d nl)) (rD d (sAll T L (kK T L M) n c q d nl)) (rN nl (sAll T L (kK T L M) n c q d nl)) v ∧ (rB b (sAll T L (kK T L M) n c q d nl) = none → TOk (rD d (sAll T L (kK T L M) n c q d nl)))) → AWP E m_Mo_read 134 0 0 [(0, .ref 120), (1, .int x1)] [] (mk g v) Q) → AWP E m_Mo_read 112 0 0 [(0, .ref 120), (1, .int x1)] [] (mk g u) Q
  | n, c, q, b, d, nl, cB, cC, u, hq, hz, hF, h => by
    have q5 := hq.2.2.2.2.1
    have q7 := hq.2.2.2.2.2.2
    have TU := hT.B hF
    refine v_Mo_read_112 _ hS ?_
    rw [hq.1]
    refine pk_eq q.2 0 (fun z => ?_) (fun z => h u hF (by rw [gAll_f z]; exact hq) (fun w => absurd (by rw [gAll_f z] at w; exact w) z)) rfl rfl (by omega) (by omega)
    obtain ⟨hn, hb, hZ, hP, hc⟩ := hz z
    obtain ⟨n, rfl⟩ : ∃ n', n = n' + 1 := ⟨n - 1, by omega⟩
    refine f_M_is (κ := 0) rfl (by omega) hS TU hq (fun w => ⟨fun _ => ?_, fun y => absurd rfl y⟩) (fun w => ⟨fun y => absurd y (by decide), fun _ => ?_⟩)
    · have k0 : q.2 = 0 ∧ kK T L M q.1 ≠ 0 := ⟨z, fun y => w ⟨z, y⟩⟩
      rw [gAll, if_pos k0] at h
      refine f_M_one hl hL hS TU hq z k0.2 hb hZ (fun bn => (hP bn).1) hc (fun v v1 v2 v3 => ?_)
      by_cases gz : (gTell (kK T L M) c q).2 = 0
      · obtain ⟨cB', cC', r⟩ := v3 gz
        have bd := gTell_bd gz
        refine l_M_all hl hL hS hT n (gInc c (kK T L M q.1)) (gTell (kK T L M) c q) _ _ _ cB' cC' v v2 (fun _ => ⟨by omega, rB_be hb (by omega) (fun x e => (sTell_in gz e).2.1), r, fun bn => ?_, gInc_le hc (by omega)⟩) (hF.tr v1) (fun v' w1 w2 w3 => h v' w1 w2 (fun zf => ?_))
        · obtain ⟨b0, y, ey⟩ := rB_n bn
          rw [ey]
          exact sTell_ok gz (hP b0).1 (hP b0).2 (d' := y.1) (nl' := y.2) ey
        · obtain ⟨c', cB'', cC'', r', tok⟩ := w3 zf
          cases hs : sTell T L (kK T L M) q.1 d nl with
          | inl x =>
            rw [hs] at r' tok
            have eb : ∀ rr, rB (rB b (.inl x)) rr = rB b (.inl x) := fun rr => by
              cases b with
              | none => cases rr <;> rfl
              | some y => cases rr <;> rfl
            have nn : rB b (.inl x) ≠ none := by cases b <;> simp [rB]
            rw [sAll_l k0 hs]
            rw [eb] at r'
            exact ⟨c', cB'', cC'', r'.cg rfl (fun w => absurd w nn), fun w => absurd w nn⟩
          | inr y =>
            rw [hs] at r' tok
            rw [sAll_r k0 hs]
            have eb : rB b (.inr y) = b := by cases b <;> rfl
            rw [eb] at r' tok
            have ed : rB b (sAll T L (kK T L M) n (gInc c (kK T L M q.1)) (gTell (kK T L M) c q) y.1 y.2) = none → rD (rD d (.inr y)) (sAll T L (kK T L M) n (gInc c (kK T L M q.1)) (gTell (kK T L M) c q) y.1 y.2) = rD d (sAll T L (kK T L M) n (gInc c (kK T L M q.1)) (gTell (kK T L M) c q) y.1 y.2) ∧ rN (rN nl (.inr y)) (sAll T L (kK T L M) n (gInc c (kK T L M q.1)) (gTell (kK T L M) c q) y.1 y.2) = rN nl (sAll T L (kK T L M) n (gInc c (kK T L M q.1)) (gTell (kK T L M) c q) y.1 y.2) := fun w => by
              obtain ⟨-, y', ey⟩ := rB_n w
              rw [ey]; exact ⟨rfl, rfl⟩
            exact ⟨c', cB'', cC'', r'.cg rfl ed, fun w => by rw [← (ed w).1]; exact tok w⟩
      · have e1 : gAll (kK T L M) n (gInc c (kK T L M q.1)) (gTell (kK T L M) c q) = gTell (kK T L M) c q := gAll_f gz _ _
        rw [e1] at h
        refine v_Mo_read_112 _ hS ?_
        have v7 := v2.2.2.2.2.2.2
        rw [v2.1]
        exact pk_eq _ 0 (fun y => absurd y gz) (fun _ => h v (hF.tr v1) v2 (fun y => absurd y gz)) rfl rfl (by omega) (by omega)
    · have k0 : ¬ (q.2 = 0 ∧ kK T L M q.1 ≠ 0) := fun y => y.2 w.2
      rw [gAll, if_neg k0, sAll, if_neg k0] at h
      have eb : rB b (.inr (d, nl)) = b := by cases b <;> rfl
      refine h u hF hq (fun _ => ⟨c, cB, cC, ?_, fun bn => ?_⟩)
      · rw [eb]; exact hZ
      · rw [eb] at bn; exact (hP bn).1.1
  termination_by n => n
end Loops
