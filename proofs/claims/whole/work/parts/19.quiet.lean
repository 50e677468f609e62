/-! QUIET MINUTES: rats only walk, wait and get hungry -/
def capP (x : Int32) (q : Nat) : Int32 := if x + nI q < 99 then x + nI q else 99
def subP (x : Int32) (q : Nat) : Int32 := if 0 < x - nI q then x - nI q else 0
theorem capP_n {h q : Nat} (hh : h ≤ 99) (hq : q < 100000) : capP (nI h) q = nI (min (h + q) 99) := by
  rw [capP, nI_add, show (99 : Int32) = nI 99 from rfl]
  by_cases c : h + q < 99
  · rw [if_pos (nI_lt c (by omega)), Nat.min_eq_left (by omega)]
  · rw [if_neg (nI_nlt (by omega) (by omega)), Nat.min_eq_right (by omega)]
theorem subP_n {h q : Nat} (hh : h < 100000) (hq : q < 100000) : subP (nI h) q = nI (h - q) := by
  rw [subP]
  by_cases c : q ≤ h
  · rw [pk_sub c]
    by_cases d : q < h
    · rw [if_pos (show (0 : Int32) < nI (h - q) from nI_lt (a := 0) (by omega) (by omega))]
    · rw [if_neg (show ¬ (0 : Int32) < nI (h - q) from nI_nlt (a := 0) (b := h - q) (by omega) (by omega)), show h - q = 0 by omega]; rfl
  · rw [if_neg (fun z => ?_), show h - q = 0 by omega]
    · rfl
    · have := pk_sneg (a := h) (b := q) (by omega) (by omega)
      exact Int32.lt_asymm this z
/-- the rats before n, q minutes on -/
def pSk (q n : Nat) (R : Row) : Row := fun j => if 74 ≤ j ∧ j < 74 + n ∧ ¬ R (j - 32) = 3 then capP (R j) q else if 50 ≤ j ∧ j < 50 + n ∧ ¬ R (j - 8) = 3 then subP (R j) q else R j
def pEq (q : Nat) (R : Row) : Row := upd (upd R 118 (subP (R 118) q)) 114 (R 114 + nI q)
theorem pSk_o {q n : Nat} {R : Row} {j : Nat} (h1 : j < 50 ∨ (58 ≤ j ∧ j < 74) ∨ 82 ≤ j) (h8 : n ≤ 8) : pSk q n R j = R j := by
  rw [pSk, if_neg (by omega), if_neg (by omega)]
theorem pSk_74 {q n : Nat} {R : Row} {r : Nat} (hr : r < 8) (h8 : n ≤ 8) : pSk q n R (74 + r) = if r < n ∧ ¬ R (42 + r) = 3 then capP (R (74 + r)) q else R (74 + r) := by
  rw [pSk, show 74 + r - 32 = 42 + r by omega, show 74 + r - 8 = 66 + r by omega]
  by_cases c : r < n ∧ ¬ R (42 + r) = 3
  · rw [if_pos c, if_pos ⟨by omega, by omega, c.2⟩]
  · rw [if_neg c, if_neg (fun z => c ⟨by omega, z.2.2⟩), if_neg (by omega)]
theorem pSk_50 {q n : Nat} {R : Row} {r : Nat} (hr : r < 8) (h8 : n ≤ 8) : pSk q n R (50 + r) = if r < n ∧ ¬ R (42 + r) = 3 then subP (R (50 + r)) q else R (50 + r) := by
  rw [pSk, if_neg (by omega), show 50 + r - 8 = 42 + r by omega]
  by_cases c : r < n ∧ ¬ R (42 + r) = 3
  · rw [if_pos c, if_pos ⟨by omega, by omega, c.2⟩]
  · rw [if_neg c, if_neg (fun z => c ⟨by omega, z.2.2⟩)]
theorem pSk_s3 {q n : Nat} {R : Row} (h8 : n < 8) (h : R (42 + n) = 3) : pSk q (n + 1) R = pSk q n R := by
  funext j
  unfold pSk
  by_cases c1 : 74 ≤ j ∧ j < 74 + n ∧ ¬ R (j - 32) = 3
  · rw [if_pos c1, if_pos ⟨c1.1, by omega, c1.2.2⟩]
  · rw [if_neg c1]
    by_cases c2 : 50 ≤ j ∧ j < 50 + n ∧ ¬ R (j - 8) = 3
    · rw [if_neg (by omega), if_pos c2, if_pos ⟨c2.1, by omega, c2.2.2⟩]
    · rw [if_neg c2, if_neg, if_neg]
      · rintro ⟨a1, a2, a3⟩
        by_cases e : j = 50 + n
        · rw [e, show 50 + n - 8 = 42 + n by omega] at a3; exact a3 h
        · exact c2 ⟨a1, by omega, a3⟩
      · rintro ⟨a1, a2, a3⟩
        by_cases e : j = 74 + n
        · rw [e, show 74 + n - 32 = 42 + n by omega] at a3; exact a3 h
        · exact c1 ⟨a1, by omega, a3⟩
theorem pSk_s {q n : Nat} {R : Row} (h8 : n < 8) (h : ¬ R (42 + n) = 3) : pSk q (n + 1) R = upd (upd (pSk q n R) (74 + n) (capP (R (74 + n)) q)) (50 + n) (subP (R (50 + n)) q) := by
  funext j
  rw [upd_a, upd_a]
  by_cases e1 : j = 50 + n
  · subst e1
    rw [if_pos rfl, pSk_50 h8 (by omega), if_pos ⟨by omega, h⟩]
  · rw [if_neg e1]
    by_cases e2 : j = 74 + n
    · subst e2
      rw [if_pos rfl, pSk_74 h8 (by omega), if_pos ⟨by omega, h⟩]
    · rw [if_neg e2]
      unfold pSk
      by_cases c1 : 74 ≤ j ∧ j < 74 + n ∧ ¬ R (j - 32) = 3
      · rw [if_pos c1, if_pos ⟨c1.1, by omega, c1.2.2⟩]
      · rw [if_neg c1, if_neg (fun z => c1 ⟨z.1, by omega, z.2.2⟩)]
        by_cases c2 : 50 ≤ j ∧ j < 50 + n ∧ ¬ R (j - 8) = 3
        · rw [if_pos c2, if_pos ⟨c2.1, by omega, c2.2.2⟩]
        · rw [if_neg c2, if_neg (fun z => c2 ⟨z.1, by omega, z.2.2⟩)]
/-- all numbers that a wait looks at, as such -/
def WF3 (e : PE) (R : Row) : Prop := (∀ k, k < 6 → ∃ a, a ≤ 100000000 ∧ R k = nI a) ∧ (∃ c, c < 2000 ∧ R 118 = nI c) ∧ (∃ o, 1 ≤ o ∧ o ≤ 99 ∧ eOd e = nI o) ∧ ∀ r, r < eR e → (∃ x, x ≤ 99 ∧ R (74 + r) = nI x) ∧ ∃ l, l ≤ 100 ∧ R (50 + r) = nI l ∧ (R (42 + r) = 0 → l = 0) ∧ ((R (42 + r) = 1 ∨ R (42 + r) = 2) → 1 ≤ l)
/-- for q minutes on nothing is done -/
def Quiet (e : PE) (q : Nat) (R : Row) : Prop := ∀ r, r < eR e → (R (42 + r) = 0 → ((¬ eLa e ≤ R 114 → ¬ R (R (90 + r)).toNatClampNeg ≤ 0 → nI q ≤ R 118) ∧ ((∃ k, k < 6 ∧ ¬ R k = 0) → ∃ x o, R (74 + r) = nI x ∧ eOd e = nI o ∧ x + q + 1 ≤ o ∧ o ≤ 99))) ∧ ((R (42 + r) = 1 ∨ R (42 + r) = 2) → ∃ l, R (50 + r) = nI l ∧ q + 1 ≤ l ∧ l ≤ 100)
theorem hun_cap {R : Row} {r x : Nat} (hx : x ≤ 99) (h : R (74 + r) = nI x) : pHun r R = upd R (74 + r) (capP (R (74 + r)) 1) := by
  rw [h, capP_n hx (by omega), pHun, h]
  by_cases c : 99 ≤ x
  · rw [if_pos (show (99 : Int32) ≤ nI x from nI_le c (by omega)), show min (x + 1) 99 = x by omega, ← h, upd_self]
  · rw [if_neg (show ¬ (99 : Int32) ≤ nI x from nI_ge (a := x) (b := 99) (by omega) (by omega)), nI_1, show min (x + 1) 99 = x + 1 by omega]
/-- a quiet minute, rat by rat -/
theorem quiet_rats {e : PE} {R : Row} (hE : EOk e) (hF : WFr e R) (hW2 : WF2 e R) (hW : WF3 e R) (hQ : Quiet e 1 R) : ∀ n, n ≤ eR e → pRats e n (R, fun _ => 0) = (pSk 1 n R, fun _ => 0)
  | 0, _ => by
    rw [pRats]
    refine Prod.ext ?_ rfl
    funext j
    show R j = pSk 1 0 R j
    rw [pSk, if_neg (by omega), if_neg (by omega)]
  | n + 1, hn => by
    have ih := quiet_rats hE hF hW2 hW hQ n (by omega)
    have h8 := hE.1
    rw [pRats, ih]
    have w42 : pSk 1 n R (42 + n) = R (42 + n) := pSk_o (by omega) (by omega)
    have w74 : pSk 1 n R (74 + n) = R (74 + n) := by rw [pSk_74 (by omega) (by omega), if_neg (by omega)]
    have w50 : pSk 1 n R (50 + n) = R (50 + n) := by rw [pSk_50 (by omega) (by omega), if_neg (by omega)]
    obtain ⟨⟨x, hx9, hx⟩, l, hl, hln, hl0, hl1⟩ := hW.2.2.2 n hn
    obtain ⟨⟨kk, hkg, hkn⟩, -⟩ := hF n hn
    have hkk : (R (90 + n)).toNatClampNeg = kk := by rw [hkn, tn_n (by have := hE.2.1; omega)]
    have hk6 : kk < 6 := by have := hE.2.1; omega
    rw [pRat]
    simp only [w42]
    by_cases c3 : R (42 + n) = 3
    · rw [if_pos c3, pSk_s3 (by omega) c3]
    · rw [if_neg c3]
      have hH : pHun n (pSk 1 n R) = upd (pSk 1 n R) (74 + n) (capP (R (74 + n)) 1) := by rw [hun_cap hx9 (w74.trans hx), w74]
      by_cases c0 : R (42 + n) = 0
      · rw [if_pos c0]
        have hl' : l = 0 := hl0 c0
        have hs50 : subP (R (50 + n)) 1 = R (50 + n) := by rw [hln, subP_n (by omega) (by omega), hl']
        have hX : pHun n (pSk 1 n R) = pSk 1 (n + 1) R := by
          rw [pSk_s (by omega) c3, hs50, hH]
          funext j
          rw [upd_a (upd _ _ _)]
          split
          · rename_i e1; rw [e1, upd_n _ _ (by omega), w50]
          · rfl
        obtain ⟨q1, q2⟩ := (hQ n hn).1 c0
        have o6 : ∀ j, j < 50 → pSk 1 (n + 1) R j = R j := fun j hj => pSk_o (by omega) (by omega)
        have o90 : pSk 1 (n + 1) R (90 + n) = R (90 + n) := pSk_o (by omega) (by omega)
        have o114 : pSk 1 (n + 1) R 114 = R 114 := pSk_o (by omega) (by omega)
        have o118 : pSk 1 (n + 1) R 118 = R 118 := pSk_o (by omega) (by omega)
        have o74 : pSk 1 (n + 1) R (74 + n) = capP (R (74 + n)) 1 := by rw [pSk_74 (by omega) (by omega), if_pos ⟨by omega, c3⟩]
        rw [hX, pHeap]
        simp only [o90, hkk, o6 kk (by omega), o114, o118, o74]
        have hcond : R kk = 0 ∨ eLa e ≤ R 114 ∨ ¬ R 118 ≤ 0 := by
          by_cases a1 : R kk = 0
          · exact Or.inl a1
          · by_cases a2 : eLa e ≤ R 114
            · exact Or.inr (Or.inl a2)
            · refine Or.inr (Or.inr (fun z => ?_))
              have := q1 a2 (by rw [hkk]; exact fun z => a1 (Int32.le_antisymm z (hW2.1 kk hk6)))
              exact absurd (Int32.le_trans this z) (by decide)
        rw [if_pos hcond]
        by_cases hz : ∃ k, k < 6 ∧ ¬ R k = 0
        · obtain ⟨x', o, hx', ho, hxo, ho9⟩ := q2 hz
          rw [if_pos]
          rw [hx', capP_n (by omega) (by omega), ho]
          exact nI_lt (by omega) (by omega)
        · have hb : pBest (pSk 1 (n + 1) R) (eG e) < 6 := by rcases pBest_lt (pSk 1 (n + 1) R) (eG e) with q | q <;> (have := hE.2.1; omega)
          have hbz : pSk 1 (n + 1) R (pBest (pSk 1 (n + 1) R) (eG e)) = 0 := by
            rw [o6 _ (by omega)]
            by_cases z : R (pBest (pSk 1 (n + 1) R) (eG e)) = 0
            · exact z
            · exact absurd ⟨_, hb, z⟩ hz
          rw [pNib, if_pos hbz]
          split <;> rfl
      · rw [if_neg c0]
        have c12 : R (42 + n) = 1 ∨ R (42 + n) = 2 := by
          rcases (hW2.2.2 n hn).1 with q | q | q | q
          · exact absurd q c0
          · exact Or.inl q
          · exact Or.inr q
          · exact absurd q c3
        obtain ⟨l', hl2, hl3, hl4⟩ := (hQ n hn).2 c12
        have h50 : pHun n (pSk 1 n R) (50 + n) = nI l' := by rw [pHun_o (by omega), w50, hl2]
        have hd : nI l' - 1 = nI (l' - 1) := by rw [show (1 : Int32) = nI 1 from rfl, pk_sub (by omega)]
        refine Prod.ext ?_ rfl
        show pWalk e n (pHun n (pSk 1 n R)) (R (42 + n)) = pSk 1 (n + 1) R
        rw [pWalk, upd_s, h50, hd, if_neg (show ¬ nI (l' - 1) ≤ 0 from nI_nle (by omega) (by omega)), pSk_s (by omega) c3, hH, hl2, subP_n (by omega) (by omega)]
theorem quiet_min {e : PE} {R : Row} (hE : EOk e) (hF : WFr e R) (hW2 : WF2 e R) (hW : WF3 e R) (hQ : Quiet e 1 R) : pMin e R = pEq 1 (pSk 1 (eR e) R) := by
  have h8 := hE.1
  rw [pMin, quiet_rats hE hF hW2 hW hQ _ (Nat.le_refl _), pEnd, pEq]
  dsimp only
  have o118 : pSk 1 (eR e) R 118 = R 118 := pSk_o (by omega) (by omega)
  have o114 : pSk 1 (eR e) R 114 = R 114 := pSk_o (by omega) (by omega)
  obtain ⟨c, hc, hcn⟩ := hW.2.1
  have h1 : nI 1 = 1 := rfl
  rw [h1]
  by_cases z : R 118 ≤ 0
  · have : c = 0 := by
      rcases Nat.eq_zero_or_pos c with q | q
      · exact q
      · rw [hcn] at z; exact absurd z (nI_nle q (by omega))
    rw [if_pos (show pSk 1 (eR e) R 118 ≤ 0 by rw [o118]; exact z), o118, hcn, subP_n (by omega) (by omega), this]
    rw [show upd (pSk 1 (eR e) R) 118 (nI (0 - 1)) = pSk 1 (eR e) R by rw [show nI (0 - 1) = pSk 1 (eR e) R 118 by rw [o118, hcn, this], upd_self]]
  · have hp : 0 < c := by
      rcases Nat.eq_zero_or_pos c with q | q
      · rw [hcn, q] at z; exact absurd (by decide) z
      · exact q
    rw [if_neg (show ¬ pSk 1 (eR e) R 118 ≤ 0 by rw [o118]; exact z), o118, hcn, subP_n (by omega) (by omega), show nI c - 1 = nI (c - 1) by rw [show (1 : Int32) = nI 1 from rfl, pk_sub (by omega)]]
    simp only [upd_n _ _ (show 114 ≠ 118 by decide)]
/-- the row behind a quiet minute is in order, and quiet for the rest -/
theorem pQ_o {q n : Nat} {R : Row} {j : Nat} (h1 : j < 50 ∨ (58 ≤ j ∧ j < 74) ∨ 82 ≤ j) (h2 : j ≠ 114) (h3 : j ≠ 118) (h8 : n ≤ 8) : pEq q (pSk q n R) j = R j := by
  rw [pEq, upd_n _ _ h2, upd_n _ _ h3, pSk_o h1 h8]
theorem pQ_74 {q n : Nat} {R : Row} {r : Nat} (hr : r < 8) (h8 : n ≤ 8) : pEq q (pSk q n R) (74 + r) = if r < n ∧ ¬ R (42 + r) = 3 then capP (R (74 + r)) q else R (74 + r) := by
  rw [pEq, upd_n _ _ (by omega), upd_n _ _ (by omega), pSk_74 hr h8]
theorem pQ_50 {q n : Nat} {R : Row} {r : Nat} (hr : r < 8) (h8 : n ≤ 8) : pEq q (pSk q n R) (50 + r) = if r < n ∧ ¬ R (42 + r) = 3 then subP (R (50 + r)) q else R (50 + r) := by
  rw [pEq, upd_n _ _ (by omega), upd_n _ _ (by omega), pSk_50 hr h8]
theorem pQ_114 {q n : Nat} {R : Row} (h8 : n ≤ 8) : pEq q (pSk q n R) 114 = R 114 + nI q := by
  rw [pEq, upd_s, pSk_o (by omega) h8]
theorem pQ_118 {q n : Nat} {R : Row} (h8 : n ≤ 8) : pEq q (pSk q n R) 118 = subP (R 118) q := by
  rw [pEq, upd_n _ _ (by decide), upd_s, pSk_o (by omega) h8]
theorem quiet_wf3 {e : PE} {R : Row} {q : Nat} (hE : EOk e) (hW2 : WF2 e R) (hW : WF3 e R) (hQ : Quiet e (q + 1) R) : WF3 e (pEq 1 (pSk 1 (eR e) R)) := by
  have h8 := hE.1
  refine ⟨fun k hk => by rw [pQ_o (by omega) (by omega) (by omega) h8]; exact hW.1 k hk, ?_, hW.2.2.1, fun r hr => ?_⟩
  · obtain ⟨c, hc, hcn⟩ := hW.2.1
    exact ⟨c - 1, by omega, by rw [pQ_118 h8, hcn, subP_n (by omega) (by omega)]⟩
  · obtain ⟨⟨x, hx9, hx⟩, l, hl, hln, hl0, hl1⟩ := hW.2.2.2 r hr
    rw [pQ_74 (by omega) h8, pQ_50 (by omega) h8, pQ_o (show 42 + r < 50 ∨ _ by omega) (by omega) (by omega) h8]
    by_cases c3 : R (42 + r) = 3
    · rw [if_neg (fun z => z.2 c3), if_neg (fun z => z.2 c3)]
      exact ⟨⟨x, hx9, hx⟩, l, hl, hln, hl0, hl1⟩
    · rw [if_pos ⟨hr, c3⟩, if_pos ⟨hr, c3⟩, hx, hln, capP_n hx9 (by omega), subP_n (by omega) (by omega)]
      refine ⟨⟨_, by omega, rfl⟩, l - 1, by omega, rfl, fun z => by have := hl0 z; omega, fun z => ?_⟩
      obtain ⟨l', e1, e2, e3⟩ := (hQ r hr).2 z
      rw [hln] at e1
      have := (nI_eq (by omega) (by omega)).mp e1
      omega
theorem quiet_rest {e : PE} {R : Row} {q : Nat} (hE : EOk e) (hq : q < 10000) (hmi : ∃ m, m < 1000000 ∧ R 114 = nI m) (hla : ∃ m, m ≤ 9999 ∧ eLa e = nI m) (hF : WFr e R) (hW : WF3 e R) (hQ : Quiet e (q + 1) R) : Quiet e q (pEq 1 (pSk 1 (eR e) R)) := by
  have h8 := hE.1
  have h2 := hE.2.1
  intro r hr
  obtain ⟨⟨x, hx9, hx⟩, l, hl, hln, hl0, hl1⟩ := hW.2.2.2 r hr
  obtain ⟨⟨kk, hkg, hkn⟩, -⟩ := hF r hr
  have hkk : (R (90 + r)).toNatClampNeg = kk := by rw [hkn, tn_n (by omega)]
  rw [pQ_o (show 42 + r < 50 ∨ _ by omega) (by omega) (by omega) h8, pQ_o (show 90 + r < 50 ∨ _ by omega) (by omega) (by omega) h8, pQ_114 h8, pQ_118 h8, pQ_74 (by omega) h8, pQ_50 (by omega) h8, hkk, pQ_o (show kk < 50 ∨ _ by omega) (by omega) (by omega) h8]
  refine ⟨fun c0 => ⟨fun a1 a2 => ?_, fun a => ?_⟩, fun c12 => ?_⟩
  · have b1 : ¬ eLa e ≤ R 114 := by
      obtain ⟨m, hm, hmn⟩ := hmi
      obtain ⟨m2, hm2, hmn2⟩ := hla
      rw [hmn, hmn2, nI_add] at a1
      rw [hmn, hmn2]
      intro z
      exact a1 (nI_le (by have := (nI_leI (by omega) (by omega)).mp z; omega) (by omega))
    have := ((hQ r hr).1 c0).1 b1 (by rw [hkk]; exact a2)
    obtain ⟨c, hc, hcn⟩ := hW.2.1
    rw [hcn] at this
    rw [hcn, subP_n (by omega) (by omega)]
    have := (nI_leI (by omega) (by omega)).mp this
    exact nI_le (by omega) (by omega)
  · obtain ⟨k, hk, hkz⟩ := a
    rw [pQ_o (show k < 50 ∨ _ by omega) (by omega) (by omega) h8] at hkz
    obtain ⟨x', o, hx', ho, hxo, ho9⟩ := ((hQ r hr).1 c0).2 ⟨k, hk, hkz⟩
    rw [hx] at hx'
    have hxx := (nI_eq (by omega) (by omega)).mp hx'
    rw [if_pos ⟨hr, by rw [c0]; decide⟩, hx, capP_n hx9 (by omega)]
    exact ⟨_, o, rfl, ho, by omega, ho9⟩
  · obtain ⟨l', e1, e2, e3⟩ := (hQ r hr).2 c12
    rw [hln] at e1
    have := (nI_eq (by omega) (by omega)).mp e1
    rw [if_pos ⟨hr, by rcases c12 with z | z <;> rw [z] <;> decide⟩, hln, subP_n (by omega) (by omega)]
    exact ⟨l - 1, rfl, by omega, by omega⟩
theorem Quiet.le {e : PE} {R : Row} {p q : Nat} (h : Quiet e q R) (hpq : p ≤ q) (hq : q < 2 ^ 31) : Quiet e p R := by
  intro r hr
  refine ⟨fun c0 => ⟨fun a1 a2 => Int32.le_trans (nI_le hpq hq) (((h r hr).1 c0).1 a1 a2), fun a => ?_⟩, fun c => ?_⟩
  · obtain ⟨x, o, b1, b2, b3, b4⟩ := ((h r hr).1 c0).2 a
    exact ⟨x, o, b1, b2, by omega, b4⟩
  · obtain ⟨l, b1, b2, b3⟩ := (h r hr).2 c
    exact ⟨l, b1, by omega, b3⟩
