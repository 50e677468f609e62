/-! ROWS IN ORDER: nothing below 0, HUNGER at most 99; it stays so -/
theorem i_nn {x : Int32} (h : 0 ≤ x) : ∃ j : Nat, j < 2 ^ 31 ∧ x = nI j := nI_of (Int32.not_lt.mpr h)
theorem nI_nn {n : Nat} (h : n < 2 ^ 31) : (0 : Int32) ≤ nI n := nI_pos' h
theorem i_sub_nn {x y : Int32} (h0 : 0 ≤ y) (h : y ≤ x) : 0 ≤ x - y := by
  obtain ⟨a, ha, rfl⟩ := i_nn (Int32.le_trans h0 h)
  obtain ⟨b, hb, rfl⟩ := i_nn h0
  rw [pk_sub ((nI_leI hb ha).mp h)]
  exact nI_nn (by omega)
theorem i_dec {x : Int32} (h0 : 0 ≤ x) (h : ¬ x = 0) : 0 ≤ x - 1 := by
  obtain ⟨a, ha, rfl⟩ := i_nn h0
  have : a ≠ 0 := fun q => h (by rw [q]; rfl)
  rw [show (1 : Int32) = nI 1 from rfl, pk_sub (by omega)]
  exact nI_nn (by omega)
theorem i_inc {x : Int32} (h0 : 0 ≤ x) (h : ¬ 99 ≤ x) : 0 ≤ x + 1 ∧ x + 1 ≤ 99 := by
  obtain ⟨a, ha, rfl⟩ := i_nn h0
  have : a < 99 := by
    rcases Nat.lt_or_ge a 99 with q | q
    · exact q
    · exact absurd (show (99 : Int32) ≤ nI a from nI_le (a := 99) q ha) h
  rw [nI_1]
  exact ⟨nI_nn (by omega), nI_le (b := 99) (by omega) (by omega)⟩
theorem hold_ge {v lo hi : Int32} (h : lo ≤ hi) : lo ≤ hold v lo hi := by
  rw [hold]
  split
  · exact Int32.le_refl _
  · split
    · exact h
    · rename_i c _; exact Int32.not_lt.mp c
theorem hold_le {v lo hi : Int32} (h : lo ≤ hi) : hold v lo hi ≤ hi := by
  rw [hold]
  split
  · exact h
  · split
    · exact Int32.le_refl _
    · rename_i _ c; exact Int32.not_lt.mp c
def WF2 (e : PE) (R : Row) : Prop := (∀ k, k < 6 → 0 ≤ R k) ∧ 0 ≤ R 118 ∧ ∀ r, r < eR e → (R (42 + r) = 0 ∨ R (42 + r) = 1 ∨ R (42 + r) = 2 ∨ R (42 + r) = 3) ∧ 0 ≤ R (58 + r) ∧ 0 ≤ R (74 + r) ∧ R (74 + r) ≤ 99
theorem WF2.hun {e : PE} {R : Row} {r : Nat} (hE : EOk e) (hr : r < eR e) (h : WF2 e R) : WF2 e (pHun r R) := by
  have h1 := hE.1
  refine ⟨fun k hk => by rw [pHun_o (by omega)]; exact h.1 k hk, by rw [pHun_o (by omega)]; exact h.2.1, fun x hx => ?_⟩
  rw [pHun_o (show 42 + x ≠ 74 + r by omega), pHun_o (show 58 + x ≠ 74 + r by omega)]
  refine ⟨(h.2.2 x hx).1, (h.2.2 x hx).2.1, ?_⟩
  by_cases e : x = r
  · subst e
    rw [pHun]
    split
    · exact (h.2.2 x hx).2.2
    · rename_i c
      rw [upd_s]
      exact i_inc (h.2.2 x hx).2.2.1 c
  · rw [pHun_o (by omega)]; exact (h.2.2 x hx).2.2
theorem pLoadN_ge {e : PE} {r kk : Nat} {R : Row} (hk : (R (90 + r)).toNatClampNeg = kk) (h0 : 0 ≤ R kk) (h1 : ¬ R kk = 0) : 1 ≤ pLoadN e r R ∧ pLoadN e r R ≤ R kk ∧ pLoadN e r R ≤ 99 := by
  have hp : 1 ≤ R kk := by
    obtain ⟨a, ha, q⟩ := i_nn h0
    rw [q]
    refine nI_le (a := 1) ?_ ha
    rcases Nat.eq_zero_or_pos a with z | z
    · exact absurd (by rw [q, z]; rfl) h1
    · exact z
  rw [pLoadN, hk]
  split
  · rename_i c
    exact ⟨hold_ge (by decide), c, hold_le (by decide)⟩
  · rename_i c
    exact ⟨hp, Int32.le_refl _, Int32.le_trans (Int32.le_of_lt (Int32.not_le.mp c)) (hold_le (by decide))⟩
theorem pLoadE_ge {e : PE} {r : Nat} {R : Row} (h : 0 ≤ pLoadN e r R) : 0 ≤ pLoadE e r R := by
  rw [pLoadE]
  split
  · exact hold_ge (by decide)
  · exact h
theorem WF2.load {e : PE} {R : Row} {r kk : Nat} (hE : EOk e) (hr : r < eR e) (hk : (R (90 + r)).toNatClampNeg = kk) (hk6 : kk < 6) (h0 : ¬ R kk = 0) (h : WF2 e R) : WF2 e (pLoad e r R) := by
  have h1 := hE.1
  obtain ⟨n1, n2, -⟩ := pLoadN_ge (e := e) hk (h.1 kk hk6) h0
  have n0 : 0 ≤ pLoadN e r R := Int32.le_trans (by decide) n1
  have e0 := pLoadE_ge (e := e) (r := r) (R := R) n0
  have oo : ∀ j, 6 ≤ j → j ≠ 74 + r → j ≠ 115 → j ≠ 58 + r → j ≠ 66 + r → j ≠ 42 + r → j ≠ 50 + r → j ≠ 106 + r → pLoad e r R j = R j := fun j a1 a2 a3 a4 a5 a6 a7 a8 => pLoad_o hk hk6 a1 a2 a3 a4 a5 a6 a7 a8
  refine ⟨fun k hk' => ?_, by rw [oo _ (by omega) (by omega) (by omega) (by omega) (by omega) (by omega) (by omega) (by omega)]; exact h.2.1, fun x hx => ?_⟩
  · have e3 : pLoad e r R k = pL1 e r R k := by
      rw [pLoad, pGo, upd_n _ _ (by omega), upd_n _ _ (by omega), upd_n _ _ (by omega), pL3, upd_n _ _ (by omega), upd_n _ _ (by omega), upd_n _ _ (by omega), pL2]
      split
      · rfl
      · rw [upd_n _ _ (by omega)]
    rw [e3, pL1, hk, upd_a]
    split
    · exact i_sub_nn n0 n2
    · exact h.1 k hk'
  · by_cases ex : x = r
    · subst ex
      refine ⟨Or.inr (Or.inl ?_), ?_, ?_⟩
      · rw [pLoad, pGo, upd_n _ _ (by omega), upd_n _ _ (by omega), upd_s]
      · rw [pLoad, pGo, upd_n _ _ (by omega), upd_n _ _ (by omega), upd_n _ _ (by omega), pL3, upd_n _ _ (by omega), upd_s]
        exact i_sub_nn e0 (pLoadE_le e x R)
      · have e4 : pLoad e x R (74 + x) = pL2 e x R (74 + x) := by
          rw [pLoad, pGo, upd_n _ _ (by omega), upd_n _ _ (by omega), upd_n _ _ (by omega), pL3, upd_n _ _ (by omega), upd_n _ _ (by omega), upd_n _ _ (by omega)]
        rw [e4, pL2]
        split
        · rw [pL1, hk, upd_n _ _ (by omega)]; exact (h.2.2 x hx).2.2
        · rw [upd_s]; decide
    · rw [oo _ (by omega) (by omega) (by omega) (by omega) (by omega) (by omega) (by omega) (by omega), oo _ (by omega) (by omega) (by omega) (by omega) (by omega) (by omega) (by omega) (by omega), oo _ (by omega) (by omega) (by omega) (by omega) (by omega) (by omega) (by omega) (by omega)]
      exact h.2.2 x hx
theorem WF2.nib {e : PE} {R : Row} {r : Nat} (hE : EOk e) (hr : r < eR e) (h : WF2 e R) : WF2 e (pNib e r R) := by
  have h1 := hE.1
  have hG := hE.2.1
  have hb : pBest R (eG e) < 6 := by rcases pBest_lt R (eG e) with q | q <;> omega
  by_cases c : R (pBest R (eG e)) = 0
  · rw [pNib, if_pos c]; exact h
  · refine ⟨fun k hk' => ?_, by rw [pNib_o hG (by omega) (by omega) (by omega)]; exact h.2.1, fun x hx => ?_⟩
    · rw [pNib, if_neg c, upd_n _ _ (by omega), upd_n _ _ (by omega), upd_a]
      split
      · exact i_dec (h.1 _ hb) c
      · exact h.1 k hk'
    · rw [pNib_o hG (by omega) (show 42 + x ≠ 74 + r by omega) (by omega), pNib_o hG (by omega) (show 58 + x ≠ 74 + r by omega) (by omega)]
      refine ⟨(h.2.2 x hx).1, (h.2.2 x hx).2.1, ?_⟩
      by_cases ex : x = r
      · subst ex
        rw [pNib, if_neg c, upd_s]
        decide
      · rw [pNib_o hG (by omega) (by omega) (by omega)]; exact (h.2.2 x hx).2.2
theorem WF2.heap {e : PE} {q : Row × Row} {r kk : Nat} (hE : EOk e) (hr : r < eR e) (hk : (q.1 (90 + r)).toNatClampNeg = kk) (hk6 : kk < 6) (h : WF2 e q.1) : WF2 e (pHeap e r q).1 := by
  rw [pHeap]
  split
  · show WF2 e (if _ then q.1 else pNib e r q.1)
    split
    · exact h
    · exact h.nib hE hr
  · rename_i c
    split
    · exact WF2.load hE hr hk hk6 (fun z => c (Or.inl (by rw [hk]; exact z))) h
    · have h1 := hE.1
      show WF2 e (upd q.1 119 (q.1 119 + 1))
      refine ⟨fun k hk' => by rw [upd_n _ _ (by omega)]; exact h.1 k hk', by rw [upd_n _ _ (by omega)]; exact h.2.1, fun x hx => ?_⟩
      rw [upd_n _ _ (by omega), upd_n _ _ (by omega), upd_n _ _ (by omega)]
      exact h.2.2 x hx
theorem WF2.walk {e : PE} {R : Row} {r : Nat} {is : Int32} (hE : EOk e) (hr : r < eR e) (his : R (42 + r) = is) (hw : WFr e R) (h : WF2 e R) : WF2 e (pWalk e r R is) := by
  obtain ⟨h1, h2, h3, h4⟩ := hE
  have hU : WF2 e (upd R (50 + r) (R (50 + r) - 1)) := by
    refine ⟨fun k hk' => by rw [upd_n _ _ (by omega)]; exact h.1 k hk', by rw [upd_n _ _ (by omega)]; exact h.2.1, fun x hx => ?_⟩
    rw [upd_n _ _ (by omega), upd_n _ _ (by omega), upd_n _ _ (by omega)]
    exact h.2.2 x hx
  rw [pWalk]
  split
  · split
    · rename_i c1 c2
      obtain ⟨⟨hh, hh6, hhn⟩, hq⟩ := (hw r hr).2 (by rw [his]; exact c2)
      have a1 : upd R (50 + r) (R (50 + r) - 1) (106 + r) = nI hh := by rw [upd_n _ _ (by omega)]; exact hhn
      have a2 : upd R (50 + r) (R (50 + r) - 1) (58 + r) = R (58 + r) := by rw [upd_n _ _ (by omega)]
      have a3 : upd R (50 + r) (R (50 + r) - 1) (66 + r) = R (66 + r) := by rw [upd_n _ _ (by omega)]
      generalize upd R (50 + r) (R (50 + r) - 1) = U at *
      obtain ⟨qq, hqq⟩ : ∃ qq, ¬ U (58 + r) ≤ 0 → U (66 + r) = nI qq ∧ qq < 6 := by
        rw [a2, a3]
        by_cases c : R (58 + r) ≤ 0
        · exact ⟨0, fun n => absurd c n⟩
        · obtain ⟨qq, b1, b2⟩ := hq c
          exact ⟨qq, fun _ => ⟨b2, b1⟩⟩
      have oo : ∀ j, 42 ≤ j → j ≠ 98 + r → j ≠ 58 + r → j ≠ 66 + r → j ≠ 106 + r → j ≠ 42 + r → j ≠ 50 + r → pDrop e r U j = U j := fun j a1' a2' a3' a4' a5' a6' a7' => pDrop_o a1 (by omega) hqq a1' a2' a3' a4' a5' a6' a7'
      refine ⟨fun k hk' => ?_, by rw [oo _ (by omega) (by omega) (by omega) (by omega) (by omega) (by omega) (by omega)]; exact hU.2.1, fun x hx => ?_⟩
      · rw [pDrop, upd_n _ _ (by omega), upd_n _ _ (by omega), upd_n _ _ (by omega), upd_n _ _ (by omega), upd_n _ _ (by omega), pDrop1]
        split
        · exact hU.1 k hk'
        · rename_i c
          obtain ⟨b1, b2⟩ := hqq c
          have hi : (((6 + (6 * U (106 + r))) + U (66 + r))).toNatClampNeg = 6 + 6 * hh + qq := by
            rw [a1, b1, show (6 : Int32) = nI 6 from rfl, pk_mul, nI_add, nI_add, tn_n (by omega)]
          rw [upd_n _ _ (by omega), hi, upd_n _ _ (by omega)]
          exact hU.1 k hk'
      · by_cases ex : x = r
        · subst ex
          rw [oo (74 + x) (by omega) (by omega) (by omega) (by omega) (by omega) (by omega) (by omega)]
          refine ⟨Or.inr (Or.inr (Or.inl ?_)), ?_, (hU.2.2 x hx).2.2⟩
          · rw [pDrop, upd_n _ _ (by omega), upd_s]
          · rw [pDrop, upd_n _ _ (by omega), upd_n _ _ (by omega), upd_n _ _ (by omega), upd_n _ _ (by omega), upd_s]
            decide
        · rw [oo _ (by omega) (by omega) (by omega) (by omega) (by omega) (by omega) (by omega), oo _ (by omega) (by omega) (by omega) (by omega) (by omega) (by omega) (by omega), oo _ (by omega) (by omega) (by omega) (by omega) (by omega) (by omega) (by omega)]
          exact hU.2.2 x hx
    · generalize upd R (50 + r) (R (50 + r) - 1) = U at *
      refine ⟨fun k hk' => by rw [upd_n _ _ (by omega)]; exact hU.1 k hk', by rw [upd_n _ _ (by omega)]; exact hU.2.1, fun x hx => ?_⟩
      rw [upd_n _ _ (show 58 + x ≠ 42 + r by omega), upd_n _ _ (show 74 + x ≠ 42 + r by omega)]
      refine ⟨?_, (hU.2.2 x hx).2⟩
      by_cases ex : x = r
      · subst ex; rw [upd_s]; exact Or.inl rfl
      · rw [upd_n _ _ (by omega)]; exact (hU.2.2 x hx).1
  · exact hU
theorem WF2.rat {e : PE} {q : Row × Row} {r : Nat} (hE : EOk e) (hr : r < eR e) (hw : WFr e q.1) (h : WF2 e q.1) : WF2 e (pRat e r q).1 := by
  have h1 := hE.1
  have h2 := hE.2.1
  obtain ⟨⟨kk, hk, hkn⟩, -⟩ := hw r hr
  rw [pRat]
  split
  · exact h
  · split
    · exact WF2.heap hE hr (kk := kk) (by show (pHun r q.1 (90 + r)).toNatClampNeg = kk; rw [pHun_o (by omega), hkn, tn_n (by omega)]) (by omega) (h.hun hE hr)
    · exact WF2.walk hE hr (by rw [pHun_o (by omega)]) (hw.hun hE hr) (h.hun hE hr)
theorem WF2.rats {e : PE} {q : Row × Row} (hE : EOk e) (hw : WFr e q.1) (h : WF2 e q.1) : ∀ n, n ≤ eR e → WF2 e (pRats e n q).1
  | 0, _ => h
  | n + 1, hn => WF2.rat hE hn (WFr.rats hE hw n (by omega)) (WF2.rats hE hw h n (by omega))
theorem WF2.endd {e : PE} {R : Row} (hE : EOk e) (h : WF2 e R) : WF2 e (pEnd R) := by
  have h1 := hE.1
  rw [pEnd]
  split
  · refine ⟨fun k hk' => by rw [upd_n _ _ (by omega)]; exact h.1 k hk', by rw [upd_n _ _ (by omega)]; exact h.2.1, fun x hx => ?_⟩
    rw [upd_n _ _ (by omega), upd_n _ _ (by omega), upd_n _ _ (by omega)]
    exact h.2.2 x hx
  · rename_i c
    refine ⟨fun k hk' => by rw [upd_n _ _ (by omega), upd_n _ _ (by omega)]; exact h.1 k hk', ?_, fun x hx => ?_⟩
    · rw [upd_n _ _ (by omega), upd_s]
      exact i_dec h.2.1 (fun z => c (by rw [z]; decide))
    · rw [upd_n _ _ (by omega), upd_n _ _ (by omega), upd_n _ _ (by omega), upd_n _ _ (by omega), upd_n _ _ (by omega), upd_n _ _ (by omega)]
      exact h.2.2 x hx
theorem WF2.min {e : PE} {R : Row} (hE : EOk e) (hw : WFr e R) (h : WF2 e R) : WF2 e (pMin e R) := WF2.endd hE (WF2.rats (q := (R, fun _ => 0)) hE hw h _ (Nat.le_refl _))
/-- bits -/
theorem sh1 : ∀ l, l < 32 → ((1 : Int32) <<< (nI l &&& 31)).toBitVec = BitVec.twoPow 32 l := by decide +kernel
theorem tw_ne : ∀ l, l < 32 → BitVec.twoPow 32 l ≠ 0#32 := by decide +kernel
theorem bit0 (x : Int32) {l : Nat} (hl : l < 32) : (x &&& ((1 : Int32) <<< (nI l &&& 31)) = 0) ↔ x.toBitVec.getLsbD l = false := by
  rw [← Int32.toBitVec_inj, Int32.toBitVec_and, sh1 l hl, BitVec.and_twoPow]
  cases hx : x.toBitVec.getLsbD l
  · simp
  · simp only [if_true]
    constructor
    · intro q; exact absurd q (tw_ne l hl)
    · intro q; cases q
def LB (x : Int32) (L : Row) : Prop := ∀ k, k < 6 → (x &&& ((1 : Int32) <<< (nI k &&& 31)) = 0 ↔ L k = 0)
theorem LB.or {x : Int32} {L : Row} {k : Nat} (hk : k < 6) (h : LB x L) : LB (x ||| ((1 : Int32) <<< (nI k &&& 31))) (upd L k 1) := by
  intro j hj
  rw [bit0 _ (by omega), Int32.toBitVec_or, sh1 k (by omega), BitVec.getLsbD_or, BitVec.getLsbD_twoPow, upd_a]
  have := h j hj
  rw [bit0 _ (by omega)] at this
  by_cases e : j = k
  · subst e
    simp
    omega
  · rw [if_neg e, ← this]
    have e2 : k ≠ j := fun q => e q.symm
    simp [e2]
