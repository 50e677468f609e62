/-! QUIET MINUTES, many at once; rows in order behind any minute -/
theorem pQ_0 {e : PE} {R : Row} (hE : EOk e) (hW : WF3 e R) : pEq 0 (pSk 0 (eR e) R) = R := by
  have h8 := hE.1
  obtain ⟨c, hc, hcn⟩ := hW.2.1
  have hsk : pSk 0 (eR e) R = R := by
    funext j
    rw [pSk]
    split
    · rename_i q
      obtain ⟨⟨x, hx9, hx⟩, -⟩ := hW.2.2.2 (j - 74) (by omega)
      rw [show 74 + (j - 74) = j by omega] at hx
      rw [hx, capP_n hx9 (by omega), show min (x + 0) 99 = x by omega]
    · split
      · rename_i q _
        obtain ⟨-, l, hl, hln, -⟩ := hW.2.2.2 (j - 50) (by omega)
        rw [show 50 + (j - 50) = j by omega] at hln
        rw [hln, subP_n (by omega) (by omega)]
        rfl
      · rfl
  rw [hsk, pEq, hcn, subP_n (by omega) (by omega), show c - 0 = c by omega, ← hcn, upd_self, show nI 0 = 0 from rfl]
  have z0 : R 114 + 0 = R 114 := by simp
  rw [z0, upd_self]
theorem pQ_s {e : PE} {R : Row} {q : Nat} (hE : EOk e) (hq : q < 10000) (hW : WF3 e R) : pEq q (pSk q (eR e) (pEq 1 (pSk 1 (eR e) R))) = pEq (q + 1) (pSk (q + 1) (eR e) R) := by
  have h8 := hE.1
  have o42 : ∀ r, r < 8 → pEq 1 (pSk 1 (eR e) R) (42 + r) = R (42 + r) := fun r hr => pQ_o (by omega) (by omega) (by omega) h8
  funext j
  by_cases c1 : j = 114
  · subst c1
    rw [pQ_114 h8, pQ_114 h8, pQ_114 h8, Int32.add_assoc, nI_add, Nat.add_comm]
  by_cases c2 : j = 118
  · subst c2
    obtain ⟨c, hc, hcn⟩ := hW.2.1
    rw [pQ_118 h8, pQ_118 h8, pQ_118 h8, hcn, subP_n (by omega) (by omega), subP_n (by omega) (by omega), subP_n (by omega) (by omega), show c - 1 - q = c - (q + 1) by omega]
  by_cases c3 : 74 ≤ j ∧ j < 82
  · obtain ⟨r, rfl⟩ : ∃ r, j = 74 + r := ⟨j - 74, by omega⟩
    rw [pQ_74 (by omega) h8, pQ_74 (by omega) h8, pQ_74 (by omega) h8, o42 r (by omega)]
    by_cases d : r < eR e ∧ ¬ R (42 + r) = 3
    · obtain ⟨⟨x, hx9, hx⟩, -⟩ := hW.2.2.2 r d.1
      rw [if_pos d, if_pos d, if_pos d, hx, capP_n hx9 (by omega), capP_n (by omega) (by omega), capP_n hx9 (by omega)]
      congr 1
      omega
    · rw [if_neg d, if_neg d, if_neg d]
  by_cases c4 : 50 ≤ j ∧ j < 58
  · obtain ⟨r, rfl⟩ : ∃ r, j = 50 + r := ⟨j - 50, by omega⟩
    rw [pQ_50 (by omega) h8, pQ_50 (by omega) h8, pQ_50 (by omega) h8, o42 r (by omega)]
    by_cases d : r < eR e ∧ ¬ R (42 + r) = 3
    · obtain ⟨-, l, hl, hln, -⟩ := hW.2.2.2 r d.1
      rw [if_pos d, if_pos d, if_pos d, hln, subP_n (by omega) (by omega), subP_n (by omega) (by omega), subP_n (by omega) (by omega), show l - 1 - q = l - (q + 1) by omega]
    · rw [if_neg d, if_neg d, if_neg d]
  rw [pQ_o (by omega) c1 c2 h8, pQ_o (by omega) c1 c2 h8, pQ_o (by omega) c1 c2 h8]
/-- all that holds of a row between minutes -/
def WFA (e : PE) (R : Row) : Prop := WFr e R ∧ WF2 e R ∧ WF3 e R
def EA (e : PE) : Prop := EOk e ∧ (∃ m, m ≤ 9999 ∧ eLa e = nI m) ∧ ∀ h, h < eHo e → ∃ f, 1 ≤ f ∧ f ≤ 30 ∧ eFa e h = nI f
theorem quiet_mins {e : PE} (hE : EA e) : ∀ (q : Nat) {R : Row}, q < 10000 → (∃ m, m + q < 1000000 ∧ R 114 = nI m) → WFA e R → Quiet e q R → pMins e q R = pEq q (pSk q (eR e) R)
  | 0, R, _, _, hW, _ => by rw [pMins, pQ_0 hE.1 hW.2.2]
  | q + 1, R, hq, hm, hW, hQ => by
    obtain ⟨m, hm1, hm2⟩ := hm
    have h1 := quiet_min hE.1 hW.1 hW.2.1 hW.2.2 (hQ.le (by omega) (by omega))
    rw [pMins, h1, quiet_mins hE q (by omega) ⟨m + 1, by omega, by rw [pQ_114 hE.1.1, hm2, nI_add]⟩ ⟨by rw [← h1]; exact hW.1.min hE.1, by rw [← h1]; exact WF2.min hE.1 hW.1 hW.2.1, quiet_wf3 hE.1 hW.2.1 hW.2.2 hQ⟩ (quiet_rest hE.1 (by omega) ⟨m, by omega, hm2⟩ hE.2.1 hW.1 hW.2.2 hQ), pQ_s hE.1 (by omega) hW.2.2]
/-- WF3 behind any minute -/
theorem i_sub_le {a : Nat} {y : Int32} (ha : a ≤ 100000000) (h0 : 0 ≤ y) (h : y ≤ nI a) : ∃ c, c ≤ 100000000 ∧ nI a - y = nI c := by
  obtain ⟨d, hd, rfl⟩ := i_nn h0
  have := (nI_leI hd (by omega)).mp h
  exact ⟨a - d, by omega, pk_sub this⟩
theorem WF3.hun {e : PE} {R : Row} {r : Nat} (hE : EOk e) (hr : r < eR e) (h : WF3 e R) : WF3 e (pHun r R) := by
  have h8 := hE.1
  obtain ⟨⟨x, hx9, hx⟩, -⟩ := h.2.2.2 r hr
  refine ⟨fun k hk => by rw [pHun_o (by omega)]; exact h.1 k hk, by rw [pHun_o (by omega)]; exact h.2.1, h.2.2.1, fun y hy => ?_⟩
  rw [pHun_o (show 50 + y ≠ 74 + r by omega), pHun_o (show 42 + y ≠ 74 + r by omega)]
  refine ⟨?_, (h.2.2.2 y hy).2⟩
  by_cases ey : y = r
  · subst ey
    rw [hun_cap hx9 hx, upd_s, hx, capP_n hx9 (by omega)]
    exact ⟨_, by omega, rfl⟩
  · rw [pHun_o (by omega)]; exact (h.2.2.2 y hy).1
theorem WF3.heap {e : PE} {q : Row × Row} {r kk : Nat} (hA : EA e) (hr : r < eR e) (hk : (q.1 (90 + r)).toNatClampNeg = kk) (hk6 : kk < 6) (h2 : WF2 e q.1) (h : WF3 e q.1) : WF3 e (pHeap e r q).1 := by
  have hE := hA.1
  have h8 := hE.1
  have hG := hE.2.1
  have oo : ∀ j, 6 ≤ j → j ≠ 74 + r → j ≠ 115 → j ≠ 58 + r → j ≠ 66 + r → j ≠ 42 + r → j ≠ 50 + r → j ≠ 106 + r → j ≠ 119 → (pHeap e r q).1 j = q.1 j := fun j a1 a2 a3 a4 a5 a6 a7 a8 a9 => pHeap_o hG hk hk6 a1 a2 a3 a4 a5 a6 a7 a8 a9
  have key : (∀ k, k < 6 → ∃ a, a ≤ 100000000 ∧ (pHeap e r q).1 k = nI a) ∧ (∃ x, x ≤ 99 ∧ (pHeap e r q).1 (74 + r) = nI x) ∧ ∃ l, l ≤ 100 ∧ (pHeap e r q).1 (50 + r) = nI l ∧ ((pHeap e r q).1 (42 + r) = 0 → l = 0) ∧ (((pHeap e r q).1 (42 + r) = 1 ∨ (pHeap e r q).1 (42 + r) = 2) → 1 ≤ l) := by
    have own := h.2.2.2 r hr
    rw [pHeap]
    split
    · dsimp only
      by_cases c : q.1 (74 + r) < eOd e
      · simp only [if_pos c]; exact ⟨h.1, own.1, own.2⟩
      · simp only [if_neg c]
        by_cases z : q.1 (pBest q.1 (eG e)) = 0
        · rw [pNib, if_pos z]; exact ⟨h.1, own.1, own.2⟩
        · rw [pNib_o (j := 50 + r) hG (by omega) (by omega) (by omega), pNib_o (j := 42 + r) hG (by omega) (by omega) (by omega)]
          refine ⟨fun k hk' => ?_, ⟨0, by omega, by rw [pNib, if_neg z, upd_s]; rfl⟩, own.2⟩
          have hb : pBest q.1 (eG e) < 6 := by rcases pBest_lt q.1 (eG e) with w | w <;> omega
          rw [pNib, if_neg z, upd_n _ _ (by omega), upd_n _ _ (by omega), upd_a]
          split
          · obtain ⟨a, ha, han⟩ := h.1 _ hb
            rw [han]
            refine i_sub_le ha (by decide) ?_
            have : a ≠ 0 := fun w => z (by rw [han, w]; rfl)
            exact nI_le (a := 1) (by omega) (by omega)
          · exact h.1 k hk'
    · rename_i c
      split
      · have hz : ¬ q.1 kk = 0 := fun z => c (Or.inl (by rw [hk]; exact z))
        obtain ⟨n1, n2, -⟩ := pLoadN_ge (e := e) (r := r) hk (h2.1 kk hk6) hz
        have n0 : 0 ≤ pLoadN e r q.1 := Int32.le_trans (by decide) n1
        refine ⟨fun k hk' => ?_, ?_, ?_⟩
        · have e3 : pLoad e r q.1 k = pL1 e r q.1 k := by
            rw [pLoad, pGo, upd_n _ _ (by omega), upd_n _ _ (by omega), upd_n _ _ (by omega), pL3, upd_n _ _ (by omega), upd_n _ _ (by omega), upd_n _ _ (by omega), pL2]
            split
            · rfl
            · rw [upd_n _ _ (by omega)]
          show ∃ a, a ≤ 100000000 ∧ pLoad e r q.1 k = nI a
          rw [e3, pL1, hk, upd_a]
          split
          · obtain ⟨a, ha, han⟩ := h.1 kk hk6
            rw [han] at n2 ⊢
            exact i_sub_le ha n0 n2
          · exact h.1 k hk'
        · show ∃ x, x ≤ 99 ∧ pLoad e r q.1 (74 + r) = nI x
          have e4 : pLoad e r q.1 (74 + r) = pL2 e r q.1 (74 + r) := by
            rw [pLoad, pGo, upd_n _ _ (by omega), upd_n _ _ (by omega), upd_n _ _ (by omega), pL3, upd_n _ _ (by omega), upd_n _ _ (by omega), upd_n _ _ (by omega)]
          rw [e4, pL2]
          split
          · rw [pL1, hk, upd_n _ _ (by omega)]; exact own.1
          · rw [upd_s]; exact ⟨0, by omega, rfl⟩
        · obtain ⟨f, f1, f2, f3⟩ := hA.2.2 (pTo e r q.1) (pTo_lt q.1 (hE.2.2.2 r hr))
          refine ⟨f, by omega, ?_, fun z => ?_, fun _ => f1⟩
          · show pLoad e r q.1 (50 + r) = nI f
            rw [pLoad, pGo, upd_n _ _ (by omega), upd_s, f3]
          · exfalso
            have z' : pLoad e r q.1 (42 + r) = 0 := z
            rw [pLoad, pGo, upd_n _ _ (by omega), upd_n _ _ (by omega), upd_s] at z'
            exact absurd z' (by decide)
      · show (∀ k, k < 6 → ∃ a, a ≤ 100000000 ∧ upd q.1 119 (q.1 119 + 1) k = nI a) ∧ (∃ x, x ≤ 99 ∧ upd q.1 119 (q.1 119 + 1) (74 + r) = nI x) ∧ ∃ l, l ≤ 100 ∧ upd q.1 119 (q.1 119 + 1) (50 + r) = nI l ∧ (upd q.1 119 (q.1 119 + 1) (42 + r) = 0 → l = 0) ∧ ((upd q.1 119 (q.1 119 + 1) (42 + r) = 1 ∨ upd q.1 119 (q.1 119 + 1) (42 + r) = 2) → 1 ≤ l)
        rw [upd_n _ _ (show 74 + r ≠ 119 by omega), upd_n _ _ (show 50 + r ≠ 119 by omega), upd_n _ _ (show 42 + r ≠ 119 by omega)]
        exact ⟨fun k hk' => by rw [upd_n _ _ (by omega)]; exact h.1 k hk', own.1, own.2⟩
  refine ⟨key.1, by rw [oo _ (by omega) (by omega) (by omega) (by omega) (by omega) (by omega) (by omega) (by omega) (by omega)]; exact h.2.1, h.2.2.1, fun y hy => ?_⟩
  by_cases ey : y = r
  · subst ey; exact key.2
  · rw [oo _ (by omega) (by omega) (by omega) (by omega) (by omega) (by omega) (by omega) (by omega) (by omega), oo _ (by omega) (by omega) (by omega) (by omega) (by omega) (by omega) (by omega) (by omega) (by omega), oo _ (by omega) (by omega) (by omega) (by omega) (by omega) (by omega) (by omega) (by omega) (by omega)]
    exact h.2.2.2 y hy
theorem WF3.walk {e : PE} {R : Row} {r : Nat} {is : Int32} (hA : EA e) (hr : r < eR e) (his : R (42 + r) = is) (h12 : is = 1 ∨ is = 2) (hw : WFr e R) (h : WF3 e R) : WF3 e (pWalk e r R is) := by
  have hE := hA.1
  obtain ⟨h8, h2, h3, h4⟩ := hE
  obtain ⟨hx, l, hl, hln, -, hl1⟩ := h.2.2.2 r hr
  have hl1' : 1 ≤ l := hl1 (by rw [his]; exact h12)
  have hd : R (50 + r) - 1 = nI (l - 1) := by rw [hln, show (1 : Int32) = nI 1 from rfl, pk_sub hl1']
  rw [pWalk, upd_s]
  simp only [hd]
  -- rows that differ at this rat's places alone
  have gen : ∀ (S : Row), (∀ k, k < 6 → S k = R k) → S 118 = R 118 → (∀ y, y < eR e → y ≠ r → S (74 + y) = R (74 + y) ∧ S (50 + y) = R (50 + y) ∧ S (42 + y) = R (42 + y)) → S (74 + r) = R (74 + r) → (∃ c, c ≤ 100 ∧ S (50 + r) = nI c ∧ (S (42 + r) = 0 → c = 0) ∧ ((S (42 + r) = 1 ∨ S (42 + r) = 2) → 1 ≤ c)) → WF3 e S := by
    intro S s1 s2 s3 s4 s5
    refine ⟨fun k hk => by rw [s1 k hk]; exact h.1 k hk, by rw [s2]; exact h.2.1, h.2.2.1, fun y hy => ?_⟩
    by_cases ey : y = r
    · subst ey; rw [s4]; exact ⟨hx, s5⟩
    · obtain ⟨a1, a2, a3⟩ := s3 y hy ey
      rw [a1, a2, a3]; exact h.2.2.2 y hy
  by_cases cz : nI (l - 1) ≤ 0
  · have hl0 : l = 1 := by
      rcases Nat.eq_zero_or_pos (l - 1) with w | w
      · omega
      · exact absurd cz (nI_nle w (by omega))
    rw [if_pos cz]
    by_cases c1 : is = 1
    · rw [if_pos c1]
      obtain ⟨⟨hh, hh6, hhn⟩, hq⟩ := (hw r hr).2 (by rw [his]; exact c1)
      have a1 : upd R (50 + r) (nI (l - 1)) (106 + r) = nI hh := by rw [upd_n _ _ (by omega)]; exact hhn
      have a2 : upd R (50 + r) (nI (l - 1)) (58 + r) = R (58 + r) := by rw [upd_n _ _ (by omega)]
      have a3 : upd R (50 + r) (nI (l - 1)) (66 + r) = R (66 + r) := by rw [upd_n _ _ (by omega)]
      have u0 : ∀ j, j ≠ 50 + r → upd R (50 + r) (nI (l - 1)) j = R j := fun j hj => upd_n _ _ hj
      generalize upd R (50 + r) (nI (l - 1)) = U at *
      obtain ⟨qq, hqq⟩ : ∃ qq, ¬ U (58 + r) ≤ 0 → U (66 + r) = nI qq ∧ qq < 6 := by
        rw [a2, a3]
        by_cases c : R (58 + r) ≤ 0
        · exact ⟨0, fun n => absurd c n⟩
        · obtain ⟨qq, b1, b2⟩ := hq c
          exact ⟨qq, fun _ => ⟨b2, b1⟩⟩
      have oo : ∀ j, 42 ≤ j → j ≠ 98 + r → j ≠ 58 + r → j ≠ 66 + r → j ≠ 106 + r → j ≠ 42 + r → j ≠ 50 + r → pDrop e r U j = U j := fun j a1' a2' a3' a4' a5' a6' a7' => pDrop_o a1 (by omega) hqq a1' a2' a3' a4' a5' a6' a7'
      obtain ⟨f, f1, f2, f3⟩ := hA.2.2 hh hh6
      refine gen _ (fun k hk' => ?_) ?_ (fun y hy ey => ⟨?_, ?_, ?_⟩) ?_ ⟨f, by omega, ?_, fun z => ?_, fun _ => f1⟩
      · rw [pDrop, upd_n _ _ (by omega), upd_n _ _ (by omega), upd_n _ _ (by omega), upd_n _ _ (by omega), upd_n _ _ (by omega), pDrop1]
        split
        · exact u0 k (by omega)
        · rename_i c
          obtain ⟨b1, b2⟩ := hqq c
          have hi : (((6 + (6 * U (106 + r))) + U (66 + r))).toNatClampNeg = 6 + 6 * hh + qq := by
            rw [a1, b1, show (6 : Int32) = nI 6 from rfl, pk_mul, nI_add, nI_add, tn_n (by omega)]
          rw [upd_n _ _ (by omega), hi, upd_n _ _ (by omega)]
          exact u0 k (by omega)
      · rw [oo _ (by omega) (by omega) (by omega) (by omega) (by omega) (by omega) (by omega), u0 _ (by omega)]
      · rw [oo _ (by omega) (by omega) (by omega) (by omega) (by omega) (by omega) (by omega), u0 _ (by omega)]
      · rw [oo _ (by omega) (by omega) (by omega) (by omega) (by omega) (by omega) (by omega), u0 _ (by omega)]
      · rw [oo _ (by omega) (by omega) (by omega) (by omega) (by omega) (by omega) (by omega), u0 _ (by omega)]
      · rw [oo _ (by omega) (by omega) (by omega) (by omega) (by omega) (by omega) (by omega), u0 _ (by omega)]
      · rw [pDrop, upd_s, a1, tn_n (by omega), f3]
      · rw [pDrop, upd_n _ _ (by omega), upd_s] at z
        exact absurd z (by decide)
    · rw [if_neg c1]
      refine gen _ (fun k hk' => by rw [upd_n _ _ (by omega), upd_n _ _ (by omega)]) (by rw [upd_n _ _ (by omega), upd_n _ _ (by omega)]) (fun y hy ey => ⟨by rw [upd_n _ _ (by omega), upd_n _ _ (by omega)], by rw [upd_n _ _ (by omega), upd_n _ _ (by omega)], by rw [upd_n _ _ (by omega), upd_n _ _ (by omega)]⟩) (by rw [upd_n _ _ (by omega), upd_n _ _ (by omega)]) ⟨l - 1, by omega, by rw [upd_n _ _ (by omega), upd_s], fun _ => by omega, fun z => ?_⟩
      rw [upd_s] at z
      rcases z with z | z <;> exact absurd z (by decide)
  · rw [if_neg cz]
    have hl2 : 1 ≤ l - 1 := by
      rcases Nat.eq_zero_or_pos (l - 1) with w | w
      · rw [w] at cz; exact absurd (by decide) cz
      · exact w
    refine gen _ (fun k hk' => by rw [upd_n _ _ (by omega)]) (by rw [upd_n _ _ (by omega)]) (fun y hy ey => ⟨by rw [upd_n _ _ (by omega)], by rw [upd_n _ _ (by omega)], by rw [upd_n _ _ (by omega)]⟩) (by rw [upd_n _ _ (by omega)]) ⟨l - 1, by omega, by rw [upd_s], fun z => ?_, fun _ => hl2⟩
    rw [upd_n _ _ (by omega), his] at z
    rcases h12 with w | w <;> rw [w] at z <;> exact absurd z (by decide)
theorem WF3.rat {e : PE} {q : Row × Row} {r : Nat} (hA : EA e) (hr : r < eR e) (hw : WFr e q.1) (h2 : WF2 e q.1) (h : WF3 e q.1) : WF3 e (pRat e r q).1 := by
  have hE := hA.1
  have h8 := hE.1
  have hG := hE.2.1
  obtain ⟨⟨kk, hk, hkn⟩, -⟩ := hw r hr
  rw [pRat]
  split
  · exact h
  · rename_i c3
    split
    · exact WF3.heap hA hr (kk := kk) (by show (pHun r q.1 (90 + r)).toNatClampNeg = kk; rw [pHun_o (by omega), hkn, tn_n (by omega)]) (by omega) (h2.hun hE hr) (h.hun hE hr)
    · rename_i c0
      refine WF3.walk hA hr (by rw [pHun_o (by omega)]) ?_ (hw.hun hE hr) (h.hun hE hr)
      rcases (h2.2.2 r hr).1 with z | z | z | z
      · exact absurd z c0
      · exact Or.inl z
      · exact Or.inr z
      · exact absurd z c3
theorem WFA.rats {e : PE} {q : Row × Row} (hA : EA e) (h : WFA e q.1) : ∀ n, n ≤ eR e → WFA e (pRats e n q).1
  | 0, _ => h
  | n + 1, hn => by
    have ih := WFA.rats hA h n (by omega)
    exact ⟨ih.1.rat hA.1 hn, WF2.rat hA.1 hn ih.1 ih.2.1, WF3.rat hA hn ih.1 ih.2.1 ih.2.2⟩
theorem WF3.endd {e : PE} {R : Row} (hE : EOk e) (h : WF3 e R) : WF3 e (pEnd R) := by
  have h8 := hE.1
  obtain ⟨c, hc, hcn⟩ := h.2.1
  have gen : ∀ (S : Row), (∀ j, j ≠ 114 → j ≠ 118 → S j = R j) → (∃ c, c < 2000 ∧ S 118 = nI c) → WF3 e S := by
    intro S s1 s2
    refine ⟨fun k hk => by rw [s1 k (by omega) (by omega)]; exact h.1 k hk, s2, h.2.2.1, fun y hy => ?_⟩
    rw [s1 _ (by omega) (by omega), s1 _ (by omega) (by omega), s1 _ (by omega) (by omega)]
    exact h.2.2.2 y hy
  rw [pEnd]
  split
  · exact gen _ (fun j a1 a2 => by rw [upd_n _ _ a1]) ⟨c, hc, by rw [upd_n _ _ (by decide)]; exact hcn⟩
  · rename_i z
    have hp : 0 < c := by
      rcases Nat.eq_zero_or_pos c with w | w
      · rw [hcn, w] at z; exact absurd (by decide) z
      · exact w
    exact gen _ (fun j a1 a2 => by rw [upd_n _ _ a1, upd_n _ _ a2]) ⟨c - 1, by omega, by rw [upd_n _ _ (by decide), upd_s, hcn, show (1 : Int32) = nI 1 from rfl, pk_sub hp]⟩
theorem WFA.min {e : PE} {R : Row} (hA : EA e) (h : WFA e R) : WFA e (pMin e R) := by
  have := WFA.rats (q := (R, fun _ => 0)) hA h _ (Nat.le_refl _)
  exact ⟨this.1.endd hA.1, this.2.1.endd hA.1, this.2.2.endd hA.1⟩
theorem WFA.mins {e : PE} (hA : EA e) : ∀ (n : Nat) {R : Row}, WFA e R → WFA e (pMins e n R)
  | 0, _, h => h
  | n + 1, _, h => WFA.mins hA n (WFA.min hA h)
