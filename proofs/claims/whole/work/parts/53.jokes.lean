/-! JOKES: holes only gather, so a swap moves what is in two holes and nothing else -/
def OH (k : Nat) : Prop := ¬ (6 ≤ k ∧ k < 42)
theorem OH.of {k : Nat} (h : ¬ (6 ≤ k ∧ k < 42)) : OH k := h
def adH (δ R : Row) : Row := fun k => if 6 ≤ k ∧ k < 42 then R k + δ k else R k
theorem ad_at {δ R : Row} {k : Nat} (h : OH k) : adH δ R k = R k := by rw [adH, if_neg h]
theorem ad_ho {δ R : Row} {k : Nat} (h : 6 ≤ k ∧ k < 42) : adH δ R k = R k + δ k := by rw [adH, if_pos h]
theorem ad_upd {δ R : Row} {k : Nat} {v : Int32} (h : OH k) : adH δ (upd R k v) = upd (adH δ R) k v := by
  funext j
  by_cases hj : j = k
  · subst hj; rw [upd_s, ad_at h, upd_s]
  · rw [upd_n _ _ hj]
    by_cases hl : 6 ≤ j ∧ j < 42
    · rw [ad_ho hl, ad_ho hl, upd_n _ _ hj]
    · rw [ad_at hl, ad_at hl, upd_n _ _ hj]
theorem ad_in {δ R : Row} {k : Nat} {v : Int32} (h : 6 ≤ k ∧ k < 42) : adH δ (upd R k (R k + v)) = upd (adH δ R) k (adH δ R k + v) := by
  funext j
  by_cases hj : j = k
  · subst hj; rw [upd_s, ad_ho h, ad_ho h, upd_s]; grind
  · rw [upd_n _ _ hj]
    by_cases hl : 6 ≤ j ∧ j < 42
    · rw [ad_ho hl, ad_ho hl, upd_n _ _ hj]
    · rw [ad_at hl, ad_at hl, upd_n _ _ hj]
section CommA
variable {e : PE} {r : Nat} {R : Row} {δ : Row}
theorem ad_hun (h8 : eR e ≤ 8) (hr : r < eR e) : adH δ (pHun r R) = pHun r (adH δ R) := by
  unfold pHun
  rw [ad_at (OH.of (by omega))]
  split
  · rfl
  · rw [ad_upd (OH.of (by omega))]
theorem ad_best (hG : eG e ≤ 6) : pBest (adH δ R) (eG e) = pBest R (eG e) := pBest_cg _ (fun k hk => ad_at (OH.of (by omega))) (ad_at (OH.of (by omega)))
theorem ad_nib (hE : EOk e) (hr : r < eR e) : adH δ (pNib e r R) = pNib e r (adH δ R) := by
  have h8 := hE.1
  have hG := hE.2.1
  unfold pNib
  rw [ad_best hG]
  have hb : pBest R (eG e) < 6 := by rcases pBest_lt R (eG e) with q | q <;> omega
  generalize pBest R (eG e) = b at *
  have h1 : OH (b) := OH.of (by omega)
  have h2 : OH (115) := OH.of (by omega)
  have h3 : OH ((74 + r)) := OH.of (by omega)
  rw [ad_at h1]
  split
  · rfl
  · rw [← ad_upd h1, ad_at h2, ← ad_upd h2, ← ad_upd h3]
theorem ad_vars (hE : EOk e) (hr : r < eR e) (m : Int32) : pVars e r (adH δ R) m = pVars e r R m := by
  have h8 := hE.1
  have h1 : OH ((74 + r)) := OH.of (by omega)
  have h2 : OH ((82 + r)) := OH.of (by omega)
  have h3 : OH (114) := OH.of (by omega)
  have h4 : OH ((90 + r)) := OH.of (by omega)
  have h5 : OH ((98 + r)) := OH.of (by omega)
  unfold pVars
  rw [ad_at h1, ad_at h2, ad_at h3, ad_at h4, ad_at h5]
theorem ad_drop1 (hE : EOk e) (hr : r < eR e) (hI : ¬ R (58 + r) ≤ 0 → 6 ≤ (((6 + (6 * R (106 + r))) + R (66 + r))).toNatClampNeg ∧ (((6 + (6 * R (106 + r))) + R (66 + r))).toNatClampNeg < 42) : adH δ (pDrop1 r R) = pDrop1 r (adH δ R) := by
  have h8 := hE.1
  have h1 : OH (58 + r) := OH.of (by omega)
  have h2 : OH (106 + r) := OH.of (by omega)
  have h3 : OH (66 + r) := OH.of (by omega)
  have h4 : OH (98 + r) := OH.of (by omega)
  unfold pDrop1
  rw [ad_at h1, ad_at h2, ad_at h3]
  split
  · rfl
  · rename_i c
    rw [← ad_in (hI c), ad_at h4, ← ad_upd h4]
theorem ad_drop (hE : EOk e) (hr : r < eR e) (hI : ¬ R (58 + r) ≤ 0 → 6 ≤ (((6 + (6 * R (106 + r))) + R (66 + r))).toNatClampNeg ∧ (((6 + (6 * R (106 + r))) + R (66 + r))).toNatClampNeg < 42) : adH δ (pDrop e r R) = pDrop e r (adH δ R) := by
  have h8 := hE.1
  have h1 : OH ((58 + r)) := OH.of (by omega)
  have h2 : OH ((106 + r)) := OH.of (by omega)
  have h3 : OH ((66 + r)) := OH.of (by omega)
  have h4 : OH ((42 + r)) := OH.of (by omega)
  have h5 : OH ((50 + r)) := OH.of (by omega)
  unfold pDrop
  rw [← ad_drop1 hE hr hI, ad_at h2, ← ad_upd h1, ← ad_upd h3, ← ad_upd h2, ← ad_upd h4, ← ad_upd h5]
theorem ad_loadN (hE : EOk e) (hr : r < eR e) (hk : (R (90 + r)).toNatClampNeg < 6) : pLoadN e r (adH δ R) = pLoadN e r R := by
  have h8 := hE.1
  have h1 : OH ((90 + r)) := OH.of (by omega)
  have h2 : OH ((R (90 + r)).toNatClampNeg) := OH.of (by omega)
  unfold pLoadN
  rw [ad_at h1, ad_at h2, ad_vars hE hr]
theorem ad_L1 (hE : EOk e) (hr : r < eR e) (hk : (R (90 + r)).toNatClampNeg < 6) : adH δ (pL1 e r R) = pL1 e r (adH δ R) := by
  have h8 := hE.1
  have h1 : OH ((90 + r)) := OH.of (by omega)
  have h2 : OH ((R (90 + r)).toNatClampNeg) := OH.of (by omega)
  unfold pL1
  rw [ad_loadN hE hr hk, ad_at h1, ad_at h2, ← ad_upd h2]
theorem ad_loadE (hE : EOk e) (hr : r < eR e) (hk : (R (90 + r)).toNatClampNeg < 6) : pLoadE e r (adH δ R) = pLoadE e r R := by
  unfold pLoadE
  rw [ad_loadN hE hr hk, ← ad_L1 hE hr hk, ad_vars hE hr]
theorem ad_L2 (hE : EOk e) (hr : r < eR e) (hk : (R (90 + r)).toNatClampNeg < 6) : adH δ (pL2 e r R) = pL2 e r (adH δ R) := by
  have h8 := hE.1
  have h1 : OH ((74 + r)) := OH.of (by omega)
  unfold pL2
  rw [ad_loadE hE hr hk, ← ad_L1 hE hr hk, ← ad_upd h1]
  split <;> rfl
theorem ad_L3 (hE : EOk e) (hr : r < eR e) (hk : (R (90 + r)).toNatClampNeg < 6) : adH δ (pL3 e r R) = pL3 e r (adH δ R) := by
  have h8 := hE.1
  have h1 : OH (115) := OH.of (by omega)
  have h2 : OH ((58 + r)) := OH.of (by omega)
  have h3 : OH ((66 + r)) := OH.of (by omega)
  have h4 : OH ((90 + r)) := OH.of (by omega)
  unfold pL3
  rw [ad_loadE hE hr hk, ad_loadN hE hr hk, ← ad_L2 hE hr hk, ad_at h1, ad_at h4, ← ad_upd h1, ← ad_upd h2, ← ad_upd h3]
theorem ad_to (hE : EOk e) (hr : r < eR e) (hk : (R (90 + r)).toNatClampNeg < 6) : pTo e r (adH δ R) = pTo e r R := by
  have h8 := hE.1
  have h1 : OH (114) := OH.of (by omega)
  have h2 : OH ((R (90 + r)).toNatClampNeg) := OH.of (by omega)
  have h4 : OH ((90 + r)) := OH.of (by omega)
  unfold pTo
  rw [← ad_L3 hE hr hk, ad_at h4, ad_at h2, ad_at h1, ad_vars hE hr]
theorem ad_load (hE : EOk e) (hr : r < eR e) (hk : (R (90 + r)).toNatClampNeg < 6) : adH δ (pLoad e r R) = pLoad e r (adH δ R) := by
  have h8 := hE.1
  have h1 : OH ((42 + r)) := OH.of (by omega)
  have h2 : OH ((50 + r)) := OH.of (by omega)
  have h3 : OH ((106 + r)) := OH.of (by omega)
  unfold pLoad pGo
  rw [ad_to hE hr hk, ← ad_L3 hE hr hk, ← ad_upd h1, ← ad_upd h2, ← ad_upd h3]
theorem ad_heap {L : Row} (hE : EOk e) (hr : r < eR e) (hk : (R (90 + r)).toNatClampNeg < 6) : pHeap e r (adH δ R, L) = (adH δ (pHeap e r (R, L)).1, (pHeap e r (R, L)).2) := by
  have h8 := hE.1
  have h1 : OH ((90 + r)) := OH.of (by omega)
  have h2 : OH ((R (90 + r)).toNatClampNeg) := OH.of (by omega)
  have h3 : OH (114) := OH.of (by omega)
  have h4 : OH (118) := OH.of (by omega)
  have h5 : OH ((74 + r)) := OH.of (by omega)
  have h6 : OH (119) := OH.of (by omega)
  unfold pHeap
  simp only
  rw [ad_at h1, ad_at h2, ad_at h3, ad_at h4, ad_at h5, ad_at h6, ← ad_nib hE hr, ← ad_load hE hr hk, ← ad_upd h6]
  split
  · split <;> rfl
  · split <;> rfl
theorem ad_walk {is : Int32} (hE : EOk e) (hr : r < eR e) (hI : is = 1 → ¬ R (58 + r) ≤ 0 → 6 ≤ (((6 + (6 * R (106 + r))) + R (66 + r))).toNatClampNeg ∧ (((6 + (6 * R (106 + r))) + R (66 + r))).toNatClampNeg < 42) : adH δ (pWalk e r R is) = pWalk e r (adH δ R) is := by
  have h8 := hE.1
  have h1 : OH ((50 + r)) := OH.of (by omega)
  have h2 : OH ((42 + r)) := OH.of (by omega)
  unfold pWalk
  rw [ad_at h1, ← ad_upd h1, ad_at h1, ← ad_upd h2]
  split
  · split
    · rename_i c
      refine ad_drop hE hr ?_
      rw [upd_n _ _ (by omega), upd_n _ _ (by omega), upd_n _ _ (by omega)]
      exact hI c
    · rfl
  · rfl
theorem ad_rat {L : Row} (hE : EOk e) (hr : r < eR e) (hw : WFr e R) : pRat e r (adH δ R, L) = (adH δ (pRat e r (R, L)).1, (pRat e r (R, L)).2) := by
  obtain ⟨h8, hG, hH, -⟩ := id hE
  obtain ⟨⟨kk, hk, hkn⟩, hd⟩ := hw r hr
  have h1 : OH ((42 + r)) := OH.of (by omega)
  unfold pRat
  simp only
  rw [ad_at h1, ← ad_hun h8 hr, ad_heap hE hr (by rw [pHun_o (by omega), hkn, tn_n (by omega)]; omega)]
  rw [← ad_walk hE hr (is := R (42 + r)) (R := pHun r R)]
  · split
    · rfl
    · split <;> rfl
  · intro c1 c2
    rw [pHun_o (by omega)] at c2
    obtain ⟨⟨hh, hh6, hhn⟩, hq⟩ := hd c1
    obtain ⟨q, hq6, hqn⟩ := hq c2
    rw [pHun_o (by omega), pHun_o (by omega), hhn, hqn, show (6 : Int32) = nI 6 from rfl, pk_mul, nI_add, nI_add, tn_n (by omega)]
    omega
theorem ad_rats {L : Row} (hE : EOk e) (hw : WFr e R) : ∀ n, n ≤ eR e → pRats e n (adH δ R, L) = (adH δ (pRats e n (R, L)).1, (pRats e n (R, L)).2)
  | 0, _ => rfl
  | n + 1, hn => by
    rw [pRats, pRats, ad_rats hE hw n (by omega)]
    have := WFr.rats (q := (R, L)) hE hw n (by omega)
    exact ad_rat hE (by omega) this
theorem ad_endd : adH δ (pEnd R) = pEnd (adH δ R) := by
  have h1 : OH (114) := OH.of (by omega)
  have h2 : OH (118) := OH.of (by omega)
  unfold pEnd
  rw [ad_at h2, ad_at h1, ← ad_upd h1, ← ad_upd h2, ad_at h1, ← ad_upd h1]
  split <;> rfl
theorem ad_min (hE : EOk e) (hw : WFr e R) : adH δ (pMin e R) = pMin e (adH δ R) := by
  unfold pMin
  rw [ad_rats hE hw _ (Nat.le_refl _), ad_endd]
theorem ad_mins (hE : EOk e) : ∀ (n : Nat) {R : Row}, WFr e R → adH δ (pMins e n R) = pMins e n (adH δ R)
  | 0, _, _ => rfl
  | n + 1, R, hw => by rw [pMins, pMins, ad_mins hE n (WFr.min hE hw), ad_min hE hw]
end CommA
