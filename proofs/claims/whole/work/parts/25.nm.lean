/-! ROWS as a text sees them: places of rats that aren't told don't count -/
def lvb (e : PE) (k : Nat) : Bool := decide (k < 42 ∨ (114 ≤ k ∧ k < 120) ∨ (42 ≤ k ∧ k < 114 ∧ (k - 42) % 8 < eR e))
theorem lvb_of {e : PE} {k : Nat} (h : k < 42 ∨ (114 ≤ k ∧ k < 120) ∨ (42 ≤ k ∧ k < 114 ∧ (k - 42) % 8 < eR e)) : lvb e k = true := by
  simp only [lvb, decide_eq_true_eq]; exact h
theorem lvb_to {e : PE} {k : Nat} (h : lvb e k = true) : k < 42 ∨ (114 ≤ k ∧ k < 120) ∨ (42 ≤ k ∧ k < 114 ∧ (k - 42) % 8 < eR e) := by
  simp only [lvb, decide_eq_true_eq] at h; exact h
def nm (e : PE) (R : Row) : Row := fun k => if lvb e k = true then R k else 0
theorem nm_at {e : PE} {R : Row} {k : Nat} (h : lvb e k = true) : nm e R k = R k := by rw [nm, if_pos h]
theorem nm_z {e : PE} {R : Row} {k : Nat} (h : ¬ lvb e k = true) : nm e R k = 0 := by rw [nm, if_neg h]
theorem nm_upd {e : PE} {R : Row} {k : Nat} {v : Int32} (h : lvb e k = true) : nm e (upd R k v) = upd (nm e R) k v := by
  funext j
  by_cases hj : j = k
  · subst hj; rw [upd_s, nm_at h, upd_s]
  · rw [upd_n _ _ hj]
    by_cases hl : lvb e j = true
    · rw [nm_at hl, nm_at hl, upd_n _ _ hj]
    · rw [nm_z hl, nm_z hl]
theorem nm_nm (e : PE) (R : Row) : nm e (nm e R) = nm e R := by
  funext j
  by_cases hl : lvb e j = true
  · rw [nm_at hl]
  · rw [nm_z hl, nm_z hl]
theorem nm_eq {e : PE} {R R' : Row} (h : ∀ k, lvb e k = true → R k = R' k) : nm e R = nm e R' := by
  funext j
  by_cases hl : lvb e j = true
  · rw [nm_at hl, nm_at hl, h j hl]
  · rw [nm_z hl, nm_z hl]
theorem nm_get {e : PE} {R R' : Row} (h : nm e R = R') {k : Nat} (hk : lvb e k = true) : R k = R' k := by rw [← h, nm_at hk]
section Comm
variable {e : PE} {r : Nat} {R : Row}
theorem nm_hun (h8 : eR e ≤ 8) (hr : r < eR e) : nm e (pHun r R) = pHun r (nm e R) := by
  unfold pHun
  rw [nm_at (lvb_of (by omega))]
  split
  · rfl
  · rw [nm_upd (lvb_of (by omega))]
theorem nm_best (hG : eG e ≤ 6) : pBest (nm e R) (eG e) = pBest R (eG e) := pBest_cg _ (fun k hk => nm_at (lvb_of (by omega))) (nm_at (lvb_of (by omega)))
theorem nm_nib (hE : EOk e) (hr : r < eR e) : nm e (pNib e r R) = pNib e r (nm e R) := by
  have h8 := hE.1
  have hG := hE.2.1
  unfold pNib
  rw [nm_best hG]
  have hb : pBest R (eG e) < 6 := by rcases pBest_lt R (eG e) with q | q <;> omega
  generalize pBest R (eG e) = b at *
  have h1 : lvb e b = true := lvb_of (by omega)
  have h2 : lvb e 115 = true := lvb_of (by omega)
  have h3 : lvb e (74 + r) = true := lvb_of (by omega)
  rw [nm_at h1]
  split
  · rfl
  · rw [← nm_upd h1, nm_at h2, ← nm_upd h2, ← nm_upd h3]
theorem nm_vars (hE : EOk e) (hr : r < eR e) (m : Int32) : pVars e r (nm e R) m = pVars e r R m := by
  have h8 := hE.1
  have h1 : lvb e (74 + r) = true := lvb_of (by omega)
  have h2 : lvb e (82 + r) = true := lvb_of (by omega)
  have h3 : lvb e 114 = true := lvb_of (by omega)
  have h4 : lvb e (90 + r) = true := lvb_of (by omega)
  have h5 : lvb e (98 + r) = true := lvb_of (by omega)
  unfold pVars
  rw [nm_at h1, nm_at h2, nm_at h3, nm_at h4, nm_at h5]
theorem nm_drop1 (hE : EOk e) (hr : r < eR e) (hI : ¬ R (58 + r) ≤ 0 → (((6 + (6 * R (106 + r))) + R (66 + r))).toNatClampNeg < 42) : nm e (pDrop1 r R) = pDrop1 r (nm e R) := by
  have h8 := hE.1
  have h1 : lvb e (58 + r) = true := lvb_of (by omega)
  have h2 : lvb e (106 + r) = true := lvb_of (by omega)
  have h3 : lvb e (66 + r) = true := lvb_of (by omega)
  have h4 : lvb e (98 + r) = true := lvb_of (by omega)
  unfold pDrop1
  rw [nm_at h1, nm_at h2, nm_at h3]
  split
  · rfl
  · rename_i c
    have h5 : lvb e (((6 + (6 * R (106 + r))) + R (66 + r))).toNatClampNeg = true := lvb_of (Or.inl (hI c))
    rw [nm_at h5, ← nm_upd h5, nm_at h4, ← nm_upd h4]
theorem nm_drop (hE : EOk e) (hr : r < eR e) (hI : ¬ R (58 + r) ≤ 0 → (((6 + (6 * R (106 + r))) + R (66 + r))).toNatClampNeg < 42) : nm e (pDrop e r R) = pDrop e r (nm e R) := by
  have h8 := hE.1
  have h1 : lvb e (58 + r) = true := lvb_of (by omega)
  have h2 : lvb e (106 + r) = true := lvb_of (by omega)
  have h3 : lvb e (66 + r) = true := lvb_of (by omega)
  have h4 : lvb e (42 + r) = true := lvb_of (by omega)
  have h5 : lvb e (50 + r) = true := lvb_of (by omega)
  unfold pDrop
  rw [← nm_drop1 hE hr hI, nm_at h2, ← nm_upd h1, ← nm_upd h3, ← nm_upd h2, ← nm_upd h4, ← nm_upd h5]
theorem nm_loadN (hE : EOk e) (hr : r < eR e) (hk : (R (90 + r)).toNatClampNeg < 6) : pLoadN e r (nm e R) = pLoadN e r R := by
  have h8 := hE.1
  have h1 : lvb e (90 + r) = true := lvb_of (by omega)
  have h2 : lvb e (R (90 + r)).toNatClampNeg = true := lvb_of (by omega)
  unfold pLoadN
  rw [nm_at h1, nm_at h2, nm_vars hE hr]
theorem nm_L1 (hE : EOk e) (hr : r < eR e) (hk : (R (90 + r)).toNatClampNeg < 6) : nm e (pL1 e r R) = pL1 e r (nm e R) := by
  have h8 := hE.1
  have h1 : lvb e (90 + r) = true := lvb_of (by omega)
  have h2 : lvb e (R (90 + r)).toNatClampNeg = true := lvb_of (by omega)
  unfold pL1
  rw [nm_loadN hE hr hk, nm_at h1, nm_at h2, ← nm_upd h2]
theorem nm_loadE (hE : EOk e) (hr : r < eR e) (hk : (R (90 + r)).toNatClampNeg < 6) : pLoadE e r (nm e R) = pLoadE e r R := by
  unfold pLoadE
  rw [nm_loadN hE hr hk, ← nm_L1 hE hr hk, nm_vars hE hr]
theorem nm_L2 (hE : EOk e) (hr : r < eR e) (hk : (R (90 + r)).toNatClampNeg < 6) : nm e (pL2 e r R) = pL2 e r (nm e R) := by
  have h8 := hE.1
  have h1 : lvb e (74 + r) = true := lvb_of (by omega)
  unfold pL2
  rw [nm_loadE hE hr hk, ← nm_L1 hE hr hk, ← nm_upd h1]
  split <;> rfl
theorem nm_L3 (hE : EOk e) (hr : r < eR e) (hk : (R (90 + r)).toNatClampNeg < 6) : nm e (pL3 e r R) = pL3 e r (nm e R) := by
  have h8 := hE.1
  have h1 : lvb e 115 = true := lvb_of (by omega)
  have h2 : lvb e (58 + r) = true := lvb_of (by omega)
  have h3 : lvb e (66 + r) = true := lvb_of (by omega)
  have h4 : lvb e (90 + r) = true := lvb_of (by omega)
  unfold pL3
  rw [nm_loadE hE hr hk, nm_loadN hE hr hk, ← nm_L2 hE hr hk, nm_at h1, nm_at h4, ← nm_upd h1, ← nm_upd h2, ← nm_upd h3]
theorem nm_to (hE : EOk e) (hr : r < eR e) (hk : (R (90 + r)).toNatClampNeg < 6) : pTo e r (nm e R) = pTo e r R := by
  have h8 := hE.1
  have h1 : lvb e 114 = true := lvb_of (by omega)
  have h2 : lvb e (R (90 + r)).toNatClampNeg = true := lvb_of (by omega)
  have h4 : lvb e (90 + r) = true := lvb_of (by omega)
  unfold pTo
  rw [← nm_L3 hE hr hk, nm_at h4, nm_at h2, nm_at h1, nm_vars hE hr]
theorem nm_load (hE : EOk e) (hr : r < eR e) (hk : (R (90 + r)).toNatClampNeg < 6) : nm e (pLoad e r R) = pLoad e r (nm e R) := by
  have h8 := hE.1
  have h1 : lvb e (42 + r) = true := lvb_of (by omega)
  have h2 : lvb e (50 + r) = true := lvb_of (by omega)
  have h3 : lvb e (106 + r) = true := lvb_of (by omega)
  unfold pLoad pGo
  rw [nm_to hE hr hk, ← nm_L3 hE hr hk, ← nm_upd h1, ← nm_upd h2, ← nm_upd h3]
theorem nm_heap {L : Row} (hE : EOk e) (hr : r < eR e) (hk : (R (90 + r)).toNatClampNeg < 6) : pHeap e r (nm e R, L) = (nm e (pHeap e r (R, L)).1, (pHeap e r (R, L)).2) := by
  have h8 := hE.1
  have h1 : lvb e (90 + r) = true := lvb_of (by omega)
  have h2 : lvb e (R (90 + r)).toNatClampNeg = true := lvb_of (by omega)
  have h3 : lvb e 114 = true := lvb_of (by omega)
  have h4 : lvb e 118 = true := lvb_of (by omega)
  have h5 : lvb e (74 + r) = true := lvb_of (by omega)
  have h6 : lvb e 119 = true := lvb_of (by omega)
  unfold pHeap
  simp only
  rw [nm_at h1, nm_at h2, nm_at h3, nm_at h4, nm_at h5, nm_at h6, ← nm_nib hE hr, ← nm_load hE hr hk, ← nm_upd h6]
  split
  · split <;> rfl
  · split <;> rfl
theorem nm_walk {is : Int32} (hE : EOk e) (hr : r < eR e) (hI : is = 1 → ¬ R (58 + r) ≤ 0 → (((6 + (6 * R (106 + r))) + R (66 + r))).toNatClampNeg < 42) : nm e (pWalk e r R is) = pWalk e r (nm e R) is := by
  have h8 := hE.1
  have h1 : lvb e (50 + r) = true := lvb_of (by omega)
  have h2 : lvb e (42 + r) = true := lvb_of (by omega)
  unfold pWalk
  rw [nm_at h1, ← nm_upd h1, nm_at h1, ← nm_upd h2]
  split
  · split
    · rename_i c
      refine nm_drop hE hr ?_
      rw [upd_n _ _ (by omega), upd_n _ _ (by omega), upd_n _ _ (by omega)]
      exact hI c
    · rfl
  · rfl
theorem nm_rat {L : Row} (hE : EOk e) (hr : r < eR e) (hw : WFr e R) : pRat e r (nm e R, L) = (nm e (pRat e r (R, L)).1, (pRat e r (R, L)).2) := by
  obtain ⟨h8, hG, hH, -⟩ := id hE
  obtain ⟨⟨kk, hk, hkn⟩, hd⟩ := hw r hr
  have h1 : lvb e (42 + r) = true := lvb_of (by omega)
  unfold pRat
  simp only
  rw [nm_at h1, ← nm_hun h8 hr, nm_heap hE hr (by rw [pHun_o (by omega), hkn, tn_n (by omega)]; omega)]
  rw [← nm_walk hE hr (is := R (42 + r)) (R := pHun r R)]
  · split
    · rfl
    · split <;> rfl
  · intro c1 c2
    rw [pHun_o (by omega)] at c2
    obtain ⟨⟨hh, hh6, hhn⟩, hq⟩ := hd c1
    obtain ⟨q, hq6, hqn⟩ := hq c2
    rw [pHun_o (by omega), pHun_o (by omega), hhn, hqn, show (6 : Int32) = nI 6 from rfl, pk_mul, nI_add, nI_add, tn_n (by omega)]
    omega
theorem nm_rats {L : Row} (hE : EOk e) (hw : WFr e R) : ∀ n, n ≤ eR e → pRats e n (nm e R, L) = (nm e (pRats e n (R, L)).1, (pRats e n (R, L)).2)
  | 0, _ => rfl
  | n + 1, hn => by
    rw [pRats, pRats, nm_rats hE hw n (by omega)]
    have := WFr.rats (q := (R, L)) hE hw n (by omega)
    exact nm_rat hE (by omega) this
theorem nm_endd : nm e (pEnd R) = pEnd (nm e R) := by
  have h1 : lvb e 114 = true := lvb_of (by omega)
  have h2 : lvb e 118 = true := lvb_of (by omega)
  unfold pEnd
  rw [nm_at h2, nm_at h1, ← nm_upd h1, ← nm_upd h2, nm_at h1, ← nm_upd h1]
  split <;> rfl
theorem nm_min (hE : EOk e) (hw : WFr e R) : nm e (pMin e R) = pMin e (nm e R) := by
  unfold pMin
  rw [nm_rats hE hw _ (Nat.le_refl _), nm_endd]
theorem nm_mins (hE : EOk e) : ∀ (n : Nat) {R : Row}, WFr e R → nm e (pMins e n R) = pMins e n (nm e R)
  | 0, _, _ => rfl
  | n + 1, R, hw => by rw [pMins, pMins, nm_mins hE n (WFr.min hE hw), nm_min hE hw]
end Comm
/-- rows in order, as a text sees them -/
theorem WFr.cg {e : PE} {R R' : Row} (h8 : eR e ≤ 8) (h : ∀ k, lvb e k = true → R' k = R k) (w : WFr e R) : WFr e R' := by
  intro r hr
  rw [h (90 + r) (lvb_of (by omega)), h (42 + r) (lvb_of (by omega)), h (106 + r) (lvb_of (by omega)), h (58 + r) (lvb_of (by omega)), h (66 + r) (lvb_of (by omega))]
  exact w r hr
theorem WF2.cg {e : PE} {R R' : Row} (h8 : eR e ≤ 8) (h : ∀ k, lvb e k = true → R' k = R k) (w : WF2 e R) : WF2 e R' := by
  refine ⟨fun k hk => by rw [h k (lvb_of (by omega))]; exact w.1 k hk, by rw [h 118 (lvb_of (by omega))]; exact w.2.1, fun r hr => ?_⟩
  rw [h (42 + r) (lvb_of (by omega)), h (58 + r) (lvb_of (by omega)), h (74 + r) (lvb_of (by omega))]
  exact w.2.2 r hr
theorem WF3.cg {e : PE} {R R' : Row} (h8 : eR e ≤ 8) (h : ∀ k, lvb e k = true → R' k = R k) (w : WF3 e R) : WF3 e R' := by
  refine ⟨fun k hk => by rw [h k (lvb_of (by omega))]; exact w.1 k hk, by rw [h 118 (lvb_of (by omega))]; exact w.2.1, w.2.2.1, fun r hr => ?_⟩
  rw [h (42 + r) (lvb_of (by omega)), h (50 + r) (lvb_of (by omega)), h (74 + r) (lvb_of (by omega))]
  exact w.2.2.2 r hr
theorem WFA.cg {e : PE} {R R' : Row} (h8 : eR e ≤ 8) (h : ∀ k, lvb e k = true → R' k = R k) (w : WFA e R) : WFA e R' := ⟨w.1.cg h8 h, w.2.1.cg h8 h, w.2.2.cg h8 h⟩
theorem WFA.tonm {e : PE} {R : Row} (h8 : eR e ≤ 8) (w : WFA e R) : WFA e (nm e R) := w.cg h8 (fun _ hk => nm_at hk)
theorem WFA.of_nm {e : PE} {R : Row} (h8 : eR e ≤ 8) (w : WFA e (nm e R)) : WFA e R := w.cg h8 (fun _ hk => (nm_at hk).symm)
/-- how much grain there is -/
def tsum (R : Row) (o : Nat) : Nat → Nat
  | 0 => 0
  | n + 1 => tsum R o n + (R (o + n)).toNatClampNeg
theorem tsum_cg {R R' : Row} {o : Nat} : ∀ n, (∀ k, k < n → R (o + k) = R' (o + k)) → tsum R o n = tsum R' o n
  | 0, _ => rfl
  | n + 1, h => by rw [tsum, tsum, tsum_cg n (fun k hk => h k (by omega)), h n (by omega)]
theorem tsum_in {R : Row} {o j : Nat} {v : Int32} : ∀ n, j < n → tsum (upd R (o + j) v) o n + (R (o + j)).toNatClampNeg = tsum R o n + v.toNatClampNeg
  | 0, h => by omega
  | n + 1, h => by
    rw [tsum, tsum]
    by_cases e : j = n
    · subst e
      rw [tsum_cg j (fun k hk => upd_n R v (show o + k ≠ o + j by omega)), upd_s]
      omega
    · have := tsum_in (R := R) (o := o) (j := j) (v := v) n (by omega)
      rw [upd_n R v (show o + n ≠ o + j by omega)]
      omega
theorem tsum_le {R : Row} {o j : Nat} : ∀ n, j < n → (R (o + j)).toNatClampNeg ≤ tsum R o n
  | 0, h => by omega
  | n + 1, h => by
    rw [tsum]
    by_cases e : j = n
    · subst e; omega
    · have := tsum_le (R := R) (o := o) (j := j) n (by omega); omega
def tot (e : PE) (R : Row) : Nat := tsum R 0 42 + tsum R 58 (eR e)
def WF4 (e : PE) (B : Nat) (R : Row) : Prop := (∀ k, k < 42 → 0 ≤ R k) ∧ (∀ r, r < eR e → 0 ≤ R (58 + r)) ∧ tot e R ≤ B ∧ ∀ h, eHo e ≤ h → h < 6 → ∀ k, k < 6 → R (6 + 6 * h + k) = 0
theorem tot_up {e : PE} {R : Row} {j : Nat} {v : Int32} (h8 : eR e ≤ 8) (hj : j < 42) : tot e (upd R j v) + (R j).toNatClampNeg = tot e R + v.toNatClampNeg := by
  unfold tot
  have h1 := tsum_in (R := R) (o := 0) (j := j) (v := v) 42 hj
  rw [Nat.zero_add] at h1
  rw [tsum_cg (R := upd R j v) (R' := R) (o := 58) (eR e) (fun k hk => upd_n R v (by omega))]
  omega
theorem tot_ca {e : PE} {R : Row} {r : Nat} {v : Int32} (h8 : eR e ≤ 8) (hr : r < eR e) : tot e (upd R (58 + r) v) + (R (58 + r)).toNatClampNeg = tot e R + v.toNatClampNeg := by
  unfold tot
  have h1 := tsum_in (R := R) (o := 58) (j := r) (v := v) (eR e) hr
  rw [tsum_cg (R := upd R (58 + r) v) (R' := R) (o := 0) 42 (fun k hk => upd_n R v (by omega))]
  omega
theorem tot_cg {e : PE} {R R' : Row} (h1 : ∀ k, k < 42 → R' k = R k) (h2 : ∀ r, r < eR e → R' (58 + r) = R (58 + r)) : tot e R' = tot e R := by
  unfold tot
  rw [tsum_cg (R := R') (R' := R) (o := 0) 42 (fun k hk => by rw [Nat.zero_add]; exact h1 k hk), tsum_cg (R := R') (R' := R) (o := 58) (eR e) h2]
theorem tot_le {e : PE} {R : Row} {j : Nat} (hj : j < 42) : (R j).toNatClampNeg ≤ tot e R := by
  have := tsum_le (R := R) (o := 0) (j := j) 42 hj
  rw [Nat.zero_add] at this
  unfold tot; omega
theorem tot_le58 {e : PE} {R : Row} {r : Nat} (hr : r < eR e) : (R (58 + r)).toNatClampNeg ≤ tot e R := by
  have := tsum_le (R := R) (o := 58) (j := r) (eR e) hr
  unfold tot; omega
section Tot
variable {e : PE} {r B : Nat} {R : Row}
theorem WF4.cg {R' : Row} (h1 : ∀ k, k < 42 → R' k = R k) (h2 : ∀ r, r < eR e → R' (58 + r) = R (58 + r)) (w : WF4 e B R) : WF4 e B R' :=
  ⟨fun k hk => by rw [h1 k hk]; exact w.1 k hk, fun r hr => by rw [h2 r hr]; exact w.2.1 r hr, by rw [tot_cg h1 h2]; exact w.2.2.1, fun h q1 q2 k hk => by rw [h1 _ (by omega)]; exact w.2.2.2 h q1 q2 k hk⟩
theorem WF4.tonm (h8 : eR e ≤ 8) (w : WF4 e B R) : WF4 e B (nm e R) := w.cg (fun k hk => nm_at (lvb_of (by omega))) (fun r hr => nm_at (lvb_of (by omega)))
theorem WF4.of_nm (h8 : eR e ≤ 8) (w : WF4 e B (nm e R)) : WF4 e B R := w.cg (fun k hk => (nm_at (lvb_of (by omega))).symm) (fun r hr => (nm_at (lvb_of (by omega))).symm)
theorem WF4.le {B' : Nat} (h : B ≤ B') (w : WF4 e B R) : WF4 e B' R := ⟨w.1, w.2.1, Nat.le_trans w.2.2.1 h, w.2.2.2⟩
/-- a cell made less -/
theorem WF4.less {j : Nat} {v : Int32} (h8 : eR e ≤ 8) (hj : j < 42) (h0 : 0 ≤ v) (hv : v ≤ R j) (w : WF4 e B R) : WF4 e B (upd R j v) := by
  refine ⟨fun k hk => ?_, fun r hr => by rw [upd_n _ _ (by omega)]; exact w.2.1 r hr, ?_, fun h q1 q2 k hk => ?_⟩
  · rw [upd_a]; split
    · exact h0
    · exact w.1 k hk
  · have h1 := tot_up (R := R) (v := v) h8 hj
    have h2 := w.2.2.1
    obtain ⟨a, ha, e1⟩ := i_nn h0
    obtain ⟨b, hb, e2⟩ := i_nn (w.1 j hj)
    rw [e1, e2] at hv
    have h3 := (nI_leI ha hb).mp hv
    rw [e1, e2, tn_n ha, tn_n hb] at h1
    rw [e1]
    omega
  · rw [upd_a]; split
    · rename_i c
      have z := w.2.2.2 h q1 q2 k hk
      rw [c] at z
      rw [z] at hv
      exact Int32.le_antisymm hv h0
    · exact w.2.2.2 h q1 q2 k hk
theorem WF4.nib (hE : EOk e) (hr : r < eR e) (w : WF4 e B R) : WF4 e B (pNib e r R) := by
  have h8 := hE.1
  have hG := hE.2.1
  unfold pNib
  have hb : pBest R (eG e) < 6 := by rcases pBest_lt R (eG e) with q | q <;> omega
  generalize pBest R (eG e) = b at *
  split
  · exact w
  · rename_i c
    have h0 := w.1 b (by omega)
    refine WF4.cg (R := upd R b (R b - 1)) (fun k hk => ?_) (fun x hx => ?_) (w.less h8 (by omega) (i_dec h0 c) ?_)
    · rw [upd_n _ _ (by omega), upd_n _ _ (by omega)]
    · rw [upd_n _ _ (by omega), upd_n _ _ (by omega)]
    · obtain ⟨a, ha, e1⟩ := i_nn h0
      rw [e1] at c ⊢
      have : a ≠ 0 := fun q => c (by rw [q]; rfl)
      rw [show (1 : Int32) = nI 1 from rfl, pk_sub (by omega)]
      exact nI_le (by omega) ha
theorem WF4.load {kk : Nat} (hE : EOk e) (hr : r < eR e) (hk : (R (90 + r)).toNatClampNeg = kk) (hk6 : kk < 6) (h0 : ¬ R kk = 0) (w : WF4 e B R) : WF4 e B (pLoad e r R) := by
  have h8 := hE.1
  have hG := hE.2.1
  obtain ⟨n1, n2, -⟩ := pLoadN_ge (e := e) hk (w.1 kk (by omega)) h0
  have n0 : 0 ≤ pLoadN e r R := Int32.le_trans (by decide) n1
  have e0 := pLoadE_ge (e := e) (r := r) (R := R) n0
  have e1 := pLoadE_le e r R
  have w1 : WF4 e B (upd R kk (R kk - pLoadN e r R)) := by
    refine w.less h8 (by omega) (i_sub_nn n0 n2) ?_
    obtain ⟨a, ha, q1⟩ := i_nn (w.1 kk (by omega))
    obtain ⟨b, hb, q2⟩ := i_nn n0
    rw [q1, q2] at n2 ⊢
    have := (nI_leI hb ha).mp n2
    rw [pk_sub this]
    exact nI_le (by omega) ha
  refine WF4.cg (R := upd (upd R kk (R kk - pLoadN e r R)) (58 + r) (pLoadN e r R - pLoadE e r R)) (fun k hk' => ?_) (fun x hx => ?_) ⟨fun k hk' => ?_, fun x hx => ?_, ?_, fun h q1 q2 k hk' => ?_⟩
  · rw [upd_n _ _ (by omega), pLoad, pGo, upd_n _ _ (by omega), upd_n _ _ (by omega), upd_n _ _ (by omega), pL3, upd_n _ _ (by omega), upd_n _ _ (by omega), upd_n _ _ (by omega), pL2]
    split
    · rw [pL1, hk]
    · rw [upd_n _ _ (by omega), pL1, hk]
  · have o2 : pLoad e r R (58 + x) = pL3 e r R (58 + x) := by rw [pLoad, pGo, upd_n _ _ (by omega), upd_n _ _ (by omega), upd_n _ _ (by omega)]
    rw [o2, pL3, upd_n _ _ (by omega)]
    by_cases ex : x = r
    · subst ex; rw [upd_s, upd_s]
    · rw [upd_n _ _ (by omega), upd_n _ _ (by omega), upd_n _ _ (by omega), pL2]
      split
      · rw [pL1, hk]
      · rw [upd_n _ _ (by omega), pL1, hk]
  · rw [upd_n _ _ (by omega)]; exact w1.1 k hk'
  · rw [upd_a]; split
    · exact i_sub_nn e0 e1
    · exact w1.2.1 x hx
  · have t1 := tot_up (R := R) (v := R kk - pLoadN e r R) h8 (show kk < 42 by omega)
    have t2 := tot_ca (R := upd R kk (R kk - pLoadN e r R)) (v := pLoadN e r R - pLoadE e r R) h8 hr
    have t3 := w.2.2.1
    obtain ⟨a, ha, q1⟩ := i_nn (w.1 kk (by omega))
    obtain ⟨b, hb, q2⟩ := i_nn n0
    obtain ⟨c, hc, q3⟩ := i_nn e0
    rw [q1, q2] at n2
    rw [q3, q2] at e1
    have l1 := (nI_leI hb ha).mp n2
    have l2 := (nI_leI hc hb).mp e1
    rw [q1, q2, pk_sub l1, tn_n (by omega), tn_n (by omega)] at t1
    rw [q1, q2, q3, pk_sub l1, pk_sub l2, tn_n (show b - c < 2 ^ 31 by omega)] at t2
    rw [q1, q2, q3, pk_sub l1, pk_sub l2]
    omega
  · rw [upd_n _ _ (by omega)]; exact w1.2.2.2 h q1 q2 k hk'
theorem WF4.drop (hE : EOk e) (hr : r < eR e) {hh : Nat} (h1 : R (106 + r) = nI hh) (h2 : hh < eHo e) (hq : ¬ R (58 + r) ≤ 0 → ∃ q, q < 6 ∧ R (66 + r) = nI q) (hB : B < 2 ^ 30) (w : WF4 e B R) : WF4 e B (pDrop e r R) := by
  obtain ⟨h8, hG, hH, -⟩ := id hE
  have c0 := w.2.1 r hr
  have key : WF4 e B (upd (pDrop1 r R) (58 + r) 0) := by
    unfold pDrop1
    by_cases c : R (58 + r) ≤ 0
    · rw [if_pos c]
      refine ⟨fun k hk => by rw [upd_n _ _ (by omega)]; exact w.1 k hk, fun x hx => ?_, ?_, fun h q1 q2 k hk => by rw [upd_n _ _ (by omega)]; exact w.2.2.2 h q1 q2 k hk⟩
      · rw [upd_a]; split
        · decide
        · exact w.2.1 x hx
      · have := tot_ca (R := R) (v := 0) h8 hr
        have e0 : (0 : Int32).toNatClampNeg = 0 := rfl
        have := w.2.2.1
        omega
    · rw [if_neg c]
      obtain ⟨q, hq6, hqn⟩ := hq c
      have hi : (((6 + (6 * R (106 + r))) + R (66 + r))).toNatClampNeg = 6 + 6 * hh + q := by
        rw [h1, hqn, show (6 : Int32) = nI 6 from rfl, pk_mul, nI_add, nI_add, tn_n (by omega)]
      rw [hi]
      have hlt : 6 + 6 * hh + q < 42 := by omega
      obtain ⟨a, ha, q1⟩ := i_nn (w.1 _ hlt)
      obtain ⟨b, hb, q2⟩ := i_nn c0
      have b1 := tot_le (e := e) (R := R) hlt
      have b2 := tot_le58 (R := R) hr
      rw [q1, tn_n ha] at b1
      rw [q2, tn_n hb] at b2
      have b3 := w.2.2.1
      have t1 := tot_up (R := R) (v := R (6 + 6 * hh + q) + R (58 + r)) h8 hlt
      have t2 := tot_ca (R := upd R (6 + 6 * hh + q) (R (6 + 6 * hh + q) + R (58 + r))) (v := 0) h8 hr
      rw [upd_n _ _ (by omega)] at t2
      rw [q1, q2, nI_add, tn_n ha, tn_n (show a + b < 2 ^ 31 by omega)] at t1
      rw [q1, q2, nI_add, tn_n hb, show (0 : Int32).toNatClampNeg = 0 from rfl] at t2
      refine WF4.cg (R := upd (upd R (6 + 6 * hh + q) (R (6 + 6 * hh + q) + R (58 + r))) (58 + r) 0) (fun k hk => ?_) (fun x hx => ?_) ⟨fun k hk => ?_, fun x hx => ?_, ?_, fun h p1 p2 k hk => ?_⟩
      · rw [upd_n _ _ (show k ≠ 58 + r by omega), upd_n _ _ (show k ≠ 98 + r by omega), upd_n _ _ (show k ≠ 58 + r by omega)]
      · by_cases ex : x = r
        · subst ex; rw [upd_s, upd_s]
        · rw [upd_n _ _ (show 58 + x ≠ 58 + r by omega), upd_n _ _ (show 58 + x ≠ 98 + r by omega), upd_n _ _ (show 58 + x ≠ 58 + r by omega)]
      · rw [upd_n _ _ (by omega), upd_a]
        split
        · rw [q1, q2, nI_add]; exact nI_nn (by omega)
        · exact w.1 k hk
      · rw [upd_a]; split
        · decide
        · rw [upd_n _ _ (by omega)]; exact w.2.1 x hx
      · rw [q1, q2, nI_add]; omega
      · rw [upd_n _ _ (by omega), upd_n _ _ (by omega)]; exact w.2.2.2 h p1 p2 k hk
  refine key.cg (fun k hk => ?_) (fun x hx => ?_)
  · rw [pDrop, upd_n _ _ (by omega), upd_n _ _ (by omega), upd_n _ _ (by omega), upd_n _ _ (by omega)]
  · rw [pDrop, upd_n _ _ (by omega), upd_n _ _ (by omega), upd_n _ _ (by omega), upd_n _ _ (by omega)]
theorem WF4.rat {q : Row × Row} (hE : EOk e) (hr : r < eR e) (hB : B < 2 ^ 30) (hw : WFr e q.1) (w : WF4 e B q.1) : WF4 e B (pRat e r q).1 := by
  obtain ⟨h8, hG, hH, -⟩ := id hE
  obtain ⟨⟨kk, hk, hkn⟩, hd⟩ := hw r hr
  have wh : WF4 e B (pHun r q.1) := w.cg (fun k hk => pHun_o (by omega)) (fun x hx => pHun_o (by omega))
  have hkc : (pHun r q.1 (90 + r)).toNatClampNeg = kk := by rw [pHun_o (by omega), hkn, tn_n (by omega)]
  rw [pRat]
  split
  · exact w
  · split
    · rw [pHeap]
      split
      · show WF4 e B (if _ then pHun r q.1 else pNib e r (pHun r q.1))
        split
        · exact wh
        · exact wh.nib hE hr
      · rename_i c
        split
        · exact wh.load hE hr hkc (by omega) (fun z => c (Or.inl (by show pHun r q.1 (pHun r q.1 (90 + r)).toNatClampNeg = 0; rw [hkc]; exact z)))
        · exact wh.cg (fun k hk => upd_n _ _ (by omega)) (fun x hx => upd_n _ _ (by omega))
    · show WF4 e B (pWalk e r (pHun r q.1) (q.1 (42 + r)))
      have wu : WF4 e B (upd (pHun r q.1) (50 + r) (pHun r q.1 (50 + r) - 1)) := wh.cg (fun k hk => upd_n _ _ (by omega)) (fun x hx => upd_n _ _ (by omega))
      rw [pWalk]
      split
      · split
        · rename_i c
          obtain ⟨⟨hh, a1, a2⟩, a3⟩ := hd c
          refine wu.drop hE hr (hh := hh) ?_ a1 ?_ hB
          · rw [upd_n _ _ (by omega), pHun_o (by omega)]; exact a2
          · rw [upd_n _ _ (by omega), pHun_o (by omega), upd_n _ _ (by omega), pHun_o (by omega)]; exact a3
        · exact wu.cg (fun k hk => upd_n _ _ (by omega)) (fun x hx => upd_n _ _ (by omega))
      · exact wu
theorem WF4.rats {q : Row × Row} (hE : EOk e) (hB : B < 2 ^ 30) (hw : WFr e q.1) (w : WF4 e B q.1) : ∀ n, n ≤ eR e → WF4 e B (pRats e n q).1
  | 0, _ => w
  | n + 1, hn => WF4.rat hE hn hB (WFr.rats hE hw n (by omega)) (WF4.rats hE hB hw w n (by omega))
theorem WF4.min (hE : EOk e) (hB : B < 2 ^ 30) (hw : WFr e R) (w : WF4 e B R) : WF4 e B (pMin e R) := by
  have h8 := hE.1
  have w1 := WF4.rats (q := (R, fun _ => 0)) hE hB hw w _ (Nat.le_refl _)
  rw [pMin, pEnd]
  split
  · exact w1.cg (fun k hk => upd_n _ _ (by omega)) (fun x hx => upd_n _ _ (by omega))
  · exact w1.cg (fun k hk => by rw [upd_n _ _ (by omega), upd_n _ _ (by omega)]) (fun x hx => by rw [upd_n _ _ (by omega), upd_n _ _ (by omega)])
theorem WF4.mins (hE : EOk e) (hB : B < 2 ^ 30) : ∀ (n : Nat) {R : Row}, WFr e R → WF4 e B R → WF4 e B (pMins e n R)
  | 0, _, _, w => w
  | n + 1, _, hw, w => WF4.mins hE hB n (WFr.min hE hw) (WF4.min hE hB hw w)
end Tot
