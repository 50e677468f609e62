/-! THE REFERENCE'S MINUTES: rows stay well formed; minuteGoes, goes -/
def WFr (e : PE) (R : Row) : Prop := ∀ r, r < eR e → (∃ k, k < eG e ∧ R (90 + r) = nI k) ∧ (R (42 + r) = 1 → (∃ h, h < eHo e ∧ R (106 + r) = nI h) ∧ (¬ R (58 + r) ≤ 0 → ∃ q, q < 6 ∧ R (66 + r) = nI q))
def EOk (e : PE) : Prop := eR e ≤ 8 ∧ eG e ≤ 6 ∧ eHo e ≤ 6 ∧ ∀ r, r < eR e → eWh e r < eHo e
theorem EV0.ok {e : PE} {lv : Nat} {s : MS} (h : EV0 e lv s) : EOk e := ⟨h.2.2.1.2, h.2.2.2.1.2, h.2.2.2.2.1.2, fun r hr => (h.2.2.2.2.2.2.2.1 r hr).2⟩
theorem pHun_o {R : Row} {r j : Nat} (h : j ≠ 74 + r) : pHun r R j = R j := by
  rw [pHun]; split
  · rfl
  · exact upd_n _ _ h
theorem pNib_o {e : PE} {R : Row} {r j : Nat} (hG : eG e ≤ 6) (h1 : 6 ≤ j) (h2 : j ≠ 74 + r) (h3 : j ≠ 115) : pNib e r R j = R j := by
  have hb : pBest R (eG e) < 6 := by rcases pBest_lt R (eG e) with q | q <;> omega
  rw [pNib]; split
  · rfl
  · rw [upd_n _ _ h2, upd_n _ _ h3, upd_n _ _ (by omega)]
theorem pLoad_o {e : PE} {R : Row} {r j kk : Nat} (hk : (R (90 + r)).toNatClampNeg = kk) (hk6 : kk < 6) (h1 : 6 ≤ j) (h2 : j ≠ 74 + r) (h3 : j ≠ 115) (h4 : j ≠ 58 + r) (h5 : j ≠ 66 + r) (h6 : j ≠ 42 + r) (h7 : j ≠ 50 + r) (h8 : j ≠ 106 + r) : pLoad e r R j = R j := by
  have e1 : pL1 e r R j = R j := by rw [pL1, hk, upd_n _ _ (by omega)]
  have e2 : pL2 e r R j = R j := by
    rw [pL2]; split
    · exact e1
    · rw [upd_n _ _ h2, e1]
  rw [pLoad, pGo, upd_n _ _ h8, upd_n _ _ h7, upd_n _ _ h6, pL3, upd_n _ _ h5, upd_n _ _ h4, upd_n _ _ h3, e2]
theorem pHeap_o {e : PE} {q : Row × Row} {r j kk : Nat} (hG : eG e ≤ 6) (hk : (q.1 (90 + r)).toNatClampNeg = kk) (hk6 : kk < 6) (h1 : 6 ≤ j) (h2 : j ≠ 74 + r) (h3 : j ≠ 115) (h4 : j ≠ 58 + r) (h5 : j ≠ 66 + r) (h6 : j ≠ 42 + r) (h7 : j ≠ 50 + r) (h8 : j ≠ 106 + r) (h9 : j ≠ 119) : (pHeap e r q).1 j = q.1 j := by
  rw [pHeap]
  split
  · show (if _ then q.1 else pNib e r q.1) j = q.1 j
    split
    · rfl
    · exact pNib_o hG h1 h2 h3
  · split
    · exact pLoad_o hk hk6 h1 h2 h3 h4 h5 h6 h7 h8
    · exact upd_n _ _ h9
theorem pDrop1_o {R : Row} {r j h q : Nat} (hh : R (106 + r) = nI h) (h6 : h < 6) (hq : ¬ R (58 + r) ≤ 0 → R (66 + r) = nI q ∧ q < 6) (h1 : 42 ≤ j) (h2 : j ≠ 98 + r) : pDrop1 r R j = R j := by
  rw [pDrop1]
  split
  · rfl
  · rename_i c
    obtain ⟨q1, q2⟩ := hq c
    have hi : (((6 + (6 * R (106 + r))) + R (66 + r))).toNatClampNeg = 6 + 6 * h + q := by
      rw [hh, q1, show (6 : Int32) = nI 6 from rfl, pk_mul, nI_add, nI_add, tn_n (by omega)]
    rw [upd_n _ _ h2, hi, upd_n _ _ (by omega)]
theorem pDrop_o {e : PE} {R : Row} {r j h q : Nat} (hh : R (106 + r) = nI h) (h6 : h < 6) (hq : ¬ R (58 + r) ≤ 0 → R (66 + r) = nI q ∧ q < 6) (h1 : 42 ≤ j) (h2 : j ≠ 98 + r) (h3 : j ≠ 58 + r) (h4 : j ≠ 66 + r) (h5 : j ≠ 106 + r) (h7 : j ≠ 42 + r) (h8 : j ≠ 50 + r) : pDrop e r R j = R j := by
  rw [pDrop, upd_n _ _ h8, upd_n _ _ h7, upd_n _ _ h5, upd_n _ _ h4, upd_n _ _ h3, pDrop1_o hh h6 hq h1 h2]
theorem le_zero_sub {a b : Int32} (h1 : b ≤ a) (h2 : a ≤ b) : a - b ≤ 0 := by
  have : a = b := Int32.le_antisymm h2 h1
  rw [this]
  simp
theorem pLoadE_le (e : PE) (r : Nat) (R : Row) : pLoadE e r R ≤ pLoadN e r R := by
  rw [pLoadE]
  split
  · assumption
  · exact Int32.le_refl _
theorem pTo_lt {e : PE} {r : Nat} (R : Row) (h : eWh e r < eHo e) : pTo e r R < eHo e := by
  rw [pTo]; split
  · exact h
  · exact pNext_lt e r h
/-- the fields of its own rat behind a load -/
theorem pLoad_own {e : PE} {R : Row} {r kk : Nat} (hr : r < 8) (hk : R (90 + r) = nI kk) (hk6 : kk < 6) : pLoad e r R (106 + r) = nI (pTo e r R) ∧ pLoad e r R (42 + r) = 1 ∧ (¬ pLoad e r R (58 + r) ≤ 0 → pLoad e r R (66 + r) = nI kk) := by
  refine ⟨?_, ?_, fun c => ?_⟩
  · rw [pLoad, pGo, upd_s]
  · rw [pLoad, pGo, upd_n _ _ (by omega), upd_n _ _ (by omega), upd_s]
  · rw [pLoad, pGo, upd_n _ _ (by omega), upd_n _ _ (by omega), upd_n _ _ (by omega), pL3, upd_n _ _ (by omega), upd_s] at c
    rw [pLoad, pGo, upd_n _ _ (by omega), upd_n _ _ (by omega), upd_n _ _ (by omega), pL3, upd_s, if_neg (fun q => c (le_zero_sub (pLoadE_le e r R) q)), hk]
theorem WFr.hun {e : PE} {R : Row} {r : Nat} (hE : EOk e) (hr : r < eR e) (h : WFr e R) : WFr e (pHun r R) := by
  obtain ⟨h1, h2, h3, h4⟩ := hE
  intro x hx
  have := h x hx
  rw [pHun_o (by omega), pHun_o (by omega), pHun_o (by omega), pHun_o (by omega), pHun_o (by omega)]
  exact this
theorem WFr.heap {e : PE} {q : Row × Row} {r : Nat} (hE : EOk e) (hr : r < eR e) (h0 : q.1 (42 + r) = 0) (h : WFr e q.1) : WFr e (pHeap e r q).1 := by
  obtain ⟨h1, h2, h3, h4⟩ := hE
  obtain ⟨⟨kk, hk, hkn⟩, -⟩ := h r hr
  have hkk : (q.1 (90 + r)).toNatClampNeg = kk := by rw [hkn, tn_n (by omega)]
  intro x hx
  by_cases hxr : x = r
  · subst hxr
    rw [pHeap_o h2 hkk (by omega) (by omega) (by omega) (by omega) (by omega) (by omega) (by omega) (by omega) (by omega) (by omega)]
    refine ⟨⟨kk, hk, hkn⟩, ?_⟩
    rw [pHeap]
    split
    · intro c
      exfalso
      revert c
      show (if _ then q.1 else pNib e x q.1) (42 + x) = 1 → False
      split
      · rw [h0]; decide
      · rw [pNib_o h2 (by omega) (by omega) (by omega), h0]; decide
    · split
      · intro _
        obtain ⟨o1, o2, o3⟩ := pLoad_own (e := e) (R := q.1) (r := x) (by omega) hkn (by omega)
        exact ⟨⟨_, pTo_lt q.1 (h4 x hx), o1⟩, fun c => ⟨kk, by omega, o3 c⟩⟩
      · intro c
        exfalso
        revert c
        show upd q.1 119 _ (42 + x) = 1 → False
        rw [upd_n _ _ (by omega), h0]
        decide
  · have := h x hx
    rw [pHeap_o h2 hkk (by omega) (by omega) (by omega) (by omega) (by omega) (by omega) (by omega) (by omega) (by omega) (by omega),
      pHeap_o h2 hkk (by omega) (by omega) (by omega) (by omega) (by omega) (by omega) (by omega) (by omega) (by omega) (by omega),
      pHeap_o h2 hkk (by omega) (by omega) (by omega) (by omega) (by omega) (by omega) (by omega) (by omega) (by omega) (by omega),
      pHeap_o h2 hkk (by omega) (by omega) (by omega) (by omega) (by omega) (by omega) (by omega) (by omega) (by omega) (by omega),
      pHeap_o h2 hkk (by omega) (by omega) (by omega) (by omega) (by omega) (by omega) (by omega) (by omega) (by omega) (by omega)]
    exact this
theorem WFr.walk {e : PE} {R : Row} {r : Nat} {is : Int32} (hE : EOk e) (hr : r < eR e) (his : R (42 + r) = is) (h : WFr e R) : WFr e (pWalk e r R is) := by
  obtain ⟨h1, h2, h3, h4⟩ := hE
  have hw : WFr e (upd R (50 + r) (R (50 + r) - 1)) := by
    intro x hx
    have := h x hx
    rw [upd_n _ _ (by omega), upd_n _ _ (by omega), upd_n _ _ (by omega), upd_n _ _ (by omega), upd_n _ _ (by omega)]
    exact this
  rw [pWalk]
  split
  · split
    · rename_i c1 c2
      have hr1 : upd R (50 + r) (R (50 + r) - 1) (42 + r) = 1 := by rw [upd_n _ _ (by omega), his]; exact c2
      obtain ⟨⟨hh, hh6, hhn⟩, hq⟩ := (hw r hr).2 hr1
      generalize hU : upd R (50 + r) (R (50 + r) - 1) = U at *
      obtain ⟨qq, hqq⟩ : ∃ qq, ¬ U (58 + r) ≤ 0 → U (66 + r) = nI qq ∧ qq < 6 := by
        by_cases c : U (58 + r) ≤ 0
        · exact ⟨0, fun n => absurd c n⟩
        · obtain ⟨qq, a1, a2⟩ := hq c
          exact ⟨qq, fun _ => ⟨a2, a1⟩⟩
      have oo : ∀ j, 42 ≤ j → j ≠ 98 + r → j ≠ 58 + r → j ≠ 66 + r → j ≠ 106 + r → j ≠ 42 + r → j ≠ 50 + r → pDrop e r U j = U j := fun j a1 a2 a3 a4 a5 a6 a7 => pDrop_o hhn (by omega) hqq a1 a2 a3 a4 a5 a6 a7
      intro x hx
      by_cases hxr : x = r
      · subst hxr
        refine ⟨by rw [oo _ (by omega) (by omega) (by omega) (by omega) (by omega) (by omega) (by omega)]; exact (hw x hx).1, fun c => ?_⟩
        rw [pDrop, upd_n _ _ (by omega), upd_s] at c
        exact absurd c (by decide)
      · have := hw x hx
        rw [oo _ (by omega) (by omega) (by omega) (by omega) (by omega) (by omega) (by omega), oo _ (by omega) (by omega) (by omega) (by omega) (by omega) (by omega) (by omega), oo _ (by omega) (by omega) (by omega) (by omega) (by omega) (by omega) (by omega), oo _ (by omega) (by omega) (by omega) (by omega) (by omega) (by omega) (by omega), oo _ (by omega) (by omega) (by omega) (by omega) (by omega) (by omega) (by omega)]
        exact this
    · generalize upd R (50 + r) (R (50 + r) - 1) = U at *
      intro x hx
      have := hw x hx
      by_cases hxr : x = r
      · subst hxr
        refine ⟨by rw [upd_n _ _ (by omega)]; exact this.1, fun c => ?_⟩
        rw [upd_s] at c
        exact absurd c (by decide)
      · rw [upd_n _ _ (by omega), upd_n _ _ (by omega), upd_n _ _ (by omega), upd_n _ _ (by omega), upd_n _ _ (by omega)]
        exact this
  · exact hw
theorem WFr.rat {e : PE} {q : Row × Row} {r : Nat} (hE : EOk e) (hr : r < eR e) (h : WFr e q.1) : WFr e (pRat e r q).1 := by
  rw [pRat]
  split
  · exact h
  · split
    · rename_i c
      exact WFr.heap hE hr (by show pHun r q.1 (42 + r) = 0; rw [pHun_o (by have := hE.1; omega)]; exact c) (h.hun hE hr)
    · exact WFr.walk hE hr (by rw [pHun_o (by have := hE.1; omega)]) (h.hun hE hr)
theorem WFr.rats {e : PE} {q : Row × Row} (hE : EOk e) (h : WFr e q.1) : ∀ n, n ≤ eR e → WFr e (pRats e n q).1
  | 0, _ => h
  | n + 1, hn => WFr.rat hE hn (WFr.rats hE h n (by omega))
theorem WFr.endd {e : PE} {R : Row} (hE : EOk e) (h : WFr e R) : WFr e (pEnd R) := by
  intro x hx
  have h1 := hE.1
  have := h x hx
  rw [pEnd]
  split
  · rw [upd_n _ _ (by omega), upd_n _ _ (by omega), upd_n _ _ (by omega), upd_n _ _ (by omega), upd_n _ _ (by omega)]
    exact this
  · rw [upd_n _ _ (by omega), upd_n _ _ (by omega), upd_n _ _ (by omega), upd_n _ _ (by omega), upd_n _ _ (by omega), upd_n _ _ (by omega), upd_n _ _ (by omega), upd_n _ _ (by omega), upd_n _ _ (by omega), upd_n _ _ (by omega)]
    exact this
theorem WFr.min {e : PE} {R : Row} (hE : EOk e) (h : WFr e R) : WFr e (pMin e R) := WFr.endd hE (WFr.rats (q := (R, fun _ => 0)) hE h _ (Nat.le_refl _))
theorem WFr.mins {e : PE} (hE : EOk e) : ∀ (n : Nat) {R : Row}, WFr e R → WFr e (pMins e n R)
  | 0, _, h => h
  | n + 1, _, h => WFr.mins hE n (WFr.min hE h)
theorem pMins_s (e : PE) : ∀ (n : Nat) (R : Row), pMins e (n + 1) R = pMin e (pMins e n R)
  | 0, _ => rfl
  | n + 1, R => pMins_s e n (pMin e R)
/-- what was loaded counts below 6 alone -/
theorem pHeap_cg {e : PE} {R L L' : Row} {r kk : Nat} (hk : (R (90 + r)).toNatClampNeg = kk) (hk6 : kk < 6) (h : ∀ j, j < 6 → L j = L' j) : (pHeap e r (R, L)).1 = (pHeap e r (R, L')).1 ∧ ∀ j, j < 6 → (pHeap e r (R, L)).2 j = (pHeap e r (R, L')).2 j := by
  simp only [pHeap, hk, h kk hk6]
  split
  · exact ⟨rfl, h⟩
  · split
    · refine ⟨rfl, fun j hj => ?_⟩
      simp only [upd_a, h j hj]
    · exact ⟨rfl, h⟩
section RefMin2
variable {E : EN} {g : GS}
theorem l_Mo_minuteGoes {s : MS} {R : MS → Prop} (hS : SX g) {e : PE} {lv : Nat} (hE : EV0 e lv s) (hT : TellsOK E g e s) (hW : WFr e (s.1 163)) (h : ∀ t, t.1 163 = pMin e (s.1 163) → FrA s t → R t) :
    ∀ (m k : Nat), eR e - k = m → k ≤ eR e → ∀ t, t.1 163 = (pRats e k (s.1 163, fun _ => 0)).1 → (∀ j, j < 6 → t.1 165 j = (pRats e k (s.1 163, fun _ => 0)).2 j) → FrA s t → AWP E m_Mo_minuteGoes 23 0 0 [(0, .ref 120), (1, .int (nI k))] [] (mk g t) (qV g R) := by
  have hO := hE.ok
  have hlv2 : lv < 2 := hE.2.1
  have hlv : (nI lv).toNatClampNeg = lv := tn_n (by omega)
  intro m
  induction m with
  | zero =>
    intro k hk hk1 t ht hL hF
    have hke : k = eR e := by omega
    have hEt := hE.mv hF
    refine v_Mo_minuteGoes_23 _ hS ?_
    simp only [hEt.1, hlv, hEt.2.2.1.1]
    refine ⟨vp_in_nI hlv2 (by omega), fun _ => ⟨fun c s1 e1 => GV.r (h _ ?_ ?_), fun c s2 e2 s3 e3 => GV.r (h _ ?_ ?_)⟩, fun c => absurd ((nI_leI (by have := hO.1; omega) (by have := hO.1; omega)).mpr (by omega)) c⟩
    · rw [e1, wi_def t, si_1s, pMin, ← hke, ← ht, pEnd, if_pos c]
    · rw [e1, wi_def t]; exact hF.tr (FrA.si163 t _)
    · rw [e3, e2, wi_def t, wi_si, si_1s, pMin, ← hke, ← ht, pEnd, if_neg c]
      rw [upd_n _ _ (show 114 ≠ 118 by decide)]
    · rw [e3, e2, wi_def t, wi_si]; exact hF.tr (FrA.si163 t _)
  | succ m ih =>
    intro k hk hk1 t ht hL hF
    have hEt := hE.mv hF
    have hTt := hT.mv hF
    have hkr : k < eR e := by omega
    have h8' : k < 8 := by have := hO.1; omega
    have hWt : WFr e (t.1 163) := by rw [ht]; exact WFr.rats (q := (s.1 163, fun _ => 0)) hO hW k hk1
    have hn : nI k + 1 = nI (k + 1) := nI_1 k
    have go : ∀ u, u.1 163 = (pRat e k (t.1 163, t.1 165)).1 → (∀ j, j < 6 → u.1 165 j = (pRat e k (t.1 163, (pRats e k (s.1 163, fun _ => 0)).2)).2 j) → (pRat e k (t.1 163, t.1 165)).1 = (pRat e k (t.1 163, (pRats e k (s.1 163, fun _ => 0)).2)).1 → FrA t u → AWP E m_Mo_minuteGoes 23 0 0 [(0, .ref 120), (1, .int (nI k + 1))] [] (mk g u) (qV g R) := by
      intro u hu hu2 hu3 hFu
      rw [hn]
      refine ih (k + 1) (by omega) (by omega) u ?_ (fun j hj => ?_) (hF.tr hFu)
      · rw [hu, hu3, ht]; rfl
      · rw [hu2 j hj, ht]; rfl
    have hq : ∀ (R1 R2 : Row), (R1, R2).1 = R1 := fun _ _ => rfl
    refine v_Mo_minuteGoes_23 _ hS ?_
    simp only [hEt.1, hlv, hEt.2.2.1.1, ix42 h8', ix74 h8', ix50 h8']
    -- behind HUNGER: one road for both cases
    have road : ∀ u, u.1 163 = pHun k (t.1 163) → u.1 165 = t.1 165 → FrA t u → ¬ t.1 163 (42 + k) = 3 →
        ((t.1 163 (42 + k) = 0 → GV E m_Mo_atHeap [.ref 120, .int (nI k)] g u (fun v => AWP E m_Mo_minuteGoes 23 0 0 [(0, .ref 120), (1, .int (nI k + 1))] [] (mk g v) (qV g R))) ∧
        (¬ t.1 163 (42 + k) = 0 → vp_in (50 + nI k) 120 ∧ ∀ s5, s5 = wi u 163 (50 + k) (u.1 163 (50 + k) - 1) → ((s5.1 163 (50 + k) ≤ 0 → ((t.1 163 (42 + k) = 1 → GV E m_Mo_drops [.ref 120, .int (nI k)] g s5 (fun v => AWP E m_Mo_minuteGoes 23 0 0 [(0, .ref 120), (1, .int (nI k + 1))] [] (mk g v) (qV g R))) ∧ (¬ t.1 163 (42 + k) = 1 → ∀ s7, s7 = wi s5 163 (42 + k) 0 → AWP E m_Mo_minuteGoes 23 0 0 [(0, .ref 120), (1, .int (nI k + 1))] [] (mk g s7) (qV g R)))) ∧ (¬ s5.1 163 (50 + k) ≤ 0 → AWP E m_Mo_minuteGoes 23 0 0 [(0, .ref 120), (1, .int (nI k + 1))] [] (mk g s5) (qV g R))))) := by
      intro u hu hu2 hFu c3
      have hEu := hEt.mv hFu
      have hWu : WFr e (u.1 163) := by rw [hu]; exact hWt.hun hO hkr
      obtain ⟨⟨kk, hk6, hkn⟩, hgo⟩ := hWu k hkr
      have h42 : u.1 163 (42 + k) = t.1 163 (42 + k) := by rw [hu, pHun_o (by omega)]
      refine ⟨fun c0 => ?_, fun c0 => ⟨vi50 h8', fun s5 e5 => ?_⟩⟩
      · have e1 : ∀ L, pRat e k (t.1 163, L) = pHeap e k (pHun k (t.1 163), L) := fun L => by rw [pRat]; simp only [if_neg c3, if_pos c0]
        have hkk : (pHun k (t.1 163) (90 + k)).toNatClampNeg = kk := by rw [← hu, hkn, tn_n (by have := hO.2.1; omega)]
        obtain ⟨g1, g2⟩ := pHeap_cg (e := e) (L := t.1 165) (L' := (pRats e k (s.1 163, fun _ => 0)).2) hkk (by have := hO.2.1; omega) hL
        refine f_Mo_atHeap hS hEu (hTt.mv hFu) hkr (by have := hO.2.1; omega) hkn (fun v hv hv2 hFv => go v ?_ (fun j hj => ?_) ?_ (hFu.tr hFv))
        · rw [hv, hu, hu2, e1]
        · rw [hv2, hu, hu2, e1]; exact g2 j hj
        · rw [e1, e1]; exact g1
      · have e1 : ∀ L, pRat e k (t.1 163, L) = (pWalk e k (pHun k (t.1 163)) (t.1 163 (42 + k)), L) := fun L => by rw [pRat]; simp only [if_neg c3, if_neg c0]
        have hs5 : s5 = si u 163 (upd (u.1 163) (50 + k) (u.1 163 (50 + k) - 1)) := e5
        have h5r : s5.1 163 = upd (u.1 163) (50 + k) (u.1 163 (50 + k) - 1) := by rw [hs5, si_1s]
        have h5L : s5.1 165 = t.1 165 := by rw [hs5, si_1n u _ (by decide)]; exact hu2
        have h5F : FrA t s5 := by rw [hs5]; exact hFu.tr (FrA.si163 u _)
        refine ⟨fun c5 => ⟨fun c1 => ?_, fun c1 s7 e7 => ?_⟩, fun c5 => ?_⟩
        · rw [h42] at hgo
          obtain ⟨⟨hh, hh6, hhn⟩, hcq⟩ := hgo c1
          have a1 : s5.1 163 (106 + k) = nI hh := by rw [h5r, upd_n _ _ (by omega)]; exact hhn
          have a2 : s5.1 163 (58 + k) = u.1 163 (58 + k) := by rw [h5r, upd_n _ _ (by omega)]
          have a3 : s5.1 163 (66 + k) = u.1 163 (66 + k) := by rw [h5r, upd_n _ _ (by omega)]
          refine f_Mo_drops hS (hE.mv (hF.tr h5F)) h8' (by rw [a1]; exact vp_in_nI (by have := hO.2.2.1; omega) (by omega)) (fun cq => ?_) (go _ ?_ (fun j hj => ?_) ?_ (h5F.tr (FrA.si163 s5 _)))
          · rw [a2] at cq
            obtain ⟨q, q6, qn⟩ := hcq cq
            rw [a1, a3, qn, show (6 : Int32) = nI 6 from rfl, pk_mul, nI_add, nI_add]
            exact vp_in_nI (by have := hO.2.2.1; omega) (by omega)
          · rw [si_1s, e1, pWalk, ← hu, ← h5r, if_pos c5, if_pos c1]
          · rw [si_1n s5 _ (by decide), h5L, e1]; exact hL j hj
          · rw [e1, e1]
        · refine go s7 ?_ (fun j hj => ?_) ?_ (by rw [e7, wi_def s5]; exact h5F.tr (FrA.si163 s5 _))
          · rw [e7, wi_def s5, si_1s, e1, pWalk, ← hu, ← h5r, if_pos c5, if_neg c1]
          · rw [e7, wi_def s5, si_1n s5 _ (by decide), h5L, e1]; exact hL j hj
          · rw [e1, e1]
        · refine go s5 ?_ (fun j hj => ?_) ?_ h5F
          · rw [e1, pWalk, ← hu, ← h5r, if_neg c5]
          · rw [h5L, e1]; exact hL j hj
          · rw [e1, e1]
    refine ⟨vp_in_nI hlv2 (by omega), fun c => absurd ((nI_leI (by have := hO.1; omega) (by have := hO.1; omega)).mp c) (by omega), fun _ => ⟨vi42 h8', fun c3 => ?_, fun c3 => ⟨vi74 h8', fun c9 => ?_, fun c9 s8 e8 => ?_⟩⟩⟩
    · have e1 : ∀ L, pRat e k (t.1 163, L) = (t.1 163, L) := fun L => by rw [pRat]; simp only [if_pos c3]
      exact go t (by rw [e1]) (fun j hj => by rw [e1]; exact hL j hj) (by rw [e1, e1]) (FrA.rf t)
    · exact road t (by rw [pHun, if_pos c9]) rfl (FrA.rf t) c3
    · have hs8 : s8 = si t 163 (upd (t.1 163) (74 + k) (t.1 163 (74 + k) + 1)) := e8
      exact road s8 (by rw [hs8, si_1s, pHun, if_neg c9]) (by rw [hs8, si_1n t _ (by decide)]) (by rw [hs8]; exact FrA.si163 t _) c3
theorem f_Mo_minuteGoes {s : MS} {R : MS → Prop} (hS : SX g) {e : PE} {lv : Nat} (hE : EV0 e lv s) (hT : TellsOK E g e s) (hW : WFr e (s.1 163)) (h : ∀ t, t.1 163 = pMin e (s.1 163) → FrA s t → R t) : GV E m_Mo_minuteGoes [.ref 120] g s R := by
  refine v_Mo_minuteGoes (Q := qV g R) ?_
  have lp : ∀ (m k : Nat), 6 - k = m → k ≤ 6 → ∀ t, t.1 163 = s.1 163 → (∀ j, j < k → t.1 165 j = 0) → FrA s t → AWP E m_Mo_minuteGoes 2 0 0 [(0, .ref 120), (1, .int (nI k))] [] (mk g t) (qV g R) := by
    intro m
    induction m with
    | zero =>
      intro k hk hk1 t ht hL hF
      refine v_Mo_minuteGoes_2 _ hS ⟨fun _ => ?_, fun c => absurd (show (6 : Int32) ≤ nI k from (nI_leI (a := 6) (by omega) (by omega)).mpr (by omega)) c⟩
      exact l_Mo_minuteGoes hS hE hT hW h _ 0 rfl (Nat.zero_le _) t ht (fun j hj => hL j (by omega)) hF
    | succ m ih =>
      intro k hk hk1 t ht hL hF
      refine v_Mo_minuteGoes_2 _ hS ⟨fun c => absurd ((nI_leI (a := 6) (by omega) (by omega)).mp c) (by omega), fun _ => ⟨vp_in_nI (by omega) (by omega), fun s1 e1 => ?_⟩⟩
      rw [nI_1, tn_n (by omega)] at *
      refine ih (k + 1) (by omega) (by omega) s1 ?_ (fun j hj => ?_) (by rw [e1, wi_def t]; exact hF.tr (FrA.si165 t _))
      · rw [e1, wi_def t, si_1n t _ (by decide)]; exact ht
      · rw [e1, wi_def t, si_1s, upd_a]
        split
        · decide
        · exact hL j (by omega)
  exact lp 6 0 rfl (by omega) s rfl (fun j hj => absurd hj (by omega)) (FrA.rf s)
theorem f_Mo_goes {s : MS} {R : MS → Prop} (hS : SX g) {e : PE} {lv n : Nat} (hn : n < 1000) (hE : EV0 e lv s) (hT : TellsOK E g e s) (hW : WFr e (s.1 163)) (h : ∀ t, t.1 163 = pMins e n (s.1 163) → FrA s t → R t) : GV E m_Mo_goes [.ref 120, .int (nI n)] g s R := by
  refine v_Mo_goes (Q := qV g R) (nI n) ?_
  have lp : ∀ (m k : Nat), n - k = m → k ≤ n → ∀ t, t.1 163 = pMins e k (s.1 163) → FrA s t → AWP E m_Mo_goes 2 0 0 [(0, .ref 120), (1, .int (nI n)), (2, .int (nI k))] [] (mk g t) (qV g R) := by
    intro m
    induction m with
    | zero =>
      intro k hk hk1 t ht hF
      refine v_Mo_goes_2 _ _ hS ⟨fun _ => GV.r (h t ?_ hF), fun c => absurd ((nI_leI (by omega) (by omega)).mpr (by omega)) c⟩
      rw [ht, show k = n by omega]
    | succ m ih =>
      intro k hk hk1 t ht hF
      refine v_Mo_goes_2 _ _ hS ⟨fun c => absurd ((nI_leI (by omega) (by omega)).mp c) (by omega), fun _ => ?_⟩
      refine f_Mo_minuteGoes hS (hE.mv hF) (hT.mv hF) (by rw [ht]; exact WFr.mins hE.ok k hW) (fun u hu hFu => ?_)
      rw [nI_1]
      exact ih (k + 1) (by omega) (by omega) u (by rw [hu, ht, pMins_s]) (hF.tr hFu)
  exact lp n 0 rfl (Nat.zero_le _) s rfl (FrA.rf s)
end RefMin2
