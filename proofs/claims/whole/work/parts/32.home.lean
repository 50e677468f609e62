/-! ROWS KEPT WELL FORMED: sent home, called back; what minutes leave as it is -/
theorem pRat_o {e : PE} {q : Row × Row} {r j : Nat} (hE : EOk e) (hr : r < eR e) (hw : WFr e q.1) (j1 : 42 ≤ j) (j2 : j ≠ 74 + r) (j3 : j ≠ 115) (j4 : j ≠ 58 + r) (j5 : j ≠ 66 + r) (j6 : j ≠ 42 + r) (j7 : j ≠ 50 + r) (j8 : j ≠ 106 + r) (j9 : j ≠ 119) (ja : j ≠ 98 + r) : (pRat e r q).1 j = q.1 j := by
  have h8 := hE.1
  have hG := hE.2.1
  obtain ⟨⟨kk, hk, hkn⟩, hgo⟩ := hw r hr
  rw [pRat]
  split
  · rfl
  · split
    · rw [pHeap_o (kk := kk) hG (by show (pHun r q.1 (90 + r)).toNatClampNeg = kk; rw [pHun_o (by omega), hkn, tn_n (by omega)]) (by omega) (by omega) j2 j3 j4 j5 j6 j7 j8 j9]
      exact pHun_o j2
    · show pWalk e r (pHun r q.1) (q.1 (42 + r)) j = _
      rw [pWalk]
      split
      · split
        · rename_i c
          obtain ⟨⟨hh, hh6, hhn⟩, hq⟩ := hgo c
          have e3 := hE.2.2.1
          by_cases z : q.1 (58 + r) ≤ 0
          · rw [pDrop_o (h := hh) (q := 0) (by rw [upd_n _ _ (by omega), pHun_o (by omega)]; exact hhn) (by omega) (fun w => absurd (by rw [upd_n _ _ (by omega), pHun_o (by omega)]; exact z) w) j1 ja j4 j5 j8 j6 j7, upd_n _ _ j7, pHun_o j2]
          · obtain ⟨qq, hq6, hqn⟩ := hq z
            rw [pDrop_o (h := hh) (q := qq) (by rw [upd_n _ _ (by omega), pHun_o (by omega)]; exact hhn) (by omega) (fun w => ⟨by rw [upd_n _ _ (by omega), pHun_o (by omega)]; exact hqn, hq6⟩) j1 ja j4 j5 j8 j6 j7, upd_n _ _ j7, pHun_o j2]
        · rw [upd_n _ _ j6, upd_n _ _ j7, pHun_o j2]
      · rw [upd_n _ _ j7, pHun_o j2]
theorem pRat_3 {e : PE} {q : Row × Row} {r : Nat} (hE : EOk e) (hr : r < eR e) (hw : WFr e q.1) (h : ¬ q.1 (42 + r) = 3) : ¬ (pRat e r q).1 (42 + r) = 3 := by
  have h8 := hE.1
  have hG := hE.2.1
  obtain ⟨⟨kk, hk, hkn⟩, hgo⟩ := hw r hr
  rw [pRat, if_neg h]
  split
  · rename_i c
    have e90 : pHun r q.1 (90 + r) = nI kk := by rw [pHun_o (by omega)]; exact hkn
    have e42 : pHun r q.1 (42 + r) = q.1 (42 + r) := pHun_o (by omega)
    rw [pHeap]
    split
    · show ¬ (if pHun r q.1 (74 + r) < eOd e then pHun r q.1 else pNib e r (pHun r q.1)) (42 + r) = 3
      split
      · rw [e42]; exact h
      · rw [pNib_o hG (by omega) (by omega) (by omega), e42]; exact h
    · split
      · show ¬ pLoad e r (pHun r q.1) (42 + r) = 3
        rw [(pLoad_own (e := e) (kk := kk) (by omega) e90 (by omega)).2.1]; decide
      · show ¬ upd (pHun r q.1) 119 _ (42 + r) = 3
        rw [upd_n _ _ (by omega), e42]; exact h
  · show ¬ pWalk e r (pHun r q.1) (q.1 (42 + r)) (42 + r) = 3
    rw [pWalk]
    split
    · split
      · rw [pDrop, upd_n _ _ (by omega), upd_s]; decide
      · rw [upd_s]; decide
    · rw [upd_n _ _ (by omega), pHun_o (by omega)]; exact h
/-- those at home have no way left -/
def HZ (e : PE) (R : Row) : Prop := ∀ r, r < eR e → R (42 + r) = 3 → R (50 + r) = 0
theorem HZ.rat {e : PE} {q : Row × Row} {r : Nat} (hE : EOk e) (hr : r < eR e) (hw : WFr e q.1) (h : HZ e q.1) : HZ e (pRat e r q).1 := by
  have h8 := hE.1
  intro x hx c
  by_cases z : x = r
  · subst z
    by_cases w : q.1 (42 + x) = 3
    · rw [pRat, if_pos w] at c ⊢
      exact h x hx c
    · exact absurd c (pRat_3 hE hr hw w)
  · rw [pRat_o hE hr hw (by omega) (by omega) (by omega) (by omega) (by omega) (by omega) (by omega) (by omega) (by omega) (by omega)] at c ⊢
    exact h x hx c
theorem HZ.rats {e : PE} {q : Row × Row} (hE : EOk e) (hw : WFr e q.1) (h : HZ e q.1) : ∀ n, n ≤ eR e → HZ e (pRats e n q).1
  | 0, _ => h
  | n + 1, hn => HZ.rat hE hn (WFr.rats hE hw n (by omega)) (HZ.rats hE hw h n (by omega))
theorem pEnd_o {R : Row} {j : Nat} (h1 : j ≠ 114) (h2 : j ≠ 118) : pEnd R j = R j := by
  rw [pEnd]
  split
  · rw [upd_n _ _ h1]
  · rw [upd_n _ _ h1, upd_n _ _ h2]
theorem HZ.min {e : PE} {R : Row} (hE : EOk e) (hw : WFr e R) (h : HZ e R) : HZ e (pMin e R) := by
  have h8 := hE.1
  have := HZ.rats (q := (R, fun _ => 0)) hE hw h _ (Nat.le_refl _)
  intro x hx c
  rw [pMin, pEnd_o (by omega) (by omega)] at c ⊢
  exact this x hx c
theorem HZ.mins {e : PE} (hE : EOk e) : ∀ (n : Nat) {R : Row}, WFr e R → HZ e R → HZ e (pMins e n R)
  | 0, _, _, h => h
  | n + 1, _, w, h => HZ.mins hE n (w.min hE) (h.min hE w)
theorem pRats_k {e : PE} {q : Row × Row} {j : Nat} (hE : EOk e) (hw : WFr e q.1) (hj : (82 ≤ j ∧ j < 90) ∨ j = 114 ∨ j = 116 ∨ j = 117 ∨ j = 118) : ∀ n, n ≤ eR e → (pRats e n q).1 j = q.1 j
  | 0, _ => rfl
  | n + 1, hn => by
    have h8 := hE.1
    rw [pRats, pRat_o hE (by omega) (WFr.rats hE hw n (by omega)) (by omega) (by omega) (by omega) (by omega) (by omega) (by omega) (by omega) (by omega) (by omega) (by omega), pRats_k hE hw hj n (by omega)]
theorem pMins_82 {e : PE} {x : Nat} (hE : EOk e) (hx : x < 8) : ∀ (n : Nat) {R : Row}, WFr e R → pMins e n R (82 + x) = R (82 + x)
  | 0, _, _ => rfl
  | n + 1, R, h => by
    rw [pMins, pMins_82 hE hx n (h.min hE), pMin, pEnd_o (by omega) (by omega), pRats_k (q := (R, fun _ => 0)) hE h (by omega) _ (Nat.le_refl _)]
theorem pMin_118 {e : PE} {R : Row} (hE : EOk e) (hw : WFr e R) (h : ∃ c, c ≤ 999 ∧ R 118 = nI c) : ∃ c, c ≤ 999 ∧ pMin e R 118 = nI c := by
  have := pRats_k (q := (R, fun _ => 0)) (j := 118) hE hw (by omega) _ (Nat.le_refl _)
  obtain ⟨c, hc, hcn⟩ := h
  rw [pMin, pEnd]
  split
  · exact ⟨c, hc, by rw [upd_n _ _ (by decide), this]; exact hcn⟩
  · rename_i z
    rw [this] at z
    have hp : 0 < c := by
      rcases Nat.eq_zero_or_pos c with w | w
      · have : (R, fun _ : Nat => (0 : Int32)).1 118 = nI c := hcn
        rw [this, w] at z; exact absurd (by decide) z
      · exact w
    refine ⟨c - 1, by omega, ?_⟩
    rw [upd_n _ _ (by decide), upd_s, this]
    show R 118 - 1 = _
    rw [hcn, show (1 : Int32) = nI 1 from rfl, pk_sub hp]
theorem pMins_118 {e : PE} (hE : EOk e) : ∀ (n : Nat) {R : Row}, WFr e R → (∃ c, c ≤ 999 ∧ R 118 = nI c) → ∃ c, c ≤ 999 ∧ pMins e n R 118 = nI c
  | 0, _, _, h => h
  | n + 1, _, w, h => pMins_118 hE n (w.min hE) (pMin_118 hE w h)
/-- what a House's row keeps -/
def HN (d : TD) (N : Row) : Prop := ∀ r, r < nR d → (¬ N (58 + r) ≤ 0 → ∃ q, q < 6 ∧ N (66 + r) = nI q) ∧ (N (58 + r) ≤ 0 → N (66 + r) = -2) ∧ (¬ N (42 + r) = 1 → N (106 + r) = -2)
theorem HN.of {d : TD} {s : MS} {b : Nat} {N : Row} (hO : TOk d) (hN : nm (dE d) (hr s b) = N) (hC : CH b s) : HN d N := by
  intro r hr'
  have h8 : eR (dE d) ≤ 8 := hO.r8
  have hre : r < eR (dE d) := hr'
  have r8 : r < 8 := by omega
  rw [← q_at hN (lvb_of (k := 58 + r) (by omega)), ← q_at hN (lvb_of (k := 66 + r) (by omega)), ← q_at hN (lvb_of (k := 42 + r) (by omega)), ← q_at hN (lvb_of (k := 106 + r) (by omega)), hr58 s b r8, hr66 s b r8, hr42 s b r8, hr106 s b r8]
  refine ⟨fun c => ?_, fun c => by rw [if_pos c], fun c => by rw [if_neg c]⟩
  rw [if_neg c]
  exact hC r r8
theorem nm_home {e : PE} {R : Row} {r : Nat} (h8 : eR e ≤ 8) (hr : r < eR e) (hI : ¬ R (58 + r) ≤ 0 → ∃ q, q < 6 ∧ R (66 + r) = nI q) : nm e (pHome r R) = pHome r (nm e R) := by
  have h1 : lvb e (58 + r) = true := lvb_of (by omega)
  have h2 : lvb e (106 + r) = true := lvb_of (by omega)
  have h3 : lvb e (66 + r) = true := lvb_of (by omega)
  have h4 : lvb e (42 + r) = true := lvb_of (by omega)
  have h5 : lvb e (50 + r) = true := lvb_of (by omega)
  unfold pHome
  rw [nm_at h1, nm_at h3, nm_upd h2, nm_upd h4, nm_upd h5, nm_upd h3, nm_upd h1]
  split
  · rfl
  · rename_i c
    obtain ⟨q, hq, hqn⟩ := hI c
    have h6 : lvb e (R (66 + r)).toNatClampNeg = true := lvb_of (by rw [hqn, tn_n (by omega)]; omega)
    rw [nm_upd h6, nm_at h6]
theorem pHome_o {R : Row} {r j : Nat} (hI : ¬ R (58 + r) ≤ 0 → ∃ q, q < 6 ∧ R (66 + r) = nI q) (j0 : 6 ≤ j) (j1 : j ≠ 58 + r) (j2 : j ≠ 66 + r) (j3 : j ≠ 50 + r) (j4 : j ≠ 42 + r) (j5 : j ≠ 106 + r) : pHome r R j = R j := by
  unfold pHome
  rw [upd_n _ _ j5, upd_n _ _ j4, upd_n _ _ j3, upd_n _ _ j2, upd_n _ _ j1]
  split
  · rfl
  · rename_i c
    obtain ⟨q, hq, hqn⟩ := hI c
    rw [upd_n _ _ (by rw [hqn, tn_n (by omega)]; omega)]
theorem pHome_own {R : Row} {r : Nat} : pHome r R (42 + r) = 3 ∧ pHome r R (50 + r) = 0 ∧ pHome r R (58 + r) = 0 ∧ pHome r R (66 + r) = -2 ∧ pHome r R (106 + r) = -2 := by
  unfold pHome
  refine ⟨?_, ?_, ?_, ?_, ?_⟩
  · rw [upd_n _ _ (by omega), upd_s]
  · rw [upd_n _ _ (by omega), upd_n _ _ (by omega), upd_s]
  · rw [upd_n _ _ (by omega), upd_n _ _ (by omega), upd_n _ _ (by omega), upd_n _ _ (by omega), upd_s]
  · rw [upd_n _ _ (by omega), upd_n _ _ (by omega), upd_n _ _ (by omega), upd_s]
  · rw [upd_s]
theorem HN.home {d : TD} {N : Row} {r : Nat} (hO : TOk d) (hr : r < nR d) (h : HN d N) : HN d (pHome r N) := by
  have h8 := hO.r8
  intro x hx
  by_cases z : x = r
  · subst z
    obtain ⟨a1, a2, a3, a4, a5⟩ := pHome_own (R := N) (r := x)
    rw [a1, a3, a4, a5]
    exact ⟨fun c => absurd (by decide) c, fun _ => rfl, fun _ => rfl⟩
  · have hI := (h r hr).1
    rw [pHome_o hI (by omega) (by omega) (by omega) (by omega) (by omega) (by omega), pHome_o hI (by omega) (by omega) (by omega) (by omega) (by omega) (by omega), pHome_o hI (by omega) (by omega) (by omega) (by omega) (by omega) (by omega), pHome_o hI (by omega) (by omega) (by omega) (by omega) (by omega) (by omega)]
    exact h x hx
theorem WF4.home {d : TD} {N : Row} {r B : Nat} (hO : TOk d) (hr : r < nR d) (hB : B < 2 ^ 30) (hn : HN d N) (w : WF4 (dE d) B N) : WF4 (dE d) B (pHome r N) ∧ (∀ k, k < 6 → 0 ≤ pHome r N k) := by
  have h8 : eR (dE d) ≤ 8 := hO.r8
  have hre : r < eR (dE d) := hr
  obtain ⟨w1, w2, w3, w4⟩ := w
  have hI := (hn r hr).1
  have hx0 := w2 r hre
  -- the row with what it carried in the heap, and nothing carried
  have key : ∃ S : Row, (∀ k, k < 42 → pHome r N k = S k) ∧ (∀ x, x < eR (dE d) → pHome r N (58 + x) = S (58 + x)) ∧ tot (dE d) S ≤ B ∧ (∀ k, k < 42 → 0 ≤ S k) ∧ (∀ x, x < eR (dE d) → 0 ≤ S (58 + x)) ∧ (∀ k, 6 ≤ k → k < 42 → S k = N k) := by
    by_cases c : N (58 + r) ≤ 0
    · refine ⟨upd N (58 + r) 0, fun k hk => ?_, fun x hx => ?_, ?_, fun k hk => ?_, fun x hx => ?_, fun k _ hk => upd_n _ _ (by omega)⟩
      · unfold pHome; rw [if_pos c, upd_n _ _ (by omega), upd_n _ _ (by omega), upd_n _ _ (by omega), upd_n _ _ (by omega)]
      · unfold pHome; rw [if_pos c, upd_n _ _ (by omega), upd_n _ _ (by omega), upd_n _ _ (by omega), upd_n _ _ (by omega)]
      · have := tot_ca (e := dE d) (R := N) (r := r) (v := 0) h8 hre
        have z : (0 : Int32).toNatClampNeg = 0 := rfl
        omega
      · rw [upd_n _ _ (by omega)]; exact w1 k hk
      · rw [upd_a]; split
        · decide
        · exact w2 x hx
    · obtain ⟨q, hq, hqn⟩ := hI c
      have tq : (N (66 + r)).toNatClampNeg = q := by rw [hqn, tn_n (by omega)]
      obtain ⟨a, ha, hae⟩ := i_nn (w1 q (by omega))
      obtain ⟨x0, hx, hxe⟩ := i_nn hx0
      have l1 := tot_le (e := dE d) (R := N) (j := q) (by omega)
      have l2 := tot_le58 (e := dE d) (R := N) (r := r) hre
      rw [hae, tn_n ha] at l1
      rw [hxe, tn_n hx] at l2
      have es : N q + N (58 + r) = nI (a + x0) := by rw [hae, hxe, nI_add]
      refine ⟨upd (upd N q (nI (a + x0))) (58 + r) 0, fun k hk => ?_, fun x hx => ?_, ?_, fun k hk => ?_, fun x hx => ?_, fun k h6 hk => ?_⟩
      · unfold pHome; rw [if_neg c, tq, es, upd_n _ _ (by omega), upd_n _ _ (by omega), upd_n _ _ (by omega), upd_n _ _ (by omega)]
      · unfold pHome; rw [if_neg c, tq, es, upd_n _ _ (by omega), upd_n _ _ (by omega), upd_n _ _ (by omega), upd_n _ _ (by omega)]
      · have t1 := tot_up (e := dE d) (R := N) (j := q) (v := nI (a + x0)) h8 (by omega)
        have t2 := tot_ca (e := dE d) (R := upd N q (nI (a + x0))) (r := r) (v := 0) h8 hre
        have z : (0 : Int32).toNatClampNeg = 0 := rfl
        rw [upd_n _ _ (by omega), hxe, tn_n hx, z] at t2
        rw [hae, tn_n ha, tn_n (by omega)] at t1
        omega
      · rw [upd_n _ _ (by omega), upd_a]; split
        · exact nI_pos' (by omega)
        · exact w1 k hk
      · rw [upd_a]; split
        · decide
        · rw [upd_n _ _ (by omega)]; exact w2 x hx
      · rw [upd_n _ _ (by omega), upd_n _ _ (by omega)]
  obtain ⟨S, k1, k2, k3, k4, k5, k6⟩ := key
  have fin : WF4 (dE d) B S := ⟨k4, k5, k3, fun h h1 h2 k hk => by rw [k6 _ (by omega) (by omega)]; exact w4 h h1 h2 k hk⟩
  exact ⟨fin.cg k1 k2, fun k hk => by rw [k1 k (by omega)]; exact k4 k (by omega)⟩
theorem heap_le {e : PE} {B : Nat} {R : Row} (hB : B ≤ 60000000) (w : WF4 e B R) {k : Nat} (hk : k < 6) : ∃ a, a ≤ 100000000 ∧ R k = nI a := by
  obtain ⟨a, ha, hae⟩ := i_nn (w.1 k (by omega))
  have l1 := tot_le (e := e) (R := R) (j := k) (by omega)
  rw [hae, tn_n ha] at l1
  have := w.2.2.1
  exact ⟨a, by omega, hae⟩
theorem WFA.home {d : TD} {N : Row} {r B : Nat} (hO : TOk d) (hr : r < nR d) (hB : B ≤ 60000000) (hn : HN d N) (w4 : WF4 (dE d) B N) (w : WFA (dE d) N) : WFA (dE d) (pHome r N) := by
  have h8 : eR (dE d) ≤ 8 := hO.r8
  have hre : r < eR (dE d) := hr
  have hI := (hn r hr).1
  obtain ⟨a1, a2, a3, a4, a5⟩ := pHome_own (R := N) (r := r)
  obtain ⟨w1, w2, w3⟩ := w
  have W4 := WF4.home hO hr (by omega) hn w4
  have o : ∀ {c x : Nat}, x < 8 → x ≠ r → c = 42 ∨ c = 50 ∨ c = 58 ∨ c = 66 ∨ c = 74 ∨ c = 90 ∨ c = 106 → pHome r N (c + x) = N (c + x) := by
    intro c x hx hz hc
    exact pHome_o hI (by omega) (by omega) (by omega) (by omega) (by omega) (by omega)
  have o74 : pHome r N (74 + r) = N (74 + r) := pHome_o hI (by omega) (by omega) (by omega) (by omega) (by omega) (by omega)
  have o90 : pHome r N (90 + r) = N (90 + r) := pHome_o hI (by omega) (by omega) (by omega) (by omega) (by omega) (by omega)
  have o118 : pHome r N 118 = N 118 := pHome_o hI (by omega) (by omega) (by omega) (by omega) (by omega) (by omega)
  refine ⟨fun x hx => ?_, ⟨W4.2, by rw [o118]; exact w2.2.1, fun x hx => ?_⟩, fun k hk => heap_le hB W4.1 hk, by rw [o118]; exact w3.2.1, w3.2.2.1, fun x hx => ?_⟩
  · by_cases z : x = r
    · subst z
      rw [a1, o90]
      exact ⟨(w1 x hx).1, fun q => absurd q (by decide)⟩
    · rw [o (by omega) z (by omega), o (by omega) z (by omega), o (by omega) z (by omega), o (by omega) z (by omega), o (by omega) z (by omega)]
      exact w1 x hx
  · by_cases z : x = r
    · subst z
      rw [a1, a3, o74]
      exact ⟨Or.inr (Or.inr (Or.inr rfl)), by decide, (w2.2.2 x hx).2.2⟩
    · rw [o (by omega) z (by omega), o (by omega) z (by omega), o (by omega) z (by omega)]
      exact w2.2.2 x hx
  · by_cases z : x = r
    · subst z
      rw [a1, a2, o74]
      exact ⟨(w3.2.2.2 x hx).1, 0, by omega, rfl, fun _ => rfl, fun q => by rcases q with q | q <;> exact absurd q (by decide)⟩
    · rw [o (by omega) z (by omega), o (by omega) z (by omega), o (by omega) z (by omega)]
      exact w3.2.2.2 x hx
theorem RW.home {d : TD} {N : Row} {r M : Nat} (hO : TOk d) (hr : r < nR d) (hn : HN d N) (w : RW d M N) : RW d M (pHome r N) := by
  have h8 := hO.r8
  refine ⟨WFA.home hO hr (by omega) hn w.2.1 w.1, (WF4.home hO hr (by omega) hn w.2.1).1, ?_⟩
  rw [pHome_o (hn r hr).1 (by omega) (by omega) (by omega) (by omega) (by omega) (by omega)]
  exact w.2.2
theorem HZ.home {d : TD} {N : Row} {r : Nat} (hO : TOk d) (hr : r < nR d) (hn : HN d N) (w : HZ (dE d) N) : HZ (dE d) (pHome r N) := by
  have h8 : eR (dE d) ≤ 8 := hO.r8
  have hre : r < eR (dE d) := hr
  intro x hx c
  by_cases z : x = r
  · subst z; exact pHome_own.2.1
  · have hI := (hn r hr).1
    rw [pHome_o hI (by omega) (by omega) (by omega) (by omega) (by omega) (by omega)] at c ⊢
    exact w x hx c
/-- called back -/
theorem WFA.back {d : TD} {N : Row} {r : Nat} (hO : TOk d) (hr : r < nR d) (h3 : N (42 + r) = 3) (hz : HZ (dE d) N) (w : WFA (dE d) N) : WFA (dE d) (upd N (42 + r) 0) := by
  have h8 : eR (dE d) ≤ 8 := hO.r8
  have hre : r < eR (dE d) := hr
  obtain ⟨w1, w2, w3⟩ := w
  refine ⟨fun x hx => ?_, ⟨fun k hk => by rw [upd_n _ _ (by omega)]; exact w2.1 k hk, by rw [upd_n _ _ (by omega)]; exact w2.2.1, fun x hx => ?_⟩, fun k hk => by rw [upd_n _ _ (by omega)]; exact w3.1 k hk, by rw [upd_n _ _ (by omega)]; exact w3.2.1, w3.2.2.1, fun x hx => ?_⟩
  · rw [upd_n _ _ (show 90 + x ≠ 42 + r by omega), upd_n _ _ (show 106 + x ≠ 42 + r by omega), upd_n _ _ (show 58 + x ≠ 42 + r by omega), upd_n _ _ (show 66 + x ≠ 42 + r by omega), upd_a]
    refine ⟨(w1 x hx).1, fun q => ?_⟩
    split at q
    · exact absurd q (by decide)
    · exact (w1 x hx).2 q
  · rw [upd_n _ _ (show 58 + x ≠ 42 + r by omega), upd_n _ _ (show 74 + x ≠ 42 + r by omega), upd_a]
    refine ⟨?_, (w2.2.2 x hx).2⟩
    split
    · exact Or.inl rfl
    · exact (w2.2.2 x hx).1
  · rw [upd_n _ _ (show 74 + x ≠ 42 + r by omega), upd_n _ _ (show 50 + x ≠ 42 + r by omega), upd_a]
    refine ⟨(w3.2.2.2 x hx).1, ?_⟩
    by_cases z : x = r
    · subst z
      rw [if_pos rfl]
      exact ⟨0, by omega, hz x hx h3, fun _ => rfl, fun q => by rcases q with q | q <;> exact absurd q (by decide)⟩
    · rw [if_neg (by omega)]
      exact (w3.2.2.2 x hx).2
theorem RW.back {d : TD} {N : Row} {r M : Nat} (hO : TOk d) (hr : r < nR d) (h3 : N (42 + r) = 3) (hz : HZ (dE d) N) (w : RW d M N) : RW d M (upd N (42 + r) 0) := by
  have h8 := hO.r8
  refine ⟨WFA.back hO hr h3 hz w.1, w.2.1.cg (fun k hk => upd_n _ _ (by omega)) (fun x hx => upd_n _ _ (by have : eR (dE d) ≤ 8 := h8; omega)), ?_⟩
  rw [upd_n _ _ (by omega)]; exact w.2.2
theorem HZ.back {d : TD} {N : Row} {r : Nat} (hO : TOk d) (hr : r < nR d) (w : HZ (dE d) N) : HZ (dE d) (upd N (42 + r) 0) := by
  have h8 : eR (dE d) ≤ 8 := hO.r8
  have hre : r < eR (dE d) := hr
  intro x hx c
  rw [upd_n _ _ (show 50 + x ≠ 42 + r by omega)]
  rw [upd_a] at c
  split at c
  · exact absurd c (by decide)
  · exact w x hx c
theorem HN.back {d : TD} {N : Row} {r : Nat} (hO : TOk d) (hr : r < nR d) (h3 : N (42 + r) = 3) (w : HN d N) : HN d (upd N (42 + r) 0) := by
  have h8 := hO.r8
  intro x hx
  rw [upd_n _ _ (show 58 + x ≠ 42 + r by omega), upd_n _ _ (show 66 + x ≠ 42 + r by omega), upd_n _ _ (show 106 + x ≠ 42 + r by omega), upd_a]
  refine ⟨(w x hx).1, (w x hx).2.1, fun c => (w x hx).2.2 fun q => ?_⟩
  split at c
  · rename_i z
    have : x = r := by omega
    subst this
    rw [h3] at q; exact absurd q (by decide)
  · exact c q
