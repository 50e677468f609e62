/-! HOUSES TAKEN, RATS SENT HOME AND CALLED BACK; rows as both have them -/
def FrH (b : Nat) (s u : MS) : Prop := (∀ a, (a < b ∨ b + 12 ≤ a) → u.1 a = s.1 a) ∧ u.2 = s.2
theorem FrH.rf (b : Nat) (s : MS) : FrH b s s := ⟨fun _ _ => rfl, rfl⟩
theorem FrH.tr {b : Nat} {s u v : MS} (h : FrH b s u) (k : FrH b u v) : FrH b s v := ⟨fun a ha => (k.1 a ha).trans (h.1 a ha), k.2.trans h.2⟩
theorem FrH.w {b a k : Nat} {s : MS} {v : Int32} (h1 : b ≤ a) (h2 : a < b + 12) : FrH b s (wi s a k v) := ⟨fun x hx => wi_n s k v (by omega), rfl⟩
theorem FrH.C {b t : Nat} {s u : MS} (hb : HB b) (h : FrH b s u) : FrC b t s u := by
  have := hb.le
  refine ⟨fun a h1 _ _ _ => h.1 a h1, fun j _ => ?_, h.2⟩
  rw [h.1 28 (by omega)]
theorem cpy_b {f f' : Row} {n j : Nat} (h : j < n) : va_cpy f f' 0 0 n j = f j := sb_cpy0 h
section Move
variable {E : EN} {g : GS} {b b2 t lv : Nat} {d : TD} {s : MS}
theorem f_Rat_take {R : MS → Prop} {r r2 : Nat} (h1 : OG g r 6) (h2 : OG g r2 6) (hn : r ≠ r2) (h : ∀ u : MS, (∀ f, f < 9 → u.1 r f = s.1 r2 f) → (∀ a, a ≠ r → u.1 a = s.1 a) → u.2 = s.2 → R u) : GV E m_Rat_take [.ref r, .ref r2] g s R := by
  refine v_Rat_take (Q := qV g R) r r2 h1 h2 ?_
  intro s1 e1 s2 e2 s3 e3 s4 e4 s5 e5 s6 e6 s7 e7 s8 e8 s9 e9
  have hn' : r2 ≠ r := fun q => hn q.symm
  refine GV.r (h s9 ?_ ?_ ?_)
  · intro f hf
    rcases (by omega : f = 0 ∨ f = 1 ∨ f = 2 ∨ f = 3 ∨ f = 4 ∨ f = 5 ∨ f = 6 ∨ f = 7 ∨ f = 8) with rfl | rfl | rfl | rfl | rfl | rfl | rfl | rfl | rfl <;> simp [e9, e8, e7, e6, e5, e4, e3, e2, e1, wi_1, upd, hn']
  · intro a ha
    simp [e9, e8, e7, e6, e5, e4, e3, e2, e1, wi_1, ha]
  · simp [e9, e8, e7, e6, e5, e4, e3, e2, e1, wi_2]
theorem hr_eq {u : MS} (h0 : ∀ j, j < 6 → u.1 (b + 1) j = s.1 (b2 + 1) j) (h1 : ∀ j, j < 36 → u.1 (b + 2) j = s.1 (b2 + 2) j) (h2 : ∀ r, r < 8 → ∀ f, f < 9 → u.1 (b + 4 + r) f = s.1 (b2 + 4 + r) f) (h3 : ∀ f, 3 ≤ f → f < 9 → u.1 b f = s.1 b2 f) : hr u b = hr s b2 := by
  funext k
  unfold hr
  by_cases a0 : k < 6
  · rw [if_pos a0, if_pos a0, h0 k a0]
  rw [if_neg a0, if_neg a0]
  by_cases a1 : k < 42
  · rw [if_pos a1, if_pos a1, h1 _ (by omega)]
  rw [if_neg a1, if_neg a1]
  by_cases a2 : k < 50
  · rw [if_pos a2, if_pos a2, h2 _ (by omega) 0 (by omega)]
  rw [if_neg a2, if_neg a2]
  by_cases a3 : k < 58
  · rw [if_pos a3, if_pos a3, h2 _ (by omega) 1 (by omega)]
  rw [if_neg a3, if_neg a3]
  by_cases a4 : k < 66
  · rw [if_pos a4, if_pos a4, h2 _ (by omega) 2 (by omega)]
  rw [if_neg a4, if_neg a4]
  by_cases a5 : k < 74
  · rw [if_pos a5, if_pos a5, h2 _ (by omega) 2 (by omega), h2 _ (by omega) 3 (by omega)]
  rw [if_neg a5, if_neg a5]
  by_cases a6 : k < 82
  · rw [if_pos a6, if_pos a6, h2 _ (by omega) 4 (by omega)]
  rw [if_neg a6, if_neg a6]
  by_cases a7 : k < 90
  · rw [if_pos a7, if_pos a7, h2 _ (by omega) 5 (by omega)]
  rw [if_neg a7, if_neg a7]
  by_cases a8 : k < 98
  · rw [if_pos a8, if_pos a8, h2 _ (by omega) 6 (by omega)]
  rw [if_neg a8, if_neg a8]
  by_cases a9 : k < 106
  · rw [if_pos a9, if_pos a9, h2 _ (by omega) 7 (by omega)]
  rw [if_neg a9, if_neg a9]
  by_cases b0 : k < 114
  · rw [if_pos b0, if_pos b0, h2 _ (by omega) 0 (by omega), h2 _ (by omega) 8 (by omega)]
  rw [if_neg b0, if_neg b0, h3 3 (by omega) (by omega), h3 4 (by omega) (by omega), h3 5 (by omega) (by omega), h3 6 (by omega) (by omega), h3 7 (by omega) (by omega), h3 8 (by omega) (by omega)]
theorem f_House_take {R : MS → Prop} (hH : HS g b) (hH2 : HS g b2) (hd : b + 12 ≤ b2 ∨ b2 + 12 ≤ b) (h : ∀ u, hr u b = hr s b2 → (∀ r, r < 8 → u.1 (b + 4 + r) 3 = s.1 (b2 + 4 + r) 3) → FrH b s u → R u) : GV E m_House_take [.ref b, .ref b2] g s R := by
  refine v_House_take (Q := qV g R) b b2 hH hH2 ?_
  intro s1 e1 s2 e2
  have F2 : FrH b s s2 := by
    refine ⟨fun a ha => ?_, ?_⟩
    · rw [e2, si_1n _ _ (by omega), e1, si_1n _ _ (by omega)]
    · rw [e2, si_2, e1, si_2]
  have P0 : ∀ j, j < 6 → s2.1 (b + 1) j = s.1 (b2 + 1) j := by
    intro j hj
    rw [e2, si_1n _ _ (by omega), e1, si_1s, cpy_b hj]
  have P1 : ∀ j, j < 36 → s2.1 (b + 2) j = s.1 (b2 + 2) j := by
    intro j hj
    rw [e2, si_1s, cpy_b hj, e1, si_1n _ _ (by omega)]
  refine upto (P := fun k => ∀ u, FrH b s u → (∀ j, j < 6 → u.1 (b + 1) j = s.1 (b2 + 1) j) → (∀ j, j < 36 → u.1 (b + 2) j = s.1 (b2 + 2) j) → (∀ r, r < k → ∀ f, f < 9 → u.1 (b + 4 + r) f = s.1 (b2 + 4 + r) f) → AWP E m_House_take 38 0 0 [(0, .ref b), (1, .ref b2), (2, .int (nI k))] [] (mk g u) (qV g R)) 8 ?_ ?_ 0 (Nat.zero_le _) s2 F2 P0 P1 (fun r hr => absurd hr (by omega))
  · intro u hF q0 q1 q2
    refine v_House_take_38 b b2 _ hH hH2 (pk_le 8 8 (fun _ => ?_) (fun q => absurd q (by omega)))
    intro u1 f1 u2 f2 u3 f3 u4 f4 u5 f5 u6 f6
    have hb2 : b2 ≠ b := by omega
    have ne : ∀ a, a ≠ b → u6.1 a = u.1 a := by
      intro a ha
      simp [f6, f5, f4, f3, f2, f1, wi_1, ha]
    refine GV.r (h u6 (hr_eq ?_ ?_ ?_ ?_) ?_ ?_)
    · intro j hj; rw [ne _ (by omega)]; exact q0 j hj
    · intro j hj; rw [ne _ (by omega)]; exact q1 j hj
    · intro r hr' f hf; rw [ne _ (by omega)]; exact q2 r hr' f hf
    · intro f f0 f9
      have w : u.1 b2 = s.1 b2 := hF.1 b2 (by omega)
      rcases (by omega : f = 3 ∨ f = 4 ∨ f = 5 ∨ f = 6 ∨ f = 7 ∨ f = 8) with rfl | rfl | rfl | rfl | rfl | rfl <;> simp [f6, f5, f4, f3, f2, f1, wi_1, upd, hb2, w]
    · intro r hr'; rw [ne _ (by omega)]; exact q2 r hr' 3 (by omega)
    · refine hF.tr ⟨fun a ha => ne a (by omega), ?_⟩
      simp [f6, f5, f4, f3, f2, f1, wi_2]
  · intro k hk ih u hF q0 q1 q2
    refine v_House_take_38 b b2 _ hH hH2 (pk_le 8 k (fun q => absurd q (by omega)) (fun _ => ⟨vp_in_nI (by omega) (by omega), ?_⟩))
    rw [tn_n (by omega), nI_1]
    refine f_Rat_take (hH.2.2.2.2.2.2.2 k hk).2 (hH2.2.2.2.2.2.2.2 k hk).2 (by omega) (fun v w1 w2 w3 => ?_)
    refine ih v ⟨fun a ha => (w2 a (by omega)).trans (hF.1 a ha), w3.trans hF.2⟩ ?_ ?_ ?_
    · intro j hj; rw [w2 _ (by omega)]; exact q0 j hj
    · intro j hj; rw [w2 _ (by omega)]; exact q1 j hj
    · intro r hr' f hf
      by_cases e : r = k
      · subst e; rw [w1 f hf, hF.1 (b2 + 4 + r) (by omega)]
      · rw [w2 _ (by omega)]; exact q2 r (by omega) f hf
/-- a rat goes home -/
def pHome (r : Nat) (R : Row) : Row := upd (upd (upd (upd (upd (if R (58 + r) ≤ 0 then R else upd R (R (66 + r)).toNatClampNeg (R (R (66 + r)).toNatClampNeg + R (58 + r))) (58 + r) 0) (66 + r) (-2)) (50 + r) 0) (42 + r) 3) (106 + r) (-2)
theorem f_House_sendHome {R : MS → Prop} (hH : HS g b) {r : Nat} (hr8 : r < 8) (hC : CH b s) (h0 : 0 ≤ hr s b (58 + r)) (h : ∀ u, hr u b = pHome r (hr s b) → CH b u → FrH b s u → R u) : GV E m_House_sendHome [.ref b, .int (nI r)] g s R := by
  refine v_House_sendHome (Q := qV g R) b _ hH ?_
  obtain ⟨c, hc6, hc⟩ := hC r hr8
  rw [tn_n (by omega), hc, tn_n (by omega)]
  refine ⟨vp_in_nI (by omega) (by omega), vp_in_nI (by omega) (by omega), fun s1 e1 s2 e2 s3 e3 s4 e4 => GV.r (h s4 ?_ ?_ ?_)⟩
  · rw [e4, hw_r0 _ _ hr8, e3, hw_r1 _ _ hr8, e2, hw_r2 _ _ hr8, e1, hw_hp _ _ hc6, pHome]
    rw [if_pos (by decide), if_neg (by decide), ← hr58 s b hr8, ← hr_hp s b hc6]
    by_cases q : hr s b (58 + r) ≤ 0
    · rw [if_pos q, show hr s b (58 + r) = 0 from Int32.le_antisymm q h0]
      rw [show hr s b c + 0 = hr s b c by simp, upd_self]
    · rw [if_neg q, hr66 s b hr8, if_neg (by rw [← hr58 s b hr8]; exact q), hc, tn_n (by omega)]
  · intro r' h8'
    by_cases q : r' = r
    · subst q
      refine ⟨c, hc6, ?_⟩
      have : s4.1 (b + 4 + r') 3 = s.1 (b + 4 + r') 3 := by
        rw [e4, wi_s, upd_n _ _ (by decide), e3, wi_s, upd_n _ _ (by decide), e2, wi_s, upd_n _ _ (by decide), e1, wi_n _ _ _ (by omega)]
      rw [this, hc]
    · obtain ⟨c', a1, a2⟩ := hC r' h8'
      refine ⟨c', a1, ?_⟩
      rw [e4, wi_n _ _ _ (by omega), e3, wi_n _ _ _ (by omega), e2, wi_n _ _ _ (by omega), e1, wi_n _ _ _ (by omega)]
      exact a2
  · rw [e4, e3, e2, e1]
    exact ((FrH.w (by omega) (by omega)).tr (FrH.w (by omega) (by omega))).tr ((FrH.w (by omega) (by omega)).tr (FrH.w (by omega) (by omega)))
theorem f_House_callBack {R : MS → Prop} (hH : HS g b) {r : Nat} (hr8 : r < 8) (hC : CH b s) (h0 : ¬ hr s b (42 + r) = 1) (h : ∀ u, hr u b = upd (hr s b) (42 + r) 0 → CH b u → FrH b s u → R u) : GV E m_House_callBack [.ref b, .int (nI r)] g s R := by
  refine v_House_callBack (Q := qV g R) b _ hH ?_
  rw [tn_n (by omega)]
  refine ⟨vp_in_nI (by omega) (by omega), fun s1 e1 => GV.r (h s1 ?_ ?_ ?_)⟩
  · rw [e1, hw_r0 _ _ hr8, if_neg (by decide)]
    have : upd (hr s b) (42 + r) 0 (106 + r) = -2 := by
      rw [upd_n _ _ (by omega), hr106 s b hr8, if_neg (by rw [← hr42 s b hr8]; exact h0)]
    rw [← this, upd_self]
  · intro r' h8'
    obtain ⟨c', a1, a2⟩ := hC r' h8'
    refine ⟨c', a1, ?_⟩
    by_cases q : r' = r
    · subst q; rw [e1, wi_s, upd_n _ _ (by decide)]; exact a2
    · rw [e1, wi_n _ _ _ (by omega)]; exact a2
  · rw [e1]; exact FrH.w (by omega) (by omega)
/-! the reference's -/
def FrR (s u : MS) : Prop := (∀ a, a ≠ 160 → a ≠ 161 → a ≠ 163 → a ≠ 164 → a ≠ 165 → a ≠ 120 → u.1 a = s.1 a) ∧ (∀ j, j ≠ 58 → j ≠ 61 → j ≠ 66 → j ≠ 67 → u.1 120 j = s.1 120 j) ∧ u.2 = s.2 ∧ ∀ k, 6 ≤ k → u.1 164 k = s.1 164 k
theorem FrR.rf (s : MS) : FrR s s := ⟨fun _ _ _ _ _ _ _ => rfl, fun _ _ _ _ _ => rfl, rfl, fun _ _ => rfl⟩
theorem FrR.tr {s u v : MS} (h : FrR s u) (k : FrR u v) : FrR s v := ⟨fun a h1 h2 h3 h4 h5 h6 => (k.1 a h1 h2 h3 h4 h5 h6).trans (h.1 a h1 h2 h3 h4 h5 h6), fun j h1 h2 h3 h4 => (k.2.1 j h1 h2 h3 h4).trans (h.2.1 j h1 h2 h3 h4), k.2.2.1.trans h.2.2.1, fun j hj => (k.2.2.2 j hj).trans (h.2.2.2 j hj)⟩
theorem FrA.R {s u : MS} (h : FrA s u) : FrR s u := ⟨fun a h1 h2 h3 _ h5 h6 => h.1 a h3 h5 h1 h2 h6, fun j h1 _ _ _ => h.2.1 j h1, h.2.2, fun k _ => by rw [h.1 164 (by decide) (by decide) (by decide) (by decide) (by decide)]⟩
theorem FrR.si163 (s : MS) (f : Row) : FrR s (si s 163 f) := (FrA.si163 s f).R
theorem FrR.tr_ {d : TD} {lv : Nat} {s u : MS} (h : FrR s u) (hT : TR d lv s) : TR d lv u := hT.mv (fun a h1 h2 => h.1 a (by omega) (by omega) (by omega) (by omega) (by omega) (by omega))
theorem FrR.l8 {s u : MS} (h : FrR s u) : u.1 120 18 = s.1 120 18 := h.2.1 18 (by decide) (by decide) (by decide) (by decide)
theorem f_Mo_goesHome {R : MS → Prop} (hS : SX g) {r : Nat} (hr8 : r < 8) (hc : ¬ s.1 163 (58 + r) ≤ 0 → ∃ q, q < 6 ∧ s.1 163 (66 + r) = nI q) (h : R (si s 163 (pHome r (s.1 163)))) : GV E m_Mo_goesHome [.ref 120, .int (nI r)] g s R := by
  refine v_Mo_goesHome (Q := qV g R) _ hS ?_
  simp only [ix42 hr8, ix50 hr8, ix58 hr8, ix66 hr8, ix106 hr8]
  have cm : ∀ X : Row, upd (upd (upd X (106 + r) (-2)) (50 + r) 0) (42 + r) 3 = upd (upd (upd X (50 + r) 0) (42 + r) 3) (106 + r) (-2) := by
    intro X
    rw [upd_cm X _ _ (by omega), upd_cm _ _ _ (by omega)]
  refine ⟨vi58 hr8, fun c s1 e1 => ⟨vi66 hr8, fun s2 e2 => ⟨vi106 hr8, fun s3 e3 => ⟨vi50 hr8, fun s4 e4 => ⟨vi42 hr8, fun s5 e5 => GV.r ?_⟩⟩⟩⟩, fun c => ⟨vi66 hr8, ?_, fun s6 e6 s7 e7 s8 e8 => ⟨vi106 hr8, fun s9 e9 => ⟨vi50 hr8, fun s10 e10 => ⟨vi42 hr8, fun s11 e11 => GV.r ?_⟩⟩⟩⟩⟩
  · rw [pHome, if_pos c, ← cm] at h
    rw [e5, e4, e3, e2, e1, wi_def s, wi_si, wi_si, wi_si, wi_si]
    exact h
  · obtain ⟨q, q6, hq⟩ := hc c
    rw [hq]; exact vp_in_nI (by omega) (by omega)
  · rw [pHome, if_neg c, ← cm] at h
    rw [e11, e10, e9, e8, e7, e6, wi_def s, wi_si, wi_si, wi_si, wi_si, wi_si]
    exact h
theorem f_Mo_plainly {R : MS → Prop} (hS : SX g) (hT : TR d lv s) (hl : s.1 120 18 = nI lv) (hv : lv < 2) (h6 : ∀ k, 6 ≤ k → s.1 164 k = 0) (h : ∀ u, u.1 164 = eFa (dE d) → u.1 120 61 = eSd (dE d) → u.1 163 = s.1 163 → FrR s u → (∀ j, j ≠ 61 → u.1 120 j = s.1 120 j) → R u) : GV E m_Mo_plainly [.ref 120] g s R := by
  refine v_Mo_plainly (Q := qV g R) hS ?_
  rw [hl, tn_n (by omega), hT.sd]
  refine ⟨vp_in_nI hv (by omega), fun s1 e1 => ?_⟩
  have l1 : s1.1 120 18 = nI lv := by rw [e1, wi_s, upd_n _ _ (by decide)]; exact hl
  refine upto (P := fun k => ∀ u, (∀ j, j < k → u.1 164 j = eFa (dE d) j) → (∀ a, a ≠ 164 → u.1 a = s1.1 a) → (∀ j, 6 ≤ j → u.1 164 j = 0) → u.2 = s1.2 → AWP E m_Mo_plainly 15 0 0 [(0, .ref 120), (1, .int (nI k))] [] (mk g u) (qV g R)) 6 ?_ ?_ 0 (Nat.zero_le _) s1 (fun j hj => absurd hj (by omega)) (fun _ _ => rfl) (fun j hj => by rw [e1, wi_n _ _ _ (by decide)]; exact h6 j hj) rfl
  · intro u q1 q2 q3 q4
    refine v_Mo_plainly_15 _ hS (pk_le 6 6 (fun _ => GV.r (h u ?_ ?_ ?_ ?_ (fun j hj => by rw [q2 120 (by decide), e1, wi_s, upd_n _ _ hj]))) (fun q => absurd q (by omega)))
    · funext j
      by_cases e : j < 6
      · exact q1 j e
      · rw [q3 j (by omega), hT.fz (by omega)]
    · rw [q2 120 (by decide), e1, wi_s, upd_s]
    · rw [q2 163 (by decide), e1, wi_n _ _ _ (by decide)]
    · refine ⟨fun a _ _ _ h4 _ h6 => ?_, fun j _ h2 _ _ => ?_, ?_, fun j hj => ?_⟩
      · rw [q2 a h4, e1, wi_n _ _ _ h6]
      · rw [q2 120 (by decide), e1, wi_s, upd_n _ _ h2]
      · rw [q4, e1, wi_2]
      · rw [q3 j hj, h6 j hj]
  · intro k hk ih u q1 q2 q3 q4
    refine v_Mo_plainly_15 _ hS (pk_le 6 k (fun q => absurd q (by omega)) (fun _ => ?_))
    have l2 : u.1 120 18 = nI lv := by rw [q2 120 (by decide)]; exact l1
    rw [l2, y6, tn_n (by omega), tn_n (by omega), nI_1]
    refine ⟨vp_in_nI (by omega) (by omega), vp_in_nI (by omega) (by omega), fun v f1 => ih v ?_ ?_ ?_ ?_⟩
    · intro j hj
      rw [f1, wi_s, upd_a]
      by_cases e : j = k
      · rw [if_pos e, q2 135 (by decide), e1, wi_n _ _ _ (by decide), hT.fa hk, e]
      · rw [if_neg e]; exact q1 j (by omega)
    · intro a ha; rw [f1, wi_n _ _ _ ha]; exact q2 a ha
    · intro j hj; rw [f1, wi_s, upd_n _ _ (by omega)]; exact q3 j hj
    · rw [f1, wi_2]; exact q4
theorem f_Mo_copies {R : MS → Prop} (hS : SX g) (hT : TR d lv s) (hl : s.1 120 18 = nI lv) (hv : lv < 2) (h6 : ∀ k, 6 ≤ k → s.1 164 k = 0) (h : ∀ u, u.1 164 = eFa (dE d) → u.1 120 61 = eSd (dE d) → (∀ k, k < 120 → u.1 163 k = s.1 162 k) → FrR s u → (∀ j, j ≠ 61 → u.1 120 j = s.1 120 j) → R u) : GV E m_Mo_copies [.ref 120] g s R := by
  refine v_Mo_copies (Q := qV g R) ?_
  refine upto (P := fun k => ∀ u, (∀ j, j < k → u.1 163 j = s.1 162 j) → (∀ a, a ≠ 163 → u.1 a = s.1 a) → u.2 = s.2 → AWP E m_Mo_copies 2 0 0 [(0, .ref 120), (1, .int (nI k))] [] (mk g u) (qV g R)) 120 ?_ ?_ 0 (Nat.zero_le _) s (fun j hj => absurd hj (by omega)) (fun _ _ => rfl) rfl
  · intro u q1 q2 q3
    refine v_Mo_copies_2 _ hS (pk_le 120 120 (fun _ => ?_) (fun q => absurd q (by omega)))
    have F : FrR s u := ⟨fun a _ _ h3 _ _ _ => q2 a h3, fun j _ _ _ _ => by rw [q2 120 (by decide)], q3, fun j _ => by rw [q2 164 (by decide)]⟩
    refine f_Mo_plainly hS (F.tr_ hT) (by rw [q2 120 (by decide)]; exact hl) hv (fun k hk => by rw [q2 164 (by decide)]; exact h6 k hk) (fun v a1 a2 a3 a4 a5 => GV.r (h v a1 a2 (fun k hk => by rw [a3]; exact q1 k hk) (F.tr a4) (fun j hj => by rw [a5 j hj, q2 120 (by decide)])))
  · intro k hk ih u q1 q2 q3
    refine v_Mo_copies_2 _ hS (pk_le 120 k (fun q => absurd q (by omega)) (fun _ => ⟨vp_in_nI (by omega) (by omega), fun v f1 => ?_⟩))
    rw [tn_n (by omega)] at f1
    rw [nI_1]
    refine ih v ?_ ?_ ?_
    · intro j hj
      rw [f1, wi_s, upd_a]
      by_cases e : j = k
      · rw [if_pos e, q2 162 (by decide), e]
      · rw [if_neg e]; exact q1 j (by omega)
    · intro a ha; rw [f1, wi_n _ _ _ ha]; exact q2 a ha
    · rw [f1, wi_2]; exact q3
end Move
