/-! the reference keeps; undo, hold, restore on both sides -/
def sDo (π : PS) (N' : Row) : PS := (N', (if pM π < 40 then pM π + 1 else 40), (fun i => if i = 0 then pN π else pH π (i - 1)), π.2.2.2.1, π.2.2.2.2.1, π.2.2.2.2.2.1, π.2.2.2.2.2.2)
def sUn (π : PS) : PS := (pH π 0, pM π - 1, (fun i => pH π (i + 1)), π.2.2.2.1, π.2.2.2.2.1, π.2.2.2.2.2.1, π.2.2.2.2.2.2)
def sHo (π : PS) (i : Nat) : PS := (π.1, π.2.1, π.2.2.1, (fun j => if j = i then some (pN π) else pS π j), π.2.2.2.2.1, π.2.2.2.2.2.1, π.2.2.2.2.2.2)
def sRe (π : PS) (R : Row) : PS := (R, 0, π.2.2.1, π.2.2.2.1, π.2.2.2.2.1, π.2.2.2.2.2.1, π.2.2.2.2.2.2)
section Keep
variable {E : EN} {g : GS} {s : MS}
theorem f_Mo_keepsRow {R : MS → Prop} (hS : SX g) (h : ∀ u, (∀ j, j < 120 → u.1 162 j = s.1 163 j) → (∀ a, a ≠ 162 → u.1 a = s.1 a) → u.2 = s.2 → R u) : GV E m_Mo_keepsRow [.ref 120] g s R := by
  refine v_Mo_keepsRow (Q := qV g R) ?_
  refine upto (P := fun k => ∀ u, (∀ j, j < k → u.1 162 j = s.1 163 j) → (∀ a, a ≠ 162 → u.1 a = s.1 a) → u.2 = s.2 → AWP E m_Mo_keepsRow 2 0 0 [(0, .ref 120), (1, .int (nI k))] [] (mk g u) (qV g R)) 120 ?_ ?_ 0 (Nat.zero_le _) s (fun j hj => absurd hj (by omega)) (fun _ _ => rfl) rfl
  · intro u a1 a2 a3
    exact v_Mo_keepsRow_2 _ hS (pk_le 120 120 (fun _ => GV.r (h u a1 a2 a3)) (fun q => absurd q (by omega)))
  · intro k hk ih u a1 a2 a3
    refine v_Mo_keepsRow_2 _ hS (pk_le 120 k (fun q => absurd q (by omega)) (fun _ => ⟨vp_in_nI (by omega) (by omega), fun v f1 => ?_⟩))
    rw [tn_n (by omega)] at f1
    rw [nI_1]
    refine ih v ?_ ?_ ?_
    · intro j hj
      rw [f1, wi_s, upd_a]
      by_cases e : j = k
      · rw [if_pos e, a2 163 (by decide), e]
      · rw [if_neg e]; exact a1 j (by omega)
    · intro a ha; rw [f1, wi_n _ _ _ ha]; exact a2 a ha
    · rw [f1, wi_2]; exact a3
def FrK (s u : MS) : Prop := (∀ a, a ≠ 162 → a ≠ 166 → a ≠ 120 → u.1 a = s.1 a) ∧ (∀ j, j ≠ 64 → u.1 120 j = s.1 120 j) ∧ u.2 = s.2
theorem k_keeps {R : MS → Prop} {m : Nat} (hS : SX g) (hm : m ≤ 40) (h64 : s.1 120 64 = nI m) (h : ∀ u, FrK s u → (∀ j, j < 120 → u.1 162 j = s.1 163 j) → u.1 120 64 = nI (if m < 40 then m + 1 else 40) → (∀ j, j < 120 → hrow u ((if m < 40 then m + 1 else 40) - 1) j = s.1 162 j) → (∀ i, 1 ≤ i → i < (if m < 40 then m + 1 else 40) → ∀ j, j < 120 → hrow u ((if m < 40 then m + 1 else 40) - 1 - i) j = hrow s (m - 1 - (i - 1)) j) → R u) : GV E m_Mo_keeps [.ref 120] g s R := by
  -- from where there is room for one more
  have tail : ∀ m0 s0, m0 < 40 → s0.1 120 64 = nI m0 → (∀ a, a ≠ 166 → a ≠ 120 → s0.1 a = s.1 a) → (∀ j, j ≠ 64 → s0.1 120 j = s.1 120 j) → s0.2 = s.2 → (∀ u, FrK s u → (∀ j, j < 120 → u.1 162 j = s.1 163 j) → u.1 120 64 = nI (m0 + 1) → (∀ j, j < 120 → hrow u m0 j = s.1 162 j) → (∀ k, k < m0 → ∀ j, j < 120 → hrow u k j = hrow s0 k j) → R u) → AWP E m_Mo_keeps 51 0 0 [(0, .ref 120), (1, .int 0)] [] (mk g s0) (qV g R) := by
    intro m0 s0 hm0 h640 f1 f2 f3 hh
    refine upto (P := fun k => ∀ u, (∀ j, j < k → u.1 166 (120 * m0 + j) = s.1 162 j) → (∀ j, j < 120 * m0 → u.1 166 j = s0.1 166 j) → (∀ a, a ≠ 166 → u.1 a = s0.1 a) → u.2 = s0.2 → AWP E m_Mo_keeps 51 0 0 [(0, .ref 120), (1, .int (nI k))] [] (mk g u) (qV g R)) 120 ?_ ?_ 0 (Nat.zero_le _) s0 (fun j hj => absurd hj (by omega)) (fun _ _ => rfl) (fun _ _ => rfl) rfl
    · intro u a1 a2 a3 a4
      refine v_Mo_keeps_51 _ hS (pk_le 120 120 (fun _ v e1 => ?_) (fun q => absurd q (by omega)))
      refine f_Mo_keepsRow hS (fun w b1 b2 b3 => GV.r (hh w ⟨fun a x1 x2 x3 => ?_, fun j hj => ?_, ?_⟩ (fun j hj => ?_) ?_ (fun j hj => ?_) (fun k hk j hj => ?_)))
      · rw [b2 a x1, e1, wi_n _ _ _ x3, a3 a x2, f1 a x2 x3]
      · rw [b2 120 (by decide), e1, wi_s, upd_n _ _ hj, a3 120 (by decide)]; exact f2 j hj
      · rw [b3, e1, wi_2, a4, f3]
      · rw [b1 j hj, e1, wi_n _ _ _ (by decide), a3 163 (by decide), f1 163 (by decide) (by decide)]
      · rw [b2 120 (by decide), e1, wi_s, upd_s, a3 120 (by decide), h640, nI_1]
      · unfold hrow; rw [b2 166 (by decide), e1, wi_n _ _ _ (by decide)]; exact a1 j hj
      · unfold hrow; rw [b2 166 (by decide), e1, wi_n _ _ _ (by decide)]; exact a2 _ (by omega)
    · intro k hk ih u a1 a2 a3 a4
      refine v_Mo_keeps_51 _ hS (pk_le 120 k (fun q => absurd q (by omega)) (fun _ => ?_))
      have e64 : u.1 120 64 = nI m0 := by rw [a3 120 (by decide)]; exact h640
      rw [e64, show (120 : Int32) * nI m0 + nI k = nI (120 * m0 + k) by rw [show (120 : Int32) = nI 120 from rfl, pk_mul, nI_add], tn_n (by omega), tn_n (by omega), nI_1]
      refine ⟨vp_in_nI (by omega) (by omega), vp_in_nI (by omega) (by omega), fun v e1 => ih v ?_ ?_ ?_ ?_⟩
      · intro j hj
        rw [e1, wi_s, upd_a]
        by_cases e : j = k
        · rw [if_pos (by omega), a3 162 (by decide), f1 162 (by decide) (by decide), e]
        · rw [if_neg (by omega)]; exact a1 j (by omega)
      · intro j hj
        rw [e1, wi_s, upd_n _ _ (by omega)]; exact a2 j hj
      · intro a ha; rw [e1, wi_n _ _ _ ha]; exact a3 a ha
      · rw [e1, wi_2]; exact a4
  refine v_Mo_keeps (Q := qV g R) hS ?_
  rw [h64]
  refine pk_eq m 40 (fun e => ?_) (fun e => ?_)
  · subst e
    refine upto (P := fun k => ∀ u, (∀ j, j < k → u.1 166 j = s.1 166 (j + 120)) → (∀ j, k ≤ j → u.1 166 j = s.1 166 j) → (∀ a, a ≠ 166 → u.1 a = s.1 a) → u.2 = s.2 → AWP E m_Mo_keeps 11 0 0 [(0, .ref 120), (1, .int (nI k))] [] (mk g u) (qV g R)) 4680 ?_ ?_ 0 (Nat.zero_le _) s (fun j hj => absurd hj (by omega)) (fun _ _ => rfl) (fun _ _ => rfl) rfl
    · intro u a1 a2 a3 a4
      refine v_Mo_keeps_11 _ hS (pk_le 4680 4680 (fun _ v e1 => ?_) (fun q => absurd q (by omega)))
      have e64 : u.1 120 64 = nI 40 := by rw [a3 120 (by decide)]; exact h64
      refine tail 39 v (by omega) ?_ ?_ ?_ ?_ (fun w b1 b2 b3 b4 b5 => h w b1 b2 ?_ ?_ ?_)
      · rw [e1, wi_s, upd_s, e64]; rfl
      · intro a x1 x2; rw [e1, wi_n _ _ _ x2]; exact a3 a x1
      · intro j hj; rw [e1, wi_s, upd_n _ _ hj, a3 120 (by decide)]
      · rw [e1, wi_2]; exact a4
      · rw [if_neg (by omega)]; exact b3
      · rw [if_neg (by omega)]; exact b4
      · rw [if_neg (by omega)]
        intro i i1 i2 j hj
        rw [b5 (40 - 1 - i) (by omega) j hj]
        unfold hrow
        rw [e1, wi_n _ _ _ (by decide), a1 _ (by omega)]
        rw [show 120 * (40 - 1 - i) + j + 120 = 120 * (40 - 1 - (i - 1)) + j by omega]
    · intro k hk ih u a1 a2 a3 a4
      refine v_Mo_keeps_11 _ hS (pk_le 4680 k (fun q => absurd q (by omega)) (fun _ => ?_))
      rw [show nI k + 120 = nI (k + 120) by rw [show (120 : Int32) = nI 120 from rfl, nI_add], tn_n (by omega), tn_n (by omega), nI_1]
      refine ⟨vp_in_nI (by omega) (by omega), vp_in_nI (by omega) (by omega), fun v e1 => ih v ?_ ?_ ?_ ?_⟩
      · intro j hj
        rw [e1, wi_s, upd_a]
        by_cases e : j = k
        · rw [if_pos e, a2 _ (by omega), e]
        · rw [if_neg e]; exact a1 j (by omega)
      · intro j hj; rw [e1, wi_s, upd_n _ _ (by omega)]; exact a2 j (by omega)
      · intro a ha; rw [e1, wi_n _ _ _ ha]; exact a3 a ha
      · rw [e1, wi_2]; exact a4
  · have lt : m < 40 := by omega
    refine tail m s lt h64 (fun _ _ _ => rfl) (fun _ _ => rfl) rfl (fun w b1 b2 b3 b4 b5 => h w b1 b2 ?_ ?_ ?_)
    · rw [if_pos lt]; exact b3
    · rw [if_pos lt]; exact b4
    · rw [if_pos lt]
      intro i i1 i2 j hj
      rw [show m + 1 - 1 - i = m - 1 - (i - 1) by omega]
      exact b5 _ (by omega) j hj
end Keep
theorem nm_120 {e : PE} {R R' : Row} (h : ∀ j, j < 120 → R j = R' j) : nm e R = nm e R' := nm_eq (fun k hk => h k (by have := lvb_to hk; omega))
theorem IRf.doo {d : TD} {lv : Nat} {π : PS} {s s1 u : MS} {N' : Row} (h : IRf d lv π s) (k : FrR s s1) (hN : nm (dE d) (s1.1 163) = N') (f : FrK s1 u) (h1 : ∀ j, j < 120 → u.1 162 j = s1.1 163 j) (h2 : u.1 120 64 = nI (if pM π < 40 then pM π + 1 else 40)) (h3 : ∀ j, j < 120 → hrow u ((if pM π < 40 then pM π + 1 else 40) - 1) j = s1.1 162 j) (h4 : ∀ i, 1 ≤ i → i < (if pM π < 40 then pM π + 1 else 40) → ∀ j, j < 120 → hrow u ((if pM π < 40 then pM π + 1 else 40) - 1 - i) j = hrow s1 (pM π - 1 - (i - 1)) j) (hm : pM π ≤ 40) : IRf d lv (sDo π N') u := by
  have J := h.r k
  obtain ⟨⟨a1, a2, a3, a4⟩, j2, j3, j4, j5, j6, j7, j8⟩ := J
  refine ⟨⟨a1.mv (fun a x1 x2 => f.1 a (by omega) (by omega) (by omega)), by rw [f.2.1 18 (by decide)]; exact a2, a3, fun j hj => by rw [f.1 164 (by omega) (by omega) (by omega)]; exact a4 j hj⟩, ?_, ⟨h2, fun i hi => ?_⟩, ?_, ?_, ?_, by rw [f.2.1 17 (by decide)]; exact j7, by rw [f.2.2]; exact j8⟩
  · show nm (dE d) (u.1 162) = N'
    rw [nm_120 h1]; exact hN
  · have hi' : i < (if pM π < 40 then pM π + 1 else 40) := hi
    show nm (dE d) (hrow u ((if pM π < 40 then pM π + 1 else 40) - 1 - i)) = (if i = 0 then pN π else pH π (i - 1))
    by_cases e : i = 0
    · subst e
      rw [if_pos rfl, Nat.sub_zero, nm_120 h3]; exact j2
    · rw [if_neg e, nm_120 (h4 i (by omega) hi')]
      refine j3.2 (i - 1) ?_
      split at hi' <;> omega
  · unfold srow; rw [f.1 171 (by omega) (by omega) (by omega), f.1 172 (by omega) (by omega) (by omega)]; exact j4
  · rw [f.2.1 68 (by decide), f.1 167 (by omega) (by omega) (by omega), f.1 168 (by omega) (by omega) (by omega), f.1 169 (by omega) (by omega) (by omega), f.1 170 (by omega) (by omega) (by omega)]; exact j5
  · rw [f.2.1 2 (by decide), f.1 121 (by omega) (by omega) (by omega)]; exact j6
theorem FrK.F {s u : MS} (h : FrK s u) : FF s u := ⟨fun a _ => h.1 a (by omega) (by omega) (by omega), fun a _ => by rw [h.2.2]⟩
theorem ICl.doo {d : TD} {t : Nat} {π : PS} {g g' : GS} {s u u2 : MS} {e b : Nat} {N' : Row} (I : ICl d t π g s) (he : e < 40) (hm : pM π ≤ 40) (h14 : s.1 16 14 = nI e) (G : GP g g' e b) (r1 : hr u b = hr s 74) (r2 : CH b u) (r3 : u.1 16 14 = nI ((e + 1) % 40)) (r4 : u.1 16 15 = nI (if pM π < 40 then pM π + 1 else 40)) (r5 : ∀ j, j ≠ 14 → j ≠ 15 → u.1 16 j = s.1 16 j) (r6 : u.1 31 4 = 0) (r7 : FrM g.1 b s u) (F : FrC 74 t u u2) (hN : nm (dE d) (hr u2 74) = N') (hC : CH 74 u2) : ICl d t (sDo π N') g' u2 ∧ FC s u2 := by
  have et := I.1.et
  have hS := I.1.sx
  have n173 : 173 ≤ g.1 := hS.2.2.1
  obtain ⟨⟨k1, k2, k3, k4, k5, k6, k7, k8, k9, k10⟩, h2, h3, h4, h5, ⟨e', e1, e2, e3, e4⟩, h7, h8, h9, h10, h11⟩ := I
  have ee : e' = e := (nI_eq (by omega) (by omega)).mp (e2.symm.trans h14)
  subst ee
  obtain ⟨g1, g2, g3, g4, ⟨g5, g5'⟩, g6⟩ := G
  -- what the House and the mill leave, what remembering leaves
  have A : ∀ a, a < g.1 → (a < b ∨ b + 12 ≤ a) → (a < 74 ∨ 86 ≤ a) → a ≠ 16 → a ≠ 31 → a ≠ 28 → a ≠ 30 → a ≠ t + 15 → u2.1 a = s.1 a := by
    intro a x1 x2 x3 x4 x5 x6 x7 x8
    rw [F.1 a (by omega) x6 x7 x8, r7.1 a x1 x2 x4 x5]
  have A16 : ∀ j, u2.1 16 j = u.1 16 j := fun j => by rw [F.1 16 (by omega) (by omega) (by omega) (by omega)]
  -- Houses of the pool other than b
  have B : ∀ i' b', i' < 43 → i' ≠ e' → pa g i' = some b' → CH b' s → CH b' u2 ∧ hr u2 b' = hr s b' := by
    intro i' b' x1 x2 x3 x4
    have pd := pool_dis g2 (i := e') (i' := i') (by omega) x1 (fun w => x2 w.symm) g3 (by rw [g4 i' x1 x2]; exact x3)
    obtain ⟨n, n1, n2, n3⟩ := h5
    obtain ⟨j, j1, j2, -⟩ := n2 i' b' x1 x3
    exact ⟨x4.cg (fun a y1 y2 => A a (by omega) (by omega) (by omega) (by omega) (by omega) (by omega) (by omega) (by omega)), hr_c2 (fun a y1 y2 => A a (by omega) (by omega) (by omega) (by omega) (by omega) (by omega) (by omega) (by omega))⟩
  have bu : CH b u2 ∧ hr u2 b = hr u b := ⟨r2.cg (fun a y1 y2 => F.1 a (by omega) (by omega) (by omega) (by omega)), hr_c2 (fun a y1 y2 => F.1 a (by omega) (by omega) (by omega) (by omega))⟩
  refine ⟨⟨⟨g1, k2, by rw [g6 16 10 (by omega) (by omega) (by omega)]; exact k3, by rw [g6 28 0 (by omega) (by omega) (by omega)]; exact k4, k5, k6.mv (fun a x1 x2 => A a (by omega) (by omega) (by omega) (by omega) (by omega) (by omega) (by omega) (by omega)), fun j hj => ?_, ?_, fun j hj => ?_, k10⟩, by rw [g6 16 11 (by omega) (by omega) (by omega)]; exact h2, ⟨hN, hC⟩, Or.inl ?_, g2, ?_, ?_, ?_, ?_, ?_, ?_⟩, ?_⟩
  · rw [A 29 (by omega) (by omega) (by omega) (by omega) (by omega) (by omega) (by omega) (by omega)]; exact k7 j hj
  · rw [F.2.1 2 (by decide), r7.1 28 (by omega) (by omega) (by omega) (by omega)]; exact k8
  · rw [A 1 (by omega) (by omega) (by omega) (by omega) (by omega) (by omega) (by omega) (by omega)]; exact k9 j hj
  · rw [F.1 31 (by omega) (by omega) (by omega) (by omega)]; exact r6
  · refine ⟨(e' + 1) % 40, Nat.mod_lt _ (by decide), by rw [A16]; exact r3, by rw [A16]; exact r4, fun i hi => ?_⟩
    have hi' : i < (if pM π < 40 then pM π + 1 else 40) := hi
    show ∃ b0, pa g' (((e' + 1) % 40 + 39 - i) % 40) = some b0 ∧ CH b0 u2 ∧ nm (dE d) (hr u2 b0) = (if i = 0 then pN π else pH π (i - 1))
    by_cases z : i = 0
    · subst z
      rw [show ((e' + 1) % 40 + 39 - 0) % 40 = e' by omega, if_pos rfl]
      exact ⟨b, g3, bu.1, by rw [bu.2, r1]; exact h3.1⟩
    · rw [if_neg z, show ((e' + 1) % 40 + 39 - i) % 40 = (e' + 39 - (i - 1)) % 40 by split at hi' <;> omega]
      obtain ⟨b0, b1, b2, b3⟩ := e4 (i - 1) (by split at hi' <;> omega)
      have ne : (e' + 39 - (i - 1)) % 40 ≠ e' := by split at hi' <;> omega
      obtain ⟨q1, q2⟩ := B _ b0 (by omega) ne b1 b2
      exact ⟨b0, by rw [g4 _ (by omega) ne]; exact b1, q1, by rw [q2]; exact b3⟩
  · obtain ⟨hb, w1, w2, w3⟩ := h7
    refine ⟨hb, w1, by rw [A16, r5 16 (by decide) (by decide)]; exact w2, fun i hi => ?_⟩
    rcases w3 i hi with q | ⟨q1, b0, R, q2, q3, q4, q5⟩
    · exact Or.inl q
    · obtain ⟨y1, y2⟩ := B (40 + i) b0 (by omega) (by omega) q3 q4
      exact Or.inr ⟨q1, b0, R, q2, by rw [g4 _ (by omega) (by omega)]; exact q3, y1, by rw [y2]; exact q5⟩
  · have fc := h8
    refine ⟨?_, fun i hi => ?_⟩
    · rw [A 56 (by omega) (by omega) (by omega) (by omega) (by omega) (by omega) (by omega) (by omega)]; exact fc.1
    · rw [A 57 (by omega) (by omega) (by omega) (by omega) (by omega) (by omega) (by omega) (by omega), A 58 (by omega) (by omega) (by omega) (by omega) (by omega) (by omega) (by omega) (by omega), A 59 (by omega) (by omega) (by omega) (by omega) (by omega) (by omega) (by omega) (by omega), A 60 (by omega) (by omega) (by omega) (by omega) (by omega) (by omega) (by omega) (by omega)]; exact fc.2 i hi
  · exact h9.mv (by rw [A 56 (by omega) (by omega) (by omega) (by omega) (by omega) (by omega) (by omega) (by omega)]) (A 61 (by omega) (by omega) (by omega) (by omega) (by omega) (by omega) (by omega) (by omega)) (fun a _ _ => A a (by omega) (by omega) (by omega) (by omega) (by omega) (by omega) (by omega) (by omega))
  · refine ⟨by rw [A16, r5 12 (by decide) (by decide)]; exact h10.1, fun i hi => ?_⟩
    rw [A 17 (by omega) (by omega) (by omega) (by omega) (by omega) (by omega) (by omega) (by omega)]; exact h10.2 i hi
  · rw [A16, r5 13 (by decide) (by decide)]; exact h11
  · refine ⟨fun a x1 x2 => A a (by omega) (by omega) (by omega) (by omega) (by omega) (by omega) (by omega) (by omega), fun a x1 x2 => ?_⟩
    rw [F.2.2]; exact r7.2 a x2
theorem RV.nn {d : TD} {c : Nat} {N : Row} (h : RV d c N) : RV d (c + 1) N := h.le (by omega)
theorem IPu.le {d : TD} {c : Nat} {π : PS} (hc : c < 512) (h : IPu d c π) : IPu d (c + 1) π := ⟨h.1.nn, h.2.1, fun i hi => (h.2.2.1 i hi).nn, fun i R hi e => (h.2.2.2.1 i R hi e).nn, h.2.2.2.2.1, h.2.2.2.2.2.1, by omega⟩
theorem INV.le {d : TD} {t lv c : Nat} {π : PS} {g : GS} {s : MS} (hc : c < 512) (h : INV d t lv c π g s) : INV d t lv (c + 1) π g s := ⟨h.1, h.2.1, h.2.2.le hc⟩
theorem IPu.doo {d : TD} {c : Nat} {π : PS} {N' : Row} (hc : c < 512) (h : IPu d c π) (hN : RV d (c + 1) N') : IPu d (c + 1) (sDo π N') := by
  refine ⟨hN, ?_, fun i hi => ?_, fun i R hi e => (h.2.2.2.1 i R hi e).nn, h.2.2.2.2.1, h.2.2.2.2.2.1, by omega⟩
  · show (if pM π < 40 then pM π + 1 else 40) ≤ 40
    split <;> omega
  · have hi' : i < (if pM π < 40 then pM π + 1 else 40) := hi
    show RV d (c + 1) (if i = 0 then pN π else pH π (i - 1))
    by_cases e : i = 0
    · rw [if_pos e]; exact h.1.nn
    · rw [if_neg e]; exact (h.2.2.1 (i - 1) (by split at hi' <;> omega)).nn
section Pairs2
variable {E : EN} {d : TD} {t lv c : Nat} {π : PS} {g : GS} {s : MS} {x1 : Int32}
theorem past_b {i1 : ICl d t π g s} : True := trivial
theorem o_undo {Q : Int32 → Int32 → MS → Prop} (hc : c < 512) (I : INV d t lv c π g s) (hq : ∀ A π' v, INV d t lv (c + 1) π' g v → Q A A v) : GI E m_Rs_undo [.ref 16] g s (fun y u => GI E m_Mo_undo [.ref 120] g u (fun y' v => Q y y' v)) := by
  have hS := I.1.1.sx
  have et := I.1.1.et
  have I' := I
  obtain ⟨i1, i2, i3⟩ := I
  have i1' := i1
  obtain ⟨⟨k1, k2, k3, k4, k5, k6, k7, k8, k9, k10⟩, h2, h3, h4, h5, ⟨e, e1, e2, e3, e4⟩, h7, h8, h9, h10, h11⟩ := i1'
  have hm := i3.2.1
  have z64 := i2.2.2.1
  refine k_undo hS e1 e2 e3 hm (fun z => ?_) (fun z => ?_) (fun u b z pb r1 r2 r3 r4 r5 r6 r7 r8 => ?_)
  · refine v_Mo_undo (Q := qI g _) hS ?_
    rw [z64.1, z]
    exact ⟨fun _ => GI.r (hq _ π s (I'.le hc)), fun c => absurd rfl c⟩
  · obtain ⟨b, b1, b2, b3⟩ := e4 0 z
    rw [Nat.sub_zero] at b1
    exact ⟨b, b1, (pool_at h5 (by omega) b1).2, (pool_at h5 (by omega) b1).1, b2⟩
  · obtain ⟨b', b1, b2, b3⟩ := e4 0 z
    rw [Nat.sub_zero, pb] at b1
    have eb : b = b' := by cases b1; rfl
    subst eb
    have FCu : FC s u := ⟨fun a x1 x2 => r7 a (by omega) (by omega) (by omega), fun a _ _ => by rw [r8]⟩
    have A : ∀ a, (a < 74 ∨ 86 ≤ a) → a ≠ 16 → a ≠ 31 → u.1 a = s.1 a := r7
    have J2 := i2.mv FCu
    have IC : ICl d t (sUn π) g u := by
      refine ⟨⟨k1, k2, k3, k4, k5, k6.mv (fun a x1 x2 => A a (by omega) (by omega) (by omega)), fun j hj => by rw [A 29 (by omega) (by omega) (by omega)]; exact k7 j hj, by rw [A 28 (by omega) (by omega) (by omega)]; exact k8, fun j hj => by rw [A 1 (by omega) (by omega) (by omega)]; exact k9 j hj, k10⟩, h2, ⟨by rw [r1]; exact b3, r2⟩, Or.inl r6, h5, ?_, ?_, ?_, ?_, ?_, by rw [r5 13 (by decide) (by decide)]; exact h11⟩
      · refine ⟨(e + 39) % 40, Nat.mod_lt _ (by decide), r3, r4, fun i hi => ?_⟩
        have hi' : i < pM π - 1 := hi
        obtain ⟨b0, c1, c2, c3⟩ := e4 (i + 1) (by omega)
        have l173 := (pool_at h5 (i := (e + 39 - (i + 1)) % 40) (by omega) c1).1
        rw [show ((e + 39) % 40 + 39 - i) % 40 = (e + 39 - (i + 1)) % 40 by omega]
        exact ⟨b0, c1, c2.cg (fun a y1 y2 => A a (by omega) (by omega) (by omega)), by rw [hr_c2 (fun a y1 y2 => A a (by omega) (by omega) (by omega))]; exact c3⟩
      · obtain ⟨hb, w1, w2, w3⟩ := h7
        refine ⟨hb, w1, by rw [r5 16 (by decide) (by decide)]; exact w2, fun i hi => ?_⟩
        rcases w3 i hi with q | ⟨q1, b0, R, q2, q3, q4, q5⟩
        · exact Or.inl q
        · have l173 := (pool_at h5 (by omega) q3).1
          exact Or.inr ⟨q1, b0, R, q2, q3, q4.cg (fun a y1 y2 => A a (by omega) (by omega) (by omega)), by rw [hr_c2 (fun a y1 y2 => A a (by omega) (by omega) (by omega))]; exact q5⟩
      · refine ⟨by rw [A 56 (by omega) (by omega) (by omega)]; exact h8.1, fun i hi => ?_⟩
        rw [A 57 (by omega) (by omega) (by omega), A 58 (by omega) (by omega) (by omega), A 59 (by omega) (by omega) (by omega), A 60 (by omega) (by omega) (by omega)]; exact h8.2 i hi
      · exact h9.mv (by rw [A 56 (by omega) (by omega) (by omega)]) (A 61 (by omega) (by omega) (by omega)) (fun a _ _ => A a (by omega) (by omega) (by omega))
      · refine ⟨by rw [r5 12 (by decide) (by decide)]; exact h10.1, fun i hi => ?_⟩
        rw [A 17 (by omega) (by omega) (by omega)]; exact h10.2 i hi
    have z64' := J2.2.2.1
    refine v_Mo_undo (Q := qI g _) hS ?_
    rw [z64'.1]
    refine ⟨fun w => absurd w (nI_ne0 z (by omega)), fun _ s1 f1 => ?_⟩
    rw [show (1 : Int32) = nI 1 from rfl, pk_sub z] at f1
    have r64 : s1.1 120 64 = nI (pM π - 1) := by rw [f1, wi_s, upd_s]
    refine upto (P := fun k => ∀ v, (∀ j, j < k → v.1 162 j = hrow u (pM π - 1) j) → (∀ a, a ≠ 162 → v.1 a = s1.1 a) → v.2 = s1.2 → AWP E m_Mo_undo 21 0 0 [(0, .ref 120), (1, .int (nI k))] [] (mk g v) (qI g fun y' v => Q 1 y' v)) 120 ?_ ?_ 0 (Nat.zero_le _) s1 (fun j hj => absurd hj (by omega)) (fun _ _ => rfl) rfl
    · intro v a1 a2 a3
      refine v_Mo_undo_21 _ hS (pk_le 120 120 (fun _ => GI.r (hq _ (sUn π) v ⟨IC.mv ⟨fun a x1 => ?_, fun a x1 => ?_⟩, ?_, ?_⟩)) (fun q => absurd q (by omega)))
      · rw [a2 a (by omega), f1, wi_n _ _ _ (by omega)]
      · rw [a3, f1, wi_2]
      · obtain ⟨⟨y1, y2, y3, y4⟩, j2, j3, j4, j5, j6, j7, j8⟩ := J2
        have e120 : ∀ j, j ≠ 64 → v.1 120 j = u.1 120 j := fun j hj => by rw [a2 120 (by decide), f1, wi_s, upd_n _ _ hj]
        have eo : ∀ a, a ≠ 162 → a ≠ 120 → v.1 a = u.1 a := fun a x1 x2 => by rw [a2 a x1, f1, wi_n _ _ _ x2]
        refine ⟨⟨y1.mv (fun a x1 x2 => eo a (by omega) (by omega)), by rw [e120 18 (by decide)]; exact y2, y3, fun j hj => by rw [eo 164 (by omega) (by omega)]; exact y4 j hj⟩, ?_, ⟨by rw [a2 120 (by decide)]; exact r64, fun i hi => ?_⟩, ?_, ?_, ?_, by rw [e120 17 (by decide)]; exact j7, by rw [a3, f1, wi_2]; exact j8⟩
        · show nm (dE d) (v.1 162) = pH π 0
          rw [nm_120 a1, show pM π - 1 = pM π - 1 - 0 by omega]; exact j3.2 0 z
        · have hi' : i < pM π - 1 := hi
          show nm (dE d) (hrow v (pM π - 1 - 1 - i)) = pH π (i + 1)
          have : hrow v (pM π - 1 - 1 - i) = hrow u (pM π - 1 - (i + 1)) := by
            unfold hrow; rw [eo 166 (by omega) (by omega), show pM π - 1 - 1 - i = pM π - 1 - (i + 1) by omega]
          rw [this]; exact j3.2 (i + 1) (by omega)
        · unfold srow; rw [eo 171 (by omega) (by omega), eo 172 (by omega) (by omega)]; exact j4
        · rw [e120 68 (by decide), eo 167 (by omega) (by omega), eo 168 (by omega) (by omega), eo 169 (by omega) (by omega), eo 170 (by omega) (by omega)]; exact j5
        · rw [e120 2 (by decide), eo 121 (by omega) (by omega)]; exact j6
      · refine ⟨(i3.2.2.1 0 z).nn, by show pM π - 1 ≤ 40; omega, fun i hi => ?_, fun i R hi e => (i3.2.2.2.1 i R hi e).nn, i3.2.2.2.2.1, i3.2.2.2.2.2.1, by omega⟩
        have hi' : i < pM π - 1 := hi
        exact (i3.2.2.1 (i + 1) (by omega)).nn
    · intro k hk ih v a1 a2 a3
      refine v_Mo_undo_21 _ hS (pk_le 120 k (fun q => absurd q (by omega)) (fun _ => ?_))
      rw [a2 120 (by decide), r64, show (120 : Int32) * nI (pM π - 1) + nI k = nI (120 * (pM π - 1) + k) by rw [show (120 : Int32) = nI 120 from rfl, pk_mul, nI_add], tn_n (by omega), tn_n (by omega), nI_1]
      refine ⟨vp_in_nI (by omega) (by omega), vp_in_nI (by omega) (by omega), fun w g1 => ih w ?_ ?_ ?_⟩
      · intro j hj
        rw [g1, wi_s, upd_a]
        by_cases q : j = k
        · rw [if_pos q, a2 166 (by decide), f1, wi_n _ _ _ (by decide), q]; rfl
        · rw [if_neg q]; exact a1 j (by omega)
      · intro a ha; rw [g1, wi_n _ _ _ ha]; exact a2 a ha
      · rw [g1, wi_2]; exact a3
end Pairs2
