/-! hold, restore -/
theorem bt_or : ∀ n, n < 8 → ∀ i, i < 3 → nI n ||| ((1 : Int32) <<< (nI i &&& 31)) = nI (n ||| 2 ^ i) ∧ (n ||| 2 ^ i) < 8 ∧ ∀ j, j < 3 → (n ||| 2 ^ i).testBit j = (n.testBit j || decide (j = i)) := by decide +kernel
section Slots
variable {E : EN} {d : TD} {t lv c : Nat} {π : PS} {g : GS} {s : MS} {x1 : Int32}
theorem o_hold {Q : Int32 → Int32 → GS → MS → Prop} (hc : c < 512) (I : INV d t lv c π g s) (hq : ∀ A π' g' v, INV d t lv (c + 1) π' g' v → Q A A g' v) : XI E m_Rs_hold [.ref 16, .int x1] g s (fun y g' u => GI E m_Mo_hold [.ref 120, .int x1] g' u (fun y' v => Q y y' g' v)) := by
  have hS := I.1.1.sx
  have n173 : 173 ≤ g.1 := hS.2.2.1
  by_cases w : 0 ≤ x1 ∧ x1 < 3
  · obtain ⟨i, hi, rfl⟩ := lt_ex (n := 3) (by decide) w
    have I' := I
    obtain ⟨i1, i2, i3⟩ := I
    have et := i1.1.et
    obtain ⟨⟨k1, k2, k3, k4, k5, k6, k7, k8, k9, k10⟩, h2, h3, h4, h5, ⟨e, e1, e2, e3, e4⟩, ⟨hb, hb8, hbe, hbi⟩, h8, h9, h10, h11⟩ := i1
    refine k_hold hS h5 hi h3.2 (fun g' u b G r1 r2 r3 r4 r5 r6 => ?_)
    obtain ⟨g1, g2, g3, g4, ⟨g5, g5'⟩, g6⟩ := G
    obtain ⟨o1, o2, o3⟩ := bt_or hb hb8 i hi
    have A : ∀ a, a < g.1 → (a < b ∨ b + 12 ≤ a) → a ≠ 16 → u.1 a = s.1 a := by
      intro a x1 x2 x3
      by_cases z : a = 31
      · rw [z]; exact r5
      · exact r6.1 a x1 x2 x3 z
    have B : ∀ i' b', i' < 43 → i' ≠ 40 + i → pa g i' = some b' → CH b' s → CH b' u ∧ hr u b' = hr s b' := by
      intro i' b' x1 x2 x3 x4
      have pd := pool_dis g2 (i := 40 + i) (i' := i') (by omega) x1 (fun w => x2 w.symm) g3 (by rw [g4 i' x1 x2]; exact x3)
      obtain ⟨n, n1, n2, n3⟩ := h5
      obtain ⟨j, j1, j2, -⟩ := n2 i' b' x1 x3
      exact ⟨x4.cg (fun a y1 y2 => A a (by omega) (by omega) (by omega)), hr_c2 (fun a y1 y2 => A a (by omega) (by omega) (by omega))⟩
    have IC : ICl d t (sHo π i) g' u := by
      refine ⟨⟨g1, k2, by rw [g6 16 10 (by omega) (by omega) (by omega)]; exact k3, by rw [g6 28 0 (by omega) (by omega) (by omega)]; exact k4, k5, k6.mv (fun a x1 x2 => A a (by omega) (by omega) (by omega)), fun j hj => by rw [A 29 (by omega) (by omega) (by omega)]; exact k7 j hj, by rw [A 28 (by omega) (by omega) (by omega)]; exact k8, fun j hj => by rw [A 1 (by omega) (by omega) (by omega)]; exact k9 j hj, k10⟩, by rw [g6 16 11 (by omega) (by omega) (by omega)]; exact h2, ⟨by rw [hr_c2 (fun a y1 y2 => A a (by omega) (by omega) (by omega))]; exact h3.1, h3.2.cg (fun a y1 y2 => A a (by omega) (by omega) (by omega))⟩, ?_, g2, ?_, ?_, ?_, ?_, ?_, by rw [r4 13 (by decide)]; exact h11⟩
      · unfold CW; rw [r5]; exact h4
      · refine ⟨e, e1, by rw [r4 14 (by decide)]; exact e2, by rw [r4 15 (by decide)]; exact e3, fun j hj => ?_⟩
        obtain ⟨b0, b1, b2, b3⟩ := e4 j hj
        obtain ⟨q1, q2⟩ := B _ b0 (by omega) (by omega) b1 b2
        exact ⟨b0, by rw [g4 _ (by omega) (by omega)]; exact b1, q1, by rw [q2]; exact b3⟩
      · refine ⟨hb ||| 2 ^ i, o2, by rw [r3, hbe]; exact o1, fun j hj => ?_⟩
        rw [o3 j hj]
        show ((hb.testBit j || decide (j = i)) = false ∧ (if j = i then some (pN π) else pS π j) = none) ∨ _
        by_cases z : j = i
        · subst z
          refine Or.inr ⟨by simp, b, pN π, ?_, g3, r2, by rw [r1]; exact h3.1⟩
          show (if j = j then some (pN π) else pS π j) = some (pN π)
          rw [if_pos rfl]
        · rw [if_neg z]
          have dz : decide (j = i) = false := by simp [z]
          rw [dz, Bool.or_false]
          rcases hbi j hj with q | ⟨q1, b0, R, q2, q3, q4, q5⟩
          · exact Or.inl q
          · obtain ⟨y1, y2⟩ := B (40 + j) b0 (by omega) (by omega) q3 q4
            refine Or.inr ⟨q1, b0, R, ?_, by rw [g4 _ (by omega) (by omega)]; exact q3, y1, by rw [y2]; exact q5⟩
            show (if j = i then some (pN π) else pS π j) = some R
            rw [if_neg z]; exact q2
      · refine ⟨by rw [A 56 (by omega) (by omega) (by omega)]; exact h8.1, fun j hj => ?_⟩
        rw [A 57 (by omega) (by omega) (by omega), A 58 (by omega) (by omega) (by omega), A 59 (by omega) (by omega) (by omega), A 60 (by omega) (by omega) (by omega)]; exact h8.2 j hj
      · exact h9.mv (by rw [A 56 (by omega) (by omega) (by omega)]) (A 61 (by omega) (by omega) (by omega)) (fun a _ _ => A a (by omega) (by omega) (by omega))
      · refine ⟨by rw [r4 12 (by decide)]; exact h10.1, fun j hj => ?_⟩
        rw [A 17 (by omega) (by omega) (by omega)]; exact h10.2 j hj
    have J2 := i2.mv (u := u) ⟨fun a x1 x2 => A a (by omega) (by omega) (by omega), fun a x1 x2 => r6.2 a x2⟩
    refine v_Mo_hold (Q := qI g' _) _ g1 (f_Mo_in (fun q => absurd ((lt_pred (n := 3) (by decide)).mpr w) q) (fun _ => ⟨fun c => absurd c (by decide), fun _ => ⟨vp_in_nI hi (by omega), fun s2 f2 => ?_⟩⟩))
    rw [tn_n (by omega)] at f2
    refine upto (P := fun k => ∀ v, (∀ j, j < k → v.1 172 (120 * i + j) = u.1 162 j) → (∀ j, (j < 120 * i ∨ 120 * i + 120 ≤ j) → v.1 172 j = u.1 172 j) → (∀ a, a ≠ 172 → v.1 a = s2.1 a) → v.2 = s2.2 → AWP E m_Mo_hold 20 0 0 [(0, .ref 120), (1, .int (nI i)), (2, .int (nI k))] [] (mk g' v) (qI g' fun y' v => Q 1 y' g' v)) 120 ?_ ?_ 0 (Nat.zero_le _) s2 (fun j hj => absurd hj (by omega)) (fun j hj => by rw [f2, wi_n _ _ _ (by decide)]) (fun _ _ => rfl) rfl
    · intro v a1 a2 a3 a4
      refine v_Mo_hold_20 _ _ g1 (pk_le 120 120 (fun _ => GI.r (hq _ (sHo π i) g' v ⟨IC.mv ⟨fun a x1 => ?_, fun a x1 => ?_⟩, ?_, ?_⟩)) (fun q => absurd q (by omega)))
      · rw [a3 a (by omega), f2, wi_n _ _ _ (by omega)]
      · rw [a4, f2, wi_2]
      · obtain ⟨⟨y1, y2, y3, y4⟩, j2, j3, j4, j5, j6, j7, j8⟩ := J2
        have eo : ∀ a, a ≠ 171 → a ≠ 172 → v.1 a = u.1 a := fun a x1 x2 => by rw [a3 a x2, f2, wi_n _ _ _ x1]
        refine ⟨⟨y1.mv (fun a x1 x2 => eo a (by omega) (by omega)), by rw [eo 120 (by omega) (by omega)]; exact y2, y3, fun j hj => by rw [eo 164 (by omega) (by omega)]; exact y4 j hj⟩, by rw [eo 162 (by omega) (by omega)]; exact j2, ?_, fun j hj => ?_, ?_, ?_, by rw [eo 120 (by omega) (by omega)]; exact j7, by rw [a4, f2, wi_2]; exact j8⟩
        · unfold hrow; rw [eo 120 (by omega) (by omega), eo 166 (by omega) (by omega)]; exact j3
        · have v171 : v.1 171 j = if j = i then 1 else u.1 171 j := by
            rw [a3 171 (by decide), f2, wi_s, upd_a]
            rfl
          rw [v171]
          show _ ∨ _ ∧ ∃ R, (if j = i then some (pN π) else pS π j) = some R ∧ _
          by_cases z : j = i
          · subst z
            rw [if_pos rfl]
            refine Or.inr ⟨rfl, pN π, by rw [if_pos rfl], ?_⟩
            rw [nm_120 (R := srow v j) (R' := u.1 162) (fun x hx => a1 x hx)]; exact j2
          · rw [if_neg z]
            rcases j4 j hj with ⟨q1, q2⟩ | ⟨q1, R, q2, q3⟩
            · refine Or.inl ⟨q1, ?_⟩
              show (if j = i then some (pN π) else pS π j) = none
              rw [if_neg z]; exact q2
            · refine Or.inr ⟨q1, R, by rw [if_neg z]; exact q2, ?_⟩
              rw [nm_120 (R := srow v j) (R' := srow u j) (fun x hx => a2 _ (by omega))]; exact q3
        · rw [eo 120 (by omega) (by omega), eo 167 (by omega) (by omega), eo 168 (by omega) (by omega), eo 169 (by omega) (by omega), eo 170 (by omega) (by omega)]; exact j5
        · rw [eo 120 (by omega) (by omega), eo 121 (by omega) (by omega)]; exact j6
      · refine ⟨i3.1.nn, i3.2.1, fun j hj => (i3.2.2.1 j hj).nn, fun j R hj e => ?_, i3.2.2.2.2.1, i3.2.2.2.2.2.1, by omega⟩
        have e' : (if j = i then some (pN π) else pS π j) = some R := e
        by_cases z : j = i
        · rw [if_pos z] at e'; cases e'; exact i3.1.nn
        · rw [if_neg z] at e'; exact (i3.2.2.2.1 j R hj e').nn
    · intro k hk ih v a1 a2 a3 a4
      refine v_Mo_hold_20 _ _ g1 (pk_le 120 k (fun q => absurd q (by omega)) (fun _ => ?_))
      rw [show (120 : Int32) * nI i + nI k = nI (120 * i + k) by rw [show (120 : Int32) = nI 120 from rfl, pk_mul, nI_add], tn_n (by omega), tn_n (by omega), nI_1]
      refine ⟨vp_in_nI (by omega) (by omega), vp_in_nI (by omega) (by omega), fun z e1 => ih z ?_ ?_ ?_ ?_⟩
      · intro j hj
        rw [e1, wi_s, upd_a]
        by_cases q : j = k
        · rw [if_pos (by omega), a3 162 (by decide), f2, wi_n _ _ _ (by decide), q]
        · rw [if_neg (by omega)]; exact a1 j (by omega)
      · intro j hj; rw [e1, wi_s, upd_n _ _ (by omega)]; exact a2 j hj
      · intro a ha; rw [e1, wi_n _ _ _ ha]; exact a3 a ha
      · rw [e1, wi_2]; exact a4
  · refine k_holdNo w ?_
    exact v_Mo_hold (Q := qI g _) _ hS (f_Mo_in (fun _ => ⟨fun _ => GI.r (hq _ π g s (I.le hc)), fun c => absurd rfl c⟩) (fun q => absurd ((lt_pred (n := 3) (by decide)).mp q) w))
theorem o_restore {Q : Int32 → Int32 → MS → Prop} (hc : c < 512) (I : INV d t lv c π g s) (hq : ∀ A π' v, INV d t lv (c + 1) π' g v → Q A A v) : GI E m_Rs_restore [.ref 16, .int x1] g s (fun y u => GI E m_Mo_restore [.ref 120, .int x1] g u (fun y' v => Q y y' v)) := by
  have hS := I.1.1.sx
  have et := I.1.1.et
  have I' := I
  obtain ⟨i1, i2, i3⟩ := I
  obtain ⟨⟨k1, k2, k3, k4, k5, k6, k7, k8, k9, k10⟩, h2, h3, h4, h5, ⟨e, e1, e2, e3, e4⟩, ⟨hb, hb8, hbe, hbi⟩, h8, h9, h10, h11⟩ := i1
  refine k_restore hS hb8 hbe (fun w => ?_) (fun i hi e tb => ?_) (fun u i b hi ex tb pb r1 r2 r3 r4 r5 r6 r7 => ?_)
  · refine v_Mo_restore (Q := qI g _) _ hS (f_Mo_in (fun _ => ⟨fun _ => GI.r (hq _ π s (I'.le hc)), fun c => absurd rfl c⟩) (fun q => ⟨fun c => absurd c (by decide), fun _ => ?_⟩))
    have q3 := (lt_pred (n := 3) (by decide)).mp q
    rcases w with w | ⟨i, hi, rfl, w⟩
    · exact absurd q3 w
    · rw [tn_n (by omega)]
      refine ⟨vp_in_nI hi (by omega), fun _ => GI.r (hq _ π s (I'.le hc)), fun c => ?_⟩
      rcases i2.2.2.2.1 i hi with ⟨y1, y2⟩ | ⟨y1, R, y2, -⟩
      · exact absurd y1 c
      · rcases hbi i hi with ⟨z1, z2⟩ | ⟨z1, -⟩
        · rw [z2] at y2; cases y2
        · rw [w] at z1; cases z1
  · rcases hbi i hi with ⟨z1, -⟩ | ⟨-, b, R, q2, q3, q4, q5⟩
    · rw [tb] at z1; cases z1
    · exact ⟨b, q3, (pool_at h5 (by omega) q3).2, (pool_at h5 (by omega) q3).1, q4⟩
  · rcases hbi i hi with ⟨z1, -⟩ | ⟨-, b', R, q2, q3, q4, q5⟩
    · rw [tb] at z1; cases z1
    · rw [pb] at q3
      have eb : b = b' := by cases q3; rfl
      subst eb
      subst ex
      have A : ∀ a, (a < 74 ∨ 86 ≤ a) → a ≠ 16 → a ≠ 31 → u.1 a = s.1 a := r6
      have IC : ICl d t (sRe π R) g u := by
        refine ⟨⟨k1, k2, k3, k4, k5, k6.mv (fun a x1 x2 => A a (by omega) (by omega) (by omega)), fun j hj => by rw [A 29 (by omega) (by omega) (by omega)]; exact k7 j hj, by rw [A 28 (by omega) (by omega) (by omega)]; exact k8, fun j hj => by rw [A 1 (by omega) (by omega) (by omega)]; exact k9 j hj, k10⟩, h2, ⟨by rw [r1]; exact q5, r2⟩, Or.inl r5, h5, ?_, ?_, ?_, ?_, ?_, by rw [r4 13 (by decide)]; exact h11⟩
        · exact ⟨e, e1, by rw [r4 14 (by decide)]; exact e2, r3, fun j hj => absurd hj (by show ¬ j < 0; omega)⟩
        · refine ⟨hb, hb8, by rw [r4 16 (by decide)]; exact hbe, fun j hj => ?_⟩
          rcases hbi j hj with q | ⟨w1, b0, R0, w2, w3, w4, w5⟩
          · exact Or.inl q
          · have l173 := (pool_at h5 (by omega) w3).1
            exact Or.inr ⟨w1, b0, R0, w2, w3, w4.cg (fun a y1 y2 => A a (by omega) (by omega) (by omega)), by rw [hr_c2 (fun a y1 y2 => A a (by omega) (by omega) (by omega))]; exact w5⟩
        · refine ⟨by rw [A 56 (by omega) (by omega) (by omega)]; exact h8.1, fun j hj => ?_⟩
          rw [A 57 (by omega) (by omega) (by omega), A 58 (by omega) (by omega) (by omega), A 59 (by omega) (by omega) (by omega), A 60 (by omega) (by omega) (by omega)]; exact h8.2 j hj
        · exact h9.mv (by rw [A 56 (by omega) (by omega) (by omega)]) (A 61 (by omega) (by omega) (by omega)) (fun a _ _ => A a (by omega) (by omega) (by omega))
        · refine ⟨by rw [r4 12 (by decide)]; exact h10.1, fun j hj => ?_⟩
          rw [A 17 (by omega) (by omega) (by omega)]; exact h10.2 j hj
      have J2 := i2.mv (u := u) ⟨fun a x1 x2 => A a (by omega) (by omega) (by omega), fun a x1 x2 => by rw [r7]⟩
      refine v_Mo_restore (Q := qI g _) _ hS (f_Mo_in (fun q => absurd ((lt_pred (n := 3) (by decide)).mpr ⟨nI_pos' (by omega), nI_lt (b := 3) hi (by omega)⟩) q) (fun _ => ⟨fun c => absurd c (by decide), fun _ => ?_⟩))
      rw [tn_n (by omega)]
      have fl : u.1 171 i = 1 ∧ nm (dE d) (srow u i) = R := by
        rcases J2.2.2.2.1 i hi with ⟨y1, y2⟩ | ⟨y1, R', y2, y3⟩
        · rw [q2] at y2; cases y2
        · rw [q2] at y2
          have : R = R' := by cases y2; rfl
          subst this
          exact ⟨y1, y3⟩
      refine ⟨vp_in_nI hi (by omega), fun w => absurd w (by rw [fl.1]; decide), fun _ => ?_⟩
      refine upto (P := fun k => ∀ v, (∀ j, j < k → v.1 162 j = srow u i j) → (∀ a, a ≠ 162 → v.1 a = u.1 a) → v.2 = u.2 → AWP E m_Mo_restore 22 0 0 [(0, .ref 120), (1, .int (nI i)), (2, .int (nI k))] [] (mk g v) (qI g fun y' v => Q 1 y' v)) 120 ?_ ?_ 0 (Nat.zero_le _) u (fun j hj => absurd hj (by omega)) (fun _ _ => rfl) rfl
      · intro v a1 a2 a3
        refine v_Mo_restore_22 _ _ hS (pk_le 120 120 (fun _ s1 f1 => GI.r (hq _ (sRe π R) s1 ⟨IC.mv ⟨fun a x1 => ?_, fun a x1 => ?_⟩, ?_, ?_⟩)) (fun q => absurd q (by omega)))
        · rw [f1, wi_n _ _ _ (by omega), a2 a (by omega)]
        · rw [f1, wi_2, a3]
        · obtain ⟨⟨y1, y2, y3, y4⟩, j2, j3, j4, j5, j6, j7, j8⟩ := J2
          have e120 : ∀ j, j ≠ 64 → s1.1 120 j = u.1 120 j := fun j hj => by rw [f1, wi_s, upd_n _ _ hj, a2 120 (by decide)]
          have eo : ∀ a, a ≠ 162 → a ≠ 120 → s1.1 a = u.1 a := fun a x1 x2 => by rw [f1, wi_n _ _ _ x2, a2 a x1]
          refine ⟨⟨y1.mv (fun a x1 x2 => eo a (by omega) (by omega)), by rw [e120 18 (by decide)]; exact y2, y3, fun j hj => by rw [eo 164 (by omega) (by omega)]; exact y4 j hj⟩, ?_, ⟨by rw [f1, wi_s, upd_s]; rfl, fun j hj => absurd hj (by show ¬ j < 0; omega)⟩, ?_, ?_, ?_, by rw [e120 17 (by decide)]; exact j7, by rw [f1, wi_2, a3]; exact j8⟩
          · show nm (dE d) (s1.1 162) = R
            rw [f1, wi_n _ _ _ (by decide), nm_120 a1]; exact fl.2
          · unfold srow; rw [eo 171 (by omega) (by omega), eo 172 (by omega) (by omega)]; exact j4
          · rw [e120 68 (by decide), eo 167 (by omega) (by omega), eo 168 (by omega) (by omega), eo 169 (by omega) (by omega), eo 170 (by omega) (by omega)]; exact j5
          · rw [e120 2 (by decide), eo 121 (by omega) (by omega)]; exact j6
        · exact ⟨(i3.2.2.2.1 i R hi q2).nn, by show 0 ≤ 40; omega, fun j hj => absurd hj (by show ¬ j < 0; omega), fun j R' hj e => (i3.2.2.2.1 j R' hj e).nn, i3.2.2.2.2.1, i3.2.2.2.2.2.1, by omega⟩
      · intro k hk ih v a1 a2 a3
        refine v_Mo_restore_22 _ _ hS (pk_le 120 k (fun q => absurd q (by omega)) (fun _ => ?_))
        rw [show (120 : Int32) * nI i + nI k = nI (120 * i + k) by rw [show (120 : Int32) = nI 120 from rfl, pk_mul, nI_add], tn_n (by omega), tn_n (by omega), nI_1]
        refine ⟨vp_in_nI (by omega) (by omega), vp_in_nI (by omega) (by omega), fun z e1 => ih z ?_ ?_ ?_⟩
        · intro j hj
          rw [e1, wi_s, upd_a]
          by_cases q : j = k
          · rw [if_pos q, a2 172 (by decide), q]; rfl
          · rw [if_neg q]; exact a1 j (by omega)
        · intro a ha; rw [e1, wi_n _ _ _ ha]; exact a2 a ha
        · rw [e1, wi_2]; exact a3
end Slots
