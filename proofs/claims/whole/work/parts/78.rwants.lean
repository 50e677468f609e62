/-! THE REFERENCE tells a merchant -/
section RWants
variable {E : EN} {g : GS} {s : MS} {T : Nat → Nat} {L M : Nat} {d : TD} {nl : NL} {sd lv : Nat}
theorem f_M_known2 {R : Int32 → MS → Prop} {q : Nat × Nat} {sort n : Nat} {b : Option (Nat × Nat)} {x1 : Int32} (e1 : x1 = nI sort) (hs : sort < 3) (hL : L ≤ 2000) (hS : SX g) (hT : TkR T L M s) (hq : RQ T L M q s) (hw : WQ T L M b s) (hb : q.2 = 0 → BE b q.1) (hn : s.1 120 20 = nI n) (n20 : n ≤ 20)
    (h : ∀ y b' u, RQ T L M (gk (kK T L M) 2 q) u → FRq s u → WQ T L M b' u → (b' = b ∨ y < 0) → (b ≠ none → b' = b) → ((gk (kK T L M) 2 q).2 = 0 → b = none → ∀ nl, NQ nl s → nl.length = n → (∀ i, nlF (vV T L q.1) sort nl = some i → y = nI i ∧ b' = none) ∧ (nlF (vV T L q.1) sort nl = none → b' = some (4, q.1))) → R y u) : GI E m_Mo_known [.ref 120, .int x1] g s R := by
  refine v_Mo_known (Q := qI g R) _ hS ?_
  refine f_M_must (κ := 2) rfl (by omega) (by omega) hS hT hq (fun u u1 u2 => ?_)
  have wu := hw.p u2
  rw [u1.1]
  refine pk_le (gk (kK T L M) 2 q).2 0 (fun z => ?_) (fun z => GI.r (h _ b u u1 u2.q wu (Or.inl rfl) (fun _ => rfl) (fun w => absurd w (by omega)))) rfl rfl (by have := u1.2.2.2.2.2.2; omega) (by omega)
  obtain ⟨g1, g2, g3, g4⟩ := gk_ok (show (gk (kK T L M) 2 q).2 = 0 by omega)
  obtain ⟨jm, kk⟩ := kK_m g2 (by omega)
  have tu := hT.p u2
  have en : u.1 120 20 = nI n := by rw [u2.2.1 20 (by decide) (by decide) (by decide)]; exact hn
  have ev : u.2 126 q.1 = lN (vV T L q.1) := (tu.2.1 q.1 jm).2.2.2.2 kk
  have v63 : vV T L q.1 < 2 ^ 63 := tkV_63 _ _ _
  rw [hq.2.1 g1, e1]
  refine upto (P := fun i => (∀ nl, NQ nl s → nl.length = n → nlF (vV T L q.1) sort nl = nlF (vV T L q.1) sort (nl.drop i)) → AWP E m_Mo_known 21 0 0 [(0, .ref 120), (1, .int (nI sort)), (2, .int (nI q.1)), (3, .int (nI i))] [] (mk g u) (qI g R)) n ?_ ?_ 0 (Nat.zero_le _) (fun nl _ _ => rfl)
  · intro a
    refine v_Mo_known_21 _ _ _ hS ?_
    rw [en]
    refine pk_le n n (fun _ => ?_) (fun w => absurd w (by omega))
    refine f_M_wrong (c := 4) rfl rfl (by omega) jm (by omega) hL hS tu u1 wu (fun _ c' j' e => Or.inl (hb g1 c' j' e)) (fun v v1 v2 => GI.r ?_)
    rw [g4, if_pos rfl] at v1
    refine h _ _ v (u1.w v2) (u2.q.tr v2.q) v1 (Or.inr (by decide)) (fun w => ?_) (fun _ w nl hnl hl => ⟨fun i e => ?_, fun _ => ?_⟩)
    · cases b with
      | none => exact absurd rfl w
      | some x => rfl
    · rw [a nl hnl hl, ← hl, List.drop_length] at e; exact absurd e (by simp [nlF])
    · rw [w]; rfl
  · intro i hi ih a
    refine v_Mo_known_21 _ _ _ hS ?_
    rw [en, tn_n (by omega), tn_n (by omega), nI_1 i, ev]
    refine pk_le n i (fun w => absurd w (by omega)) (fun _ => ⟨vp_in_nI (by omega) (by omega), vp_in_nI (by omega) (by omega), fun w => ⟨fun w2 => GI.r ?_, fun w2 => ih (fun nl hnl hl => ?_)⟩, fun w => ih (fun nl hnl hl => ?_)⟩)
    · refine h _ b u u1 u2.q wu (Or.inl rfl) (fun _ => rfl) (fun _ w3 nl hnl hl => ?_)
      obtain ⟨n1, n2, n3, n4, n5⟩ := (hnl.q u2.q) i (by omega)
      have e1 : nl[i].1 = vV T L q.1 := (lN_eq' n2 v63).mp (n1.symm.trans ((lg_cmp_eq _ _).mp w))
      have e2 : nl[i].2.1 = sort := (nI_eq (by omega) (by omega)).mp (n3.symm.trans w2)
      rw [a nl hnl hl, nlF_step (by omega), if_pos ⟨e1, e2⟩]
      refine ⟨fun k e => ?_, fun e => absurd e (by simp)⟩
      injection e with e
      exact ⟨by rw [n5, e], w3⟩
    · obtain ⟨n1, n2, n3, n4, n5⟩ := (hnl.q u2.q) i (by omega)
      rw [a nl hnl hl, nlF_step (by omega), if_neg (fun y => w2 (by rw [n3, y.2]))]
    · obtain ⟨n1, n2, n3, n4, n5⟩ := (hnl.q u2.q) i (by omega)
      rw [a nl hnl hl, nlF_step (by omega), if_neg (fun y => w ((lg_cmp_eq _ _).mpr (by rw [n1, y.1])))]
theorem wsum_cg {A B A' B' : Row} {o k : Nat} : ∀ n, (∀ i, i < n → A' (o + i) = A (o + i) ∧ B' (o + i) = B (o + i)) → wsum A' B' o k n = wsum A B o k n
  | 0, _ => rfl
  | n + 1, h => by rw [wsum, wsum, wsum_cg n (fun i hi => h i (by omega)), (h n (by omega)).1, (h n (by omega)).2]
def WT (sd D : Nat) (W : Nat → Nat) (n : Nat) (u : MS) : Prop := (∀ k, k < 6 → wsum (u.1 145) (u.1 146) (4 * (5 * sd + D)) k n = nI (W k)) ∧ (∀ k, k < 6 → ((∃ i, i < n ∧ u.1 145 (4 * (5 * sd + D) + i) = nI k) ↔ 0 < W k)) ∧ ∀ k, k < 6 → W k ≤ 9999
def MW (sd D : Nat) (s u : MS) : Prop := (∀ a, a ≠ 120 → a ≠ 142 → a ≠ 144 → a ≠ 145 → a ≠ 146 → u.1 a = s.1 a) ∧ (∀ j, ¬ (11 ≤ j ∧ j < 17 ∧ j ≠ 12) → u.1 120 j = s.1 120 j) ∧ u.2 = s.2 ∧ (∀ j, j ≠ 5 * sd + D → u.1 144 j = s.1 144 j) ∧ (∀ j, j ≠ sd → u.1 142 j = s.1 142 j) ∧ (∀ j, (j < 4 * (5 * sd + D) ∨ 4 * (5 * sd + D) + 4 ≤ j) → u.1 145 j = s.1 145 j ∧ u.1 146 j = s.1 146 j)
theorem MW.q {D : Nat} {u v : MS} (h : MW sd D s u) (k : FRq u v) : MW sd D s v := by
  obtain ⟨h1, h2, h3, h4, h5, h6⟩ := h
  refine ⟨fun a a1 a2 a3 a4 a5 => (k.1 a a1).trans (h1 a a1 a2 a3 a4 a5), fun j hj => (k.2.1 j (by omega) (by omega) (by omega) (by omega) (by omega)).trans (h2 j hj), k.2.2.trans h3, ?_, ?_, ?_⟩
  · rw [k.1 144 (by decide)]; exact h4
  · rw [k.1 142 (by decide)]; exact h5
  · rw [k.1 145 (by decide), k.1 146 (by decide)]; exact h6
theorem MW.w {D a j : Nat} {u : MS} {v : Int32} (h : MW sd D s u) (k : (a = 144 ∧ j = 5 * sd + D) ∨ (a = 142 ∧ j = sd) ∨ ((a = 145 ∨ a = 146) ∧ 4 * (5 * sd + D) ≤ j ∧ j < 4 * (5 * sd + D) + 4)) : MW sd D s (wi u a j v) := by
  have key : ∀ x i, (x = a → i ≠ j) → (wi u a j v).1 x i = u.1 x i := fun x i hx => by
    by_cases e : x = a
    · subst e; rw [wi_s, upd_n _ _ (hx rfl)]
    · rw [wi_n _ _ _ e]
  obtain ⟨h1, h2, h3, h4, h5, h6⟩ := h
  refine ⟨fun x a1 a2 a3 a4 a5 => by rw [wi_n _ _ _ (by omega)]; exact h1 x a1 a2 a3 a4 a5, fun i hi => by rw [wi_n _ _ _ (by omega)]; exact h2 i hi, by rw [wi_2]; exact h3, fun i hi => ?_, fun i hi => ?_, fun i hi => ⟨?_, ?_⟩⟩
  · rw [key 144 i (by omega)]; exact h4 i hi
  · rw [key 142 i (by omega)]; exact h5 i hi
  · rw [key 145 i (by omega)]; exact (h6 i hi).1
  · rw [key 146 i (by omega)]; exact (h6 i hi).2
theorem MW.P {D : Nat} {u : MS} (hl : lv + sd = 1) (hD : D < 5) (h : MW sd D s u) : FPa lv s u := by
  obtain ⟨h1, h2, h3, h4, h5, h6⟩ := h
  refine ⟨fun a a1 a2 => h1 a a1 (by omega) (by omega) (by omega) (by omega), fun a _ => by rw [h3], fun j j1 _ => h2 j j1, fun a ha => ?_, fun a ha j hj => ?_, fun a a1 a2 j hj => ?_, fun a ha j hj => ?_, fun a ha j hj => ?_, fun a ha j hj => ?_, fun a a1 a2 j hj => ?_, fun a ha j hj => ?_⟩
  · by_cases e : a = 142
    · rw [e]; exact h5 lv (by omega)
    · rw [h1 a (by omega) e (by omega) (by omega) (by omega)]
  · rw [h1 a (by omega) (by omega) (by omega) (by omega) (by omega)]
  · rw [h1 a (by omega) (by omega) (by omega) (by omega) (by omega)]
  · by_cases e : a = 144
    · rw [e]; exact h4 _ (by omega)
    · rw [h1 a (by omega) (by omega) (by omega) (by omega) (by omega)]
  · rcases ha with rfl | rfl
    · exact (h6 _ (by omega)).1
    · exact (h6 _ (by omega)).2
  · rw [h1 a (by omega) (by omega) (by omega) (by omega) (by omega)]
  · rw [h1 a (by omega) (by omega) (by omega) (by omega) (by omega)]
  · rw [h1 a (by omega) (by omega) (by omega) (by omega) (by omega)]
theorem TkR.W {D : Nat} {u : MS} (h : TkR T L M s) (k : MW sd D s u) : TkR T L M u := h.mv (k.1 123 (by decide) (by decide) (by decide) (by decide) (by decide)) (k.1 124 (by decide) (by decide) (by decide) (by decide) (by decide)) (k.1 125 (by decide) (by decide) (by decide) (by decide) (by decide)) (by rw [k.2.2.1])
theorem y4 (h k : Nat) : 4 * nI h + nI k = nI (4 * h + k) := by rw [show (4 : Int32) = nI 4 from rfl, pk_mul, nI_add]
theorem RQ.m {u : MS} {q : Nat × Nat} (h : RQ T L M q s) (k : u.1 120 = s.1 120) : RQ T L M q u := by unfold RQ; rw [k]; exact h
theorem WQ.m {u : MS} {b : Option (Nat × Nat)} (h : WQ T L M b s) (k : u.1 120 = s.1 120) : WQ T L M b u := by unfold WQ at *; rw [k]; exact h
theorem l_M_w81 {Q : Option Value → SG → Prop} (hL : L ≤ 2000) (hS : SX g) {q1 : Nat × Nat} {j n o5 : Nat} (hn : n < 4) (ho : o5 < 10) (hj : j < M) (hj4 : j ≤ 400) (hT : TkR T L M s) {y : Int32} {b0 : Option (Nat × Nat)} (hb : y < 0 ∨ BE b0 j)
    (h : ∀ v b', RQ T L M q1 v → FRq s v → WQ T L M b' v → (b' = b0 ∨ (b0 = none ∧ b' = some (3, j) ∧ ¬ y < 0)) → (b0 = none → q1.2 = 0 → ¬ y < 0 → ((∃ i, i < n ∧ s.1 145 (4 * o5 + i) = y) → b' = some (3, j)) ∧ ((¬ ∃ i, i < n ∧ s.1 145 (4 * o5 + i) = y) → b' = none)) → GI E m_Mo_bounded [.ref 120, .int 1, .int 9999] g (wi v 145 (4 * o5 + n) y) (fun y2_ t2_ => ∀ s3_, s3_ = wi t2_ 146 (4 * o5 + n) y2_ → AWP E m_Mo_tellWants 33 0 0 [(0, .ref 120), (1, .int (nI o5)), (2, .int (nI (n + 1)))] [] (mk g s3_) Q)) : ∀ i, i ≤ n → ∀ v b', RQ T L M q1 v → FRq s v → WQ T L M b' v → (b' = b0 ∨ (b0 = none ∧ b' = some (3, j) ∧ ¬ y < 0)) → (b0 = none → q1.2 = 0 → ((∃ i', i' < i ∧ s.1 145 (4 * o5 + i') = y) → ¬ y < 0 → b' = some (3, j)) ∧ (b' ≠ none → ∃ i', i' < i ∧ s.1 145 (4 * o5 + i') = y)) → AWP E m_Mo_tellWants 81 0 0 [(0, .ref 120), (1, .int (nI o5)), (2, .int (nI n)), (3, .int (nI j)), (4, .int y), (5, .int (nI i))] [] (mk g v) Q := by
  refine upto n ?_ ?_
  · intro v b' a1 a2 a3 a4 a5
    refine v_Mo_tellWants_81 _ _ _ _ _ hS ?_
    rw [y4, tn_n (by omega), nI_1 n]
    refine pk_le n n (fun _ => ⟨vp_in_nI (by omega) (by omega), fun s1 e1 => ?_⟩) (fun w => absurd w (by omega))
    rw [e1]
    refine h v b' a1 a2 a3 a4 (fun w1 w2 w3 => ⟨fun z => (a5 w1 w2).1 z w3, fun z => ?_⟩)
    cases hb' : b' with
    | none => rfl
    | some x => exact absurd ((a5 w1 w2).2 (by rw [hb']; simp)) z
  · intro i hi ih v b' a1 a2 a3 a4 a5
    refine v_Mo_tellWants_81 _ _ _ _ _ hS ?_
    rw [y4, y4, tn_n (by omega), tn_n (n := 4 * o5 + i) (by omega), nI_1 i]
    refine pk_le n i (fun w => absurd w (by omega)) (fun _ => ⟨fun yn => ih v b' a1 a2 a3 a4 (fun w1 w2 => ⟨fun _ w => absurd yn w, fun w => ?_⟩), fun yn => ⟨vp_in_nI (by omega) (by omega), fun e => ?_, fun e => ih v b' a1 a2 a3 a4 (fun w1 w2 => ⟨fun z w => ?_, fun w => ?_⟩)⟩⟩)
    · obtain ⟨i', z1, z2⟩ := (a5 w1 w2).2 w; exact ⟨i', by omega, z2⟩
    · rw [a2.1 145 (by decide)] at e
      refine f_M_wrong (c := 3) rfl rfl (by omega) hj hj4 hL hS (hT.q a2) a1 a3 (fun _ c' j' ee => ?_) (fun v' v1 v2 => ?_)
      · rcases a4 with z | z
        · rw [z] at ee; exact Or.inl ((hb.resolve_left yn) c' j' ee)
        · rw [z.2.1] at ee
          injection ee with ee
          injection ee with e1 e2
          exact Or.inr ⟨e2.symm, by omega⟩
      · by_cases z : q1.2 = 0
        · rw [if_pos z] at v1
          refine ih v' _ (a1.w v2) (a2.tr v2.q) v1 ?_ (fun w1 _ => ⟨fun _ _ => ?_, fun _ => ⟨i, by omega, e⟩⟩)
          · cases hb' : b' with
            | none =>
              have b0n : b0 = none := by
                rcases a4 with z | z
                · rw [← z]; exact hb'
                · exact z.1
              exact Or.inr ⟨b0n, rfl, yn⟩
            | some x =>
              rw [hb'] at a4
              exact a4
          · cases hb' : b' with
            | none => rfl
            | some x =>
              rw [hb'] at a4
              rcases a4 with z | z
              · rw [w1] at z; exact absurd z (by simp)
              · exact z.2.1
        · rw [if_neg z] at v1
          exact ih v' _ (a1.w v2) (a2.tr v2.q) v1 a4 (fun _ w => absurd w z)
    · obtain ⟨i', z1, z2⟩ := z
      rw [a2.1 145 (by decide)] at e
      by_cases k : i' = i
      · subst k; exact absurd z2 e
      · exact (a5 w1 w2).1 ⟨i', by omega, z2⟩ w
    · obtain ⟨i', z1, z2⟩ := (a5 w1 w2).2 w; exact ⟨i', by omega, z2⟩
end RWants
