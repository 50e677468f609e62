/-! NAMES AND NUMBERS of the reference: named, known, bounded, notes -/
section RName
variable {E : EN} {g : GS} {s : MS} {T : Nat → Nat} {L M : Nat}
abbrev NL : Type := List (Nat × Nat × Nat)
/-- the number of the first name like that, of that sort -/
def nlF (v sort : Nat) : NL → Option Nat
  | [] => none
  | x :: l => if x.1 = v ∧ x.2.1 = sort then some x.2.2 else nlF v sort l
def nlH (v : Nat) : NL → Bool
  | [] => false
  | x :: l => if x.1 = v then true else nlH v l
def NQ (nl : NL) (s : MS) : Prop := ∀ i, (h : i < nl.length) → s.2 128 i = lN nl[i].1 ∧ nl[i].1 < 2 ^ 63 ∧ s.1 129 i = nI nl[i].2.1 ∧ nl[i].2.1 < 3 ∧ s.1 130 i = nI nl[i].2.2
def vV (T : Nat → Nat) (L j : Nat) : Nat := tkV T L (bp T L j)
theorem nl_step {v : Nat} {nl : NL} {i : Nat} (h : i < nl.length) : nlH v (nl.drop i) = if nl[i].1 = v then true else nlH v (nl.drop (i + 1)) := by
  rw [List.drop_eq_getElem_cons h, nlH]
theorem nlF_step {v sort : Nat} {nl : NL} {i : Nat} (h : i < nl.length) : nlF v sort (nl.drop i) = if nl[i].1 = v ∧ nl[i].2.1 = sort then some nl[i].2.2 else nlF v sort (nl.drop (i + 1)) := by
  rw [List.drop_eq_getElem_cons h, nlF]
/-- what the reading of a token may change -/
def FRq (s u : MS) : Prop := (∀ a, a ≠ 120 → u.1 a = s.1 a) ∧ (∀ j, j ≠ 11 → j ≠ 13 → j ≠ 14 → j ≠ 15 → j ≠ 16 → u.1 120 j = s.1 120 j) ∧ u.2 = s.2
theorem FRq.rf (s : MS) : FRq s s := ⟨fun _ _ => rfl, fun _ _ _ _ _ _ => rfl, rfl⟩
theorem FRq.tr {s u v : MS} (h : FRq s u) (k : FRq u v) : FRq s v := ⟨fun a ha => (k.1 a ha).trans (h.1 a ha), fun j h1 h2 h3 h4 h5 => (k.2.1 j h1 h2 h3 h4 h5).trans (h.2.1 j h1 h2 h3 h4 h5), k.2.2.trans h.2.2⟩
theorem FRp.q {s u : MS} (h : FRp s u) : FRq s u := ⟨h.1, fun j h1 h2 h3 _ _ => h.2.1 j h1 h2 h3, h.2.2⟩
theorem FRw.q {s u : MS} (h : FRw s u) : FRq s u := ⟨h.1, fun j _ _ _ h4 h5 => h.2.1 j h4 h5, h.2.2⟩
theorem TkR.q {u : MS} (h : TkR T L M s) (k : FRq s u) : TkR T L M u := h.mv (k.1 123 (by decide)) (k.1 124 (by decide)) (k.1 125 (by decide)) (by rw [k.2.2])
theorem NQ.q {u : MS} {nl : NL} (h : NQ nl s) (k : FRq s u) : NQ nl u := fun i hi => by rw [k.2.2, k.1 129 (by decide), k.1 130 (by decide)]; exact h i hi
/-- the token passed: it was there, and the next is at hand -/
theorem gk_ok {K : Nat → Nat} {κ : Nat} {q : Nat × Nat} (h : (gk K κ q).2 = 0) : q.2 = 0 ∧ K q.1 = κ ∧ q.1 < 400 ∧ gk K κ q = (q.1 + 1, 0) := by
  unfold gk gp at h ⊢
  by_cases y : q.2 = 0
  · rw [if_neg (fun w => w y)] at h ⊢
    by_cases k : K q.1 = κ
    · rw [decide_eq_true k, if_neg (by decide)] at h ⊢
      by_cases z : 400 ≤ q.1
      · rw [if_pos (Or.inr z)] at h; exact absurd (show 2 = 0 from h) (by decide)
      · rw [if_neg (fun w => w.elim (fun w => absurd w (by decide)) z)]
        exact ⟨y, k, by omega, rfl⟩
    · rw [decide_eq_false k, if_pos rfl] at h; exact absurd (show 1 = 0 from h) (by decide)
  · rw [if_pos y] at h; exact absurd h y
theorem kK_m {j κ : Nat} (h : kK T L M j = κ) (hκ : κ ≠ 0) : j < M ∧ tkK T L (bp T L j) = κ := by
  unfold kK at h
  by_cases w : j < M
  · rw [if_pos w] at h; exact ⟨w, h⟩
  · rw [if_neg w] at h; exact absurd h.symm hκ
theorem tkV_63 (T : Nat → Nat) (L i : Nat) : tkV T L i < 2 ^ 63 := by
  unfold tkV
  split
  · rename_i q
    have : nmT 27 96 T i (min (endT T L i - i) 8) < 27 ^ (min (endT T L i - i) 8) := nmT_lt _ (fun j hj => by
      have := endT_L (L := L) q (j := i + j) (by omega) (by omega)
      simp only [isL, decide_eq_true_eq] at this
      omega)
    exact Nat.lt_of_lt_of_le this (Nat.le_trans (Nat.pow_le_pow_right (by omega) (show min (endT T L i - i) 8 ≤ 8 by omega)) (by decide))
  · split
    · rename_i q' q
      have : nmT 10 48 T i (min (endT T L i - i) 4) < 10 ^ (min (endT T L i - i) 4) := nmT_lt _ (fun j hj => by
        have := endT_D (L := L) q q' (j := i + j) (by omega) (by omega)
        simp only [isDg, decide_eq_true_eq] at this
        omega)
      exact Nat.lt_of_lt_of_le this (Nat.le_trans (Nat.pow_le_pow_right (by omega) (show min (endT T L i - i) 4 ≤ 4 by omega)) (by decide))
    · decide
theorem tkV_4 {T : Nat → Nat} {L i : Nat} (h : tkK T L i = 3) : tkV T L i ≤ 9999 := by
  unfold tkK at h
  unfold tkV
  split
  · rename_i q
    rw [if_pos q] at h
    split at h
    · omega
    · split at h <;> omega
  · rename_i q'
    rw [if_neg q'] at h
    split
    · rename_i q
      have : nmT 10 48 T i (min (endT T L i - i) 4) < 10 ^ (min (endT T L i - i) 4) := nmT_lt _ (fun j hj => by
        have := endT_D (L := L) q q' (j := i + j) (by omega) (by omega)
        simp only [isDg, decide_eq_true_eq] at this
        omega)
      have h2 : 10 ^ (min (endT T L i - i) 4) ≤ 10 ^ 4 := Nat.pow_le_pow_right (by omega) (by omega)
      omega
    · omega
/-- earlier wrongs stand -/
def BE (b : Option (Nat × Nat)) (j : Nat) : Prop := ∀ c' j', b = some (c', j') → j' < j
theorem f_M_known {R : Int32 → MS → Prop} {q : Nat × Nat} {sort n : Nat} {b : Option (Nat × Nat)} {x1 : Int32} (e1 : x1 = nI sort) (hs : sort < 3) (hL : L ≤ 2000) (hS : SX g) (hT : TkR T L M s) (hq : RQ T L M q s) (hw : WQ T L M b s) (hb : q.2 = 0 → BE b q.1) (hn : s.1 120 20 = nI n) (n20 : n ≤ 20)
    (h : ∀ y b' u, RQ T L M (gk (kK T L M) 2 q) u → FRq s u → WQ T L M b' u → ((gk (kK T L M) 2 q).2 ≠ 0 → b' = b) → (b ≠ none → b' = b) → ((gk (kK T L M) 2 q).2 = 0 → b = none → ∀ nl, NQ nl s → nl.length = n → (∀ i, nlF (vV T L q.1) sort nl = some i → y = nI i ∧ b' = none) ∧ (nlF (vV T L q.1) sort nl = none → b' = some (4, q.1))) → R y u) : GI E m_Mo_known [.ref 120, .int x1] g s R := by
  refine v_Mo_known (Q := qI g R) _ hS ?_
  refine f_M_must (κ := 2) rfl (by omega) (by omega) hS hT hq (fun u u1 u2 => ?_)
  have wu := hw.p u2
  rw [u1.1]
  refine pk_le (gk (kK T L M) 2 q).2 0 (fun z => ?_) (fun z => GI.r (h _ b u u1 u2.q wu (fun _ => rfl) (fun _ => rfl) (fun w => absurd w (by omega)))) rfl rfl (by have := u1.2.2.2.2.2.2; omega) (by omega)
  obtain ⟨g1, g2, g3, g4⟩ := gk_ok (show (gk (kK T L M) 2 q).2 = 0 by omega)
  obtain ⟨jm, kk⟩ := kK_m g2 (by omega)
  have tu := hT.p u2
  have en : u.1 120 20 = nI n := by rw [u2.2.1 20 (by decide) (by decide) (by decide)]; exact hn
  have ev : u.2 126 q.1 = lN (vV T L q.1) := (tu.2.1 q.1 jm).2.2.2.2 kk
  have v63 : vV T L q.1 < 2 ^ 63 := tkV_63 _ _ _
  rw [hq.2.1 g1, e1]
  refine upto (P := fun i => (∀ nl, NQ nl s → nl.length = n → nlF (vV T L q.1) sort nl = nlF (vV T L q.1) sort (nl.drop i)) → AWP E m_Mo_known 21 0 0 [(0, .ref 120), (1, .int (nI sort)), (2, .int (nI q.1)), (3, .int (nI i))] [] (mk g u) (qI g R)) n ?_ ?_ 0 (Nat.zero_le _) (fun nl _ _ => rfl)
  · intro a
    refine v_Mo_known_21 _ _ _ hS ?_
    rw [en]
    refine pk_le n n (fun _ => ?_) (fun w => absurd w (by omega))
    refine f_M_wrong (c := 4) rfl rfl (by omega) jm (by omega) hL hS tu u1 wu (fun _ c' j' e => Or.inl (hb g1 c' j' e)) (fun v v1 v2 => GI.r ?_)
    rw [g4, if_pos rfl] at v1
    refine h _ _ v (u1.w v2) (u2.q.tr v2.q) v1 (fun w => absurd (by rw [g4]) w) (fun w => ?_) (fun _ w nl hnl hl => ⟨fun i e => ?_, fun _ => ?_⟩)
    · cases b with
      | none => exact absurd rfl w
      | some x => rfl
    · rw [a nl hnl hl, ← hl, List.drop_length] at e; exact absurd e (by simp [nlF])
    · rw [w]; rfl
  · intro i hi ih a
    refine v_Mo_known_21 _ _ _ hS ?_
    rw [en, tn_n (by omega), tn_n (by omega), nI_1 i, ev]
    refine pk_le n i (fun w => absurd w (by omega)) (fun _ => ⟨vp_in_nI (by omega) (by omega), vp_in_nI (by omega) (by omega), fun w => ⟨fun w2 => GI.r ?_, fun w2 => ih (fun nl hnl hl => ?_)⟩, fun w => ih (fun nl hnl hl => ?_)⟩)
    · refine h _ b u u1 u2.q wu (fun _ => rfl) (fun _ => rfl) (fun _ w3 nl hnl hl => ?_)
      obtain ⟨n1, n2, n3, n4, n5⟩ := (hnl.q u2.q) i (by omega)
      have e1 : nl[i].1 = vV T L q.1 := (lN_eq' n2 v63).mp (n1.symm.trans ((lg_cmp_eq _ _).mp w))
      have e2 : nl[i].2.1 = sort := (nI_eq (by omega) (by omega)).mp (n3.symm.trans w2)
      rw [a nl hnl hl, nlF_step (by omega), if_pos ⟨e1, e2⟩]
      refine ⟨fun k e => ?_, fun e => absurd e (by simp)⟩
      injection e with e
      exact ⟨by rw [n5, e], w3⟩
    · obtain ⟨n1, n2, n3, n4, n5⟩ := (hnl.q u2.q) i (by omega)
      rw [a nl hnl hl, nlF_step (by omega), if_neg (fun y => w2 (by rw [n3, y.2]))]
    · obtain ⟨n1, n2, n3, n4, n5⟩ := (hnl.q u2.q) i (by omega)
      rw [a nl hnl hl, nlF_step (by omega), if_neg (fun y => w ((lg_cmp_eq _ _).mpr (by rw [n1, y.1])))]
theorem f_M_named {R : Int32 → MS → Prop} {q : Nat × Nat} {n : Nat} {b : Option (Nat × Nat)} (hL : L ≤ 2000) (hS : SX g) (hT : TkR T L M s) (hq : RQ T L M q s) (hz : q.2 = 0) (hw : WQ T L M b s) (hb : BE b q.1) (hn : s.1 120 20 = nI n) (n20 : n ≤ 20)
    (h : ∀ b' u, RQ T L M (gk (kK T L M) 2 q) u → FRq s u → WQ T L M b' u → ((gk (kK T L M) 2 q).2 ≠ 0 → b' = b) → (b ≠ none → b' = b) → ((gk (kK T L M) 2 q).2 = 0 → b = none → ∀ nl, NQ nl s → nl.length = n → b' = if nlH (vV T L q.1) nl = true then some (3, q.1) else none) → R (nI q.1) u) : GI E m_Mo_named [.ref 120] g s R := by
  refine v_Mo_named (Q := qI g R) hS ?_
  refine f_M_must (κ := 2) rfl (by omega) (by omega) hS hT hq (fun u u1 u2 => ?_)
  have wu := hw.p u2
  have tu := hT.p u2
  have en : u.1 120 20 = nI n := by rw [u2.2.1 20 (by decide) (by decide) (by decide)]; exact hn
  have q4 := hq.2.2.2.2.1
  rw [hq.2.1 hz]
  by_cases z : (gk (kK T L M) 2 q).2 = 0
  · obtain ⟨g1, g2, g3, g4⟩ := gk_ok z
    obtain ⟨jm, kk⟩ := kK_m g2 (by omega)
    have v63 : vV T L q.1 < 2 ^ 63 := tkV_63 _ _ _
    have main : ∀ i, i ≤ n → ∀ v b', RQ T L M (gk (kK T L M) 2 q) v → FRq s v → WQ T L M b' v → (b ≠ none → b' = b) → (b = none → ∀ nl, NQ nl s → nl.length = n → (if nlH (vV T L q.1) nl = true then some (3, q.1) else none) = if b' = none then (if nlH (vV T L q.1) (nl.drop i) = true then some (3, q.1) else none) else b') → (∀ c' j', b' = some (c', j') → j' < q.1 ∨ (j' = q.1 ∧ c' = 3)) → AWP E m_Mo_named 12 0 0 [(0, .ref 120), (1, .int (nI q.1)), (2, .int (nI i))] [] (mk g v) (qI g R) := by
      refine upto n ?_ ?_
      · intro v b' a1 a2 a3 a4 a5 a6
        have en' : v.1 120 20 = nI n := by rw [a2.2.1 20 (by decide) (by decide) (by decide) (by decide) (by decide)]; exact hn
        refine v_Mo_named_12 _ _ hS ?_
        rw [en']
        refine pk_le n n (fun _ => GI.r (h b' v a1 a2 a3 (fun w => absurd z w) a4 (fun _ w nl hnl hl => ?_))) (fun w => absurd w (by omega))
        rw [a5 w nl hnl hl, ← hl, List.drop_length]
        by_cases y : b' = none
        · rw [if_pos y, y]; simp [nlH]
        · rw [if_neg y]
      · intro i hi ih v b' a1 a2 a3 a4 a5 a6
        have en' : v.1 120 20 = nI n := by rw [a2.2.1 20 (by decide) (by decide) (by decide) (by decide) (by decide)]; exact hn
        have tv := hT.q a2
        have ev : v.2 126 q.1 = lN (vV T L q.1) := (tv.2.1 q.1 jm).2.2.2.2 kk
        refine v_Mo_named_12 _ _ hS ?_
        rw [en', tn_n (by omega), tn_n (by omega), nI_1 i, ev]
        refine pk_le n i (fun w => absurd w (by omega)) (fun _ => ⟨fun _ => ⟨vp_in_nI (by omega) (by omega), vp_in_nI (by omega) (by omega), fun w => ?_, fun w => ih v b' a1 a2 a3 a4 (fun w2 nl hnl hl => ?_) a6⟩, fun w => absurd (by rw [a1.1, z]; rfl) w⟩)
        · refine f_M_wrong (c := 3) rfl rfl (by omega) jm (by omega) hL hS tv a1 a3 (fun _ c' j' e => (a6 c' j' e).imp id (fun y => ⟨y.1, by omega⟩)) (fun v' v1 v2 => ?_)
          rw [if_pos z] at v1
          refine ih v' _ (a1.w v2) (a2.tr v2.q) v1 (fun w2 => ?_) (fun w2 nl hnl hl => ?_) (fun c' j' e => ?_)
          · have := a4 w2
            rw [this]
            cases b with
            | none => exact absurd rfl w2
            | some x => rfl
          · obtain ⟨n1, n2, n3, n4, n5⟩ := (hnl.q a2) i (by omega)
            have e1 : nl[i].1 = vV T L q.1 := (lN_eq' n2 v63).mp (n1.symm.trans ((lg_cmp_eq _ _).mp w))
            rw [a5 w2 nl hnl hl, nl_step (by omega), if_pos e1]
            cases b' with
            | none => simp [wrg]
            | some x => simp [wrg]
          · cases b' with
            | none =>
              have : (3, q.1) = (c', j') := by injection e
              injection this with e1 e2
              exact Or.inr ⟨e2.symm, e1.symm⟩
            | some x => exact a6 c' j' e
        · obtain ⟨n1, n2, n3, n4, n5⟩ := (hnl.q a2) i (by omega)
          have ne : ¬ nl[i].1 = vV T L q.1 := fun y => w ((lg_cmp_eq _ _).mpr (by rw [n1, y]))
          have st : nlH (vV T L q.1) (nl.drop i) = nlH (vV T L q.1) (nl.drop (i + 1)) := by rw [nl_step (by omega), if_neg ne]
          rw [a5 w2 nl hnl hl, st]
    refine main 0 (by omega) u b u1 u2.q wu (fun _ => rfl) (fun w nl _ _ => by rw [w, if_pos rfl, List.drop_zero]) (fun c' j' e => Or.inl (hb c' j' e))
  · refine v_Mo_named_12 _ _ hS ?_
    rw [en]
    have fin : R (nI q.1) u := h b u u1 u2.q wu (fun _ => rfl) (fun _ => rfl) (fun w => absurd w z)
    refine pk_le n 0 (fun _ => GI.r fin) (fun _ => ⟨fun w => ?_, fun _ => GI.r fin⟩)
    rw [u1.1] at w
    exact absurd ((nI_eq (by have := u1.2.2.2.2.2.2; omega) (by omega)).mp (show nI _ = nI 0 from w)) z
end RName
