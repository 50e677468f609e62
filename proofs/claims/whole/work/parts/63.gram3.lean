/-! THE GRAMMAR of the class: laws, tells, all -/
section Gram3
variable {E : EN} {g : GS} {s : MS} {T : Nat → Nat} {L M : Nat}
theorem f_G_law {R : MS → Prop} {q : Nat × Nat} (hS : SX g) (hk : g.2.2 22 0 = some 18) (hT : TkC T L M s) (hq : GQ q s) (h : ∀ u, GQ (gLaw (kK T L M) q) u → FGp s u → R u) : GV E m_Grammar_checkLaw [.ref 22] g s R := by
  refine v_Grammar_checkLaw (Q := qV g R) hS ?_
  refine f_G_passKind (κ := 25) (by omega) hS hk hT hq (fun u0 p1 p2 => ?_)
  unfold gLaw at h
  have fin : ∀ u q', GQ q' u → FGp s u → q' = gL (kK T L M) 5 (gk (kK T L M) 25 q) → GV E m_Grammar_checkSum [.ref 22, .int 24] g u (fun t1_ => qV g R none (mk g t1_)) := fun u q' a1 a2 a3 =>
    f_G_sum (e := 24) (by omega) hS hk (hT.gr a2.G) a1 (fun v v1 v2 => GV.r (h v (by rw [← a3]; exact v1) (a2.tr v2)))
  have lp : ∀ m, m ≤ 5 → ∀ u q', GQ q' u → FGp s u → gL (kK T L M) m q' = gL (kK T L M) 5 (gk (kK T L M) 25 q) → AWP E m_Grammar_checkLaw 8 0 0 [(0, .ref 22), (1, .int (nI (5 - m)))] [] (mk g u) (qV g R) := by
    intro m
    induction m with
    | zero =>
      intro _ u q' a1 a2 a3
      exact v_Grammar_checkLaw_8 _ hS (pk_lt 4 5 (fun _ => fin u q' a1 a2 a3) (fun w => absurd w (by omega)))
    | succ m ih =>
      intro hm u q' a1 a2 a3
      refine v_Grammar_checkLaw_8 _ hS (pk_lt 4 (5 - (m + 1)) (fun w => absurd w (by omega)) (fun _ => ?_))
      rw [a1.2.1]
      rw [gL] at a3
      have l2 := a1.2.2.2
      refine pk_eq q'.2 0 (fun z => ?_) (fun z => fin u q' a1 a2 (by rw [if_neg (fun w => z w.1)] at a3; exact a3))
      refine f_G_kind hS hk (hT.gr a2.G) a1 ?_
      have kl := kK_lt T L M q'.1
      refine pk_eq _ 14 (fun z2 => ?_) (fun z2 => fin u q' a1 a2 (by rw [if_neg (fun w => z2 w.2)] at a3; exact a3)) rfl rfl (by omega) (by omega)
      rw [if_pos ⟨z, z2⟩] at a3
      rw [nI_1, show 5 - (m + 1) + 1 = 5 - m by omega]
      have go : ∀ x2, x2 = bI (decide (1 ≤ m)) → GV E m_Grammar_pass [.ref 22, .int 1, .int x2] g u (fun t3_ => GV E m_Grammar_checkSum [.ref 22, .int 30] g t3_ (fun t4_ => GV E m_Grammar_checkSum [.ref 22, .int 15] g t4_ (fun t5_ => GV E m_Grammar_checkSum [.ref 22, .int 16] g t5_ (fun t6_ => AWP E m_Grammar_checkLaw 8 0 0 [(0, .ref 22), (1, .int (nI (5 - m)))] [] (mk g t6_) (qV g R))))) := fun x2 ex =>
        f_G_pass true (decide (1 ≤ m)) rfl (fun _ => ex) hS a1 (fun v v1 v2 => f_G_sum (e := 30) (by omega) hS hk (hT.gr (a2.tr v2).G) v1 (fun w w1 w2 => f_G_sum (e := 15) (by omega) hS hk (hT.gr ((a2.tr v2).tr w2).G) w1 (fun y y1 y2 => f_G_sum (e := 16) (by omega) hS hk (hT.gr (((a2.tr v2).tr w2).tr y2).G) y1 (fun x x1 x2 => ih (by omega) x _ x1 ((((a2.tr v2).tr w2).tr y2).tr x2) a3))))
      refine pk_le 4 (5 - (m + 1)) (fun w => go 0 ?_) (fun w => go 1 ?_)
      · rw [decide_eq_false (by omega)]; rfl
      · rw [decide_eq_true (by omega)]; rfl
  exact lp 5 (by omega) u0 _ p1 p2 rfl
def GB (c : Nat → Nat) (s : MS) : Prop := ∀ w, w < 14 → s.1 23 w = nI (c w) ∧ c w ≤ 401
theorem f_G_most {R : Int32 → MS → Prop} {w : Nat} (hw : w < 33) (h : R (nI (gMost w)) s) : GI E m_Grammar_mostOf [.int (nI w)] g s R := by
  have e : ∀ n : Nat, n < 33 → nI w = nI n → w = n := fun n hn q => (nI_eq (by omega) (by omega)).mp q
  unfold gMost at h
  have dec : ∀ x : Nat, gMost w = x → (if w = 4 ∨ w = 5 then 6 else if w = 6 then 8 else if w = 10 then 5 else 400) = x := fun x hx => hx
  refine v_Grammar_mostOf (Q := qI g R) _ ⟨fun q => GI.r ?_, fun q => GI.r ?_, fun q => GI.r ?_, fun q => GI.r ?_, fun q => GI.r ?_, fun q => GI.r ?_, fun q => GI.r ?_, fun q => GI.r ?_⟩
  · have : w < 4 ∨ 10 < w := q.elim (fun q => Or.inl ((nI_ltI (b := 4) (by omega) (by omega)).mp q)) (fun q => Or.inr ((nI_ltI (a := 10) (by omega) (by omega)).mp q))
    rw [if_neg (by omega), if_neg (by omega), if_neg (by omega)] at h; exact h
  · have := e 4 (by omega) q; subst this; exact h
  · have := e 5 (by omega) q; subst this; exact h
  · have := e 6 (by omega) q; subst this; exact h
  · have := e 7 (by omega) q; subst this; exact h
  · have := e 8 (by omega) q; subst this; exact h
  · have := e 9 (by omega) q; subst this; exact h
  · have := e 10 (by omega) q; subst this; exact h
theorem f_G_tell {R : MS → Prop} {q : Nat × Nat} {c : Nat → Nat} (hS : SX g) (hk : g.2.2 22 0 = some 18) (hT : TkC T L M s) (hq : GQ q s) (hB : GB c s) (hc : ∀ w, w < 14 → c w ≤ 400) (h : ∀ u, GQ (gTell (kK T L M) c q) u → FGr s u → ((gBeg (kK T L M) c q).2 = 0 → GB (gInc c (kK T L M q.1)) u) → R u) : GV E m_Grammar_checkTell [.ref 22] g s R := by
  have kl := kK_lt T L M q.1
  refine v_Grammar_checkTell (Q := qV g R) hS ?_
  refine f_G_kind hS hk hT hq ?_
  unfold gTell at h
  have kK' : ∀ u, FGr s u → TkC T L M u := fun u hu => hT.gr hu
  generalize hw : kK T L M q.1 = w at *
  have body : ∀ u x2, GQ (gBeg (kK T L M) c q) u → FGp s u → ((gBeg (kK T L M) c q).2 = 0 → 4 ≤ w ∧ w ≤ 13) → AWP E m_Grammar_checkTell 49 0 0 [(0, .ref 22), (1, .int (nI w)), (2, .int x2)] [] (mk g u) (qV g R) := by
    intro u x2 a1 a2 a3
    have l2 := a1.2.2.2
    refine v_Grammar_checkTell_49 _ _ hS ?_
    rw [a1.2.1]
    refine pk_eq (gBeg (kK T L M) c q).2 0 (fun z => ?_) (fun z => GV.r (h u (by rw [if_pos z]; exact a1) a2.G (fun y => absurd y z)))
    obtain ⟨w4, w13⟩ := a3 z
    rw [if_neg (fun y => y z)] at h
    obtain ⟨b1, b2⟩ := hB w (by omega)
    rw [tn_n (by omega), a2.1 23 (by decide), b1, nI_1]
    refine ⟨vp_in_nI (by omega) (by omega), fun s1 e1 => ?_⟩
    have F1 : FGr s s1 := a2.G.tr ⟨fun a _ h2 => by rw [e1, wi_n _ _ _ h2], fun j _ _ => by rw [e1, wi_n _ _ _ (by decide)], by rw [e1, wi_2]⟩
    have q1 : GQ (gBeg (kK T L M) c q) s1 := by
      obtain ⟨y1, y2, y3⟩ := a1
      exact ⟨by rw [e1, wi_n _ _ _ (by decide)]; exact y1, by rw [e1, wi_n _ _ _ (by decide)]; exact y2, y3⟩
    have B1 : GB (gInc c w) s1 := fun x hx => by
      rw [e1, wi_s]
      unfold gInc
      by_cases y : x = w
      · rw [y, upd_s, if_pos rfl]; exact ⟨rfl, by have := hc w (by omega); omega⟩
      · rw [upd_n _ _ y, if_neg y, a2.1 23 (by decide)]; exact hB x hx
    have fin : ∀ v, GQ (gBody (kK T L M) w (gBeg (kK T L M) c q)) v → FGp s1 v → AWP E m_Grammar_checkTell 159 0 0 [(0, .ref 22), (1, .int (nI w)), (2, .int x2)] [] (mk g v) (qV g R) := fun v v1 v2 =>
      v_Grammar_checkTell_159 _ _ (GV.r (h v v1 (F1.tr v2.G) (fun _ => fun x hx => by rw [v2.1 23 (by decide)]; exact B1 x hx)))
    have tk := kK' s1 F1
    have e : ∀ n : Nat, n < 33 → nI w = nI n → w = n := fun n hn y => (nI_eq (by omega) (by omega)).mp y
    unfold gBody at fin
    refine ⟨fun y => ?_, fun y => ?_, fun y => ?_, fun y => ?_, fun y => ?_, fun y => ?_, fun y => ?_, fun y => ?_⟩
    · have y' : 10 < w := y.elim (fun y => absurd ((nI_ltI (b := 4) (by omega) (by omega)).mp y) (by omega)) (fun y => (nI_ltI (a := 10) (by omega) (by omega)).mp y)
      rw [if_neg (by omega), if_neg (by omega), if_neg (by omega), if_neg (by omega), if_neg (by omega)] at fin
      exact f_G_row (i := 5) (by omega) (by omega) hS hk tk q1 (fun v v1 v2 => fin v v1 v2)
    · have := e 4 (by omega) y
      rw [if_pos this] at fin
      exact f_G_row (i := 2) (by omega) (by omega) hS hk tk q1 (fun v v1 v2 => fin v v1 v2)
    · have := e 5 (by omega) y
      rw [if_neg (by omega), if_pos this] at fin
      exact f_G_row (i := 3) (by omega) (by omega) hS hk tk q1 (fun v v1 v2 => fin v v1 v2)
    · have := e 6 (by omega) y
      rw [if_neg (by omega), if_neg (by omega), if_pos this] at fin
      exact f_G_row (i := 4) (by omega) (by omega) hS hk tk q1 (fun v v1 v2 => fin v v1 v2)
    · have := e 7 (by omega) y
      rw [if_neg (by omega), if_neg (by omega), if_neg (by omega), if_pos (by omega)] at fin
      exact f_G_law hS hk tk q1 (fun v v1 v2 => fin v v1 v2)
    · have := e 8 (by omega) y
      rw [if_neg (by omega), if_neg (by omega), if_neg (by omega), if_pos (by omega)] at fin
      exact f_G_law hS hk tk q1 (fun v v1 v2 => fin v v1 v2)
    · have := e 9 (by omega) y
      rw [if_neg (by omega), if_neg (by omega), if_neg (by omega), if_pos (by omega)] at fin
      exact f_G_law hS hk tk q1 (fun v v1 v2 => fin v v1 v2)
    · have := e 10 (by omega) y
      rw [if_neg (by omega), if_neg (by omega), if_neg (by omega), if_neg (by omega), if_pos this] at fin
      exact f_G_wants hS hk tk q1 (fun v v1 v2 => fin v v1 v2)
  have bad : ¬ (4 ≤ w ∧ w ≤ 13) → AWP E m_Grammar_checkTell 20 0 0 [(0, .ref 22), (1, .int (nI w))] [] (mk g s) (qV g R) := fun nb => by
    refine v_Grammar_checkTell_20 _ (v_Grammar_checkTell_22 _ _ hS ⟨fun _ => ?_, fun y => absurd rfl y⟩)
    refine f_G_pass false false rfl (fun y => absurd y (by decide)) hS hq (fun u u1 u2 => body u 0 ?_ u2 (fun y => ?_))
    · unfold gBeg; rw [hw, decide_eq_false nb, decide_eq_false (fun y => nb y.1)]; exact u1
    · unfold gBeg at y
      rw [hw, decide_eq_false nb, decide_eq_false (fun y => nb y.1)] at y
      by_cases z : q.2 = 0
      · exact absurd y (gp_nz z (Or.inl rfl))
      · unfold gp at y; rw [if_pos z] at y; exact absurd y z
  refine pk_lt w 4 (fun y => bad (by omega)) (fun y => pk_lt 13 w (fun y2 => bad (by omega)) (fun y2 => ?_) rfl rfl (by omega) (by omega)) rfl rfl (by omega) (by omega)
  refine v_Grammar_checkTell_22 _ _ hS ⟨fun z => absurd z (by decide), fun _ => ?_⟩
  obtain ⟨b1, b2⟩ := hB w (by omega)
  rw [tn_n (by omega), b1]
  refine ⟨vp_in_nI (by omega) (by omega), f_G_most (by omega) ?_⟩
  have gm : gMost w ≤ 400 := by unfold gMost; split <;> (try split) <;> (try split) <;> omega
  have go : ∀ b, b = decide ((4 ≤ w ∧ w ≤ 13) ∧ c w < gMost w) → ∀ x, x = bI b → GV E m_Grammar_pass [.ref 22, .int 1, .int x] g s (fun t3_ => AWP E m_Grammar_checkTell 49 0 0 [(0, .ref 22), (1, .int (nI w)), (2, .int 1)] [] (mk g t3_) (qV g R)) := fun b eb x ex =>
    f_G_pass true b rfl (fun _ => ex) hS hq (fun u u1 u2 => body u 1 (by unfold gBeg; rw [hw, decide_eq_true (⟨y, y2⟩ : 4 ≤ w ∧ w ≤ 13), ← eb]; exact u1) u2 (fun _ => ⟨y, y2⟩))
  refine pk_le (gMost w) (c w) (fun z => go false (decide_eq_false (by omega)).symm 0 rfl) (fun z => go true (decide_eq_true ⟨⟨y, y2⟩, z⟩).symm 1 rfl)
end Gram3
