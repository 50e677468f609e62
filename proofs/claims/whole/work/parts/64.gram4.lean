/-! THE GRAMMAR of the class: all of a text -/
section Gram4
variable {E : EN} {g : GS} {s : MS} {T : Nat → Nat} {L M : Nat}
def gCheck (K : Nat → Nat) : Nat × Nat := gAll K 401 (fun _ => 0) (0, 0)
theorem f_G_check {R : Int32 → GS → MS → Prop} (hS : SX g) (hT : TkC T L M s) (h : ∀ u, GQ (gCheck (kK T L M)) u → FGr s u → R (nI (gCheck (kK T L M)).2) g u) : XI E m_Grammar_check [.ref 22] g s R := by
  have hS' : SX g := hS
  have hk : g.2.2 22 0 = some 18 := hS.r rfl
  refine v_Grammar_check (Q := rI R) hS (fun s1 e1 s2 e2 => ?_)
  have F2 : FGr s s2 := ⟨fun a h1 _ => by rw [e2, wi_n _ _ _ h1, e1, wi_n _ _ _ h1], fun j h1 h2 => by rw [e2, wi_s, upd_n _ _ h2, e1, wi_s, upd_n _ _ h1], by rw [e2, wi_2, e1, wi_2]⟩
  have Q2 : GQ (0, 0) s2 := ⟨by rw [e2, wi_s, upd_n _ _ (by decide), e1, wi_s, upd_s]; rfl, by rw [e2, wi_s, upd_s]; rfl, by decide, by decide⟩
  have main : ∀ n, n ≤ 401 → ∀ u q c, GQ q u → FGr s u → (q.2 = 0 → GB c u) → (∀ w, w < 14 → c w ≤ 401 - n) → gAll (kK T L M) n c q = gCheck (kK T L M) → AWP E m_Grammar_check 36 0 0 [(0, .ref 22), (1, .int (nI (401 - n)))] [] (mk g u) (rI R) := by
    intro n
    induction n with
    | zero =>
      intro _ u q c a1 a2 a3 a4 a5
      refine v_Grammar_check_36 _ hS' (pk_lt 400 401 (fun _ => rI.mk ?_) (fun w => absurd w (by omega)))
      have a5' : q = gCheck (kK T L M) := a5
      rw [a1.2.1, a5']; exact h u (by rw [← a5']; exact a1) a2
    | succ n ih =>
      intro hn u q c a1 a2 a3 a4 a5
      have l2 := a1.2.2.2
      have kl := kK_lt T L M q.1
      rw [gAll] at a5
      refine v_Grammar_check_36 _ hS' (pk_lt 400 (401 - (n + 1)) (fun w => absurd w (by omega)) (fun _ => ?_))
      have fin : ∀ x, x = nI q.2 → ¬ (q.2 = 0 ∧ kK T L M q.1 ≠ 0) → rI R (some (.int x)) (mk g u) := fun x ex w => by
        rw [if_neg w] at a5
        refine rI.mk ?_
        rw [ex, a5]; exact h u (by rw [← a5]; exact a1) a2
      rw [a1.2.1]
      refine pk_eq q.2 0 (fun z => ?_) (fun z => fin _ rfl (fun w => z w.1))
      refine f_G_kind hS' hk (hT.gr a2) a1 ?_
      refine pk_eq (kK T L M q.1) 0 (fun z2 => fin _ a1.2.1 (fun w => w.2 z2)) (fun z2 => ?_) rfl rfl (by omega) (by omega)
      rw [if_pos ⟨z, z2⟩] at a5
      have B := a3 z
      refine f_G_tell hS' hk (hT.gr a2) a1 B (fun w hw => by have := a4 w hw; omega) (fun v v1 v2 v3 => ?_)
      rw [show nI (401 - (n + 1)) + 1 = nI (401 - n) by rw [nI_1]; congr 1; omega]
      refine ih (by omega) v _ _ v1 (a2.tr v2) (fun y => v3 ?_) (fun w hw => ?_) a5
      · unfold gTell at y
        by_cases y2 : (gBeg (kK T L M) c q).2 ≠ 0
        · rw [if_pos y2] at y; exact y
        · exact Decidable.not_not.mp y2
      · have := a4 w hw
        unfold gInc
        split <;> omega
  have clr : ∀ k, k ≤ 14 → ∀ u, GQ (0, 0) u → FGr s u → (∀ w, w < k → u.1 23 w = 0) → AWP E m_Grammar_check 12 0 0 [(0, .ref 22), (1, .int (nI k))] [] (mk g u) (rI R) := by
    refine upto 14 ?_ ?_
    · intro u a1 a2 a3
      refine v_Grammar_check_12 _ hS' (pk_le 14 14 (fun _ => main 401 (by omega) u (0, 0) (fun _ => 0) a1 a2 (fun _ w hw => ⟨a3 w hw, Nat.zero_le _⟩) (fun w _ => Nat.zero_le _) rfl) (fun w => absurd w (by omega)))
    · intro k hk' ih u a1 a2 a3
      refine v_Grammar_check_12 _ hS' (pk_le 14 k (fun w => absurd w (by omega)) (fun _ => ?_))
      rw [tn_n (by omega), nI_1 k]
      refine ⟨vp_in_nI (by omega) (by omega), fun v ev => ih v ?_ ?_ ?_⟩
      · obtain ⟨y1, y2, y3⟩ := a1
        exact ⟨by rw [ev, wi_n _ _ _ (by decide)]; exact y1, by rw [ev, wi_n _ _ _ (by decide)]; exact y2, y3⟩
      · exact a2.tr ⟨fun a _ h2 => by rw [ev, wi_n _ _ _ h2], fun j _ _ => by rw [ev, wi_n _ _ _ (by decide)], by rw [ev, wi_2]⟩
      · intro w hw
        rw [ev, wi_s, upd_a]
        split
        · rfl
        · exact a3 w (by omega)
  exact clr 0 (by omega) s2 Q2 F2 (fun w hw => absurd hw (by omega))
end Gram4
