/-! JOKES: the search, and the pair -/
def jgo (x : Int32) : List (Int32 × Bool) → Int32 → Int32
  | [], f => if x = -1 then f else -1
  | (c, b) :: l, f => if b = true then (if x = f then c else jgo x l (f + 1)) else jgo x l f
def jcode (h o n : Nat) : Int32 := ((1000 * nI h) + (100 * nI o)) + nI n
def jc3 (B : Nat → Nat → Nat → Bool) (h o : Nat) : Nat → List (Int32 × Bool)
  | 0 => []
  | m + 1 => (jcode h o (60 - m), B h o (60 - m)) :: jc3 B h o m
def jc2 (B : Nat → Nat → Nat → Bool) (H h : Nat) : Nat → List (Int32 × Bool)
  | 0 => []
  | m + 1 => jc3 B h (H - (m + 1)) 61 ++ jc2 B H h m
def jc1 (B : Nat → Nat → Nat → Bool) (H : Nat) : Nat → List (Int32 × Bool)
  | 0 => []
  | m + 1 => jc2 B H (H - (m + 1)) m ++ jc1 B H m
theorem jseek {B : Nat → Nat → Nat → Bool} {H : Nat} {x ans : Int32} {S : MS → Prop} {A27 : Nat → Int32 → MS → Prop} {A39 : Nat → Nat → Int32 → MS → Prop} {A48 : Nat → Nat → Nat → Int32 → MS → Prop} {Rr : Int32 → MS → Prop}
    (h27 : ∀ h f u, S u → h ≤ H → (H ≤ h → Rr (if x = -1 then f else -1) u) → (h < H → A39 h (h + 1) f u) → A27 h f u)
    (h39 : ∀ h o f u, S u → h < H → o ≤ H → (H ≤ o → A27 (h + 1) f u) → (o < H → A48 h o 0 f u) → A39 h o f u)
    (h48 : ∀ h o n f u, S u → h < o → o < H → n ≤ 61 → (n = 61 → A39 h (o + 1) f u) → (n ≤ 60 → ∀ v, S v → (B h o n = false → A48 h o (n + 1) f v) ∧ (B h o n = true → (x = f → Rr (jcode h o n) v) ∧ (x ≠ f → A48 h o (n + 1) (f + 1) v))) → A48 h o n f u)
    (hR : ∀ u, S u → Rr ans u) : ∀ m, m ≤ H → ∀ f u, S u → jgo x (jc1 B H m) f = ans → A27 (H - m) f u
  | 0, _, f, u, hu, e => by
    refine h27 _ f u hu (by omega) (fun _ => ?_) (fun q => absurd q (by omega))
    have e' : (if x = -1 then f else -1) = ans := e
    rw [e']; exact hR u hu
  | m + 1, hm, f, u, hu, e => by
    have ih := jseek h27 h39 h48 hR m (by omega)
    refine h27 _ f u hu (by omega) (fun q => absurd q (by omega)) (fun q => ?_)
    have t39 : ∀ mo, mo ≤ m → ∀ f u, S u → jgo x (jc2 B H (H - (m + 1)) mo ++ jc1 B H m) f = ans → A39 (H - (m + 1)) (H - mo) f u := by
      intro mo
      induction mo with
      | zero =>
        intro _ f u hu e
        refine h39 _ _ f u hu (by omega) (by omega) (fun _ => ?_) (fun q => absurd q (by omega))
        rw [show H - (m + 1) + 1 = H - m by omega]
        exact ih f u hu e
      | succ mo iho =>
        intro hmo f u hu e
        refine h39 _ _ f u hu (by omega) (by omega) (fun q => absurd q (by omega)) (fun _ => ?_)
        have t48 : ∀ mn, mn ≤ 61 → ∀ f u, S u → jgo x (jc3 B (H - (m + 1)) (H - (mo + 1)) mn ++ (jc2 B H (H - (m + 1)) mo ++ jc1 B H m)) f = ans → A48 (H - (m + 1)) (H - (mo + 1)) (61 - mn) f u := by
          intro mn
          induction mn with
          | zero =>
            intro _ f u hu e
            refine h48 _ _ _ f u hu (by omega) (by omega) (by omega) (fun _ => ?_) (fun q => absurd q (by omega))
            rw [show H - (mo + 1) + 1 = H - mo by omega]
            exact iho (by omega) f u hu e
          | succ mn ihn =>
            intro hmn f u hu e
            refine h48 _ _ _ f u hu (by omega) (by omega) (by omega) (fun q => absurd q (by omega)) (fun _ v hv => ?_)
            rw [show 61 - (mn + 1) + 1 = 61 - mn by omega]
            rw [show 61 - (mn + 1) = 60 - mn by omega] at *
            rw [jc3, List.cons_append, jgo] at e
            refine ⟨fun b0 => ?_, fun b1 => ?_⟩
            · rw [b0, if_neg (by decide)] at e
              exact ihn (by omega) f v hv e
            · rw [b1, if_pos rfl] at e
              refine ⟨fun xe => ?_, fun xe => ?_⟩
              · rw [if_pos xe] at e
                rw [e]; exact hR v hv
              · rw [if_neg xe] at e
                exact ihn (by omega) (f + 1) v hv e
        refine t48 61 (by omega) f u hu ?_
        rw [jc2, List.append_assoc] at e
        exact e
    have := t39 m (by omega) f u hu (by rw [jc1] at e; exact e)
    rw [show H - (m + 1) + 1 = H - m by omega]
    exact this
section Jokes
variable {E : EN} {d : TD} {t lv c : Nat} {π : PS} {g : GS} {s : MS}
theorem jR_in {h o w n a j : Nat} (hj : j < 6) (ha : a < 6) : jR d h o w n (6 + 6 * a + j) = if h = o ∨ n < w then pMins (dE d) n (beg d) (6 + 6 * a + j) else pMins (dE d) n (beg d) (6 + 6 * a + j) + (if a = h then pMins (dE d) w (beg d) (6 + 6 * o + j) - pMins (dE d) w (beg d) (6 + 6 * a + j) else if a = o then pMins (dE d) w (beg d) (6 + 6 * h + j) - pMins (dE d) w (beg d) (6 + 6 * a + j) else 0) := by
  unfold jR
  split
  · rfl
  · rw [ad_ho (by omega)]
    unfold dX
    rw [show (6 + 6 * a + j - 6) / 6 = a by omega, show (6 + 6 * a + j - 6) % 6 = j by omega]
/-- what fits, of facts that stand -/
theorem f_Facts_fits {R : Int32 → MS → Prop} (hO : TOk d) (hS : SX g) (hF : Fact π s) (hK : pK π ≤ 20 ∧ ∀ i, i < pK π → (pF π i).1 < nH d ∧ (pF π i).2.1 < nG d ∧ (pF π i).2.2.1 ≤ 99) (hN : ∀ n, n ≤ 99 → ∀ c, c < 36 → s.1 61 (36 * n + c) = pMins (dE d) n (beg d) (6 + c)) {k h o w : Nat} (hk : k ≤ pK π) (hw : w ≤ 60) {x2 x3 : Int32} (hx : (x2 = -1 ∧ x3 = -1 ∧ h = o) ∨ (x2 = nI h ∧ x3 = nI o ∧ h ≠ o ∧ h < 6 ∧ o < 6)) (hr0 : R (if FJ d π k h o w = true then 1 else 0) s) : GI E m_Facts_fits [.ref 56, .int (nI k), .int x2, .int x3, .int (nI w)] g s R := by
  have g6 := hO.g6
  have h6 := hO.h6
  refine v_Facts_fits (Q := qI g R) _ _ _ _ ?_
  refine upto (P := fun i => (∀ j, j < i → jR d h o w (pF π j).2.2.1 (6 + 6 * (pF π j).1 + (pF π j).2.1) = (pF π j).2.2.2) → AWP E m_Facts_fits 3 0 0 [(0, .ref 56), (1, .int (nI k)), (2, .int x2), (3, .int x3), (4, .int (nI w)), (5, .int (nI i))] [] (mk g s) (qI g R)) k ?_ ?_ 0 (Nat.zero_le _) (fun j hj => absurd hj (by omega))
  · intro a
    refine v_Facts_fits_3 _ _ _ _ _ hS (pk_le k k (fun _ => GI.r ?_) (fun q => absurd q (by omega)))
    have : FJ d π k h o w = true := decide_eq_true a
    rw [this] at hr0; exact hr0
  · intro i hi ih a
    obtain ⟨f1, f2, f3, f4⟩ := hF.2 i (by omega)
    obtain ⟨l1, l2, l3⟩ := hK.2 i (by omega)
    refine v_Facts_fits_3 _ _ _ _ _ hS (pk_le k i (fun q => absurd q (by omega)) (fun _ => ⟨vp_in_nI (by omega) (by omega), ?_⟩))
    rw [tn_n (by omega), f1, f3, nI_1 i]
    have seen : ∀ (a n : Nat) (Rz : Int32 → MS → Prop), a < 6 → n ≤ 99 → Rz (pMins (dE d) n (beg d) (6 + 6 * a + (pF π i).2.1)) s → GI E m_Facts_seenIn [.ref 56, .int (nI a), .int (nI i), .int (nI n)] g s Rz := by
      intro a n Rz ha hn hz
      refine v_Facts_seenIn (Q := qI g Rz) _ _ _ hS ?_
      rw [tn_n (by omega), f2, show nI n * 36 = nI (n * 36) by rw [show (36 : Int32) = nI 36 from rfl, pk_mul], show nI a * 6 = nI (a * 6) by rw [show (6 : Int32) = nI 6 from rfl, pk_mul], nI_add, nI_add, tn_n (by omega)]
      refine ⟨vp_in_nI (by omega) (by omega), vp_in_nI (by omega) (by omega), GI.r ?_⟩
      rw [show n * 36 + a * 6 + (pF π i).2.1 = 36 * n + (6 * a + (pF π i).2.1) by omega, hN n hn _ (by omega), show 6 + (6 * a + (pF π i).2.1) = 6 + 6 * a + (pF π i).2.1 by omega]
      exact hz
    have go : jR d h o w (pF π i).2.2.1 (6 + 6 * (pF π i).1 + (pF π i).2.1) = (pF π i).2.2.2 → AWP E m_Facts_fits 3 0 0 [(0, .ref 56), (1, .int (nI k)), (2, .int x2), (3, .int x3), (4, .int (nI w)), (5, .int (nI (i + 1)))] [] (mk g s) (qI g R) := fun q => ih (fun j hj => by
      by_cases z : j = i
      · rw [z]; exact q
      · exact a j (by omega))
    have no : jR d h o w (pF π i).2.2.1 (6 + 6 * (pF π i).1 + (pF π i).2.1) ≠ (pF π i).2.2.2 → R 0 s := fun q => by
      have : FJ d π k h o w = false := decide_eq_false (fun w => q (w i hi))
      rw [this] at hr0; exact hr0
    rw [jR_in (by omega) (by omega)] at go no
    generalize hg : pF π i = F at *
    obtain ⟨a1, j1, m1, v1⟩ := F
    simp only at f1 f2 f3 f4 l1 l2 l3 go no seen
    refine seen a1 m1 _ (by omega) (by omega) ?_
    rw [f3]
    refine ⟨fun c1 => ?_, fun c1 => ?_⟩
    · have c1' : m1 < w := (nI_ltI (by omega) (by omega)).mp c1
      rw [if_pos (Or.inr c1')] at go no
      exact ⟨fun q => go (q.trans f4), fun q => GI.r (no fun w => q (w.trans f4.symm))⟩
    · have c1' : ¬ m1 < w := fun q => c1 ((nI_ltI (by omega) (by omega)).mpr q)
      rcases hx with ⟨rfl, rfl, rfl⟩ | ⟨rfl, rfl, ne, hh6, ho6⟩
      · have nn : ¬ nI a1 = (-1 : Int32) := fun q => absurd (nI_pos' (n := a1) (by omega)) (by rw [q]; decide)
        rw [if_pos (Or.inl rfl)] at go no
        exact ⟨fun q => absurd q nn, fun _ => ⟨fun q => absurd q nn, fun _ => ⟨fun q => go (q.trans f4), fun q => GI.r (no fun w => q (w.trans f4.symm))⟩⟩⟩
      · rw [if_neg (by omega)] at go no
        have ei : ∀ b : Nat, b < 6 → (nI a1 = nI b ↔ a1 = b) := fun b hb => ⟨fun q => (nI_eq (by omega) (by omega)).mp q, fun q => by rw [q]⟩
        by_cases z : a1 = h
        · rw [if_pos z] at go no
          have zi : nI a1 = nI h := by rw [z]
          refine ⟨fun _ => ⟨fun _ => ?_, fun q => absurd zi q⟩, fun q => absurd zi q⟩
          refine seen o w _ (by omega) (by omega) (seen a1 w _ (by omega) (by omega) ⟨fun q => go (q.trans f4), fun q => GI.r (no fun w => q (w.trans f4.symm))⟩)
        · have zn : ¬ nI a1 = nI h := fun q => z ((ei h hh6).mp q)
          rw [if_neg z] at go no
          refine ⟨fun q => absurd q zn, fun _ => ?_⟩
          by_cases y : a1 = o
          · rw [if_pos y] at go no
            have yi : nI a1 = nI o := by rw [y]
            refine ⟨fun _ => ⟨fun q => absurd q zn, fun _ => ?_⟩, fun q => absurd yi q⟩
            refine seen h w _ (by omega) (by omega) (seen a1 w _ (by omega) (by omega) ⟨fun q => go (q.trans f4), fun q => GI.r (no fun w => q (w.trans f4.symm))⟩)
          · have yn : ¬ nI a1 = nI o := fun q => y ((ei o ho6).mp q)
            rw [if_neg y, Int32.add_zero] at go no
            exact ⟨fun q => absurd q yn, fun _ => ⟨fun q => go (q.trans f4), fun q => GI.r (no fun w => q (w.trans f4.symm))⟩⟩
end Jokes
