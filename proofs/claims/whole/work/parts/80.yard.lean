/-! THE YARD, pure: how an expression becomes codes -/
def yF (st : Bool) : List Nat → Cd → List Nat × Cd
  | [], C => ([], C)
  | w :: W, C => if w = 31 ∨ (st = true ∧ (w = 26 ∨ w = 27)) then (w :: W, C) else yF st W (C ++ [(w - 24, 0)])
def rkW (w : Nat) : Nat := if w = 28 ∨ w = 29 then 2 else 1
def okL : Nat → List Nat → Prop
  | _, [] => True
  | r, w :: W => (w = 31 ∧ okL 2 W) ∨ (26 ≤ w ∧ w ≤ 29 ∧ rkW w ≤ r ∧ okL (rkW w - 1) W)
def cW : List Nat → Nat
  | [] => 0
  | w :: W => if w = 31 then cW W + 1 else cW W
def oW : List Nat → Nat
  | [] => 0
  | w :: W => if w = 31 then oW W else oW W + 1
theorem rkW_ge (w : Nat) : 1 ≤ rkW w ∧ rkW w ≤ 2 := by unfold rkW; split <;> omega
theorem okL.len : ∀ (W : List Nat) (r : Nat), okL r W → W.length = cW W + oW W ∧ oW W ≤ r + 2 * cW W
  | [], r, _ => ⟨rfl, by rw [oW]; omega⟩
  | w :: W, r, h => by
    rcases h with ⟨h1, h2⟩ | ⟨h1, h2, h3, h4⟩
    · have := okL.len W 2 h2
      rw [cW, oW, if_pos h1, if_pos h1, List.length_cons]; omega
    · have := okL.len W _ h4
      have := rkW_ge w
      rw [cW, oW, if_neg (by omega), if_neg (by omega), List.length_cons]; omega
theorem okL.up : ∀ {W : List Nat} {r r' : Nat}, r ≤ r' → okL r W → okL r' W
  | [], _, _, _, _ => trivial
  | w :: W, r, r', hr, h => by
    rcases h with h | ⟨h1, h2, h3, h4⟩
    · exact Or.inl h
    · exact Or.inr ⟨h1, h2, by omega, h4⟩
theorem yF_ok (st : Bool) : ∀ (W : List Nat) (C : Cd) (r : Nat), okL r W → wfc 31 C 0 (oW W + 1) → okL (if st = true then 1 else 0) (yF st W C).1 ∧ wfc 31 (yF st W C).2 0 (oW (yF st W C).1 + 1) ∧ cW (yF st W C).1 = cW W ∧ (yF st W C).2.length + oW (yF st W C).1 = C.length + oW W
  | [], C, r, _, h => ⟨trivial, h, rfl, rfl⟩
  | w :: W, C, r, hk, h => by
    rw [yF]
    by_cases z : w = 31 ∨ (st = true ∧ (w = 26 ∨ w = 27))
    · rw [if_pos z]
      refine ⟨?_, h, rfl, rfl⟩
      rcases hk with a | ⟨h1, h2, h3, h4⟩
      · exact Or.inl a
      · rcases z with z | ⟨z1, z2⟩
        · omega
        · have e : rkW w = 1 := by unfold rkW; rw [if_neg (by omega)]
          rw [if_pos z1]
          exact Or.inr ⟨h1, h2, by omega, h4⟩
    · rw [if_neg z]
      have nz : ¬ w = 31 := fun y => z (Or.inl y)
      rcases hk with a | ⟨h1, h2, h3, h4⟩
      · exact absurd a.1 nz
      · have ow : oW (w :: W) = oW W + 1 := by rw [oW, if_neg nz]
        have cw : cW (w :: W) = cW W := by rw [cW, if_neg nz]
        rw [ow] at h
        have w1 : wfc 31 [(w - 24, 0)] (oW W + 1 + 1) (oW W + 1) := Or.inr ⟨by show 2 ≤ w - 24; omega, by show w - 24 ≤ 5; omega, by omega, show oW W + 1 + 1 - 1 = oW W + 1 by omega⟩
        have := yF_ok st W (C ++ [(w - 24, 0)]) _ h4 (wfc_app w1 C 0 h)
        rw [ow, cw]
        refine ⟨this.1, this.2.1, this.2.2.1, ?_⟩
        rw [this.2.2.2, List.length_append]; show C.length + 1 + oW W = _; omega
def uC (K V : Nat → Nat) (a : Nat) : Nat × Nat := if K a = 3 then (0, V a) else (1, K a - 17)
def uK (k : Nat) : Prop := k = 3 ∨ (17 ≤ k ∧ k ≤ 23)
def YI (due : Bool) (W : List Nat) (C : Cd) (o : Nat) : Prop := okL 2 W ∧ cW W = o ∧ o ≤ 6 ∧ wfc 31 C 0 (oW W + (if due = true then 0 else 1))
theorem YI.op {W : List Nat} {C : Cd} {o : Nat} (h : YI true W C o) (ho : o < 6) : YI true (31 :: W) C (o + 1) := by
  obtain ⟨h1, h2, h3, h4⟩ := h
  refine ⟨Or.inl ⟨rfl, h1⟩, ?_, by omega, ?_⟩
  · rw [cW, if_pos rfl, h2]
  · rw [oW, if_pos rfl]; exact h4
theorem YI.un {W : List Nat} {C : Cd} {o : Nat} {q : Nat × Nat} (h : YI true W C o) (hq : (q.1 = 0 ∧ q.2 ≤ 9999) ∨ (q.1 = 1 ∧ q.2 < 7)) : YI false W (C ++ [q]) o := by
  obtain ⟨h1, h2, h3, h4⟩ := h
  have := (okL.len W 2 h1).2
  rw [if_pos rfl] at h4
  have w1 : wfc 31 [q] (oW W + 0) (oW W + 1) := Or.inl ⟨hq, by omega, rfl⟩
  exact ⟨h1, h2, h3, wfc_app w1 C 0 h4⟩
theorem okL_31 {p : List Nat} (h : okL 0 p) (hc : 0 < cW p) : ∃ W', p = 31 :: W' ∧ okL 2 W' := by
  cases p with
  | nil => exact absurd hc (by rw [cW]; omega)
  | cons w W =>
    rcases h with ⟨h1, h2⟩ | ⟨h1, h2, h3, h4⟩
    · exact ⟨W, by rw [h1], h2⟩
    · have := rkW_ge w; omega
theorem YI.cl {W : List Nat} {C : Cd} {o : Nat} (h : YI false W C o) (ho : 0 < o) : ∃ W', (yF false W C).1 = 31 :: W' ∧ YI false W' (yF false W C).2 (o - 1) := by
  obtain ⟨h1, h2, h3, h4⟩ := h
  rw [if_neg (by decide)] at h4
  obtain ⟨y1, y2, y3, y4⟩ := yF_ok false W C 2 h1 h4
  rw [if_neg (by decide)] at y1
  obtain ⟨W', e1, e2⟩ := okL_31 y1 (by omega)
  refine ⟨W', e1, e2, ?_, by omega, ?_⟩
  · rw [e1, cW, if_pos rfl] at y3; omega
  · rw [e1, oW, if_pos rfl] at y2
    rw [if_neg (by decide)]; exact y2
theorem YI.bi {W : List Nat} {C : Cd} {o k : Nat} (h : YI false W C o) (hk : 26 ≤ k ∧ k ≤ 29) : YI true (k :: (yF (decide (28 ≤ k)) W C).1) (yF (decide (28 ≤ k)) W C).2 o := by
  obtain ⟨h1, h2, h3, h4⟩ := h
  rw [if_neg (by decide)] at h4
  obtain ⟨y1, y2, y3, y4⟩ := yF_ok (decide (28 ≤ k)) W C 2 h1 h4
  refine ⟨Or.inr ⟨hk.1, hk.2, (rkW_ge k).2, ?_⟩, ?_, h3, ?_⟩
  · by_cases z : 28 ≤ k
    · rw [decide_eq_true z, if_pos rfl] at y1
      rw [decide_eq_true z]
      have : rkW k = 2 := by unfold rkW; rw [if_pos (by omega)]
      rw [this]; exact y1
    · rw [decide_eq_false z, if_neg (by decide)] at y1
      rw [decide_eq_false z]
      have : rkW k = 1 := by unfold rkW; rw [if_neg (by omega)]
      rw [this]; exact y1
  · rw [cW, if_neg (by omega), y3, h2]
  · rw [oW, if_neg (by omega), if_pos rfl]; exact y2
theorem YI.en {W : List Nat} {C : Cd} (h : YI false W C 0) : (yF false W C).1 = [] ∧ wfc 31 (yF false W C).2 0 1 ∧ (yF false W C).2.length = C.length + oW W := by
  obtain ⟨h1, h2, h3, h4⟩ := h
  rw [if_neg (by decide)] at h4
  obtain ⟨y1, y2, y3, y4⟩ := yF_ok false W C 2 h1 h4
  rw [if_neg (by decide)] at y1
  have e : (yF false W C).1 = [] := by
    cases hp : (yF false W C).1 with
    | nil => rfl
    | cons w p =>
      rw [hp] at y1 y3
      rcases y1 with ⟨a, b⟩ | ⟨a, b, c, d⟩
      · rw [cW, if_pos a] at y3; omega
      · have := rkW_ge w; omega
  rw [e, oW] at y2 y4
  exact ⟨e, y2, y4⟩
/-- the grammar's E without what ends it -/
def gE (K : Nat → Nat) : Nat → Nat → Bool → Nat × Nat → Nat × Nat
  | 0, _, _, q => q
  | n + 1, o, due, q => if q.2 ≠ 0 then q
    else if due = true ∧ K q.1 = 31 then gE K n (o + 1) due (gp true (decide (o < 6)) q)
    else if due = true then gE K n o false (gp (decide (K q.1 = 3 ∨ (17 ≤ K q.1 ∧ K q.1 ≤ 23))) true q)
    else if K q.1 = 32 ∧ 0 < o then gE K n (o - 1) due (gp true true q)
    else if 26 ≤ K q.1 ∧ K q.1 ≤ 29 then gE K n o true (gp true true q)
    else if o = 0 then q else (q.1, 1)
/-- its codes -/
def gC (K V : Nat → Nat) : Nat → Nat → Bool → Nat → List Nat → Cd → Cd
  | 0, _, _, _, _, C => C
  | n + 1, o, due, a, W, C => if due = true ∧ K a = 31 then gC K V n (o + 1) due (a + 1) (31 :: W) C
    else if due = true then gC K V n o false (a + 1) W (C ++ [uC K V a])
    else if K a = 32 ∧ 0 < o then gC K V n (o - 1) due (a + 1) (yF false W C).1.tail (yF false W C).2
    else if 26 ≤ K a ∧ K a ≤ 29 then gC K V n o true (a + 1) (K a :: (yF (decide (28 ≤ K a)) W C).1) (yF (decide (28 ≤ K a)) W C).2
    else (yF false W C).2
theorem gE_f {K : Nat → Nat} {o : Nat} {due : Bool} {q : Nat × Nat} (h : q.2 ≠ 0) : ∀ n, gE K n o due q = q
  | 0 => rfl
  | n + 1 => by rw [gE, if_pos h]
theorem gk_f {K : Nat → Nat} {κ : Nat} {q : Nat × Nat} (h : q.2 ≠ 0) : gk K κ q = q := by unfold gk gp; rw [if_pos h]
theorem gp_nx {f r : Bool} {q : Nat × Nat} : (gp f r q).2 = 0 → (gp f r q).1 = q.1 + 1 := fun h => by rw [(gp_ok h).2.2.2.2]
theorem gS_E {K : Nat → Nat} {e : Nat} (he : e ≠ 32 ∧ ¬ (26 ≤ e ∧ e ≤ 29)) : ∀ (n o : Nat) (due : Bool) (q : Nat × Nat), (q.2 = 0 → 401 ≤ q.1 + n) → q.1 ≤ 400 → gS K e n o due q = gk K e (gE K n o due q)
  | 0, o, due, q, h, h4 => by
    by_cases z : q.2 = 0
    · have := h z; omega
    · rw [gS, gE, gk_f z]
  | n + 1, o, due, q, h, h4 => by
    by_cases z : q.2 = 0
    · have h' := h z
      have nx : ∀ f r, (gp f r q).2 = 0 → 401 ≤ (gp f r q).1 + n := fun f r y => by rw [gp_nx y]; omega
      rw [gS, gE, if_neg (show ¬ q.2 ≠ 0 from fun y => y z), if_neg (show ¬ q.2 ≠ 0 from fun y => y z)]
      by_cases c1 : due = true ∧ K q.1 = 31
      · rw [if_pos c1, if_pos c1]; exact gS_E he n _ _ _ (nx _ _) (gp_le h4)
      · rw [if_neg c1, if_neg c1]
        by_cases c2 : due = true
        · rw [if_pos c2, if_pos c2]; exact gS_E he n _ _ _ (nx _ _) (gp_le h4)
        · rw [if_neg c2, if_neg c2]
          by_cases c3 : K q.1 = 32
          · rw [if_pos c3]
            by_cases c4 : 0 < o
            · rw [if_pos ⟨c3, c4⟩, decide_eq_true c4]; exact gS_E he n _ _ _ (nx _ _) (gp_le h4)
            · rw [if_neg (fun y => c4 y.2), if_neg (by omega), if_pos (by omega), decide_eq_false c4]
              have e1 : gp false true q = (q.1, 1) := by unfold gp; rw [if_neg (fun y => y z), if_pos rfl]
              rw [e1, gS_f (by show (1 : Nat) ≠ 0; omega)]
              unfold gk gp
              rw [if_neg (fun y => y z), decide_eq_false (by omega), if_pos rfl]
          · rw [if_neg c3, if_neg (show ¬ (K q.1 = 32 ∧ 0 < o) from fun y => c3 y.1)]
            by_cases c5 : 26 ≤ K q.1 ∧ K q.1 ≤ 29
            · rw [if_pos c5, if_pos c5]; exact gS_E he n _ _ _ (nx _ _) (gp_le h4)
            · rw [if_neg c5, if_neg c5]
              by_cases c6 : o = 0
              · rw [if_pos c6]
                unfold gk
                congr 1
                simp [c6]
              · rw [if_neg c6, gk_f (by show (1 : Nat) ≠ 0; omega)]
                unfold gp
                rw [if_neg (fun y => y z), decide_eq_false (fun y => c6 y.1), if_pos rfl]
    · rw [gS_f z, gE_f z, gk_f z]
theorem gE_le {K : Nat → Nat} : ∀ (n o : Nat) (due : Bool) (q : Nat × Nat), q.1 ≤ 400 → (gE K n o due q).1 ≤ 400
  | 0, _, _, q, h => h
  | n + 1, o, due, q, h => by
    rw [gE]
    split
    · exact h
    · split
      · exact gE_le n _ _ _ (gp_le h)
      · split
        · exact gE_le n _ _ _ (gp_le h)
        · split
          · exact gE_le n _ _ _ (gp_le h)
          · split
            · exact gE_le n _ _ _ (gp_le h)
            · split
              · exact h
              · exact h
theorem gE_z {K : Nat → Nat} {n o : Nat} {due : Bool} {q : Nat × Nat} (h : (gE K n o due q).2 = 0) : q.2 = 0 := by
  by_cases z : q.2 = 0
  · exact z
  · rw [gE_f z] at h; exact h
/-- one token further, and what the codes become of it -/
theorem gE_st {K V : Nat → Nat} {n o a : Nat} {due : Bool} {W : List Nat} {C : Cd} (hn : 401 ≤ a + (n + 1)) (h : (gE K (n + 1) o due (a, 0)).2 = 0) (hY : YI due W C o) (hV : K a = 3 → V a ≤ 9999) :
    (due = true ∧ K a = 31 ∧ a < 400 ∧ gE K (n + 1) o due (a, 0) = gE K n (o + 1) true (a + 1, 0) ∧ gC K V (n + 1) o due a W C = gC K V n (o + 1) true (a + 1) (31 :: W) C ∧ YI true (31 :: W) C (o + 1))
    ∨ (due = true ∧ uK (K a) ∧ a < 400 ∧ gE K (n + 1) o due (a, 0) = gE K n o false (a + 1, 0) ∧ gC K V (n + 1) o due a W C = gC K V n o false (a + 1) W (C ++ [uC K V a]) ∧ YI false W (C ++ [uC K V a]) o)
    ∨ (due = false ∧ K a = 32 ∧ 0 < o ∧ a < 400 ∧ gE K (n + 1) o due (a, 0) = gE K n (o - 1) false (a + 1, 0) ∧ ∃ W', (yF false W C).1 = 31 :: W' ∧ gC K V (n + 1) o due a W C = gC K V n (o - 1) false (a + 1) W' (yF false W C).2 ∧ YI false W' (yF false W C).2 (o - 1))
    ∨ (due = false ∧ (26 ≤ K a ∧ K a ≤ 29) ∧ a < 400 ∧ gE K (n + 1) o due (a, 0) = gE K n o true (a + 1, 0) ∧ gC K V (n + 1) o due a W C = gC K V n o true (a + 1) (K a :: (yF (decide (28 ≤ K a)) W C).1) (yF (decide (28 ≤ K a)) W C).2 ∧ YI true (K a :: (yF (decide (28 ≤ K a)) W C).1) (yF (decide (28 ≤ K a)) W C).2 o)
    ∨ (due = false ∧ o = 0 ∧ ¬ (26 ≤ K a ∧ K a ≤ 29) ∧ gE K (n + 1) o due (a, 0) = (a, 0) ∧ gC K V (n + 1) o due a W C = (yF false W C).2 ∧ YI false W C 0) := by
  have h0 := h
  rw [gE, if_neg (fun y => y rfl)] at h0 ⊢
  rw [gC]
  by_cases c1 : due = true ∧ K a = 31
  · rw [if_pos c1] at h0 ⊢
    rw [if_pos c1]
    have g1 := gp_ok (gE_z h0)
    have o6 : o < 6 := by simpa using g1.2.2.1
    refine Or.inl ⟨c1.1, c1.2, g1.2.2.2.1, ?_, ?_, ?_⟩
    · rw [g1.2.2.2.2, c1.1]
    · rw [c1.1]
    · have := c1.1; subst this; exact hY.op o6
  · rw [if_neg c1] at h0 ⊢
    rw [if_neg c1]
    by_cases c2 : due = true
    · rw [if_pos c2] at h0 ⊢
      rw [if_pos c2]
      have g1 := gp_ok (gE_z h0)
      have u1 : uK (K a) := by simpa [uK] using g1.2.1
      refine Or.inr (Or.inl ⟨c2, u1, g1.2.2.2.1, by rw [g1.2.2.2.2], rfl, ?_⟩)
      subst c2
      refine hY.un ?_
      unfold uC
      by_cases z : K a = 3
      · rw [if_pos z]; exact Or.inl ⟨rfl, hV z⟩
      · rw [if_neg z]
        rcases u1 with u1 | u1
        · exact absurd u1 z
        · exact Or.inr ⟨rfl, by show K a - 17 < 7; omega⟩
    · have df : due = false := by cases due with
        | true => exact absurd rfl c2
        | false => rfl
      subst df
      rw [if_neg c2] at h0 ⊢
      rw [if_neg c2]
      by_cases c3 : K a = 32 ∧ 0 < o
      · have c3' : K (a, 0).1 = 32 ∧ 0 < o := c3
        rw [if_pos c3'] at h0 ⊢
        rw [if_pos c3]
        have g1 := gp_ok (gE_z h0)
        obtain ⟨W', e1, e2⟩ := hY.cl c3.2
        refine Or.inr (Or.inr (Or.inl ⟨rfl, c3.1, c3.2, g1.2.2.2.1, by rw [g1.2.2.2.2], W', e1, by rw [e1]; rfl, e2⟩))
      · have c3' : ¬ (K (a, 0).1 = 32 ∧ 0 < o) := c3
        rw [if_neg c3'] at h0 ⊢
        rw [if_neg c3]
        by_cases c5 : 26 ≤ K a ∧ K a ≤ 29
        · have c5' : 26 ≤ K (a, 0).1 ∧ K (a, 0).1 ≤ 29 := c5
          rw [if_pos c5'] at h0 ⊢
          rw [if_pos c5]
          have g1 := gp_ok (gE_z h0)
          exact Or.inr (Or.inr (Or.inr (Or.inl ⟨rfl, c5, g1.2.2.2.1, by rw [g1.2.2.2.2], rfl, hY.bi c5⟩)))
        · have c5' : ¬ (26 ≤ K (a, 0).1 ∧ K (a, 0).1 ≤ 29) := c5
          rw [if_neg c5'] at h0 ⊢
          rw [if_neg c5]
          by_cases c6 : o = 0
          · rw [if_pos c6]
            subst c6
            exact Or.inr (Or.inr (Or.inr (Or.inr ⟨rfl, rfl, c5, rfl, rfl, hY⟩)))
          · rw [if_neg c6] at h0; exact absurd (show 1 = 0 from h0) (by decide)
