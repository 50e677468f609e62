/-! LAWS, pure: codes written behind one another, branches -/
abbrev Cd : Type := List (Nat × Nat)
abbrev Br : Type := Bool × Cd × Cd × Cd
def cop (k : Nat) (a b : Int32) : Int32 := if k = 2 then a + b else if k = 3 then a - b else if k = 4 then a * b else a / b
def bin (k : Nat) : List Int32 → Option (List Int32)
  | b :: a :: st => if k = 5 ∧ b = 0 then none else some (cop k a b :: st)
  | _ => none
def run (V : Row) : Cd → List Int32 → Option (List Int32)
  | [], st => some st
  | q :: c, st => if q.1 = 0 then run V c (nI q.2 :: st) else if q.1 = 1 then run V c (V q.2 :: st) else match bin q.1 st with
    | some st' => run V c st'
    | none => none
theorem bin_n {k : Nat} {y x : Int32} {tl : List Int32} (h : k = 5 ∧ y = 0) : bin k (y :: x :: tl) = none := by rw [bin, if_pos h]
theorem bin_s {k : Nat} {y x : Int32} {tl : List Int32} (h : ¬ (k = 5 ∧ y = 0)) : bin k (y :: x :: tl) = some (cop k x y :: tl) := by rw [bin, if_neg h]
def ev (V : Row) (c : Cd) : Option Int32 := match run V c [] with
  | some (w :: _) => some w
  | _ => none
/-- in order: from a height to another, and never above M -/
def wfc (M : Nat) : Cd → Nat → Nat → Prop
  | [], h, f => h = f
  | q :: c, h, f => (((q.1 = 0 ∧ q.2 ≤ 9999) ∨ (q.1 = 1 ∧ q.2 < 7)) ∧ h < M ∧ wfc M c (h + 1) f) ∨ (2 ≤ q.1 ∧ q.1 ≤ 5 ∧ 2 ≤ h ∧ wfc M c (h - 1) f)
theorem wfc_app {M : Nat} {c2 : Cd} {m f : Nat} (h2 : wfc M c2 m f) : ∀ (c1 : Cd) (h : Nat), wfc M c1 h m → wfc M (c1 ++ c2) h f
  | [], h, h1 => by have : h = m := h1; rw [this]; exact h2
  | q :: c, h, h1 => by
    rcases h1 with ⟨a, b, d⟩ | ⟨a, b, d, k⟩
    · exact Or.inl ⟨a, b, wfc_app h2 c _ d⟩
    · exact Or.inr ⟨a, b, d, wfc_app h2 c _ k⟩
theorem wfc_up {M N : Nat} (hMN : M ≤ N) : ∀ (c : Cd) (h f j : Nat), j + M ≤ N → wfc M c h f → wfc N c (h + j) (f + j)
  | [], h, f, j, _, h1 => by have : h = f := h1; rw [this]; rfl
  | q :: c, h, f, j, hj, h1 => by
    rcases h1 with ⟨a, b, d⟩ | ⟨a, b, d, k⟩
    · refine Or.inl ⟨a, by omega, ?_⟩
      have := wfc_up hMN c _ f j hj d
      rwa [show h + 1 + j = h + j + 1 by omega] at this
    · refine Or.inr ⟨a, b, by omega, ?_⟩
      have := wfc_up hMN c _ f j hj k
      rwa [show h - 1 + j = h + j - 1 by omega] at this
theorem run_len {V : Row} {M : Nat} : ∀ (c : Cd) (st : List Int32) (f : Nat), wfc M c st.length f → ∀ st', run V c st = some st' → st'.length = f
  | [], st, f, h, st', e => by
    have e' : st = st' := by injection e
    rw [← e']; exact h
  | q :: c, st, f, h, st', e => by
    rw [run] at e
    rcases h with ⟨a, b, d⟩ | ⟨a, b, d, k⟩
    · rcases a with ⟨a, _⟩ | ⟨a, _⟩
      · rw [if_pos a] at e; exact run_len c (nI q.2 :: st) f d st' e
      · rw [if_neg (by omega), if_pos a] at e; exact run_len c (V q.2 :: st) f d st' e
    · rw [if_neg (by omega), if_neg (by omega)] at e
      match st, d, k, e with
      | y :: x :: tl, d, k, e =>
        by_cases z : q.1 = 5 ∧ y = 0
        · rw [bin_n z] at e; exact absurd e (by simp)
        · rw [bin_s z] at e
          refine run_len (M := M) c (cop q.1 x y :: tl) f ?_ st' e
          simpa using k
theorem run_app {V : Row} {M : Nat} (tl : List Int32) : ∀ (c : Cd) (st : List Int32) (f : Nat), wfc M c st.length f → run V c (st ++ tl) = (run V c st).map (· ++ tl)
  | [], st, f, h => rfl
  | q :: c, st, f, h => by
    rw [run, run]
    rcases h with ⟨a, b, d⟩ | ⟨a, b, d, k⟩
    · rcases a with ⟨a, _⟩ | ⟨a, _⟩
      · rw [if_pos a, if_pos a]; exact run_app tl c (nI q.2 :: st) f d
      · rw [if_neg (by omega), if_pos a, if_neg (by omega), if_pos a]; exact run_app tl c (V q.2 :: st) f d
    · rw [if_neg (by omega), if_neg (by omega), if_neg (by omega), if_neg (by omega)]
      match st, d, k with
      | y :: x :: tl', d, k =>
        rw [List.cons_append, List.cons_append]
        by_cases e : q.1 = 5 ∧ y = 0
        · rw [bin_n e, bin_n e]; rfl
        · rw [bin_s e, bin_s e]
          exact run_app tl c (cop q.1 x y :: tl') f (by simpa using k)
theorem run_cat {V : Row} (c2 : Cd) : ∀ (c1 : Cd) (st : List Int32), run V (c1 ++ c2) st = (run V c1 st).bind (run V c2)
  | [], st => rfl
  | q :: c, st => by
    rw [List.cons_append, run, run]
    split
    · exact run_cat c2 c _
    · split
      · exact run_cat c2 c _
      · rcases bin q.1 st with _ | st'
        · rfl
        · exact run_cat c2 c _
theorem run_cg {V V' : Row} {M : Nat} (hV : ∀ i, i < 7 → V i = V' i) : ∀ (c : Cd) (st : List Int32) (h f : Nat), wfc M c h f → run V c st = run V' c st
  | [], st, h, f, _ => rfl
  | q :: c, st, h, f, w => by
    rw [run, run]
    rcases w with ⟨a, b, d⟩ | ⟨a, b, d, k⟩
    · rcases a with ⟨a, _⟩ | ⟨a, a2⟩
      · rw [if_pos a, if_pos a]; exact run_cg hV c _ _ f d
      · rw [if_neg (by omega), if_pos a, if_neg (by omega), if_pos a, hV _ a2]; exact run_cg hV c _ _ f d
    · rw [if_neg (by omega), if_neg (by omega), if_neg (by omega), if_neg (by omega)]
      rcases bin q.1 st with _ | st'
      · rfl
      · exact run_cg hV c _ _ f k
theorem ev_some {V : Row} {M : Nat} {c : Cd} (h : wfc M c 0 1) {w : Int32} (e : ev V c = some w) : run V c [] = some [w] := by
  rw [ev] at e
  split at e
  · rename_i x tl hr
    have hl := run_len c [] 1 h _ hr
    have : tl = [] := by simpa using hl
    rw [hr, this]
    injection e with e
    rw [e]
  · exact absurd e (by simp)
theorem ev_none {V : Row} {M : Nat} {c : Cd} (h : wfc M c 0 1) (e : ev V c = none) : run V c [] = none := by
  rw [ev] at e
  split at e
  · exact absurd e (by simp)
  · rename_i hn
    rcases hr : run V c [] with _ | st
    · rfl
    · have hl := run_len c [] 1 h _ hr
      match st, hl with
      | [x], _ => exact absurd hr (hn x [])
theorem ev_cg {V V' : Row} {M : Nat} {c : Cd} (hV : ∀ i, i < 7 → V i = V' i) (h : wfc M c 0 1) : ev V c = ev V' c := by
  rw [ev, ev, run_cg hV c [] 0 1 h]
def wfb (q : Br) : Prop := (q.1 = true → wfc 31 q.2.1 0 1 ∧ wfc 31 q.2.2.1 0 1) ∧ wfc 31 q.2.2.2 0 1
def lawV (V : Row) : List Br → Int32
  | [] => 0
  | q :: rest => if q.1 = true then (match ev V q.2.1, ev V q.2.2.1 with
      | some v, some u => if v < u then (ev V q.2.2.2).getD 0 else lawV V rest
      | _, _ => 0) else (ev V q.2.2.2).getD 0
def wfl (l : List Br) : Prop := ∀ q, q ∈ l → wfb q
def unt (k : Nat) : Int32 := if k = 0 then 5 else 0
def lawOf (ld : Nat → List Br) (k : Nat) (V : Row) : Int32 := if ld k = [] then unt k else lawV V (ld k)
theorem lawV_cg {V V' : Row} (hV : ∀ i, i < 7 → V i = V' i) : ∀ (l : List Br), wfl l → lawV V l = lawV V' l
  | [], _ => rfl
  | q :: rest, h => by
    have hq := h q (List.mem_cons_self ..)
    have ih := lawV_cg hV rest (fun x hx => h x (List.mem_cons_of_mem _ hx))
    rw [lawV, lawV, ih, ev_cg hV hq.2]
    by_cases e : q.1 = true
    · rw [if_pos e, if_pos e, ev_cg hV (hq.1 e).1, ev_cg hV (hq.1 e).2]
    · rw [if_neg e, if_neg e]
/-- a pile, its top first -/
def PL (P : Row) : List Int32 → Prop
  | [] => True
  | x :: st => P st.length = x ∧ PL P st
theorem PL.up {P : Row} {j : Nat} {v : Int32} : ∀ (st : List Int32), st.length ≤ j → PL P st → PL (upd P j v) st
  | [], _, _ => trivial
  | x :: st, h, hp => ⟨by rw [upd_n _ _ (by simp at h; omega)]; exact hp.1, PL.up st (by simp at h; omega) hp.2⟩
theorem PL.push {P : Row} {v : Int32} {st : List Int32} (h : PL P st) : PL (upd P st.length v) (v :: st) := ⟨upd_s _ _ _, PL.up st (Nat.le_refl _) h⟩
/-- codes as the reference holds them -/
def RC (A B : Row) : Nat → Cd → Prop
  | _, [] => True
  | i, q :: c => A i = nI q.1 ∧ B i = nI q.2 ∧ RC A B (i + 1) c
theorem RC.app {A B : Row} : ∀ (c1 c2 : Cd) (i : Nat), RC A B i c1 → RC A B (i + c1.length) c2 → RC A B i (c1 ++ c2)
  | [], _, _, _, h => h
  | q :: c, c2, i, h, h2 => ⟨h.1, h.2.1, RC.app c c2 (i + 1) h.2.2 (by rw [show i + 1 + c.length = i + (q :: c).length by simp; omega]; exact h2)⟩
theorem RC.up {A B A' B' : Row} : ∀ (c : Cd) (i : Nat), (∀ j, i ≤ j → j < i + c.length → A' j = A j ∧ B' j = B j) → RC A B i c → RC A' B' i c
  | [], _, _, _ => trivial
  | q :: c, i, h, k => ⟨by rw [(h i (Nat.le_refl _) (by simp)).1]; exact k.1, by rw [(h i (Nat.le_refl _) (by simp)).2]; exact k.2.1, RC.up c (i + 1) (fun j h1 h2 => h j (by omega) (by simp; omega)) k.2.2⟩
def RB (s : MS) (b : Nat) (q : Br) : Prop := ∃ i1 i2 i3 i4 : Nat, s.1 155 b = nI i3 ∧ s.1 156 b = nI i4 ∧ i4 = i3 + q.2.2.2.length ∧ i4 ≤ 840 ∧ RC (s.1 157) (s.1 158) i3 q.2.2.2 ∧ (q.1 = false → s.1 152 b = 0) ∧ (q.1 = true → s.1 152 b = 1 ∧ s.1 153 b = nI i1 ∧ s.1 154 b = nI i2 ∧ i2 = i1 + q.2.1.length ∧ i3 = i2 + q.2.2.1.length ∧ RC (s.1 157) (s.1 158) i1 q.2.1 ∧ RC (s.1 157) (s.1 158) i2 q.2.2.1)
def RL (s : MS) : Nat → List Br → Prop
  | _, [] => True
  | b, q :: l => RB s b q ∧ RL s (b + 1) l
def RLaw (s : MS) (lv k : Nat) (l : List Br) : Prop := ∃ f, s.1 150 (3 * lv + k) = nI f ∧ s.1 151 (3 * lv + k) = nI (f + l.length) ∧ f + l.length ≤ 260 ∧ RL s f l ∧ wfl l
theorem RB.mv {s u : MS} (h : ∀ a, 150 ≤ a → a < 159 → u.1 a = s.1 a) {b : Nat} {q : Br} (k : RB s b q) : RB u b q := by
  unfold RB at *
  rw [h 152 (by omega) (by omega), h 153 (by omega) (by omega), h 154 (by omega) (by omega), h 155 (by omega) (by omega), h 156 (by omega) (by omega), h 157 (by omega) (by omega), h 158 (by omega) (by omega)]
  exact k
theorem RL.mv {s u : MS} (h : ∀ a, 150 ≤ a → a < 159 → u.1 a = s.1 a) : ∀ (l : List Br) (b : Nat), RL s b l → RL u b l
  | [], _, _ => trivial
  | _ :: l, b, k => ⟨k.1.mv h, RL.mv h l (b + 1) k.2⟩
theorem RLaw.mv {s u : MS} (h : ∀ a, 150 ≤ a → a < 159 → u.1 a = s.1 a) {lv k : Nat} {l : List Br} (q : RLaw s lv k l) : RLaw u lv k l := by
  obtain ⟨f, h1, h2, h3, h4, h5⟩ := q
  exact ⟨f, by rw [h 150 (by omega) (by omega)]; exact h1, by rw [h 151 (by omega) (by omega)]; exact h2, h3, RL.mv h l f h4, h5⟩
/-- what a term changes -/
def FrT (s u : MS) : Prop := (∀ a, a ≠ 161 → a ≠ 120 → u.1 a = s.1 a) ∧ (∀ j, j ≠ 58 → u.1 120 j = s.1 120 j) ∧ u.2 = s.2
theorem FrT.rf (s : MS) : FrT s s := ⟨fun _ _ _ => rfl, fun _ _ => rfl, rfl⟩
theorem FrT.tr {s u v : MS} (h : FrT s u) (k : FrT u v) : FrT s v := ⟨fun a h1 h2 => (k.1 a h1 h2).trans (h.1 a h1 h2), fun j hj => (k.2.1 j hj).trans (h.2.1 j hj), k.2.2.trans h.2.2⟩
theorem FrT.w161 {s : MS} {k : Nat} {v : Int32} : FrT s (wi s 161 k v) := ⟨fun a h1 _ => wi_n s k v h1, fun j _ => by rw [wi_n s k v (by decide)], rfl⟩
theorem FrT.w58 {s : MS} {v : Int32} : FrT s (wi s 120 58 v) := ⟨fun a _ h2 => wi_n s 58 v h2, fun j hj => by rw [wi_s, upd_n _ _ hj], rfl⟩
theorem FrT.A {s u : MS} (h : FrT s u) : FrA s u := ⟨fun a _ _ _ h4 h5 => h.1 a h4 h5, h.2.1, h.2.2⟩
section Term
variable {E : EN} {g : GS}
theorem l_Mo_termOf {s : MS} {R : Int32 → MS → Prop} (hS : SX g) {to : Nat} (hto : to ≤ 840) (x1 : Int32) {T : Option (List Int32)}
    (h : ∀ u y, FrT s u → ((∀ w, T = some [w] → y = w ∧ u.1 120 58 = s.1 120 58) ∧ (T = none → y = 0 ∧ u.1 120 58 = 1)) → R y u) : ∀ (c : Cd) (i : Nat) (st : List Int32) (u : MS), i + c.length = to → st.length ≤ 400 → RC (s.1 157) (s.1 158) i c → wfc 400 c st.length 1 → PL (u.1 161) st → run (s.1 160) c st = T → FrT s u → u.1 120 58 = s.1 120 58 → AWP E m_Mo_termOf 5 0 0 [(0, .ref 120), (1, .int x1), (2, .int (nI to)), (3, .int (nI st.length)), (4, .int (nI i))] [] (mk g u) (qI g R)
  | [], i, st, u, hi, hst, _, hw, hp, hr, hF, h58 => by
    have hi' : i = to := by simpa using hi
    have hl : st.length = 1 := hw
    refine v_Mo_termOf_5 x1 _ _ _ hS ⟨fun _ => GI.r (h u _ hF ⟨fun w e => ?_, fun e => ?_⟩), fun q => absurd (nI_le (by omega) (by omega)) q⟩
    · have e2 : some st = some [w] := hr.trans e
      injection e2 with e2
      rw [e2] at hp
      exact ⟨hp.1, h58⟩
    · have e2 : some st = none := hr.trans e
      exact absurd e2 (by simp)
  | q :: c, i, st, u, hi, hst, hc, hw, hp, hr, hF, h58 => by
    have hi' : i + c.length + 1 = to := by rw [← hi]; simp; omega
    have a157 : u.1 157 i = nI q.1 := by rw [hF.1 157 (by decide) (by decide)]; exact hc.1
    have a158 : u.1 158 i = nI q.2 := by rw [hF.1 158 (by decide) (by decide)]; exact hc.2.1
    have a160 : u.1 160 = s.1 160 := hF.1 160 (by decide) (by decide)
    refine v_Mo_termOf_5 x1 (nI to) (nI st.length) (nI i) hS ?_
    simp only [tn_n (show i < 2 ^ 31 by omega), a157, a158, a160, nI_1]
    rw [run] at hr
    refine ⟨fun z => absurd z (nI_ge (by omega) (by omega)), fun _ => ⟨vp_in_nI (by omega) (by omega), fun c2 => ?_, fun c2 => ?_⟩⟩
    · have hq2 : 2 ≤ q.1 := by
        rcases hw with ⟨⟨a, -⟩ | ⟨a, -⟩, -⟩ | ⟨a, -⟩
        · rw [a] at c2; exact absurd c2 (by decide)
        · rw [a] at c2; exact absurd c2 (by decide)
        · exact a
      rw [if_neg (by omega), if_neg (by omega)] at hr
      obtain ⟨hq5, hl2, hw'⟩ : q.1 ≤ 5 ∧ 2 ≤ st.length ∧ wfc 400 c (st.length - 1) 1 := by
        rcases hw with ⟨⟨a, -⟩ | ⟨a, -⟩, -⟩ | ⟨-, b, d, k⟩
        · omega
        · omega
        · exact ⟨b, d, k⟩
      match st, hl2, hst, hw', hp, hr with
      | y :: x :: tl, hl2, hst, hw', hp, hr =>
        have e1 : nI (y :: x :: tl).length + (-1) = nI (tl.length + 1) := pk_m1 _
        have e2 : nI (tl.length + 1) - 1 = nI tl.length := nI_pred _
        have hl400 : tl.length + 2 ≤ 400 := hst
        have hp1 : u.1 161 (tl.length + 1) = y := hp.1
        have hp2 : u.1 161 tl.length = x := hp.2.1
        have next : ∀ (v : Int32) (u1 : MS), u1 = wi u 161 tl.length v → v = cop q.1 x y → ¬ (q.1 = 5 ∧ y = 0) → AWP E m_Mo_termOf 5 0 0 [(0, .ref 120), (1, .int x1), (2, .int (nI to)), (3, .int (nI (tl.length + 1))), (4, .int (nI (i + 1)))] [] (mk g u1) (qI g R) := by
          intro v u1 eu ev hn
          rw [bin_s hn] at hr
          refine l_Mo_termOf hS hto x1 h c (i + 1) (cop q.1 x y :: tl) u1 (by omega) (by simp; omega) hc.2.2 (by simpa using hw') ?_ hr ?_ ?_
          · rw [eu, wi_s, ev]; exact hp.2.2.push
          · rw [eu]; exact hF.tr FrT.w161
          · rw [eu, wi_n _ _ _ (by decide)]; exact h58
        rw [e1, e2]
        simp only [tn_n (show tl.length < 2 ^ 31 by omega), tn_n (show tl.length + 1 < 2 ^ 31 by omega), hp1, hp2]
        refine ⟨vp_in_nI (by omega) (by omega), vp_in_nI (by omega) (by omega), fun c5 => ?_, fun c5 => ?_⟩
        · have q5 : q.1 = 5 := (nI_eq (b := 5) (by omega) (by omega)).mp c5
          refine ⟨fun cy u1 eu => GI.r (h u1 0 (by rw [eu]; exact hF.tr FrT.w58) ⟨fun w e => ?_, fun _ => ⟨rfl, by rw [eu, wi_s, upd_s]⟩⟩), fun cy => ?_⟩
          · rw [bin_n (show q.1 = 5 ∧ y = 0 from ⟨q5, cy⟩), e] at hr
            exact absurd hr (by simp)
          · rw [q5]
            refine ⟨fun z => absurd z (by decide), fun _ => ⟨fun z => absurd z (by decide), fun _ => ⟨fun z => absurd z (by decide), fun _ => ⟨cy, fun u1 eu => next _ u1 eu ?_ (fun z => cy z.2)⟩⟩⟩⟩
            rw [q5]; rfl
        · have q5 : ¬ q.1 = 5 := fun z => c5 (by rw [z]; rfl)
          refine ⟨fun z u1 eu => next _ u1 eu ?_ (fun w => q5 w.1), fun z2 => ⟨fun z u1 eu => next _ u1 eu ?_ (fun w => q5 w.1), fun z3 => ⟨fun z u1 eu => next _ u1 eu ?_ (fun w => q5 w.1), fun z4 => ?_⟩⟩⟩
          · rw [(nI_eq (b := 2) (by omega) (by omega)).mp z]; rfl
          · rw [(nI_eq (b := 3) (by omega) (by omega)).mp z]; rfl
          · rw [(nI_eq (b := 4) (by omega) (by omega)).mp z]; rfl
          · have : q.1 = 2 ∨ q.1 = 3 ∨ q.1 = 4 ∨ q.1 = 5 := by omega
            rcases this with w | w | w | w
            · exact absurd (by rw [w]; rfl) z2
            · exact absurd (by rw [w]; rfl) z3
            · exact absurd (by rw [w]; rfl) z4
            · exact absurd w q5
    · have hq2 : q.1 < 2 := by
        rcases hw with ⟨⟨a, -⟩ | ⟨a, -⟩, -⟩ | ⟨a, b, -⟩
        · omega
        · omega
        · exact absurd (nI_le a (by omega)) c2
      obtain ⟨hqv, hl, hw'⟩ : ((q.1 = 0 ∧ q.2 ≤ 9999) ∨ (q.1 = 1 ∧ q.2 < 7)) ∧ st.length < 400 ∧ wfc 400 c (st.length + 1) 1 := by
        rcases hw with a | ⟨a, -⟩
        · exact a
        · omega
      rw [tn_n (show st.length < 2 ^ 31 by omega)]
      refine ⟨fun z => ⟨vp_in_nI (by omega) (by omega), fun u1 eu => ?_⟩, fun z => ?_⟩
      · have q0 : q.1 = 0 := (nI_eq (b := 0) (by omega) (by omega)).mp z
        rw [if_pos q0] at hr
        refine l_Mo_termOf hS hto x1 h c (i + 1) (nI q.2 :: st) u1 (by omega) (by simp; omega) hc.2.2 hw' (by rw [eu, wi_s]; exact hp.push) hr (by rw [eu]; exact hF.tr FrT.w161) (by rw [eu, wi_n _ _ _ (by decide)]; exact h58)
      · have q0 : ¬ q.1 = 0 := fun w => z (by rw [w]; rfl)
        have q1 : q.1 = 1 := by omega
        rw [if_neg q0, if_pos q1] at hr
        have q7 : q.2 < 7 := by omega
        rw [tn_n (show q.2 < 2 ^ 31 by omega)]
        refine ⟨vp_in_nI q7 (by omega), vp_in_nI (by omega) (by omega), fun u1 eu => ?_⟩
        exact l_Mo_termOf hS hto x1 h c (i + 1) (s.1 160 q.2 :: st) u1 (by omega) (by simp; omega) hc.2.2 hw' (by rw [eu, wi_s]; exact hp.push) hr (by rw [eu]; exact hF.tr FrT.w161) (by rw [eu, wi_n _ _ _ (by decide)]; exact h58)
theorem f_Mo_termOf {s : MS} {R : Int32 → MS → Prop} (hS : SX g) {i to : Nat} {c : Cd} (hto : to ≤ 840) (hi : to = i + c.length) (hc : RC (s.1 157) (s.1 158) i c) (hw : wfc 31 c 0 1)
    (h : ∀ u y, FrT s u → ((∀ w, ev (s.1 160) c = some w → y = w ∧ u.1 120 58 = s.1 120 58) ∧ (ev (s.1 160) c = none → y = 0 ∧ u.1 120 58 = 1)) → R y u) : GI E m_Mo_termOf [.ref 120, .int (nI i), .int (nI to)] g s R := by
  have hw4 : wfc 400 c 0 1 := wfc_up (by omega) c 0 1 0 (by omega) hw
  refine v_Mo_termOf (Q := qI g R) _ _ (l_Mo_termOf hS hto (nI i) (T := run (s.1 160) c []) (fun u y hF hy => h u y hF ⟨fun w e => hy.1 w (ev_some hw e), fun e => hy.2 (ev_none hw e)⟩) c i [] s hi.symm (by simp) hc hw4 trivial rfl (FrT.rf s) rfl)
theorem l_Mo_tells {s : MS} {R : Int32 → MS → Prop} (hS : SX g) {at_ to : Nat} (hat : at_ < 6) (hto : to ≤ 260) (h151 : s.1 151 at_ = nI to) (x1 x2 x3 x4 lo hi x8 : Int32) {T : Int32} (h0 : ∀ u, FrT s u → R (hold T lo hi) u) : ∀ (l : List Br) (f : Nat) (u : MS), f + l.length = to → RL s f l → wfl l → lawV (s.1 160) l = T → FrT s u → u.1 120 58 = 0 → AWP E m_Mo_tells 173 0 0 [(0, .ref 120), (1, .int x1), (2, .int x2), (3, .int x3), (4, .int x4), (5, .int lo), (6, .int hi), (7, .int (nI at_)), (8, .int x8), (9, .int (nI f))] [] (mk g u) (qI g R)
  | [], f, u, hf, _, _, hT, hF, h58 => by
    have hf' : f = to := by simpa using hf
    refine v_Mo_tells_173 x1 x2 x3 x4 lo hi (nI at_) x8 (nI f) hS ⟨vp_in_nI hat (by omega), fun _ => f_Mo_held _ _ _ (GI.r ?_), fun q => absurd ?_ q⟩
    · rw [show (0 : Int32) = T from hT]; exact h0 u hF
    · rw [tn_lt6 hat, hF.1 151 (by decide) (by decide), h151]; exact nI_le (by omega) (by omega)
  | q :: l, f, u, hf, hL, hw, hT, hF, h58 => by
    have hf' : f + l.length + 1 = to := by rw [← hf]; simp; omega
    obtain ⟨⟨i1, i2, i3, i4, b3, b4, b5, b6, b7, b8, b9⟩, hL'⟩ := hL
    have hwq := hw q (List.mem_cons_self ..)
    have hw' : wfl l := fun x hx => hw x (List.mem_cons_of_mem _ hx)
    have v : ∀ (u : MS), FrT s u → ∀ a, 150 ≤ a → a < 161 → u.1 a = s.1 a := fun u hF a h1 h2 => hF.1 a (by omega) (by omega)
    -- the term of the branch
    have fin : ∀ (u : MS), FrT s u → u.1 120 58 = 0 → T = (ev (s.1 160) q.2.2.2).getD 0 → GI E m_Mo_termOf [.ref 120, .int (u.1 155 f), .int (u.1 156 f)] g u (fun y2_ t2_ => (((t2_.1 120 58) = 0 → GI E m_Mo_held [.int y2_, .int lo, .int hi] g t2_ (fun y3_ t3_ => qI g R (some (.int y3_)) (mk g t3_))) ∧ (¬ (t2_.1 120 58) = 0 → GI E m_Mo_held [.int 0, .int lo, .int hi] g t2_ (fun y4_ t4_ => qI g R (some (.int y4_)) (mk g t4_))))) := by
      intro u hF h58 hT
      rw [v u hF 155 (by omega) (by omega), v u hF 156 (by omega) (by omega), b3, b4]
      refine f_Mo_termOf hS b6 b5 (by rw [v u hF 157 (by omega) (by omega), v u hF 158 (by omega) (by omega)]; exact b7) hwq.2 (fun u2 y hF2 hy => ?_)
      rw [v u hF 160 (by omega) (by omega)] at hy
      have hF' := hF.tr hF2
      rcases he : ev (s.1 160) q.2.2.2 with _ | w
      · obtain ⟨y0, y1⟩ := hy.2 he
        rw [he] at hT
        rw [y1]
        exact ⟨fun z => absurd z (by decide), fun _ => f_Mo_held _ _ _ (GI.r (by rw [show (0 : Int32) = T from hT.symm]; exact h0 u2 hF'))⟩
      · obtain ⟨y0, y1⟩ := hy.1 w he
        rw [he] at hT
        rw [y1, h58]
        exact ⟨fun _ => f_Mo_held _ _ _ (GI.r (by rw [y0, show w = T from hT.symm]; exact h0 u2 hF')), fun z => absurd rfl z⟩
    refine v_Mo_tells_173 x1 x2 x3 x4 lo hi (nI at_) x8 (nI f) hS ?_
    rw [tn_lt6 hat, tn_n (show f < 2 ^ 31 by omega), v u hF 151 (by omega) (by omega), h151, v u hF 152 (by omega) (by omega), nI_1]
    refine ⟨vp_in_nI hat (by omega), fun z => absurd z (nI_ge (by omega) (by omega)), fun _ => ⟨vp_in_nI (by omega) (by omega), fun c => ⟨fun _ => ?_, fun z => absurd h58 z⟩, fun c => ?_⟩⟩
    · have hq : ¬ q.1 = true := fun z => by rw [(b9 z).1] at c; exact absurd c (by decide)
      rw [lawV, if_neg hq] at hT
      exact fin u hF h58 hT.symm
    · have hq : q.1 = true := by
        rcases z : q.1 with _ | _
        · exact absurd (b8 z) c
        · rfl
      obtain ⟨d1, d2, d3, d4, d5, d6, d7⟩ := b9 hq
      rw [lawV, if_pos hq] at hT
      rw [v u hF 153 (by omega) (by omega), v u hF 154 (by omega) (by omega), d2, d3]
      refine f_Mo_termOf hS (by omega) d4 (by rw [v u hF 157 (by omega) (by omega), v u hF 158 (by omega) (by omega)]; exact d6) (hwq.1 hq).1 (fun u2 y hF2 hy => ?_)
      rw [v u hF 160 (by omega) (by omega)] at hy
      have hF' := hF.tr hF2
      rw [v u2 hF' 154 (by omega) (by omega), v u2 hF' 155 (by omega) (by omega), d3, b3]
      refine f_Mo_termOf hS (by omega) d5 (by rw [v u2 hF' 157 (by omega) (by omega), v u2 hF' 158 (by omega) (by omega)]; exact d7) (hwq.1 hq).2 (fun u3 y3 hF3 hy3 => ?_)
      rw [v u2 hF' 160 (by omega) (by omega)] at hy3
      have hF'' := hF'.tr hF3
      have broken : T = 0 → u3.1 120 58 = 1 → ∀ (A B : Prop), ((u3.1 120 58 = 0 → A) ∧ (¬ u3.1 120 58 = 0 → GI E m_Mo_held [.int 0, .int lo, .int hi] g u3 (fun y5_ t5_ => qI g R (some (.int y5_)) (mk g t5_)))) := by
        intro hT0 h1 A B
        rw [h1]
        exact ⟨fun z => absurd z (by decide), fun _ => f_Mo_held _ _ _ (GI.r (by rw [← hT0]; exact h0 u3 hF''))⟩
      rcases he1 : ev (s.1 160) q.2.1 with _ | v1
      · rw [he1] at hT
        obtain ⟨-, y1⟩ := hy.2 he1
        have h31 : u3.1 120 58 = 1 := by
          rcases he2 : ev (s.1 160) q.2.2.1 with _ | v2
          · exact (hy3.2 he2).2
          · rw [(hy3.1 v2 he2).2]; exact y1
        exact ⟨fun _ => broken hT.symm h31 _ True, fun _ => broken hT.symm h31 _ True⟩
      · rcases he2 : ev (s.1 160) q.2.2.1 with _ | v2
        · rw [he1, he2] at hT
          have h31 := (hy3.2 he2).2
          exact ⟨fun _ => broken hT.symm h31 _ True, fun _ => broken hT.symm h31 _ True⟩
        · rw [he1, he2] at hT
          obtain ⟨y0, y1⟩ := hy.1 v1 he1
          obtain ⟨y2, y4⟩ := hy3.1 v2 he2
          have h30 : u3.1 120 58 = 0 := by rw [y4, y1]; exact h58
          rw [y0, y2]
          refine ⟨fun c2 => ⟨fun _ => ?_, fun z => absurd h30 z⟩, fun c2 => ⟨fun _ => fin u3 hF'' h30 ?_, fun z => absurd h30 z⟩⟩
          · simp only [if_neg (Int32.not_lt.mpr c2)] at hT
            exact l_Mo_tells hS hat hto h151 x1 x2 x3 x4 lo hi x8 h0 l (f + 1) u3 (by omega) hL' hw' hT hF'' h30
          · simp only [if_pos (Int32.not_le.mp c2)] at hT
            exact hT.symm
/-- what LAWS of the reference tell -/
theorem tells_ok {e : PE} {lv : Nat} {s : MS} {ld : Nat → List Br} (hS : SX g) (hE : EV0 e lv s) (hL : ∀ k, k < 3 → RLaw s lv k (ld k)) (hv : eLv e = lawOf ld) : TellsOK E g e s := by
  intro t hF k r much plain lo hi R hr hk h
  have hEt := hE.mv hF
  obtain ⟨h1, h2, ⟨h3, h3'⟩, ⟨h4, h4'⟩, ⟨h5, h5'⟩, h6, h7, h8, h9, h10⟩ := hEt
  have hk3 : k < 3 := by rcases hk with ⟨rfl, -⟩ | ⟨rfl, -⟩ | ⟨rfl, -⟩ <;> decide
  obtain ⟨f, l1, l2, l3, l4, l5⟩ := RLaw.mv (u := t) (fun a a1 a2 => hF.1 a (by omega) (by omega) (by omega) (by omega) (by omega)) (hL k hk3)
  have hr8 : r < 8 := by omega
  have hat : 3 * lv + k < 6 := by omega
  have iat : (3 : Int32) * nI lv + nI k = nI (3 * lv + k) := by rw [show (3 : Int32) = nI 3 from rfl, pk_mul, nI_add]
  have irt : (8 : Int32) * nI lv + nI r = nI (8 * lv + r) := by rw [show (8 : Int32) = nI 8 from rfl, pk_mul, nI_add]
  obtain ⟨w1, w2⟩ := h8 r hr
  refine v_Mo_tells (Q := qI g R) (nI k) (nI r) much plain lo hi hS ?_
  rw [h1, iat, irt, tn_lt6 hat, l1, l2, tn_n (show 8 * lv + r < 2 ^ 31 by omega), w1, tn_n (show lv < 2 ^ 31 by omega), tn_n (show eWh e r < 2 ^ 31 by omega), h6, h9, ix74 hr8, ix82 hr8, ix90 hr8, ix98 hr8]
  refine ⟨vp_in_nI hat (by omega), fun c => GI.r ?_, fun c => ?_⟩
  · have h00 : ld k = [] := by
      have := (nI_eq (show f < 2 ^ 31 by omega) (show f + (ld k).length < 2 ^ 31 by omega)).mp c
      exact List.eq_nil_of_length_eq_zero (by omega)
    have := h t (FrA.rf t) rfl rfl
    rw [hv, lawOf, if_pos h00] at this
    rcases hk with ⟨rfl, rfl, rfl, rfl⟩ | ⟨rfl, rfl, rfl, rfl⟩ | ⟨rfl, rfl, rfl, rfl⟩
    · exact this
    · exact this
    · exact this
  · have hne : ¬ ld k = [] := fun z => c (by rw [z]; rfl)
    -- behind the seven words
    have go : ∀ (u : MS) (d : Int32) (x8 : Int32), u.1 160 = upd (upd (upd (upd (upd (upd (upd (t.1 160) 0 (t.1 163 (74 + r))) 1 (t.1 163 (82 + r))) 2 much) 3 d) 4 (eFa e (eWh e r))) 5 (t.1 163 (90 + r))) 6 (t.1 163 (98 + r)) → d = (if eLa e - t.1 163 114 < 0 then 0 else eLa e - t.1 163 114) → FrA t u → u.1 163 = t.1 163 → u.1 165 = t.1 165 → u.1 120 58 = 0 → AWP E m_Mo_tells 173 0 0 [(0, .ref 120), (1, .int (nI k)), (2, .int (nI r)), (3, .int much), (4, .int plain), (5, .int lo), (6, .int hi), (7, .int (nI (3 * lv + k))), (8, .int x8), (9, .int (nI f))] [] (mk g u) (qI g R) := by
      intro u d x8 hu hd hFu hu1 hu2 hu3
      have m150 : ∀ a, 150 ≤ a → a < 159 → u.1 a = t.1 a := fun a a1 a2 => hFu.1 a (by omega) (by omega) (by omega) (by omega) (by omega)
      refine l_Mo_tells hS hat l3 (by rw [m150 151 (by omega) (by omega)]; exact l2) _ _ _ _ lo hi x8 (T := lawV (u.1 160) (ld k)) (fun w hw => ?_) (ld k) f u rfl (RL.mv m150 _ _ l4) l5 rfl (FrT.rf u) hu3
      have := h w (hFu.tr hw.A) (by rw [hw.1 163 (by decide) (by decide)]; exact hu1) (by rw [hw.1 165 (by decide) (by decide)]; exact hu2)
      rw [hv, lawOf, if_neg hne] at this
      rw [lawV_cg (V := u.1 160) (V' := pVars e r (t.1 163) much) ?_ _ l5]
      · exact this
      · intro i hi7
        rw [hu]
        match i, hi7 with
        | 0, _ => rfl
        | 1, _ => rfl
        | 2, _ => rfl
        | 3, _ => exact hd
        | 4, _ => rfl
        | 5, _ => rfl
        | 6, _ => rfl
    have fin : ∀ (d : Int32) (s1 s2 s3 s4 s5 s6 s7 s8 : MS), s1 = wi t 160 0 (t.1 163 (74 + r)) → s2 = wi s1 160 1 (t.1 163 (82 + r)) → s3 = wi s2 160 2 much → s4 = wi s3 160 3 d → s5 = wi s4 160 4 (eFa e (eWh e r)) → s6 = wi s5 160 5 (t.1 163 (90 + r)) → s7 = wi s6 160 6 (t.1 163 (98 + r)) → s8 = wi s7 120 58 0 → d = (if eLa e - t.1 163 114 < 0 then 0 else eLa e - t.1 163 114) → ∀ x8, AWP E m_Mo_tells 173 0 0 [(0, .ref 120), (1, .int (nI k)), (2, .int (nI r)), (3, .int much), (4, .int plain), (5, .int lo), (6, .int hi), (7, .int (nI (3 * lv + k))), (8, .int x8), (9, .int (nI f))] [] (mk g s8) (qI g R) := by
      intro d s1 s2 s3 s4 s5 s6 s7 s8 e1 e2 e3 e4 e5 e6 e7 e8 hd x8
      have o7 : ∀ a, a ≠ 160 → s7.1 a = t.1 a := fun a ha => by rw [e7, wi_n _ _ _ ha, e6, wi_n _ _ _ ha, e5, wi_n _ _ _ ha, e4, wi_n _ _ _ ha, e3, wi_n _ _ _ ha, e2, wi_n _ _ _ ha, e1, wi_n _ _ _ ha]
      refine go s8 d x8 ?_ hd ⟨fun a a1 a2 a3 a4 a5 => by rw [e8, wi_n _ _ _ a5, o7 a a3], fun j hj => by rw [e8, wi_s, upd_n _ _ hj, o7 120 (by decide)], by rw [e8, e7, e6, e5, e4, e3, e2, e1]; rfl⟩ (by rw [e8, wi_n _ _ _ (by decide), o7 _ (by decide)]) (by rw [e8, wi_n _ _ _ (by decide), o7 _ (by decide)]) (by rw [e8, wi_s, upd_s])
      rw [e8, wi_n _ _ _ (by decide), e7, wi_s, e6, wi_s, e5, wi_s, e4, wi_s, e3, wi_s, e2, wi_s, e1, wi_s]
    refine ⟨vp_in_nI h2 (by omega), vi74 hr8, fun s1 e1 => ⟨vi82 hr8, fun s2 e2 s3 e3 => ⟨fun cd s4 e4 => ⟨vp_in_nI (by omega) (by omega), vp_in_nI (by omega) (by omega), fun s5 e5 => ⟨vi90 hr8, fun s6 e6 => ⟨vi98 hr8, fun s7 e7 s8 e8 => fin _ s1 s2 s3 s4 s5 s6 s7 s8 e1 e2 e3 e4 e5 e6 e7 e8 ?_ _⟩⟩⟩, fun cd s4 e4 => ⟨vp_in_nI (by omega) (by omega), vp_in_nI (by omega) (by omega), fun s5 e5 => ⟨vi90 hr8, fun s6 e6 => ⟨vi98 hr8, fun s7 e7 s8 e8 => fin _ s1 s2 s3 s4 s5 s6 s7 s8 e1 e2 e3 e4 e5 e6 e7 e8 ?_ _⟩⟩⟩⟩⟩⟩
    · rw [if_neg (Int32.not_lt.mpr cd)]
    · rw [if_pos (Int32.not_le.mp cd)]
end Term
