/-! CONSTRUCTORS -/
def kdN (a : Nat) : Nat × Nat := kdT (pmR a)
def okOn (a ci : Nat) : Bool := Nat.ble 16 a && (Nat.blt a 173 && (Nat.beq (kdN a).1 0 && Nat.beq (kdN a).2 ci))
def okAn (a t N : Nat) : Bool := Nat.ble 16 a && (Nat.blt a 173 && (Nat.beq (kdN a).1 (t + 1) && Nat.beq (kdN a).2 N))
def rSnL : List (Nat × Nat × Nat) := [(16, 0, 17), (18, 0, 19), (18, 1, 20), (18, 2, 21), (16, 1, 18), (22, 3, 23), (22, 0, 18), (16, 2, 22), (25, 0, 26), (25, 1, 27), (25, 2, 28), (28, 0, 29), (28, 1, 30), (28, 2, 31), (28, 3, 32), (28, 4, 33), (28, 5, 34), (28, 6, 35), (28, 7, 36), (24, 0, 25), (37, 0, 38), (37, 1, 39), (37, 2, 40), (40, 0, 41), (40, 1, 42), (40, 2, 43), (40, 3, 44), (40, 4, 45), (40, 5, 46), (40, 6, 47), (40, 7, 48), (24, 1, 37), (16, 5, 24), (49, 0, 50), (49, 1, 51), (49, 2, 52), (49, 3, 53), (49, 4, 54), (55, 0, 56), (55, 1, 57), (55, 2, 58), (58, 0, 59), (58, 1, 60), (58, 2, 61), (58, 3, 62), (58, 4, 63), (58, 5, 64), (58, 6, 65), (58, 7, 66), (49, 5, 55), (16, 6, 49), (67, 0, 68), (67, 1, 69), (67, 2, 70), (70, 0, 71), (70, 1, 72), (70, 2, 73), (70, 3, 74), (70, 4, 75), (70, 5, 76), (70, 6, 77), (70, 7, 78), (16, 7, 67), (16, 8, 79), (16, 9, 80), (81, 0, 82), (81, 1, 83), (81, 2, 84), (81, 3, 85), (81, 4, 86), (81, 5, 87), (81, 6, 88), (81, 7, 89), (81, 8, 90), (81, 9, 91), (92, 0, 93), (92, 1, 94), (92, 2, 95), (92, 3, 96), (81, 10, 92), (16, 10, 81), (97, 0, 98), (97, 1, 99), (97, 2, 100), (97, 3, 101), (97, 4, 102), (97, 5, 103), (97, 6, 104), (97, 7, 105), (97, 8, 106), (97, 9, 107), (108, 0, 109), (108, 1, 110), (108, 2, 111), (108, 3, 112), (97, 10, 108), (16, 11, 97), (113, 0, 114), (113, 1, 115), (113, 2, 116), (113, 4, 18), (113, 5, 97), (16, 3, 113), (117, 1, 118), (117, 3, 119), (117, 0, 81), (16, 4, 117)]
def rSn (i : Nat) : Nat × Nat × Nat := rSnL.getD i (0, 0, 0)
theorem rSn_inj : ∀ i, i < 107 → ∀ j, j < i → ¬ ((rSn j).1 = (rSn i).1 ∧ (rSn j).2.1 = (rSn i).2.1) := by decide +kernel
/-- how far the cells are made, and which references stand -/
def GPn (n i : Nat) (g : GS) : Prop := g.1 = n ∧ (∀ a, 16 ≤ a → a < n → g.2.1 a = kdN a) ∧ (∀ j, j < i → g.2.2 (rSn j).1 (rSn j).2.1 = some (rSn j).2.2 ∧ (rSn j).1 < n) ∧ g.2.1 1 = (1, 3) ∧ (∀ f, 79 < n → g.2.2 79 f = none) ∧ (∀ f, 80 < n → g.2.2 80 f = none)
theorem GPn.new {n i m : Nat} {g : GS} {kd : Nat × Nat} (h : GPn n i g) (hm : n + 1 = m) (e : kdN n = kd) (h16 : 16 ≤ n) : GPn m i (gn g kd) := by
  subst hm
  obtain ⟨h1, h2, h3, h4, h5, h6⟩ := h
  refine ⟨by rw [gn_1, h1], fun a a1 a2 => ?_, fun j hj => ⟨?_, ?_⟩, ?_, fun f hf => ?_, fun f hf => ?_⟩
  · rw [gn_k, h1]
    by_cases z : a = n
    · rw [if_pos z, z, e]
    · rw [if_neg z]; exact h2 a a1 (by omega)
  · have := (h3 j hj).2
    rw [gn_r, if_neg (by omega)]; exact (h3 j hj).1
  · have := (h3 j hj).2; omega
  · rw [gn_k, if_neg (by omega)]; exact h4
  · rw [gn_r, h1]
    by_cases z : 79 = n
    · rw [if_pos z]
    · rw [if_neg z]; exact h5 f (by omega)
  · rw [gn_r, h1]
    by_cases z : 80 = n
    · rw [if_pos z]
    · rw [if_neg z]; exact h6 f (by omega)
theorem GPn.dyn {n i a f : Nat} {g : GS} {b : Option Nat} (h : GPn n i g) (h8 : a ≠ 79 ∧ a ≠ 80) (hd : ∀ j, j < i → ¬ ((rSn j).1 = a ∧ (rSn j).2.1 = f)) : GPn n i (gr g a f b) := by
  obtain ⟨h1, h2, h3, h4, h5, h6⟩ := h
  refine ⟨h1, h2, fun j hj => ⟨?_, (h3 j hj).2⟩, h4, fun f' hf => ?_, fun f' hf => ?_⟩
  · rw [gr_rf, if_neg (hd j hj)]; exact (h3 j hj).1
  · rw [gr_rf, if_neg (fun w => h8.1 w.1.symm)]; exact h5 f' hf
  · rw [gr_rf, if_neg (fun w => h8.2 w.1.symm)]; exact h6 f' hf
theorem GPn.put {n i i' a f b : Nat} {g : GS} (h : GPn n i g) (hm : i + 1 = i') (e : rSn i = (a, f, b)) (ha : a < n) (h8 : a ≠ 79 ∧ a ≠ 80) (hi : i < 107) : GPn n i' (gr g a f (some b)) := by
  subst hm
  have e1 : (rSn i).1 = a := by rw [e]
  have e2 : (rSn i).2.1 = f := by rw [e]
  have e3 : (rSn i).2.2 = b := by rw [e]
  have d := h.dyn (b := some b) h8 (fun j hj w => rSn_inj i hi j hj ⟨by rw [e1]; exact w.1, by rw [e2]; exact w.2⟩)
  refine ⟨d.1, d.2.1, fun j hj => ?_, d.2.2.2⟩
  by_cases z : j = i
  · subst z
    rw [e1, e2, e3, gr_rf, if_pos ⟨rfl, rfl⟩]; exact ⟨rfl, ha⟩
  · exact d.2.2.1 j (by omega)
theorem GPn.og {n i a ci : Nat} {g : GS} (h : GPn n i g) (e : okOn a ci = true) (ha : a < n) : OG g a ci := by
  simp only [okOn, Bool.and_eq_true, Nat.ble_eq, Nat.blt_eq, Nat.beq_eq] at e
  obtain ⟨h1, h2, h3, h4⟩ := e
  exact ⟨by rw [h.2.1 a h1 ha]; exact Prod.ext h3 h4, h1, by rw [h.1]; exact ha⟩
theorem GPn.ag {n i a t N : Nat} {g : GS} (h : GPn n i g) (e : okAn a t N = true) (ha : a < n) : AG g a t N := by
  simp only [okAn, Bool.and_eq_true, Nat.ble_eq, Nat.blt_eq, Nat.beq_eq] at e
  obtain ⟨h1, h2, h3, h4⟩ := e
  exact ⟨by rw [h.2.1 a h1 ha]; exact Prod.ext h3 h4, h1, by rw [h.1]; exact ha⟩
theorem GPn.house {i b n0 n i' : Nat} {g g' : GS} (h : GPn n0 i g) (P : PHi g b 8 g') (hn0 : n0 = b + 1) (hn : b + 12 = n) (hi' : i + 11 = i') (h16 : 16 ≤ b) (h8 : b < 68) (hi : i + 11 ≤ 107) (hj : ∀ j, j < i → (rSn j).1 < b) (hk : ∀ x, x < 12 → kdN (b + x) = if x = 0 then (0, 2) else if x = 1 then (1, 6) else if x = 2 then (1, 36) else if x = 3 then (7, 8) else (0, 6)) (hr : ∀ x, x < 11 → rSn (i + x) = if x < 3 then (b, x, b + 1 + x) else (b + 3, x - 3, b + 4 + (x - 3))) : GPn n i' g' := by
  subst hn0 hn hi'
  obtain ⟨h1, h2, h3, h4, h5, h6⟩ := h
  obtain ⟨p1, p2, p3, p4, p5, p6, p7, p8, p9, p10⟩ := P
  refine ⟨p1, fun a a1 a2 => ?_, fun j hj' => ?_, by rw [(p2 1 (by omega)).1]; exact h4, fun f hf => absurd hf (by omega), fun f hf => absurd hf (by omega)⟩
  · by_cases z : a < b
    · rw [(p2 a z).1]; exact h2 a a1 (by omega)
    · have hk' := hk (a - b) (by omega)
      rw [show b + (a - b) = a by omega] at hk'
      rw [hk']
      by_cases x0 : a - b = 0
      · rw [if_pos x0, show a = b by omega]; exact p3
      · rw [if_neg x0]
        by_cases x1 : a - b = 1
        · rw [if_pos x1, show a = b + 1 by omega]; exact p4
        · rw [if_neg x1]
          by_cases x2 : a - b = 2
          · rw [if_pos x2, show a = b + 2 by omega]; exact p5
          · rw [if_neg x2]
            by_cases x3 : a - b = 3
            · rw [if_pos x3, show a = b + 3 by omega]; exact p6
            · rw [if_neg x3]
              have := (p10 (a - b - 4) (by omega)).1
              rw [show b + 4 + (a - b - 4) = a by omega] at this; exact this
  · by_cases z : j < i
    · have := hj j z
      rw [(p2 (rSn j).1 this).2]; exact ⟨(h3 j z).1, by omega⟩
    · have hr' := hr (j - i) (by omega)
      rw [show i + (j - i) = j by omega] at hr'
      rw [hr']
      by_cases x3 : j - i < 3
      · rw [if_pos x3]
        have : j - i = 0 ∨ j - i = 1 ∨ j - i = 2 := by omega
        rcases this with w | w | w <;> rw [w]
        · exact ⟨p7, by show b < b + 12; omega⟩
        · exact ⟨p8, by show b < b + 12; omega⟩
        · exact ⟨p9, by show b < b + 12; omega⟩
      · rw [if_neg x3]
        exact ⟨(p10 (j - i - 3) (by omega)).2, by show b + 3 < b + 12; omega⟩
def rSL : List (Nat × Nat × Nat) := [(16, 0, 17), (18, 0, 19), (18, 1, 20), (18, 2, 21), (16, 1, 18), (22, 3, 23), (22, 0, 18), (16, 2, 22), (32, 0, 33), (32, 1, 34), (32, 2, 35), (35, 0, 36), (35, 1, 37), (35, 2, 38), (35, 3, 39), (35, 4, 40), (35, 5, 41), (35, 6, 42), (35, 7, 43), (31, 0, 32), (44, 0, 45), (44, 1, 46), (44, 2, 47), (47, 0, 48), (47, 1, 49), (47, 2, 50), (47, 3, 51), (47, 4, 52), (47, 5, 53), (47, 6, 54), (47, 7, 55), (31, 1, 44), (16, 5, 31), (56, 0, 57), (56, 1, 58), (56, 2, 59), (56, 3, 60), (56, 4, 61), (62, 0, 63), (62, 1, 64), (62, 2, 65), (65, 0, 66), (65, 1, 67), (65, 2, 68), (65, 3, 69), (65, 4, 70), (65, 5, 71), (65, 6, 72), (65, 7, 73), (56, 5, 62), (16, 6, 56), (74, 0, 75), (74, 1, 76), (74, 2, 77), (77, 0, 78), (77, 1, 79), (77, 2, 80), (77, 3, 81), (77, 4, 82), (77, 5, 83), (77, 6, 84), (77, 7, 85), (16, 7, 74), (16, 8, 86), (16, 9, 87), (88, 0, 89), (88, 1, 90), (88, 2, 91), (88, 3, 92), (88, 4, 93), (88, 5, 94), (88, 6, 95), (88, 7, 96), (88, 8, 97), (88, 9, 98), (99, 0, 100), (99, 1, 101), (99, 2, 102), (99, 3, 103), (88, 10, 99), (16, 10, 88), (104, 0, 105), (104, 1, 106), (104, 2, 107), (104, 3, 108), (104, 4, 109), (104, 5, 110), (104, 6, 111), (104, 7, 112), (104, 8, 113), (104, 9, 114), (115, 0, 116), (115, 1, 117), (115, 2, 118), (115, 3, 119), (104, 10, 115), (16, 11, 104), (24, 0, 25), (24, 1, 26), (24, 2, 27), (24, 4, 18), (24, 5, 104), (16, 3, 24), (28, 1, 29), (28, 3, 30), (28, 0, 88), (16, 4, 28), (120, 1, 121), (120, 3, 122), (120, 5, 123), (120, 6, 124), (120, 7, 125), (120, 8, 126), (120, 9, 127), (120, 21, 128), (120, 22, 129), (120, 23, 130), (120, 24, 131), (120, 25, 132), (120, 26, 133), (120, 27, 134), (120, 28, 135), (120, 29, 136), (120, 30, 137), (120, 31, 138), (120, 32, 139), (120, 33, 140), (120, 34, 141), (120, 35, 142), (120, 36, 143), (120, 37, 144), (120, 38, 145), (120, 39, 146), (120, 40, 147), (120, 41, 148), (120, 42, 149), (120, 43, 150), (120, 44, 151), (120, 46, 152), (120, 47, 153), (120, 48, 154), (120, 49, 155), (120, 50, 156), (120, 52, 157), (120, 53, 158), (120, 54, 159), (120, 56, 160), (120, 57, 161), (120, 59, 162), (120, 60, 163), (120, 62, 164), (120, 63, 165), (120, 65, 166), (120, 69, 167), (120, 70, 168), (120, 71, 169), (120, 72, 170), (120, 73, 171), (120, 74, 172)]
def rS (i : Nat) : Nat × Nat × Nat := rSL.getD i (0, 0, 0)
theorem rS_inj : ∀ i, i < 159 → ∀ j, j < i → ¬ ((rS j).1 = (rS i).1 ∧ (rS j).2.1 = (rS i).2.1) := by decide +kernel
/-- how far the cells are made, and which references stand -/
def GPs (n i : Nat) (g : GS) : Prop := g.1 = n ∧ (∀ a, 16 ≤ a → a < n → g.2.1 a = kdT a) ∧ (∀ j, j < i → g.2.2 (rS j).1 (rS j).2.1 = some (rS j).2.2 ∧ (rS j).1 < n) ∧ g.2.1 1 = (1, 3) ∧ (∀ f, 86 < n → g.2.2 86 f = none) ∧ (∀ f, 87 < n → g.2.2 87 f = none)
theorem GPs.new {n i m : Nat} {g : GS} {kd : Nat × Nat} (h : GPs n i g) (hm : n + 1 = m) (e : kdT n = kd) (h16 : 16 ≤ n) : GPs m i (gn g kd) := by
  subst hm
  obtain ⟨h1, h2, h3, h4, h5, h6⟩ := h
  refine ⟨by rw [gn_1, h1], fun a a1 a2 => ?_, fun j hj => ⟨?_, ?_⟩, ?_, fun f hf => ?_, fun f hf => ?_⟩
  · rw [gn_k, h1]
    by_cases z : a = n
    · rw [if_pos z, z, e]
    · rw [if_neg z]; exact h2 a a1 (by omega)
  · have := (h3 j hj).2
    rw [gn_r, if_neg (by omega)]; exact (h3 j hj).1
  · have := (h3 j hj).2; omega
  · rw [gn_k, if_neg (by omega)]; exact h4
  · rw [gn_r, h1]
    by_cases z : 86 = n
    · rw [if_pos z]
    · rw [if_neg z]; exact h5 f (by omega)
  · rw [gn_r, h1]
    by_cases z : 87 = n
    · rw [if_pos z]
    · rw [if_neg z]; exact h6 f (by omega)
theorem GPs.dyn {n i a f : Nat} {g : GS} {b : Option Nat} (h : GPs n i g) (h8 : a ≠ 86 ∧ a ≠ 87) (hd : ∀ j, j < i → ¬ ((rS j).1 = a ∧ (rS j).2.1 = f)) : GPs n i (gr g a f b) := by
  obtain ⟨h1, h2, h3, h4, h5, h6⟩ := h
  refine ⟨h1, h2, fun j hj => ⟨?_, (h3 j hj).2⟩, h4, fun f' hf => ?_, fun f' hf => ?_⟩
  · rw [gr_rf, if_neg (hd j hj)]; exact (h3 j hj).1
  · rw [gr_rf, if_neg (fun w => h8.1 w.1.symm)]; exact h5 f' hf
  · rw [gr_rf, if_neg (fun w => h8.2 w.1.symm)]; exact h6 f' hf
theorem GPs.put {n i i' a f b : Nat} {g : GS} (h : GPs n i g) (hm : i + 1 = i') (e : rS i = (a, f, b)) (ha : a < n) (h8 : a ≠ 86 ∧ a ≠ 87) (hi : i < 159) : GPs n i' (gr g a f (some b)) := by
  subst hm
  have e1 : (rS i).1 = a := by rw [e]
  have e2 : (rS i).2.1 = f := by rw [e]
  have e3 : (rS i).2.2 = b := by rw [e]
  have d := h.dyn (b := some b) h8 (fun j hj w => rS_inj i hi j hj ⟨by rw [e1]; exact w.1, by rw [e2]; exact w.2⟩)
  refine ⟨d.1, d.2.1, fun j hj => ?_, d.2.2.2⟩
  by_cases z : j = i
  · subst z
    rw [e1, e2, e3, gr_rf, if_pos ⟨rfl, rfl⟩]; exact ⟨rfl, ha⟩
  · exact d.2.2.1 j (by omega)
theorem GPs.og {n i a ci : Nat} {g : GS} (h : GPs n i g) (e : okO a ci = true) (ha : a < n) : OG g a ci := by
  simp only [okO, Bool.and_eq_true, Nat.ble_eq, Nat.blt_eq, Nat.beq_eq] at e
  obtain ⟨h1, h2, h3, h4⟩ := e
  exact ⟨by rw [h.2.1 a h1 ha]; exact Prod.ext h3 h4, h1, by rw [h.1]; exact ha⟩
theorem GPs.ag {n i a t N : Nat} {g : GS} (h : GPs n i g) (e : okA a t N = true) (ha : a < n) : AG g a t N := by
  simp only [okA, Bool.and_eq_true, Nat.ble_eq, Nat.blt_eq, Nat.beq_eq] at e
  obtain ⟨h1, h2, h3, h4⟩ := e
  exact ⟨by rw [h.2.1 a h1 ha]; exact Prod.ext h3 h4, h1, by rw [h.1]; exact ha⟩
/-- what the made cells hold -/
def V0 : Nat → Row := fun _ _ => 0
def Vu (V : Nat → Row) (a k : Nat) (v : Int32) : Nat → Row := fun x => if x = a then upd (V a) k v else V x
def MZs (s0 : MS) (n : Nat) (V : Nat → Row) (s : MS) : Prop := (∀ a, a < 16 → s.1 a = s0.1 a) ∧ ∀ a, 16 ≤ a → a < n → s.1 a = V a
theorem MZs.new {s0 s : MS} {n m : Nat} {V : Nat → Row} (h : MZs s0 n V s) (hm : n + 1 = m) (e : V n = fun _ => 0) (h16 : 16 ≤ n) : MZs s0 m V (sn s n) := by
  subst hm
  refine ⟨fun a ha => by rw [sn_1, if_neg (by omega)]; exact h.1 a ha, fun a a1 a2 => ?_⟩
  rw [sn_1]
  by_cases z : a = n
  · rw [if_pos z, z, e]
  · rw [if_neg z]; exact h.2 a a1 (by omega)
theorem MZs.wi {s0 s : MS} {n a k : Nat} {v : Int32} {V : Nat → Row} (h : MZs s0 n V s) (h16 : 16 ≤ a) (ha : a < n) : MZs s0 n (Vu V a k v) (wi s a k v) := by
  refine ⟨fun x hx => by rw [wi_n _ _ _ (by omega)]; exact h.1 x hx, fun x x1 x2 => ?_⟩
  unfold Vu
  by_cases z : x = a
  · rw [if_pos z, z, wi_s, h.2 a h16 ha]
  · rw [if_neg z, wi_n _ _ _ z]; exact h.2 x x1 x2
theorem MZs.house {s0 s u : MS} {b n0 n : Nat} {V : Nat → Row} (h : MZs s0 n0 V s) (S : SHi s b (b + 12) u) (hn0 : n0 = b + 1) (hn : b + 12 = n) (h16 : 16 ≤ b) (e : ∀ x, x < 12 → 0 < x → V (b + x) = fun _ => 0) : MZs s0 n V u := by
  subst hn0 hn
  refine ⟨fun a ha => by rw [(S.1 a (by omega)).1]; exact h.1 a ha, fun a a1 a2 => ?_⟩
  by_cases z : a ≤ b
  · rw [(S.1 a z).1]; exact h.2 a a1 (by omega)
  · rw [S.2 a (by omega) a2]
    have := e (a - b) (by omega) (by omega)
    rw [show b + (a - b) = a by omega] at this; exact this.symm
theorem rS_rn : ∀ j, j < 107 → rS j = (pmR (rSn j).1, (rSn j).2.1, pmR (rSn j).2.2) ∧ (rS j).1 < 120 := by decide +kernel
/-- the class's cells, made, by the numbers of the first proof -/
theorem GPn.sr {g : GS} (h : GPn 120 107 g) : GPs 120 107 (rnG g) := by
  obtain ⟨h1, h2, h3, h4, h5, h6⟩ := h
  refine ⟨h1, fun a a1 a2 => ?_, fun j hj => ?_, ?_, fun f _ => ?_, fun f _ => ?_⟩
  · obtain ⟨b1, b2⟩ := pmA_n a1 (Nat.le_refl 120) a2
    show g.2.1 (pmA a) = kdT a
    rw [h2 _ b1 b2, kdN, pmR_A]
  · obtain ⟨e1, e2⟩ := rS_rn j hj
    refine ⟨?_, e2⟩
    rw [e1]
    show (g.2.2 (pmA (pmR (rSn j).1)) (rSn j).2.1).map pmR = some (pmR (rSn j).2.2)
    rw [pmA_R, (h3 j hj).1]; rfl
  · show g.2.1 (pmA 1) = (1, 3)
    rw [pmA_lo (by omega)]; exact h4
  · show (g.2.2 (pmA 86) f).map pmR = none
    rw [show pmA 86 = 79 from rfl, h5 f (by omega)]; rfl
  · show (g.2.2 (pmA 87) f).map pmR = none
    rw [show pmA 87 = 80 from rfl, h6 f (by omega)]; rfl
set_option maxRecDepth 20000 in
theorem i_Tokens_18 {E : EN} {g : GS} {s : MS} {R : GS → MS → Prop} {s0 : MS} (G : GPn 19 1 g) (Z : MZs s0 19 V0 s) (h : ∀ g' u, GPn 22 4 g' → MZs s0 22 V0 u → R g' u) : XV E m_Tokens_init [.ref 18] g s R := by
  refine AMet.of (by decide) k_Tokens_init [(0, .ref 18)] (Nat.le_of_ble_eq_true rfl) rfl ?_
  refine aw_aload_n (q := 1) (j := 0) rfl rfl rfl (List.mem_of_getElem? (i := 0) rfl) ?_
  refine aw_oinit (q := 4) rfl rfl (tb_c1 34 rfl rfl) (tb_c1 27 rfl rfl) (tb_c1 28 rfl rfl) (by decide) (Nat.le_of_ble_eq_true rfl) (by decide) ?_
  refine aw_aload_n (q := 5) (j := 0) rfl rfl rfl (List.mem_of_getElem? (i := 0) rfl) ?_
  refine aw_sipush (q := 8) (v := 402) rfl rfl (by decide) ?_
  refine ag_newarray (q := 10) (t := 0) (N := 402) (k' := 1) (n' := 402) rfl rfl (by decide) rfl ac_int (by decide) (by decide) (by decide) rfl rfl (by decide) (by decide) ?_
  rw [G.1]
  replace G := G.new (m := 20) (kd := (0 + 1, 402)) rfl rfl (by decide)
  replace Z := Z.new (m := 20) rfl rfl (by decide)
  generalize gn _ _ = g at G ⊢
  generalize sn _ _ = s at Z ⊢
  refine ag_putR (q := 13) rfl rfl fl_Tokens_9 rfl rfl (G.og rfl (by decide)) ?_
  replace G := G.put (i := 1) (i' := 2) (a := 18) (f := 0) (b := 19) rfl rfl (by decide) (by decide) (by decide)
  generalize gr _ _ _ _ = g at G ⊢
  refine aw_aload_n (q := 14) (j := 0) rfl rfl rfl (List.mem_of_getElem? (i := 0) rfl) ?_
  refine aw_sipush (q := 17) (v := 402) rfl rfl (by decide) ?_
  refine ag_newarray (q := 19) (t := 0) (N := 402) (k' := 2) (n' := 804) rfl rfl (by decide) rfl ac_int (by decide) (by decide) (by decide) rfl rfl (by decide) (by decide) ?_
  rw [G.1]
  replace G := G.new (m := 21) (kd := (0 + 1, 402)) rfl rfl (by decide)
  replace Z := Z.new (m := 21) rfl rfl (by decide)
  generalize gn _ _ = g at G ⊢
  generalize sn _ _ = s at Z ⊢
  refine ag_putR (q := 22) rfl rfl fl_Tokens_15 rfl rfl (G.og rfl (by decide)) ?_
  replace G := G.put (i := 2) (i' := 3) (a := 18) (f := 1) (b := 20) rfl rfl (by decide) (by decide) (by decide)
  generalize gr _ _ _ _ = g at G ⊢
  refine aw_aload_n (q := 23) (j := 0) rfl rfl rfl (List.mem_of_getElem? (i := 0) rfl) ?_
  refine aw_sipush (q := 26) (v := 402) rfl rfl (by decide) ?_
  refine ag_newarray (q := 28) (t := 4) (N := 402) (k' := 3) (n' := 1206) rfl rfl (by decide) rfl ac_long (by decide) (by decide) (by decide) rfl rfl (by decide) (by decide) ?_
  rw [G.1]
  replace G := G.new (m := 22) (kd := (4 + 1, 402)) rfl rfl (by decide)
  replace Z := Z.new (m := 22) rfl rfl (by decide)
  generalize gn _ _ = g at G ⊢
  generalize sn _ _ = s at Z ⊢
  refine ag_putR (q := 31) rfl rfl fl_Tokens_18 rfl rfl (G.og rfl (by decide)) ?_
  replace G := G.put (i := 3) (i' := 4) (a := 18) (f := 2) (b := 21) rfl rfl (by decide) (by decide) (by decide)
  generalize gr _ _ _ _ = g at G ⊢
  exact aw_return rfl rfl (by decide) (by decide) (rV.mk (h g s G Z))
set_option maxRecDepth 20000 in
theorem i_Grammar_22 {E : EN} {g : GS} {s : MS} {R : GS → MS → Prop} {s0 : MS} (G : GPn 23 5 g) (Z : MZs s0 23 V0 s) (h : ∀ g' u, GPn 24 7 g' → MZs s0 24 V0 u → R g' u) : XV E m_Grammar_init [.ref 22, .ref 18] g s R := by
  refine AMet.of (by decide) k_Grammar_init [(0, .ref 22), (1, .ref 18)] (Nat.le_of_ble_eq_true rfl) rfl ?_
  refine aw_aload_n (q := 1) (j := 0) rfl rfl rfl (List.mem_of_getElem? (i := 0) rfl) ?_
  refine aw_oinit (q := 4) rfl rfl (tb_c1 61 rfl rfl) (tb_c1 27 rfl rfl) (tb_c1 28 rfl rfl) (by decide) (Nat.le_of_ble_eq_true rfl) (by decide) ?_
  refine aw_aload_n (q := 5) (j := 0) rfl rfl rfl (List.mem_of_getElem? (i := 0) rfl) ?_
  refine aw_bipush (q := 7) (v := 14) rfl rfl (by decide) ?_
  refine ag_newarray (q := 9) (t := 0) (N := 14) (k' := 1) (n' := 14) rfl rfl (by decide) rfl ac_int (by decide) (by decide) (by decide) rfl rfl (by decide) (by decide) ?_
  rw [G.1]
  replace G := G.new (m := 24) (kd := (0 + 1, 14)) rfl rfl (by decide)
  replace Z := Z.new (m := 24) rfl rfl (by decide)
  generalize gn _ _ = g at G ⊢
  generalize sn _ _ = s at Z ⊢
  refine ag_putR (q := 12) rfl rfl fl_Grammar_11 rfl rfl (G.og rfl (by decide)) ?_
  replace G := G.put (i := 5) (i' := 6) (a := 22) (f := 3) (b := 23) rfl rfl (by decide) (by decide) (by decide)
  generalize gr _ _ _ _ = g at G ⊢
  refine aw_aload_n (q := 13) (j := 0) rfl rfl rfl (List.mem_of_getElem? (i := 0) rfl) ?_
  refine aw_aload_n (q := 14) (j := 1) rfl rfl rfl (List.mem_of_getElem? (i := 1) rfl) ?_
  refine ag_putR (q := 17) rfl rfl fl_Grammar_17 rfl rfl (G.og rfl (by decide)) ?_
  replace G := G.put (i := 6) (i' := 7) (a := 22) (f := 0) (b := 18) rfl rfl (by decide) (by decide) (by decide)
  generalize gr _ _ _ _ = g at G ⊢
  exact aw_return rfl rfl (by decide) (by decide) (rV.mk (h g s G Z))
set_option maxRecDepth 20000 in
theorem i_Planner_24 {E : EN} {g : GS} {s : MS} {R : GS → MS → Prop} {s0 : MS} (G : GPn 25 8 g) (Z : MZs s0 25 V0 s) (h : ∀ g' u, GPn 49 32 g' → MZs s0 49 V0 u → R g' u) : XV E m_Planner_init [.ref 24] g s R := by
  refine AMet.of (by decide) k_Planner_init [(0, .ref 24)] (Nat.le_of_ble_eq_true rfl) rfl ?_
  refine aw_aload_n (q := 1) (j := 0) rfl rfl rfl (List.mem_of_getElem? (i := 0) rfl) ?_
  refine aw_oinit (q := 4) rfl rfl (tb_c1 81 rfl rfl) (tb_c1 27 rfl rfl) (tb_c1 28 rfl rfl) (by decide) (Nat.le_of_ble_eq_true rfl) (by decide) ?_
  refine aw_aload_n (q := 5) (j := 0) rfl rfl rfl (List.mem_of_getElem? (i := 0) rfl) ?_
  refine ag_new (q := 8) (ci := 2) (k' := 1) (n' := 9) rfl rfl nc_Planner_9 rfl rfl (by decide) (by decide) ?_
  rw [G.1]
  replace G := G.new (m := 26) (kd := (0, 2)) rfl rfl (by decide)
  replace Z := Z.new (m := 26) rfl rfl (by decide)
  generalize gn _ _ = g at G ⊢
  generalize sn _ _ = s at Z ⊢
  refine aw_dup (q := 9) rfl rfl rfl ?_
  refine ax_cnV (z := m_House_init) (av := []) (q := 12) (k' := 12) (n' := 131) rfl rfl cn_Planner_11 ⟨by decide, by decide⟩ rfl rfl (by decide) (by decide) rfl rfl (Nat.le_of_ble_eq_true rfl) (f_House_init (by decide) G.1 (G.2.1 25 (by decide) (by decide)) (fun g' u P S => ?_))
  replace G := G.house P (i := 8) (b := 25) (n := 37) (i' := 19) rfl rfl rfl (by decide) (by decide) (by decide) (by decide +kernel) (by decide +kernel) (by decide +kernel)
  replace Z := Z.house S (n := 37) rfl rfl (by decide) (fun _ _ _ => rfl)
  clear P S
  generalize g' = g at G ⊢
  generalize u = s at Z ⊢
  refine ag_putR (q := 15) rfl rfl fl_Planner_12 rfl rfl (G.og rfl (by decide)) ?_
  replace G := G.put (i := 19) (i' := 20) (a := 24) (f := 0) (b := 25) rfl rfl (by decide) (by decide) (by decide)
  generalize gr _ _ _ _ = g at G ⊢
  refine aw_aload_n (q := 16) (j := 0) rfl rfl rfl (List.mem_of_getElem? (i := 0) rfl) ?_
  refine ag_new (q := 19) (ci := 2) (k' := 13) (n' := 140) rfl rfl nc_Planner_9 rfl rfl (by decide) (by decide) ?_
  rw [G.1]
  replace G := G.new (m := 38) (kd := (0, 2)) rfl rfl (by decide)
  replace Z := Z.new (m := 38) rfl rfl (by decide)
  generalize gn _ _ = g at G ⊢
  generalize sn _ _ = s at Z ⊢
  refine aw_dup (q := 20) rfl rfl rfl ?_
  refine ax_cnV (z := m_House_init) (av := []) (q := 23) (k' := 24) (n' := 262) rfl rfl cn_Planner_11 ⟨by decide, by decide⟩ rfl rfl (by decide) (by decide) rfl rfl (Nat.le_of_ble_eq_true rfl) (f_House_init (by decide) G.1 (G.2.1 37 (by decide) (by decide)) (fun g' u P S => ?_))
  replace G := G.house P (i := 20) (b := 37) (n := 49) (i' := 31) rfl rfl rfl (by decide) (by decide) (by decide) (by decide +kernel) (by decide +kernel) (by decide +kernel)
  replace Z := Z.house S (n := 49) rfl rfl (by decide) (fun _ _ _ => rfl)
  clear P S
  generalize g' = g at G ⊢
  generalize u = s at Z ⊢
  refine ag_putR (q := 26) rfl rfl fl_Planner_18 rfl rfl (G.og rfl (by decide)) ?_
  replace G := G.put (i := 31) (i' := 32) (a := 24) (f := 1) (b := 37) rfl rfl (by decide) (by decide) (by decide)
  generalize gr _ _ _ _ = g at G ⊢
  exact aw_return rfl rfl (by decide) (by decide) (rV.mk (h g s G Z))
set_option maxRecDepth 20000 in
theorem i_Facts_49 {E : EN} {g : GS} {s : MS} {R : GS → MS → Prop} {s0 : MS} (G : GPn 50 33 g) (Z : MZs s0 50 V0 s) (h : ∀ g' u, GPn 67 50 g' → MZs s0 67 V0 u → R g' u) : XV E m_Facts_init [.ref 49] g s R := by
  refine AMet.of (by decide) k_Facts_init [(0, .ref 49)] (Nat.le_of_ble_eq_true rfl) rfl ?_
  refine aw_aload_n (q := 1) (j := 0) rfl rfl rfl (List.mem_of_getElem? (i := 0) rfl) ?_
  refine aw_oinit (q := 4) rfl rfl (tb_c1 229 rfl rfl) (tb_c1 27 rfl rfl) (tb_c1 28 rfl rfl) (by decide) (Nat.le_of_ble_eq_true rfl) (by decide) ?_
  refine aw_aload_n (q := 5) (j := 0) rfl rfl rfl (List.mem_of_getElem? (i := 0) rfl) ?_
  refine aw_bipush (q := 7) (v := 20) rfl rfl (by decide) ?_
  refine ag_newarray (q := 9) (t := 0) (N := 20) (k' := 1) (n' := 20) rfl rfl (by decide) rfl ac_int (by decide) (by decide) (by decide) rfl rfl (by decide) (by decide) ?_
  rw [G.1]
  replace G := G.new (m := 51) (kd := (0 + 1, 20)) rfl rfl (by decide)
  replace Z := Z.new (m := 51) rfl rfl (by decide)
  generalize gn _ _ = g at G ⊢
  generalize sn _ _ = s at Z ⊢
  refine ag_putR (q := 12) rfl rfl fl_Facts_9 rfl rfl (G.og rfl (by decide)) ?_
  replace G := G.put (i := 33) (i' := 34) (a := 49) (f := 0) (b := 50) rfl rfl (by decide) (by decide) (by decide)
  generalize gr _ _ _ _ = g at G ⊢
  refine aw_aload_n (q := 13) (j := 0) rfl rfl rfl (List.mem_of_getElem? (i := 0) rfl) ?_
  refine aw_bipush (q := 15) (v := 20) rfl rfl (by decide) ?_
  refine ag_newarray (q := 17) (t := 0) (N := 20) (k' := 2) (n' := 40) rfl rfl (by decide) rfl ac_int (by decide) (by decide) (by decide) rfl rfl (by decide) (by decide) ?_
  rw [G.1]
  replace G := G.new (m := 52) (kd := (0 + 1, 20)) rfl rfl (by decide)
  replace Z := Z.new (m := 52) rfl rfl (by decide)
  generalize gn _ _ = g at G ⊢
  generalize sn _ _ = s at Z ⊢
  refine ag_putR (q := 20) rfl rfl fl_Facts_15 rfl rfl (G.og rfl (by decide)) ?_
  replace G := G.put (i := 34) (i' := 35) (a := 49) (f := 1) (b := 51) rfl rfl (by decide) (by decide) (by decide)
  generalize gr _ _ _ _ = g at G ⊢
  refine aw_aload_n (q := 21) (j := 0) rfl rfl rfl (List.mem_of_getElem? (i := 0) rfl) ?_
  refine aw_bipush (q := 23) (v := 20) rfl rfl (by decide) ?_
  refine ag_newarray (q := 25) (t := 0) (N := 20) (k' := 3) (n' := 60) rfl rfl (by decide) rfl ac_int (by decide) (by decide) (by decide) rfl rfl (by decide) (by decide) ?_
  rw [G.1]
  replace G := G.new (m := 53) (kd := (0 + 1, 20)) rfl rfl (by decide)
  replace Z := Z.new (m := 53) rfl rfl (by decide)
  generalize gn _ _ = g at G ⊢
  generalize sn _ _ = s at Z ⊢
  refine ag_putR (q := 28) rfl rfl fl_Facts_18 rfl rfl (G.og rfl (by decide)) ?_
  replace G := G.put (i := 35) (i' := 36) (a := 49) (f := 2) (b := 52) rfl rfl (by decide) (by decide) (by decide)
  generalize gr _ _ _ _ = g at G ⊢
  refine aw_aload_n (q := 29) (j := 0) rfl rfl rfl (List.mem_of_getElem? (i := 0) rfl) ?_
  refine aw_bipush (q := 31) (v := 20) rfl rfl (by decide) ?_
  refine ag_newarray (q := 33) (t := 0) (N := 20) (k' := 4) (n' := 80) rfl rfl (by decide) rfl ac_int (by decide) (by decide) (by decide) rfl rfl (by decide) (by decide) ?_
  rw [G.1]
  replace G := G.new (m := 54) (kd := (0 + 1, 20)) rfl rfl (by decide)
  replace Z := Z.new (m := 54) rfl rfl (by decide)
  generalize gn _ _ = g at G ⊢
  generalize sn _ _ = s at Z ⊢
  refine ag_putR (q := 36) rfl rfl fl_Facts_21 rfl rfl (G.og rfl (by decide)) ?_
  replace G := G.put (i := 36) (i' := 37) (a := 49) (f := 3) (b := 53) rfl rfl (by decide) (by decide) (by decide)
  generalize gr _ _ _ _ = g at G ⊢
  refine aw_aload_n (q := 37) (j := 0) rfl rfl rfl (List.mem_of_getElem? (i := 0) rfl) ?_
  refine aw_sipush (q := 40) (v := 3600) rfl rfl (by decide) ?_
  refine ag_newarray (q := 42) (t := 0) (N := 3600) (k' := 5) (n' := 3680) rfl rfl (by decide) rfl ac_int (by decide) (by decide) (by decide) rfl rfl (by decide) (by decide) ?_
  rw [G.1]
  replace G := G.new (m := 55) (kd := (0 + 1, 3600)) rfl rfl (by decide)
  replace Z := Z.new (m := 55) rfl rfl (by decide)
  generalize gn _ _ = g at G ⊢
  generalize sn _ _ = s at Z ⊢
  refine ag_putR (q := 45) rfl rfl fl_Facts_24 rfl rfl (G.og rfl (by decide)) ?_
  replace G := G.put (i := 37) (i' := 38) (a := 49) (f := 4) (b := 54) rfl rfl (by decide) (by decide) (by decide)
  generalize gr _ _ _ _ = g at G ⊢
  refine aw_aload_n (q := 46) (j := 0) rfl rfl rfl (List.mem_of_getElem? (i := 0) rfl) ?_
  refine ag_new (q := 49) (ci := 2) (k' := 6) (n' := 3689) rfl rfl nc_Facts_27 rfl rfl (by decide) (by decide) ?_
  rw [G.1]
  replace G := G.new (m := 56) (kd := (0, 2)) rfl rfl (by decide)
  replace Z := Z.new (m := 56) rfl rfl (by decide)
  generalize gn _ _ = g at G ⊢
  generalize sn _ _ = s at Z ⊢
  refine aw_dup (q := 50) rfl rfl rfl ?_
  refine ax_cnV (z := m_House_init) (av := []) (q := 53) (k' := 17) (n' := 3811) rfl rfl cn_Facts_29 ⟨by decide, by decide⟩ rfl rfl (by decide) (by decide) rfl rfl (Nat.le_of_ble_eq_true rfl) (f_House_init (by decide) G.1 (G.2.1 55 (by decide) (by decide)) (fun g' u P S => ?_))
  replace G := G.house P (i := 38) (b := 55) (n := 67) (i' := 49) rfl rfl rfl (by decide) (by decide) (by decide) (by decide +kernel) (by decide +kernel) (by decide +kernel)
  replace Z := Z.house S (n := 67) rfl rfl (by decide) (fun _ _ _ => rfl)
  clear P S
  generalize g' = g at G ⊢
  generalize u = s at Z ⊢
  refine ag_putR (q := 56) rfl rfl fl_Facts_30 rfl rfl (G.og rfl (by decide)) ?_
  replace G := G.put (i := 49) (i' := 50) (a := 49) (f := 5) (b := 55) rfl rfl (by decide) (by decide) (by decide)
  generalize gr _ _ _ _ = g at G ⊢
  exact aw_return rfl rfl (by decide) (by decide) (rV.mk (h g s G Z))
set_option maxRecDepth 20000 in
theorem i_Laws_92 {E : EN} {g : GS} {s : MS} {R : GS → MS → Prop} {s0 : MS} (G : GPn 93 75 g) (Z : MZs s0 93 V0 s) (h : ∀ g' u, GPn 97 79 g' → MZs s0 97 (Vu (Vu (Vu V0 94 0 (-1)) 94 1 (-1)) 94 2 (-1)) u → R g' u) : XV E m_Laws_init [.ref 92] g s R := by
  refine AMet.of (by decide) k_Laws_init [(0, .ref 92)] (Nat.le_of_ble_eq_true rfl) rfl ?_
  refine aw_aload_n (q := 1) (j := 0) rfl rfl rfl (List.mem_of_getElem? (i := 0) rfl) ?_
  refine aw_oinit (q := 4) rfl rfl (tb_c2 32 rfl rfl) (tb_c1 27 rfl rfl) (tb_c1 28 rfl rfl) (by decide) (Nat.le_of_ble_eq_true rfl) (by decide) ?_
  refine aw_aload_n (q := 5) (j := 0) rfl rfl rfl (List.mem_of_getElem? (i := 0) rfl) ?_
  refine aw_sipush (q := 8) (v := 400) rfl rfl (by decide) ?_
  refine ag_newarray (q := 10) (t := 0) (N := 400) (k' := 1) (n' := 400) rfl rfl (by decide) rfl ac_int (by decide) (by decide) (by decide) rfl rfl (by decide) (by decide) ?_
  rw [G.1]
  replace G := G.new (m := 94) (kd := (0 + 1, 400)) rfl rfl (by decide)
  replace Z := Z.new (m := 94) rfl rfl (by decide)
  generalize gn _ _ = g at G ⊢
  generalize sn _ _ = s at Z ⊢
  refine ag_putR (q := 13) rfl rfl fl_Laws_11 rfl rfl (G.og rfl (by decide)) ?_
  replace G := G.put (i := 75) (i' := 76) (a := 92) (f := 0) (b := 93) rfl rfl (by decide) (by decide) (by decide)
  generalize gr _ _ _ _ = g at G ⊢
  refine aw_aload_n (q := 14) (j := 0) rfl rfl rfl (List.mem_of_getElem? (i := 0) rfl) ?_
  refine aw_iconst (q := 15) (v := 3) rfl rfl (by decide) ?_
  refine ag_newarray (q := 17) (t := 0) (N := 3) (k' := 2) (n' := 403) rfl rfl (by decide) rfl ac_int (by decide) (by decide) (by decide) rfl rfl (by decide) (by decide) ?_
  rw [G.1]
  replace G := G.new (m := 95) (kd := (0 + 1, 3)) rfl rfl (by decide)
  replace Z := Z.new (m := 95) rfl rfl (by decide)
  generalize gn _ _ = g at G ⊢
  generalize sn _ _ = s at Z ⊢
  refine aw_dup (q := 18) rfl rfl rfl ?_
  refine aw_iconst (q := 19) (v := 0) rfl rfl (by decide) ?_
  refine aw_iconst (q := 20) (v := -1) rfl rfl (by decide) ?_
  refine ag_iastore (q := 21) (N := 3) rfl rfl (G.ag rfl (by decide)) (vp_in_nI (n := 0) (by decide) (by decide)) ?_
  replace Z := Z.wi (a := 94) (k := 0) (v := -1) (by decide) (by decide)
  rw [show ((0 : Int32)).toNatClampNeg = 0 from rfl]
  generalize wi _ _ _ _ = s at Z ⊢
  refine aw_dup (q := 22) rfl rfl rfl ?_
  refine aw_iconst (q := 23) (v := 1) rfl rfl (by decide) ?_
  refine aw_iconst (q := 24) (v := -1) rfl rfl (by decide) ?_
  refine ag_iastore (q := 25) (N := 3) rfl rfl (G.ag rfl (by decide)) (vp_in_nI (n := 1) (by decide) (by decide)) ?_
  replace Z := Z.wi (a := 94) (k := 1) (v := -1) (by decide) (by decide)
  rw [show ((1 : Int32)).toNatClampNeg = 1 from rfl]
  generalize wi _ _ _ _ = s at Z ⊢
  refine aw_dup (q := 26) rfl rfl rfl ?_
  refine aw_iconst (q := 27) (v := 2) rfl rfl (by decide) ?_
  refine aw_iconst (q := 28) (v := -1) rfl rfl (by decide) ?_
  refine ag_iastore (q := 29) (N := 3) rfl rfl (G.ag rfl (by decide)) (vp_in_nI (n := 2) (by decide) (by decide)) ?_
  replace Z := Z.wi (a := 94) (k := 2) (v := -1) (by decide) (by decide)
  rw [show ((2 : Int32)).toNatClampNeg = 2 from rfl]
  generalize wi _ _ _ _ = s at Z ⊢
  refine ag_putR (q := 32) rfl rfl fl_Laws_15 rfl rfl (G.og rfl (by decide)) ?_
  replace G := G.put (i := 76) (i' := 77) (a := 92) (f := 1) (b := 94) rfl rfl (by decide) (by decide) (by decide)
  generalize gr _ _ _ _ = g at G ⊢
  refine aw_aload_n (q := 33) (j := 0) rfl rfl rfl (List.mem_of_getElem? (i := 0) rfl) ?_
  refine aw_bipush (q := 35) (v := 32) rfl rfl (by decide) ?_
  refine ag_newarray (q := 37) (t := 0) (N := 32) (k' := 3) (n' := 435) rfl rfl (by decide) rfl ac_int (by decide) (by decide) (by decide) rfl rfl (by decide) (by decide) ?_
  rw [G.1]
  replace G := G.new (m := 96) (kd := (0 + 1, 32)) rfl rfl (by decide)
  replace Z := Z.new (m := 96) rfl rfl (by decide)
  generalize gn _ _ = g at G ⊢
  generalize sn _ _ = s at Z ⊢
  refine ag_putR (q := 40) rfl rfl fl_Laws_18 rfl rfl (G.og rfl (by decide)) ?_
  replace G := G.put (i := 77) (i' := 78) (a := 92) (f := 2) (b := 95) rfl rfl (by decide) (by decide) (by decide)
  generalize gr _ _ _ _ = g at G ⊢
  refine aw_aload_n (q := 41) (j := 0) rfl rfl rfl (List.mem_of_getElem? (i := 0) rfl) ?_
  refine aw_bipush (q := 43) (v := 32) rfl rfl (by decide) ?_
  refine ag_newarray (q := 45) (t := 0) (N := 32) (k' := 4) (n' := 467) rfl rfl (by decide) rfl ac_int (by decide) (by decide) (by decide) rfl rfl (by decide) (by decide) ?_
  rw [G.1]
  replace G := G.new (m := 97) (kd := (0 + 1, 32)) rfl rfl (by decide)
  replace Z := Z.new (m := 97) rfl rfl (by decide)
  generalize gn _ _ = g at G ⊢
  generalize sn _ _ = s at Z ⊢
  refine ag_putR (q := 48) rfl rfl fl_Laws_21 rfl rfl (G.og rfl (by decide)) ?_
  replace G := G.put (i := 78) (i' := 79) (a := 92) (f := 3) (b := 96) rfl rfl (by decide) (by decide) (by decide)
  generalize gr _ _ _ _ = g at G ⊢
  exact aw_return rfl rfl (by decide) (by decide) (rV.mk (h g s G Z))
set_option maxRecDepth 20000 in
theorem i_Text_81 {E : EN} {g : GS} {s : MS} {R : GS → MS → Prop} {s0 : MS} (G : GPn 82 65 g) (Z : MZs s0 82 V0 s) (h : ∀ g' u, GPn 97 80 g' → MZs s0 97 (Vu (Vu (Vu (Vu (Vu V0 94 0 (-1)) 94 1 (-1)) 94 2 (-1)) 81 15 (9999)) 81 16 (50)) u → R g' u) : XV E m_Text_init [.ref 81] g s R := by
  refine AMet.of (by decide) k_Text_init [(0, .ref 81)] (Nat.le_of_ble_eq_true rfl) rfl ?_
  refine aw_aload_n (q := 1) (j := 0) rfl rfl rfl (List.mem_of_getElem? (i := 0) rfl) ?_
  refine aw_oinit (q := 4) rfl rfl (tb_c2 26 rfl rfl) (tb_c1 27 rfl rfl) (tb_c1 28 rfl rfl) (by decide) (Nat.le_of_ble_eq_true rfl) (by decide) ?_
  refine aw_aload_n (q := 5) (j := 0) rfl rfl rfl (List.mem_of_getElem? (i := 0) rfl) ?_
  refine aw_bipush (q := 7) (v := 6) rfl rfl (by decide) ?_
  refine ag_newarray (q := 9) (t := 0) (N := 6) (k' := 1) (n' := 6) rfl rfl (by decide) rfl ac_int (by decide) (by decide) (by decide) rfl rfl (by decide) (by decide) ?_
  rw [G.1]
  replace G := G.new (m := 83) (kd := (0 + 1, 6)) rfl rfl (by decide)
  replace Z := Z.new (m := 83) rfl rfl (by decide)
  generalize gn _ _ = g at G ⊢
  generalize sn _ _ = s at Z ⊢
  refine ag_putR (q := 12) rfl rfl fl_Text_9 rfl rfl (G.og rfl (by decide)) ?_
  replace G := G.put (i := 65) (i' := 66) (a := 81) (f := 0) (b := 82) rfl rfl (by decide) (by decide) (by decide)
  generalize gr _ _ _ _ = g at G ⊢
  refine aw_aload_n (q := 13) (j := 0) rfl rfl rfl (List.mem_of_getElem? (i := 0) rfl) ?_
  refine aw_bipush (q := 15) (v := 6) rfl rfl (by decide) ?_
  refine ag_newarray (q := 17) (t := 0) (N := 6) (k' := 2) (n' := 12) rfl rfl (by decide) rfl ac_int (by decide) (by decide) (by decide) rfl rfl (by decide) (by decide) ?_
  rw [G.1]
  replace G := G.new (m := 84) (kd := (0 + 1, 6)) rfl rfl (by decide)
  replace Z := Z.new (m := 84) rfl rfl (by decide)
  generalize gn _ _ = g at G ⊢
  generalize sn _ _ = s at Z ⊢
  refine ag_putR (q := 20) rfl rfl fl_Text_15 rfl rfl (G.og rfl (by decide)) ?_
  replace G := G.put (i := 66) (i' := 67) (a := 81) (f := 1) (b := 83) rfl rfl (by decide) (by decide) (by decide)
  generalize gr _ _ _ _ = g at G ⊢
  refine aw_aload_n (q := 21) (j := 0) rfl rfl rfl (List.mem_of_getElem? (i := 0) rfl) ?_
  refine aw_bipush (q := 23) (v := 6) rfl rfl (by decide) ?_
  refine ag_newarray (q := 25) (t := 0) (N := 6) (k' := 3) (n' := 18) rfl rfl (by decide) rfl ac_int (by decide) (by decide) (by decide) rfl rfl (by decide) (by decide) ?_
  rw [G.1]
  replace G := G.new (m := 85) (kd := (0 + 1, 6)) rfl rfl (by decide)
  replace Z := Z.new (m := 85) rfl rfl (by decide)
  generalize gn _ _ = g at G ⊢
  generalize sn _ _ = s at Z ⊢
  refine ag_putR (q := 28) rfl rfl fl_Text_18 rfl rfl (G.og rfl (by decide)) ?_
  replace G := G.put (i := 67) (i' := 68) (a := 81) (f := 2) (b := 84) rfl rfl (by decide) (by decide) (by decide)
  generalize gr _ _ _ _ = g at G ⊢
  refine aw_aload_n (q := 29) (j := 0) rfl rfl rfl (List.mem_of_getElem? (i := 0) rfl) ?_
  refine aw_bipush (q := 31) (v := 6) rfl rfl (by decide) ?_
  refine ag_newarray (q := 33) (t := 0) (N := 6) (k' := 4) (n' := 24) rfl rfl (by decide) rfl ac_int (by decide) (by decide) (by decide) rfl rfl (by decide) (by decide) ?_
  rw [G.1]
  replace G := G.new (m := 86) (kd := (0 + 1, 6)) rfl rfl (by decide)
  replace Z := Z.new (m := 86) rfl rfl (by decide)
  generalize gn _ _ = g at G ⊢
  generalize sn _ _ = s at Z ⊢
  refine ag_putR (q := 36) rfl rfl fl_Text_21 rfl rfl (G.og rfl (by decide)) ?_
  replace G := G.put (i := 68) (i' := 69) (a := 81) (f := 3) (b := 85) rfl rfl (by decide) (by decide) (by decide)
  generalize gr _ _ _ _ = g at G ⊢
  refine aw_aload_n (q := 37) (j := 0) rfl rfl rfl (List.mem_of_getElem? (i := 0) rfl) ?_
  refine aw_bipush (q := 39) (v := 8) rfl rfl (by decide) ?_
  refine ag_newarray (q := 41) (t := 0) (N := 8) (k' := 5) (n' := 32) rfl rfl (by decide) rfl ac_int (by decide) (by decide) (by decide) rfl rfl (by decide) (by decide) ?_
  rw [G.1]
  replace G := G.new (m := 87) (kd := (0 + 1, 8)) rfl rfl (by decide)
  replace Z := Z.new (m := 87) rfl rfl (by decide)
  generalize gn _ _ = g at G ⊢
  generalize sn _ _ = s at Z ⊢
  refine ag_putR (q := 44) rfl rfl fl_Text_24 rfl rfl (G.og rfl (by decide)) ?_
  replace G := G.put (i := 69) (i' := 70) (a := 81) (f := 4) (b := 86) rfl rfl (by decide) (by decide) (by decide)
  generalize gr _ _ _ _ = g at G ⊢
  refine aw_aload_n (q := 45) (j := 0) rfl rfl rfl (List.mem_of_getElem? (i := 0) rfl) ?_
  refine aw_bipush (q := 47) (v := 8) rfl rfl (by decide) ?_
  refine ag_newarray (q := 49) (t := 0) (N := 8) (k' := 6) (n' := 40) rfl rfl (by decide) rfl ac_int (by decide) (by decide) (by decide) rfl rfl (by decide) (by decide) ?_
  rw [G.1]
  replace G := G.new (m := 88) (kd := (0 + 1, 8)) rfl rfl (by decide)
  replace Z := Z.new (m := 88) rfl rfl (by decide)
  generalize gn _ _ = g at G ⊢
  generalize sn _ _ = s at Z ⊢
  refine ag_putR (q := 52) rfl rfl fl_Text_27 rfl rfl (G.og rfl (by decide)) ?_
  replace G := G.put (i := 70) (i' := 71) (a := 81) (f := 5) (b := 87) rfl rfl (by decide) (by decide) (by decide)
  generalize gr _ _ _ _ = g at G ⊢
  refine aw_aload_n (q := 53) (j := 0) rfl rfl rfl (List.mem_of_getElem? (i := 0) rfl) ?_
  refine aw_bipush (q := 55) (v := 8) rfl rfl (by decide) ?_
  refine ag_newarray (q := 57) (t := 0) (N := 8) (k' := 7) (n' := 48) rfl rfl (by decide) rfl ac_int (by decide) (by decide) (by decide) rfl rfl (by decide) (by decide) ?_
  rw [G.1]
  replace G := G.new (m := 89) (kd := (0 + 1, 8)) rfl rfl (by decide)
  replace Z := Z.new (m := 89) rfl rfl (by decide)
  generalize gn _ _ = g at G ⊢
  generalize sn _ _ = s at Z ⊢
  refine ag_putR (q := 60) rfl rfl fl_Text_30 rfl rfl (G.og rfl (by decide)) ?_
  replace G := G.put (i := 71) (i' := 72) (a := 81) (f := 6) (b := 88) rfl rfl (by decide) (by decide) (by decide)
  generalize gr _ _ _ _ = g at G ⊢
  refine aw_aload_n (q := 61) (j := 0) rfl rfl rfl (List.mem_of_getElem? (i := 0) rfl) ?_
  refine aw_bipush (q := 63) (v := 8) rfl rfl (by decide) ?_
  refine ag_newarray (q := 65) (t := 0) (N := 8) (k' := 8) (n' := 56) rfl rfl (by decide) rfl ac_int (by decide) (by decide) (by decide) rfl rfl (by decide) (by decide) ?_
  rw [G.1]
  replace G := G.new (m := 90) (kd := (0 + 1, 8)) rfl rfl (by decide)
  replace Z := Z.new (m := 90) rfl rfl (by decide)
  generalize gn _ _ = g at G ⊢
  generalize sn _ _ = s at Z ⊢
  refine ag_putR (q := 68) rfl rfl fl_Text_33 rfl rfl (G.og rfl (by decide)) ?_
  replace G := G.put (i := 72) (i' := 73) (a := 81) (f := 7) (b := 89) rfl rfl (by decide) (by decide) (by decide)
  generalize gr _ _ _ _ = g at G ⊢
  refine aw_aload_n (q := 69) (j := 0) rfl rfl rfl (List.mem_of_getElem? (i := 0) rfl) ?_
  refine aw_iconst (q := 70) (v := 5) rfl rfl (by decide) ?_
  refine ag_newarray (q := 72) (t := 0) (N := 5) (k' := 9) (n' := 61) rfl rfl (by decide) rfl ac_int (by decide) (by decide) (by decide) rfl rfl (by decide) (by decide) ?_
  rw [G.1]
  replace G := G.new (m := 91) (kd := (0 + 1, 5)) rfl rfl (by decide)
  replace Z := Z.new (m := 91) rfl rfl (by decide)
  generalize gn _ _ = g at G ⊢
  generalize sn _ _ = s at Z ⊢
  refine ag_putR (q := 75) rfl rfl fl_Text_36 rfl rfl (G.og rfl (by decide)) ?_
  replace G := G.put (i := 73) (i' := 74) (a := 81) (f := 8) (b := 90) rfl rfl (by decide) (by decide) (by decide)
  generalize gr _ _ _ _ = g at G ⊢
  refine aw_aload_n (q := 76) (j := 0) rfl rfl rfl (List.mem_of_getElem? (i := 0) rfl) ?_
  refine aw_bipush (q := 78) (v := 30) rfl rfl (by decide) ?_
  refine ag_newarray (q := 80) (t := 0) (N := 30) (k' := 10) (n' := 91) rfl rfl (by decide) rfl ac_int (by decide) (by decide) (by decide) rfl rfl (by decide) (by decide) ?_
  rw [G.1]
  replace G := G.new (m := 92) (kd := (0 + 1, 30)) rfl rfl (by decide)
  replace Z := Z.new (m := 92) rfl rfl (by decide)
  generalize gn _ _ = g at G ⊢
  generalize sn _ _ = s at Z ⊢
  refine ag_putR (q := 83) rfl rfl fl_Text_39 rfl rfl (G.og rfl (by decide)) ?_
  replace G := G.put (i := 74) (i' := 75) (a := 81) (f := 9) (b := 91) rfl rfl (by decide) (by decide) (by decide)
  generalize gr _ _ _ _ = g at G ⊢
  refine aw_aload_n (q := 84) (j := 0) rfl rfl rfl (List.mem_of_getElem? (i := 0) rfl) ?_
  refine ag_new (q := 87) (ci := 3) (k' := 11) (n' := 98) rfl rfl nc_Text_42 rfl rfl (by decide) (by decide) ?_
  rw [G.1]
  replace G := G.new (m := 93) (kd := (0, 3)) rfl rfl (by decide)
  replace Z := Z.new (m := 93) rfl rfl (by decide)
  generalize gn _ _ = g at G ⊢
  generalize sn _ _ = s at Z ⊢
  refine aw_dup (q := 88) rfl rfl rfl ?_
  refine ax_cnV (z := m_Laws_init) (av := []) (q := 91) (k' := 15) (n' := 565) rfl rfl cn_Text_44 ⟨by decide, by decide⟩ rfl rfl (by decide) (by decide) rfl rfl (Nat.le_of_ble_eq_true rfl) (i_Laws_92 G Z (fun g' u G' Z' => ?_))
  replace G := G'
  replace Z := Z'
  clear G' Z'
  generalize g' = g at G ⊢
  generalize u = s at Z ⊢
  refine ag_putR (q := 94) rfl rfl fl_Text_45 rfl rfl (G.og rfl (by decide)) ?_
  replace G := G.put (i := 79) (i' := 80) (a := 81) (f := 10) (b := 92) rfl rfl (by decide) (by decide) (by decide)
  generalize gr _ _ _ _ = g at G ⊢
  refine aw_aload_n (q := 95) (j := 0) rfl rfl rfl (List.mem_of_getElem? (i := 0) rfl) ?_
  refine aw_sipush (q := 98) (v := 9999) rfl rfl (by decide) ?_
  refine ag_putI (q := 101) rfl rfl fl_Text_49 rfl rfl (G.og rfl (by decide)) ?_
  replace Z := Z.wi (a := 81) (k := 15) (v := 9999) (by decide) (by decide)
  generalize wi _ _ _ _ = s at Z ⊢
  refine aw_aload_n (q := 102) (j := 0) rfl rfl rfl (List.mem_of_getElem? (i := 0) rfl) ?_
  refine aw_bipush (q := 104) (v := 50) rfl rfl (by decide) ?_
  refine ag_putI (q := 107) rfl rfl fl_Text_53 rfl rfl (G.og rfl (by decide)) ?_
  replace Z := Z.wi (a := 81) (k := 16) (v := 50) (by decide) (by decide)
  generalize wi _ _ _ _ = s at Z ⊢
  exact aw_return rfl rfl (by decide) (by decide) (rV.mk (h g s G Z))
set_option maxRecDepth 20000 in
theorem i_Laws_108 {E : EN} {g : GS} {s : MS} {R : GS → MS → Prop} {s0 : MS} (G : GPn 109 91 g) (Z : MZs s0 109 (Vu (Vu (Vu (Vu (Vu V0 94 0 (-1)) 94 1 (-1)) 94 2 (-1)) 81 15 (9999)) 81 16 (50)) s) (h : ∀ g' u, GPn 113 95 g' → MZs s0 113 (Vu (Vu (Vu (Vu (Vu (Vu (Vu (Vu V0 94 0 (-1)) 94 1 (-1)) 94 2 (-1)) 81 15 (9999)) 81 16 (50)) 110 0 (-1)) 110 1 (-1)) 110 2 (-1)) u → R g' u) : XV E m_Laws_init [.ref 108] g s R := by
  refine AMet.of (by decide) k_Laws_init [(0, .ref 108)] (Nat.le_of_ble_eq_true rfl) rfl ?_
  refine aw_aload_n (q := 1) (j := 0) rfl rfl rfl (List.mem_of_getElem? (i := 0) rfl) ?_
  refine aw_oinit (q := 4) rfl rfl (tb_c2 32 rfl rfl) (tb_c1 27 rfl rfl) (tb_c1 28 rfl rfl) (by decide) (Nat.le_of_ble_eq_true rfl) (by decide) ?_
  refine aw_aload_n (q := 5) (j := 0) rfl rfl rfl (List.mem_of_getElem? (i := 0) rfl) ?_
  refine aw_sipush (q := 8) (v := 400) rfl rfl (by decide) ?_
  refine ag_newarray (q := 10) (t := 0) (N := 400) (k' := 1) (n' := 400) rfl rfl (by decide) rfl ac_int (by decide) (by decide) (by decide) rfl rfl (by decide) (by decide) ?_
  rw [G.1]
  replace G := G.new (m := 110) (kd := (0 + 1, 400)) rfl rfl (by decide)
  replace Z := Z.new (m := 110) rfl rfl (by decide)
  generalize gn _ _ = g at G ⊢
  generalize sn _ _ = s at Z ⊢
  refine ag_putR (q := 13) rfl rfl fl_Laws_11 rfl rfl (G.og rfl (by decide)) ?_
  replace G := G.put (i := 91) (i' := 92) (a := 108) (f := 0) (b := 109) rfl rfl (by decide) (by decide) (by decide)
  generalize gr _ _ _ _ = g at G ⊢
  refine aw_aload_n (q := 14) (j := 0) rfl rfl rfl (List.mem_of_getElem? (i := 0) rfl) ?_
  refine aw_iconst (q := 15) (v := 3) rfl rfl (by decide) ?_
  refine ag_newarray (q := 17) (t := 0) (N := 3) (k' := 2) (n' := 403) rfl rfl (by decide) rfl ac_int (by decide) (by decide) (by decide) rfl rfl (by decide) (by decide) ?_
  rw [G.1]
  replace G := G.new (m := 111) (kd := (0 + 1, 3)) rfl rfl (by decide)
  replace Z := Z.new (m := 111) rfl rfl (by decide)
  generalize gn _ _ = g at G ⊢
  generalize sn _ _ = s at Z ⊢
  refine aw_dup (q := 18) rfl rfl rfl ?_
  refine aw_iconst (q := 19) (v := 0) rfl rfl (by decide) ?_
  refine aw_iconst (q := 20) (v := -1) rfl rfl (by decide) ?_
  refine ag_iastore (q := 21) (N := 3) rfl rfl (G.ag rfl (by decide)) (vp_in_nI (n := 0) (by decide) (by decide)) ?_
  replace Z := Z.wi (a := 110) (k := 0) (v := -1) (by decide) (by decide)
  rw [show ((0 : Int32)).toNatClampNeg = 0 from rfl]
  generalize wi _ _ _ _ = s at Z ⊢
  refine aw_dup (q := 22) rfl rfl rfl ?_
  refine aw_iconst (q := 23) (v := 1) rfl rfl (by decide) ?_
  refine aw_iconst (q := 24) (v := -1) rfl rfl (by decide) ?_
  refine ag_iastore (q := 25) (N := 3) rfl rfl (G.ag rfl (by decide)) (vp_in_nI (n := 1) (by decide) (by decide)) ?_
  replace Z := Z.wi (a := 110) (k := 1) (v := -1) (by decide) (by decide)
  rw [show ((1 : Int32)).toNatClampNeg = 1 from rfl]
  generalize wi _ _ _ _ = s at Z ⊢
  refine aw_dup (q := 26) rfl rfl rfl ?_
  refine aw_iconst (q := 27) (v := 2) rfl rfl (by decide) ?_
  refine aw_iconst (q := 28) (v := -1) rfl rfl (by decide) ?_
  refine ag_iastore (q := 29) (N := 3) rfl rfl (G.ag rfl (by decide)) (vp_in_nI (n := 2) (by decide) (by decide)) ?_
  replace Z := Z.wi (a := 110) (k := 2) (v := -1) (by decide) (by decide)
  rw [show ((2 : Int32)).toNatClampNeg = 2 from rfl]
  generalize wi _ _ _ _ = s at Z ⊢
  refine ag_putR (q := 32) rfl rfl fl_Laws_15 rfl rfl (G.og rfl (by decide)) ?_
  replace G := G.put (i := 92) (i' := 93) (a := 108) (f := 1) (b := 110) rfl rfl (by decide) (by decide) (by decide)
  generalize gr _ _ _ _ = g at G ⊢
  refine aw_aload_n (q := 33) (j := 0) rfl rfl rfl (List.mem_of_getElem? (i := 0) rfl) ?_
  refine aw_bipush (q := 35) (v := 32) rfl rfl (by decide) ?_
  refine ag_newarray (q := 37) (t := 0) (N := 32) (k' := 3) (n' := 435) rfl rfl (by decide) rfl ac_int (by decide) (by decide) (by decide) rfl rfl (by decide) (by decide) ?_
  rw [G.1]
  replace G := G.new (m := 112) (kd := (0 + 1, 32)) rfl rfl (by decide)
  replace Z := Z.new (m := 112) rfl rfl (by decide)
  generalize gn _ _ = g at G ⊢
  generalize sn _ _ = s at Z ⊢
  refine ag_putR (q := 40) rfl rfl fl_Laws_18 rfl rfl (G.og rfl (by decide)) ?_
  replace G := G.put (i := 93) (i' := 94) (a := 108) (f := 2) (b := 111) rfl rfl (by decide) (by decide) (by decide)
  generalize gr _ _ _ _ = g at G ⊢
  refine aw_aload_n (q := 41) (j := 0) rfl rfl rfl (List.mem_of_getElem? (i := 0) rfl) ?_
  refine aw_bipush (q := 43) (v := 32) rfl rfl (by decide) ?_
  refine ag_newarray (q := 45) (t := 0) (N := 32) (k' := 4) (n' := 467) rfl rfl (by decide) rfl ac_int (by decide) (by decide) (by decide) rfl rfl (by decide) (by decide) ?_
  rw [G.1]
  replace G := G.new (m := 113) (kd := (0 + 1, 32)) rfl rfl (by decide)
  replace Z := Z.new (m := 113) rfl rfl (by decide)
  generalize gn _ _ = g at G ⊢
  generalize sn _ _ = s at Z ⊢
  refine ag_putR (q := 48) rfl rfl fl_Laws_21 rfl rfl (G.og rfl (by decide)) ?_
  replace G := G.put (i := 94) (i' := 95) (a := 108) (f := 3) (b := 112) rfl rfl (by decide) (by decide) (by decide)
  generalize gr _ _ _ _ = g at G ⊢
  exact aw_return rfl rfl (by decide) (by decide) (rV.mk (h g s G Z))
set_option maxRecDepth 20000 in
theorem i_Text_97 {E : EN} {g : GS} {s : MS} {R : GS → MS → Prop} {s0 : MS} (G : GPn 98 81 g) (Z : MZs s0 98 (Vu (Vu (Vu (Vu (Vu V0 94 0 (-1)) 94 1 (-1)) 94 2 (-1)) 81 15 (9999)) 81 16 (50)) s) (h : ∀ g' u, GPn 113 96 g' → MZs s0 113 (Vu (Vu (Vu (Vu (Vu (Vu (Vu (Vu (Vu (Vu V0 94 0 (-1)) 94 1 (-1)) 94 2 (-1)) 81 15 (9999)) 81 16 (50)) 110 0 (-1)) 110 1 (-1)) 110 2 (-1)) 97 15 (9999)) 97 16 (50)) u → R g' u) : XV E m_Text_init [.ref 97] g s R := by
  refine AMet.of (by decide) k_Text_init [(0, .ref 97)] (Nat.le_of_ble_eq_true rfl) rfl ?_
  refine aw_aload_n (q := 1) (j := 0) rfl rfl rfl (List.mem_of_getElem? (i := 0) rfl) ?_
  refine aw_oinit (q := 4) rfl rfl (tb_c2 26 rfl rfl) (tb_c1 27 rfl rfl) (tb_c1 28 rfl rfl) (by decide) (Nat.le_of_ble_eq_true rfl) (by decide) ?_
  refine aw_aload_n (q := 5) (j := 0) rfl rfl rfl (List.mem_of_getElem? (i := 0) rfl) ?_
  refine aw_bipush (q := 7) (v := 6) rfl rfl (by decide) ?_
  refine ag_newarray (q := 9) (t := 0) (N := 6) (k' := 1) (n' := 6) rfl rfl (by decide) rfl ac_int (by decide) (by decide) (by decide) rfl rfl (by decide) (by decide) ?_
  rw [G.1]
  replace G := G.new (m := 99) (kd := (0 + 1, 6)) rfl rfl (by decide)
  replace Z := Z.new (m := 99) rfl rfl (by decide)
  generalize gn _ _ = g at G ⊢
  generalize sn _ _ = s at Z ⊢
  refine ag_putR (q := 12) rfl rfl fl_Text_9 rfl rfl (G.og rfl (by decide)) ?_
  replace G := G.put (i := 81) (i' := 82) (a := 97) (f := 0) (b := 98) rfl rfl (by decide) (by decide) (by decide)
  generalize gr _ _ _ _ = g at G ⊢
  refine aw_aload_n (q := 13) (j := 0) rfl rfl rfl (List.mem_of_getElem? (i := 0) rfl) ?_
  refine aw_bipush (q := 15) (v := 6) rfl rfl (by decide) ?_
  refine ag_newarray (q := 17) (t := 0) (N := 6) (k' := 2) (n' := 12) rfl rfl (by decide) rfl ac_int (by decide) (by decide) (by decide) rfl rfl (by decide) (by decide) ?_
  rw [G.1]
  replace G := G.new (m := 100) (kd := (0 + 1, 6)) rfl rfl (by decide)
  replace Z := Z.new (m := 100) rfl rfl (by decide)
  generalize gn _ _ = g at G ⊢
  generalize sn _ _ = s at Z ⊢
  refine ag_putR (q := 20) rfl rfl fl_Text_15 rfl rfl (G.og rfl (by decide)) ?_
  replace G := G.put (i := 82) (i' := 83) (a := 97) (f := 1) (b := 99) rfl rfl (by decide) (by decide) (by decide)
  generalize gr _ _ _ _ = g at G ⊢
  refine aw_aload_n (q := 21) (j := 0) rfl rfl rfl (List.mem_of_getElem? (i := 0) rfl) ?_
  refine aw_bipush (q := 23) (v := 6) rfl rfl (by decide) ?_
  refine ag_newarray (q := 25) (t := 0) (N := 6) (k' := 3) (n' := 18) rfl rfl (by decide) rfl ac_int (by decide) (by decide) (by decide) rfl rfl (by decide) (by decide) ?_
  rw [G.1]
  replace G := G.new (m := 101) (kd := (0 + 1, 6)) rfl rfl (by decide)
  replace Z := Z.new (m := 101) rfl rfl (by decide)
  generalize gn _ _ = g at G ⊢
  generalize sn _ _ = s at Z ⊢
  refine ag_putR (q := 28) rfl rfl fl_Text_18 rfl rfl (G.og rfl (by decide)) ?_
  replace G := G.put (i := 83) (i' := 84) (a := 97) (f := 2) (b := 100) rfl rfl (by decide) (by decide) (by decide)
  generalize gr _ _ _ _ = g at G ⊢
  refine aw_aload_n (q := 29) (j := 0) rfl rfl rfl (List.mem_of_getElem? (i := 0) rfl) ?_
  refine aw_bipush (q := 31) (v := 6) rfl rfl (by decide) ?_
  refine ag_newarray (q := 33) (t := 0) (N := 6) (k' := 4) (n' := 24) rfl rfl (by decide) rfl ac_int (by decide) (by decide) (by decide) rfl rfl (by decide) (by decide) ?_
  rw [G.1]
  replace G := G.new (m := 102) (kd := (0 + 1, 6)) rfl rfl (by decide)
  replace Z := Z.new (m := 102) rfl rfl (by decide)
  generalize gn _ _ = g at G ⊢
  generalize sn _ _ = s at Z ⊢
  refine ag_putR (q := 36) rfl rfl fl_Text_21 rfl rfl (G.og rfl (by decide)) ?_
  replace G := G.put (i := 84) (i' := 85) (a := 97) (f := 3) (b := 101) rfl rfl (by decide) (by decide) (by decide)
  generalize gr _ _ _ _ = g at G ⊢
  refine aw_aload_n (q := 37) (j := 0) rfl rfl rfl (List.mem_of_getElem? (i := 0) rfl) ?_
  refine aw_bipush (q := 39) (v := 8) rfl rfl (by decide) ?_
  refine ag_newarray (q := 41) (t := 0) (N := 8) (k' := 5) (n' := 32) rfl rfl (by decide) rfl ac_int (by decide) (by decide) (by decide) rfl rfl (by decide) (by decide) ?_
  rw [G.1]
  replace G := G.new (m := 103) (kd := (0 + 1, 8)) rfl rfl (by decide)
  replace Z := Z.new (m := 103) rfl rfl (by decide)
  generalize gn _ _ = g at G ⊢
  generalize sn _ _ = s at Z ⊢
  refine ag_putR (q := 44) rfl rfl fl_Text_24 rfl rfl (G.og rfl (by decide)) ?_
  replace G := G.put (i := 85) (i' := 86) (a := 97) (f := 4) (b := 102) rfl rfl (by decide) (by decide) (by decide)
  generalize gr _ _ _ _ = g at G ⊢
  refine aw_aload_n (q := 45) (j := 0) rfl rfl rfl (List.mem_of_getElem? (i := 0) rfl) ?_
  refine aw_bipush (q := 47) (v := 8) rfl rfl (by decide) ?_
  refine ag_newarray (q := 49) (t := 0) (N := 8) (k' := 6) (n' := 40) rfl rfl (by decide) rfl ac_int (by decide) (by decide) (by decide) rfl rfl (by decide) (by decide) ?_
  rw [G.1]
  replace G := G.new (m := 104) (kd := (0 + 1, 8)) rfl rfl (by decide)
  replace Z := Z.new (m := 104) rfl rfl (by decide)
  generalize gn _ _ = g at G ⊢
  generalize sn _ _ = s at Z ⊢
  refine ag_putR (q := 52) rfl rfl fl_Text_27 rfl rfl (G.og rfl (by decide)) ?_
  replace G := G.put (i := 86) (i' := 87) (a := 97) (f := 5) (b := 103) rfl rfl (by decide) (by decide) (by decide)
  generalize gr _ _ _ _ = g at G ⊢
  refine aw_aload_n (q := 53) (j := 0) rfl rfl rfl (List.mem_of_getElem? (i := 0) rfl) ?_
  refine aw_bipush (q := 55) (v := 8) rfl rfl (by decide) ?_
  refine ag_newarray (q := 57) (t := 0) (N := 8) (k' := 7) (n' := 48) rfl rfl (by decide) rfl ac_int (by decide) (by decide) (by decide) rfl rfl (by decide) (by decide) ?_
  rw [G.1]
  replace G := G.new (m := 105) (kd := (0 + 1, 8)) rfl rfl (by decide)
  replace Z := Z.new (m := 105) rfl rfl (by decide)
  generalize gn _ _ = g at G ⊢
  generalize sn _ _ = s at Z ⊢
  refine ag_putR (q := 60) rfl rfl fl_Text_30 rfl rfl (G.og rfl (by decide)) ?_
  replace G := G.put (i := 87) (i' := 88) (a := 97) (f := 6) (b := 104) rfl rfl (by decide) (by decide) (by decide)
  generalize gr _ _ _ _ = g at G ⊢
  refine aw_aload_n (q := 61) (j := 0) rfl rfl rfl (List.mem_of_getElem? (i := 0) rfl) ?_
  refine aw_bipush (q := 63) (v := 8) rfl rfl (by decide) ?_
  refine ag_newarray (q := 65) (t := 0) (N := 8) (k' := 8) (n' := 56) rfl rfl (by decide) rfl ac_int (by decide) (by decide) (by decide) rfl rfl (by decide) (by decide) ?_
  rw [G.1]
  replace G := G.new (m := 106) (kd := (0 + 1, 8)) rfl rfl (by decide)
  replace Z := Z.new (m := 106) rfl rfl (by decide)
  generalize gn _ _ = g at G ⊢
  generalize sn _ _ = s at Z ⊢
  refine ag_putR (q := 68) rfl rfl fl_Text_33 rfl rfl (G.og rfl (by decide)) ?_
  replace G := G.put (i := 88) (i' := 89) (a := 97) (f := 7) (b := 105) rfl rfl (by decide) (by decide) (by decide)
  generalize gr _ _ _ _ = g at G ⊢
  refine aw_aload_n (q := 69) (j := 0) rfl rfl rfl (List.mem_of_getElem? (i := 0) rfl) ?_
  refine aw_iconst (q := 70) (v := 5) rfl rfl (by decide) ?_
  refine ag_newarray (q := 72) (t := 0) (N := 5) (k' := 9) (n' := 61) rfl rfl (by decide) rfl ac_int (by decide) (by decide) (by decide) rfl rfl (by decide) (by decide) ?_
  rw [G.1]
  replace G := G.new (m := 107) (kd := (0 + 1, 5)) rfl rfl (by decide)
  replace Z := Z.new (m := 107) rfl rfl (by decide)
  generalize gn _ _ = g at G ⊢
  generalize sn _ _ = s at Z ⊢
  refine ag_putR (q := 75) rfl rfl fl_Text_36 rfl rfl (G.og rfl (by decide)) ?_
  replace G := G.put (i := 89) (i' := 90) (a := 97) (f := 8) (b := 106) rfl rfl (by decide) (by decide) (by decide)
  generalize gr _ _ _ _ = g at G ⊢
  refine aw_aload_n (q := 76) (j := 0) rfl rfl rfl (List.mem_of_getElem? (i := 0) rfl) ?_
  refine aw_bipush (q := 78) (v := 30) rfl rfl (by decide) ?_
  refine ag_newarray (q := 80) (t := 0) (N := 30) (k' := 10) (n' := 91) rfl rfl (by decide) rfl ac_int (by decide) (by decide) (by decide) rfl rfl (by decide) (by decide) ?_
  rw [G.1]
  replace G := G.new (m := 108) (kd := (0 + 1, 30)) rfl rfl (by decide)
  replace Z := Z.new (m := 108) rfl rfl (by decide)
  generalize gn _ _ = g at G ⊢
  generalize sn _ _ = s at Z ⊢
  refine ag_putR (q := 83) rfl rfl fl_Text_39 rfl rfl (G.og rfl (by decide)) ?_
  replace G := G.put (i := 90) (i' := 91) (a := 97) (f := 9) (b := 107) rfl rfl (by decide) (by decide) (by decide)
  generalize gr _ _ _ _ = g at G ⊢
  refine aw_aload_n (q := 84) (j := 0) rfl rfl rfl (List.mem_of_getElem? (i := 0) rfl) ?_
  refine ag_new (q := 87) (ci := 3) (k' := 11) (n' := 98) rfl rfl nc_Text_42 rfl rfl (by decide) (by decide) ?_
  rw [G.1]
  replace G := G.new (m := 109) (kd := (0, 3)) rfl rfl (by decide)
  replace Z := Z.new (m := 109) rfl rfl (by decide)
  generalize gn _ _ = g at G ⊢
  generalize sn _ _ = s at Z ⊢
  refine aw_dup (q := 88) rfl rfl rfl ?_
  refine ax_cnV (z := m_Laws_init) (av := []) (q := 91) (k' := 15) (n' := 565) rfl rfl cn_Text_44 ⟨by decide, by decide⟩ rfl rfl (by decide) (by decide) rfl rfl (Nat.le_of_ble_eq_true rfl) (i_Laws_108 G Z (fun g' u G' Z' => ?_))
  replace G := G'
  replace Z := Z'
  clear G' Z'
  generalize g' = g at G ⊢
  generalize u = s at Z ⊢
  refine ag_putR (q := 94) rfl rfl fl_Text_45 rfl rfl (G.og rfl (by decide)) ?_
  replace G := G.put (i := 95) (i' := 96) (a := 97) (f := 10) (b := 108) rfl rfl (by decide) (by decide) (by decide)
  generalize gr _ _ _ _ = g at G ⊢
  refine aw_aload_n (q := 95) (j := 0) rfl rfl rfl (List.mem_of_getElem? (i := 0) rfl) ?_
  refine aw_sipush (q := 98) (v := 9999) rfl rfl (by decide) ?_
  refine ag_putI (q := 101) rfl rfl fl_Text_49 rfl rfl (G.og rfl (by decide)) ?_
  replace Z := Z.wi (a := 97) (k := 15) (v := 9999) (by decide) (by decide)
  generalize wi _ _ _ _ = s at Z ⊢
  refine aw_aload_n (q := 102) (j := 0) rfl rfl rfl (List.mem_of_getElem? (i := 0) rfl) ?_
  refine aw_bipush (q := 104) (v := 50) rfl rfl (by decide) ?_
  refine ag_putI (q := 107) rfl rfl fl_Text_53 rfl rfl (G.og rfl (by decide)) ?_
  replace Z := Z.wi (a := 97) (k := 16) (v := 50) (by decide) (by decide)
  generalize wi _ _ _ _ = s at Z ⊢
  exact aw_return rfl rfl (by decide) (by decide) (rV.mk (h g s G Z))
set_option maxRecDepth 20000 in
theorem i_Teller_113 {E : EN} {g : GS} {s : MS} {R : GS → MS → Prop} {s0 : MS} (G : GPn 114 97 g) (Z : MZs s0 114 (Vu (Vu (Vu (Vu (Vu (Vu (Vu (Vu (Vu (Vu V0 94 0 (-1)) 94 1 (-1)) 94 2 (-1)) 81 15 (9999)) 81 16 (50)) 110 0 (-1)) 110 1 (-1)) 110 2 (-1)) 97 15 (9999)) 97 16 (50)) s) (h : ∀ g' u, GPn 117 102 g' → MZs s0 117 (Vu (Vu (Vu (Vu (Vu (Vu (Vu (Vu (Vu (Vu V0 94 0 (-1)) 94 1 (-1)) 94 2 (-1)) 81 15 (9999)) 81 16 (50)) 110 0 (-1)) 110 1 (-1)) 110 2 (-1)) 97 15 (9999)) 97 16 (50)) u → R g' u) : XV E m_Teller_init [.ref 113, .ref 18, .ref 97] g s R := by
  refine AMet.of (by decide) k_Teller_init [(0, .ref 113), (1, .ref 18), (2, .ref 97)] (Nat.le_of_ble_eq_true rfl) rfl ?_
  refine aw_aload_n (q := 1) (j := 0) rfl rfl rfl (List.mem_of_getElem? (i := 0) rfl) ?_
  refine aw_oinit (q := 4) rfl rfl (tb_c2 164 rfl rfl) (tb_c1 27 rfl rfl) (tb_c1 28 rfl rfl) (by decide) (Nat.le_of_ble_eq_true rfl) (by decide) ?_
  refine aw_aload_n (q := 5) (j := 0) rfl rfl rfl (List.mem_of_getElem? (i := 0) rfl) ?_
  refine aw_bipush (q := 7) (v := 20) rfl rfl (by decide) ?_
  refine ag_newarray (q := 9) (t := 4) (N := 20) (k' := 1) (n' := 20) rfl rfl (by decide) rfl ac_long (by decide) (by decide) (by decide) rfl rfl (by decide) (by decide) ?_
  rw [G.1]
  replace G := G.new (m := 115) (kd := (4 + 1, 20)) rfl rfl (by decide)
  replace Z := Z.new (m := 115) rfl rfl (by decide)
  generalize gn _ _ = g at G ⊢
  generalize sn _ _ = s at Z ⊢
  refine ag_putR (q := 12) rfl rfl fl_Teller_11 rfl rfl (G.og rfl (by decide)) ?_
  replace G := G.put (i := 97) (i' := 98) (a := 113) (f := 0) (b := 114) rfl rfl (by decide) (by decide) (by decide)
  generalize gr _ _ _ _ = g at G ⊢
  refine aw_aload_n (q := 13) (j := 0) rfl rfl rfl (List.mem_of_getElem? (i := 0) rfl) ?_
  refine aw_bipush (q := 15) (v := 20) rfl rfl (by decide) ?_
  refine ag_newarray (q := 17) (t := 0) (N := 20) (k' := 2) (n' := 40) rfl rfl (by decide) rfl ac_int (by decide) (by decide) (by decide) rfl rfl (by decide) (by decide) ?_
  rw [G.1]
  replace G := G.new (m := 116) (kd := (0 + 1, 20)) rfl rfl (by decide)
  replace Z := Z.new (m := 116) rfl rfl (by decide)
  generalize gn _ _ = g at G ⊢
  generalize sn _ _ = s at Z ⊢
  refine ag_putR (q := 20) rfl rfl fl_Teller_15 rfl rfl (G.og rfl (by decide)) ?_
  replace G := G.put (i := 98) (i' := 99) (a := 113) (f := 1) (b := 115) rfl rfl (by decide) (by decide) (by decide)
  generalize gr _ _ _ _ = g at G ⊢
  refine aw_aload_n (q := 21) (j := 0) rfl rfl rfl (List.mem_of_getElem? (i := 0) rfl) ?_
  refine aw_bipush (q := 23) (v := 20) rfl rfl (by decide) ?_
  refine ag_newarray (q := 25) (t := 0) (N := 20) (k' := 3) (n' := 60) rfl rfl (by decide) rfl ac_int (by decide) (by decide) (by decide) rfl rfl (by decide) (by decide) ?_
  rw [G.1]
  replace G := G.new (m := 117) (kd := (0 + 1, 20)) rfl rfl (by decide)
  replace Z := Z.new (m := 117) rfl rfl (by decide)
  generalize gn _ _ = g at G ⊢
  generalize sn _ _ = s at Z ⊢
  refine ag_putR (q := 28) rfl rfl fl_Teller_19 rfl rfl (G.og rfl (by decide)) ?_
  replace G := G.put (i := 99) (i' := 100) (a := 113) (f := 2) (b := 116) rfl rfl (by decide) (by decide) (by decide)
  generalize gr _ _ _ _ = g at G ⊢
  refine aw_aload_n (q := 29) (j := 0) rfl rfl rfl (List.mem_of_getElem? (i := 0) rfl) ?_
  refine aw_aload_n (q := 30) (j := 1) rfl rfl rfl (List.mem_of_getElem? (i := 1) rfl) ?_
  refine ag_putR (q := 33) rfl rfl fl_Teller_22 rfl rfl (G.og rfl (by decide)) ?_
  replace G := G.put (i := 100) (i' := 101) (a := 113) (f := 4) (b := 18) rfl rfl (by decide) (by decide) (by decide)
  generalize gr _ _ _ _ = g at G ⊢
  refine aw_aload_n (q := 34) (j := 0) rfl rfl rfl (List.mem_of_getElem? (i := 0) rfl) ?_
  refine aw_aload_n (q := 35) (j := 2) rfl rfl rfl (List.mem_of_getElem? (i := 2) rfl) ?_
  refine ag_putR (q := 38) rfl rfl fl_Teller_26 rfl rfl (G.og rfl (by decide)) ?_
  replace G := G.put (i := 101) (i' := 102) (a := 113) (f := 5) (b := 97) rfl rfl (by decide) (by decide) (by decide)
  generalize gr _ _ _ _ = g at G ⊢
  exact aw_return rfl rfl (by decide) (by decide) (rV.mk (h g s G Z))
set_option maxRecDepth 20000 in
theorem i_Mill_117 {E : EN} {g : GS} {s : MS} {R : GS → MS → Prop} {s0 : MS} (G : GPn 118 103 g) (Z : MZs s0 118 (Vu (Vu (Vu (Vu (Vu (Vu (Vu (Vu (Vu (Vu V0 94 0 (-1)) 94 1 (-1)) 94 2 (-1)) 81 15 (9999)) 81 16 (50)) 110 0 (-1)) 110 1 (-1)) 110 2 (-1)) 97 15 (9999)) 97 16 (50)) s) (h : ∀ g' u, GPn 120 106 g' → MZs s0 120 (Vu (Vu (Vu (Vu (Vu (Vu (Vu (Vu (Vu (Vu V0 94 0 (-1)) 94 1 (-1)) 94 2 (-1)) 81 15 (9999)) 81 16 (50)) 110 0 (-1)) 110 1 (-1)) 110 2 (-1)) 97 15 (9999)) 97 16 (50)) u → R g' u) : XV E m_Mill_init [.ref 117, .ref 81] g s R := by
  refine AMet.of (by decide) k_Mill_init [(0, .ref 117), (1, .ref 81)] (Nat.le_of_ble_eq_true rfl) rfl ?_
  refine aw_aload_n (q := 1) (j := 0) rfl rfl rfl (List.mem_of_getElem? (i := 0) rfl) ?_
  refine aw_oinit (q := 4) rfl rfl (tb_c2 196 rfl rfl) (tb_c1 27 rfl rfl) (tb_c1 28 rfl rfl) (by decide) (Nat.le_of_ble_eq_true rfl) (by decide) ?_
  refine aw_aload_n (q := 5) (j := 0) rfl rfl rfl (List.mem_of_getElem? (i := 0) rfl) ?_
  refine aw_bipush (q := 7) (v := 6) rfl rfl (by decide) ?_
  refine ag_newarray (q := 9) (t := 0) (N := 6) (k' := 1) (n' := 6) rfl rfl (by decide) rfl ac_int (by decide) (by decide) (by decide) rfl rfl (by decide) (by decide) ?_
  rw [G.1]
  replace G := G.new (m := 119) (kd := (0 + 1, 6)) rfl rfl (by decide)
  replace Z := Z.new (m := 119) rfl rfl (by decide)
  generalize gn _ _ = g at G ⊢
  generalize sn _ _ = s at Z ⊢
  refine ag_putR (q := 12) rfl rfl fl_Mill_9 rfl rfl (G.og rfl (by decide)) ?_
  replace G := G.put (i := 103) (i' := 104) (a := 117) (f := 1) (b := 118) rfl rfl (by decide) (by decide) (by decide)
  generalize gr _ _ _ _ = g at G ⊢
  refine aw_aload_n (q := 13) (j := 0) rfl rfl rfl (List.mem_of_getElem? (i := 0) rfl) ?_
  refine aw_bipush (q := 15) (v := 7) rfl rfl (by decide) ?_
  refine ag_newarray (q := 17) (t := 0) (N := 7) (k' := 2) (n' := 13) rfl rfl (by decide) rfl ac_int (by decide) (by decide) (by decide) rfl rfl (by decide) (by decide) ?_
  rw [G.1]
  replace G := G.new (m := 120) (kd := (0 + 1, 7)) rfl rfl (by decide)
  replace Z := Z.new (m := 120) rfl rfl (by decide)
  generalize gn _ _ = g at G ⊢
  generalize sn _ _ = s at Z ⊢
  refine ag_putR (q := 20) rfl rfl fl_Mill_17 rfl rfl (G.og rfl (by decide)) ?_
  replace G := G.put (i := 104) (i' := 105) (a := 117) (f := 3) (b := 119) rfl rfl (by decide) (by decide) (by decide)
  generalize gr _ _ _ _ = g at G ⊢
  refine aw_aload_n (q := 21) (j := 0) rfl rfl rfl (List.mem_of_getElem? (i := 0) rfl) ?_
  refine aw_aload_n (q := 22) (j := 1) rfl rfl rfl (List.mem_of_getElem? (i := 1) rfl) ?_
  refine ag_putR (q := 25) rfl rfl fl_Mill_20 rfl rfl (G.og rfl (by decide)) ?_
  replace G := G.put (i := 105) (i' := 106) (a := 117) (f := 0) (b := 81) rfl rfl (by decide) (by decide) (by decide)
  generalize gr _ _ _ _ = g at G ⊢
  exact aw_return rfl rfl (by decide) (by decide) (rV.mk (h g s G Z))
