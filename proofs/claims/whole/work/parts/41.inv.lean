/-! THE INVARIANT BETWEEN CALLS: one pure state, held by the class and by the reference -/
abbrev PS : Type := Row × Nat × (Nat → Row) × (Nat → Option Row) × (Nat × (Nat → Nat × Nat × Nat × Int32)) × (Nat × (Nat → Nat)) × Int32
def pN (π : PS) : Row := π.1
def pM (π : PS) : Nat := π.2.1
def pH (π : PS) : Nat → Row := π.2.2.1
def pS (π : PS) : Nat → Option Row := π.2.2.2.1
def pK (π : PS) : Nat := π.2.2.2.2.1.1
def pF (π : PS) : Nat → Nat × Nat × Nat × Int32 := π.2.2.2.2.1.2
def pL (π : PS) : Nat := π.2.2.2.2.2.1.1
def pT (π : PS) : Nat → Nat := π.2.2.2.2.2.1.2
def pP (π : PS) : Int32 := π.2.2.2.2.2.2
def pa (g : GS) (i : Nat) : Option Nat := if i < 40 then g.2.2 86 i else g.2.2 87 (i - 40)
def POOL (g : GS) : Prop := ∃ n, g.1 = 173 + 12 * n ∧ (∀ i b, i < 43 → pa g i = some b → ∃ j, j < n ∧ b = 173 + 12 * j ∧ HS g b) ∧ ∀ i i' b, i < 43 → i' < 43 → pa g i = some b → pa g i' = some b → i = i'
/-- how the text's first minute stands -/
def beg (d : TD) : Row := fun k => if k < 6 then (if k < nG d then dPo d k else 0) else if 66 ≤ k ∧ k < 66 + nR d then -2 else if 82 ≤ k ∧ k < 82 + nR d then dFt d (k - 82) else if 90 ≤ k ∧ k < 90 + nR d then nI (dKn d (k - 90)) else if 106 ≤ k ∧ k < 106 + nR d then -2 else 0
def Past (d : TD) (π : PS) (g : GS) (s : MS) : Prop := ∃ e, e < 40 ∧ s.1 16 14 = nI e ∧ s.1 16 15 = nI (pM π) ∧ ∀ i, i < pM π → ∃ b, pa g ((e + 39 - i) % 40) = some b ∧ CH b s ∧ nm (dE d) (hr s b) = pH π i
def Slot (d : TD) (π : PS) (g : GS) (s : MS) : Prop := ∃ hb, hb < 8 ∧ s.1 16 16 = nI hb ∧ ∀ i, i < 3 → (hb.testBit i = false ∧ pS π i = none) ∨ (hb.testBit i = true ∧ ∃ b R, pS π i = some R ∧ pa g (40 + i) = some b ∧ CH b s ∧ nm (dE d) (hr s b) = R)
def Fact (π : PS) (s : MS) : Prop := s.1 56 7 = nI (pK π) ∧ ∀ i, i < pK π → s.1 57 i = nI (pF π i).1 ∧ s.1 58 i = nI (pF π i).2.1 ∧ s.1 59 i = nI (pF π i).2.2.1 ∧ s.1 60 i = (pF π i).2.2.2
def Seen (d : TD) (s : MS) : Prop := (s.1 56 6 = 0 ∨ (s.1 56 6 = 1 ∧ ∀ n, n ≤ 99 → ∀ c, c < 36 → s.1 61 (36 * n + c) = pMins (dE d) n (beg d) (6 + c))) ∧ CH 62 s
theorem Seen.mv {d : TD} {s u : MS} (a : u.1 56 6 = s.1 56 6) (b : u.1 61 = s.1 61) (c : ∀ x, 62 ≤ x → x < 74 → u.1 x = s.1 x) (h : Seen d s) : Seen d u := by
  refine ⟨by rw [a, b]; exact h.1, fun r hr' => ?_⟩
  rw [c (62 + 4 + r) (by omega) (by omega)]; exact h.2 r hr'
def Tape (π : PS) (s : MS) : Prop := s.1 16 12 = nI (pL π) ∧ ∀ i, i < pL π → s.1 17 i = nI (pT π i)
def ICl (d : TD) (t : Nat) (π : PS) (g : GS) (s : MS) : Prop := KC d g t (eFa (dE d)) (eSd (dE d)) s ∧ g.2.2 16 11 = some (192 - t) ∧ (nm (dE d) (hr s 74) = pN π ∧ CH 74 s) ∧ CW d (pN π) s ∧ POOL g ∧ Past d π g s ∧ Slot d π g s ∧ Fact π s ∧ Seen d s ∧ Tape π s ∧ s.1 16 13 = pP π
def hrow (s : MS) (k : Nat) : Row := fun j => s.1 166 (120 * k + j)
def srow (s : MS) (k : Nat) : Row := fun j => s.1 172 (120 * k + j)
def kws : List Nat := [4075367, 168728, 13169, 247162, 99703, 112042, 12253591, 237292, 11047, 377761, 249, 399641, 107681, 126232335, 4421, 271277, 79958, 4419, 227147, 10990126]
def IRf (d : TD) (lv : Nat) (π : PS) (s : MS) : Prop := KR d lv s ∧ nm (dE d) (s.1 162) = pN π ∧ (s.1 120 64 = nI (pM π) ∧ ∀ i, i < pM π → nm (dE d) (hrow s (pM π - 1 - i)) = pH π i) ∧ (∀ i, i < 3 → (s.1 171 i = 0 ∧ pS π i = none) ∨ (s.1 171 i = 1 ∧ ∃ R, pS π i = some R ∧ nm (dE d) (srow s i) = R)) ∧ (s.1 120 68 = nI (pK π) ∧ ∀ i, i < pK π → s.1 167 i = nI (pF π i).1 ∧ s.1 168 i = nI (pF π i).2.1 ∧ s.1 169 i = nI (pF π i).2.2.1 ∧ s.1 170 i = (pF π i).2.2.2) ∧ (s.1 120 2 = nI (pL π) ∧ ∀ i, i < pL π → s.1 121 i = (nI (pT π i)).toInt8.toInt32) ∧ s.1 120 17 = pP π ∧ ∀ k, k < 20 → s.2 127 k = lN (kws.getD k 0)
def RV (d : TD) (c : Nat) (N : Row) : Prop := WFA (dE d) N ∧ WF4 (dE d) (10000 * (c + 6)) N ∧ (∃ m, m ≤ 600 * c ∧ N 114 = nI m) ∧ (∃ q, q ≤ 999 ∧ N 118 = nI q) ∧ (∀ r, r < nR d → ∃ f, f ≤ 9 ∧ N (82 + r) = nI f) ∧ HZ (dE d) N
theorem RV.rw {d : TD} {c : Nat} {N : Row} (hc : c ≤ 520) (h : RV d c N) : RW d 400000 N := by
  obtain ⟨h1, h2, ⟨m, h3, h4⟩, -⟩ := h
  exact ⟨h1, h2.le (by omega), m, by omega, h4⟩
theorem RV.le {d : TD} {c c' : Nat} {N : Row} (hc : c ≤ c') (h : RV d c N) : RV d c' N := by
  obtain ⟨h1, h2, ⟨m, h3, h4⟩, h5⟩ := h
  exact ⟨h1, h2.le (by omega), ⟨m, by omega, h4⟩, h5⟩
def IPu (d : TD) (c : Nat) (π : PS) : Prop := RV d c (pN π) ∧ pM π ≤ 40 ∧ (∀ i, i < pM π → RV d c (pH π i)) ∧ (∀ i R, i < 3 → pS π i = some R → RV d c R) ∧ (pK π ≤ 20 ∧ ∀ i, i < pK π → (pF π i).1 < nH d ∧ (pF π i).2.1 < nG d ∧ (pF π i).2.2.1 ≤ 99) ∧ (pL π ≤ 2000 ∧ ∀ i, i < pL π → pT π i < 256) ∧ c ≤ 512
def INV (d : TD) (t lv c : Nat) (π : PS) (g : GS) (s : MS) : Prop := ICl d t π g s ∧ IRf d lv π s ∧ IPu d c π
/-- what the class's calls leave alone, what the reference's do -/
def FC (s u : MS) : Prop := (∀ a, 120 ≤ a → a < 173 → u.1 a = s.1 a) ∧ ∀ a, 120 ≤ a → a < 173 → u.2 a = s.2 a
def FF (s u : MS) : Prop := (∀ a, (a < 120 ∨ 173 ≤ a) → u.1 a = s.1 a) ∧ ∀ a, a < 120 → u.2 a = s.2 a
theorem FC.rf (s : MS) : FC s s := ⟨fun _ _ _ => rfl, fun _ _ _ => rfl⟩
theorem FC.tr {s u v : MS} (h : FC s u) (k : FC u v) : FC s v := ⟨fun a h1 h2 => (k.1 a h1 h2).trans (h.1 a h1 h2), fun a h1 h2 => (k.2 a h1 h2).trans (h.2 a h1 h2)⟩
theorem FF.rf (s : MS) : FF s s := ⟨fun _ _ => rfl, fun _ _ => rfl⟩
theorem FF.tr {s u v : MS} (h : FF s u) (k : FF u v) : FF s v := ⟨fun a h1 => (k.1 a h1).trans (h.1 a h1), fun a h1 => (k.2 a h1).trans (h.2 a h1)⟩
theorem FrW.C {t : Nat} {s u : MS} (et : t = 88 ∨ t = 104) (h : FrW t s u) : FC s u := ⟨fun a h1 h2 => h.1 a (by omega) (by omega), fun a _ _ => by rw [h.2.1]⟩
theorem FrP.C {t : Nat} {s u : MS} (et : t = 88 ∨ t = 104) (h : FrP t s u) : FC s u := h.W.C et
theorem FrR.F {s u : MS} (h : FrR s u) : FF s u := ⟨fun a h1 => h.1 a (by omega) (by omega) (by omega) (by omega) (by omega) (by omega), fun a _ => by rw [h.2.2.1]⟩
theorem CH.cg {b : Nat} {s u : MS} (h : ∀ a, b ≤ a → a < b + 12 → u.1 a = s.1 a) (k : CH b s) : CH b u := fun r hr' => by
  rw [h (b + 4 + r) (by omega) (by omega)]; exact k r hr'
theorem hr_c2 {b : Nat} {s u : MS} (h : ∀ a, b ≤ a → a < b + 12 → u.1 a = s.1 a) : hr u b = hr s b := hr_cg (fun a h1 h2 _ => h a h1 h2)
theorem pool_at {g : GS} (h : POOL g) {i b : Nat} (hi : i < 43) (e : pa g i = some b) : 173 ≤ b ∧ HS g b := by
  obtain ⟨n, h1, h2, h3⟩ := h
  obtain ⟨j, j1, j2, j3⟩ := h2 i b hi e
  exact ⟨by omega, j3⟩
/-- all of the class's but the planner's memory and the house -/
theorem ICl.rest {d : TD} {t : Nat} {π : PS} {g : GS} {s u : MS} (h : ICl d t π g s) (k : ∀ a, a = 16 ∨ a = 17 ∨ (56 ≤ a ∧ a < 74) ∨ 173 ≤ a → u.1 a = s.1 a) : Past d π g u ∧ Slot d π g u ∧ Fact π u ∧ Seen d u ∧ Tape π u ∧ u.1 16 13 = pP π := by
  obtain ⟨h1, h2, h3, h4, h5, h6, h7, h8, h9, h10, h11⟩ := h
  refine ⟨?_, ?_, ?_, ?_, ?_, ?_⟩
  · obtain ⟨e, e1, e2, e3, e4⟩ := h6
    refine ⟨e, e1, by rw [k 16 (by omega)]; exact e2, by rw [k 16 (by omega)]; exact e3, fun i hi => ?_⟩
    obtain ⟨b, b1, b2, b3⟩ := e4 i hi
    have := (pool_at h5 (by omega) b1).1
    exact ⟨b, b1, b2.cg (fun a a1 _ => k a (by omega)), by rw [hr_c2 (fun a a1 _ => k a (by omega))]; exact b3⟩
  · obtain ⟨e, e1, e2, e3⟩ := h7
    refine ⟨e, e1, by rw [k 16 (by omega)]; exact e2, fun i hi => ?_⟩
    rcases e3 i hi with q | ⟨q1, b, R, q2, q3, q4, q5⟩
    · exact Or.inl q
    · have := (pool_at h5 (by omega) q3).1
      exact Or.inr ⟨q1, b, R, q2, q3, q4.cg (fun a a1 _ => k a (by omega)), by rw [hr_c2 (fun a a1 _ => k a (by omega))]; exact q5⟩
  · unfold Fact
    rw [k 56 (by omega), k 57 (by omega), k 58 (by omega), k 59 (by omega), k 60 (by omega)]; exact h8
  · exact h9.mv (by rw [k 56 (by omega)]) (k 61 (by omega)) (fun a _ _ => k a (by omega))
  · unfold Tape
    rw [k 16 (by omega), k 17 (by omega)]; exact h10
  · rw [k 16 (by omega)]; exact h11
theorem ICl.w {d : TD} {t : Nat} {π : PS} {g : GS} {s u : MS} (h : ICl d t π g s) (k : FrW t s u) (hc : CW d (pN π) u) : ICl d t π g u := by
  have et := h.1.et
  have h' := h
  obtain ⟨h1, h2, h3, h4, h5, -⟩ := h'
  exact ⟨h1.w k, h2, ⟨by rw [hr_c2 (fun a a1 a2 => k.1 a (by omega) (by omega))]; exact h3.1, h3.2.cg (fun a a1 a2 => k.1 a (by omega) (by omega))⟩, hc, h5, h.rest (fun a ha => k.1 a (by omega) (by omega))⟩
theorem CW.p {d : TD} {t : Nat} {N : Row} {s u : MS} (k : FrP t s u) (hc : CW d N s) : CW d N u := by
  unfold CW
  rw [k.1.2.1 4 (by omega), k.1.2.1 5 (by omega), k.1.2.1 6 (by omega), k.1.2.1 7 (by omega)]; exact hc
theorem ICl.p {d : TD} {t : Nat} {π : PS} {g : GS} {s u : MS} (h : ICl d t π g s) (k : FrP t s u) : ICl d t π g u := h.w k.W (h.2.2.2.1.p k)
theorem ICl.mv {d : TD} {t : Nat} {π : PS} {g : GS} {s u : MS} (h : ICl d t π g s) (k : FF s u) : ICl d t π g u := by
  have et := h.1.et
  have h' := h
  obtain ⟨⟨k1, k2, k3, k4, k5, k6, k7, k8, k9, k10⟩, h2, h3, h4, h5, -⟩ := h'
  refine ⟨⟨k1, k2, k3, k4, k5, k6.mv (fun a _ _ => k.1 a (by omega)), fun j hj => by rw [k.1 29 (by omega)]; exact k7 j hj, by rw [k.1 28 (by omega)]; exact k8, fun j hj => by rw [k.1 1 (by omega)]; exact k9 j hj, k10⟩, h2, ⟨by rw [hr_c2 (fun a a1 a2 => k.1 a (by omega))]; exact h3.1, h3.2.cg (fun a a1 a2 => k.1 a (by omega))⟩, ?_, h5, h.rest (fun a ha => k.1 a (by omega))⟩
  unfold CW
  rw [k.1 31 (by omega)]; exact h4
theorem IRf.mv {d : TD} {lv : Nat} {π : PS} {s u : MS} (h : IRf d lv π s) (k : FC s u) : IRf d lv π u := by
  obtain ⟨⟨a1, a2, a3, a4⟩, h2, h3, h4, h5, h6, h7, h8⟩ := h
  have e : ∀ a, 120 ≤ a → a < 173 → u.1 a = s.1 a := k.1
  refine ⟨⟨a1.mv (fun a h1 h2 => e a (by omega) (by omega)), by rw [e 120 (by omega) (by omega)]; exact a2, a3, fun j hj => by rw [e 164 (by omega) (by omega)]; exact a4 j hj⟩, by rw [e 162 (by omega) (by omega)]; exact h2, ?_, ?_, ?_, ?_, ?_, ?_⟩
  · unfold hrow; rw [e 120 (by omega) (by omega), e 166 (by omega) (by omega)]; exact h3
  · unfold srow; rw [e 171 (by omega) (by omega), e 172 (by omega) (by omega)]; exact h4
  · rw [e 120 (by omega) (by omega), e 167 (by omega) (by omega), e 168 (by omega) (by omega), e 169 (by omega) (by omega), e 170 (by omega) (by omega)]; exact h5
  · rw [e 120 (by omega) (by omega), e 121 (by omega) (by omega)]; exact h6
  · rw [e 120 (by omega) (by omega)]; exact h7
  · rw [k.2 127 (by omega) (by omega)]; exact h8
theorem IRf.r {d : TD} {lv : Nat} {π : PS} {s u : MS} (h : IRf d lv π s) (k : FrR s u) : IRf d lv π u := by
  obtain ⟨a1, h2, h3, h4, h5, h6, h7, h8⟩ := h
  have e : ∀ a, a = 121 ∨ a = 162 ∨ 166 ≤ a → u.1 a = s.1 a := fun a ha => k.1 a (by omega) (by omega) (by omega) (by omega) (by omega) (by omega)
  have f : ∀ j, j = 2 ∨ j = 17 ∨ j = 64 ∨ j = 68 → u.1 120 j = s.1 120 j := fun j hj => k.2.1 j (by omega) (by omega) (by omega) (by omega)
  refine ⟨a1.mv k, by rw [e 162 (by omega)]; exact h2, ?_, ?_, ?_, ?_, ?_, ?_⟩
  · unfold hrow; rw [f 64 (by omega), e 166 (by omega)]; exact h3
  · unfold srow; rw [e 171 (by omega), e 172 (by omega)]; exact h4
  · rw [f 68 (by omega), e 167 (by omega), e 168 (by omega), e 169 (by omega), e 170 (by omega)]; exact h5
  · rw [f 2 (by omega), e 121 (by omega)]; exact h6
  · rw [f 17 (by omega)]; exact h7
  · rw [k.2.2.1]; exact h8
theorem INV.pc {d : TD} {t lv c : Nat} {π : PS} {g : GS} {s : MS} (h : INV d t lv c π g s) : PC d g t (pN π) s := ⟨h.1.1, h.1.2.2.1.1, h.1.2.2.1.2, h.2.2.1.rw (by have := h.2.2.2.2.2.2.2.2; omega)⟩
theorem INV.pr {d : TD} {t lv c : Nat} {π : PS} {g : GS} {s : MS} (h : INV d t lv c π g s) : PR d lv (pN π) s := ⟨h.2.1.1, h.2.1.2.1⟩
theorem INV.hn {d : TD} {t lv c : Nat} {π : PS} {g : GS} {s : MS} (h : INV d t lv c π g s) : HN d (pN π) := HN.of h.1.1.o h.1.2.2.1.1 h.1.2.2.1.2
theorem INV.hz {d : TD} {t lv c : Nat} {π : PS} {g : GS} {s : MS} (h : INV d t lv c π g s) : HZ (dE d) (pN π) := h.2.2.1.2.2.2.2.2
theorem INV.hw {d : TD} {t lv c : Nat} {π : PS} {g : GS} {s : MS} (h : INV d t lv c π g s) : RW d 400000 (pN π) := h.pc.2.2.2
section Pairs
variable {E : EN} {d : TD} {t lv c : Nat} {π : PS} {g : GS} {s : MS} {zc zr : MD} {ac ar : List Value} {A : Int32}
/-- a call that changes nothing, on both sides -/
theorem ro {Q : Int32 → Int32 → MS → Prop} (I : INV d t lv c π g s) (hc : ∀ R : Int32 → MS → Prop, (∀ u, FrP t s u → R A u) → GI E zc ac g s R) (hr' : ∀ u, PR d lv (pN π) u → ∀ R : Int32 → MS → Prop, (∀ v, FrR u v → R A v) → GI E zr ar g u R) (hq : ∀ v, INV d t lv c π g v → Q A A v) : GI E zc ac g s (fun y u => GI E zr ar g u (fun y' v => Q y y' v)) := by
  refine hc _ (fun u hu => ?_)
  have I1 := I.1.p hu
  have I2 := I.2.1.mv (hu.C I.1.1.et)
  refine hr' u ⟨I2.1, I2.2.1⟩ _ (fun v hv => hq v ⟨I1.mv hv.F, I2.r hv, I.2.2⟩)
theorem rw_ {Q : Int32 → Int32 → MS → Prop} (I : INV d t lv c π g s) (hc : ∀ R : Int32 → MS → Prop, (∀ u, FrW t s u → CW d (pN π) u → R A u) → GI E zc ac g s R) (hr' : ∀ u, PR d lv (pN π) u → ∀ R : Int32 → MS → Prop, (∀ v, FrR u v → R A v) → GI E zr ar g u R) (hq : ∀ v, INV d t lv c π g v → Q A A v) : GI E zc ac g s (fun y u => GI E zr ar g u (fun y' v => Q y y' v)) := by
  refine hc _ (fun u hu hw => ?_)
  have I1 := I.1.w hu hw
  have I2 := I.2.1.mv (hu.C I.1.1.et)
  refine hr' u ⟨I2.1, I2.2.1⟩ _ (fun v hv => hq v ⟨I1.mv hv.F, I2.r hv, I.2.2⟩)
variable {x1 x2 x3 : Int32} {Q : Int32 → Int32 → MS → Prop}
theorem o_heap (I : INV d t lv c π g s) (hq : ∀ A v, INV d t lv c π g v → Q A A v) : GI E m_Rs_heap [.ref 16, .int x1] g s (fun y u => GI E m_Mo_heap [.ref 120, .int x1] g u (fun y' v => Q y y' v)) :=
  ro (A := heapA d (pN π) x1) I (fun R h => c_heap I.pc (h s (FrP.rf t s))) (fun u P R h => r_heap I.1.1.sx I.1.1.o P (h u (FrR.rf u))) (hq _)
theorem o_hole (I : INV d t lv c π g s) (hq : ∀ A v, INV d t lv c π g v → Q A A v) : GI E m_Rs_hole [.ref 16, .int x1, .int x2] g s (fun y u => GI E m_Mo_hole [.ref 120, .int x1, .int x2] g u (fun y' v => Q y y' v)) :=
  ro (A := holeA d (pN π) x1 x2) I (fun R h => c_hole I.pc (h s (FrP.rf t s))) (fun u P R h => r_hole I.1.1.sx I.1.1.o P (h u (FrR.rf u))) (hq _)
theorem o_rat (I : INV d t lv c π g s) (hq : ∀ A v, INV d t lv c π g v → Q A A v) : GI E m_Rs_rat [.ref 16, .int x1, .int x2] g s (fun y u => GI E m_Mo_rat [.ref 120, .int x1, .int x2] g u (fun y' v => Q y y' v)) :=
  ro (A := ratA d (pN π) x1 x2) I (fun R h => c_rat I.pc (h s (FrP.rf t s))) (fun u P R h => r_rat I.1.1.sx I.1.1.o P (h u (FrR.rf u))) (hq _)
theorem o_worth (I : INV d t lv c π g s) (hq : ∀ A v, INV d t lv c π g v → Q A A v) : GI E m_Rs_worth [.ref 16, .int x1] g s (fun y u => GI E m_Mo_worth [.ref 120, .int x1] g u (fun y' v => Q y y' v)) :=
  ro (A := worthA d (pN π) x1) I (fun R h => c_worth I.pc (h s (FrP.rf t s))) (fun u P R h => r_worth I.1.1.sx I.1.1.o P h) (hq _)
theorem o_pure (I : INV d t lv c π g s) (hq : ∀ A v, INV d t lv c π g v → Q A A v) : GI E m_Rs_pure [.ref 16, .int x1, .int x2] g s (fun y u => GI E m_Mo_pure [.ref 120, .int x1, .int x2] g u (fun y' v => Q y y' v)) :=
  ro (A := pureA d (pN π) x1 x2) I (fun R h => c_pure I.pc (h s (FrP.rf t s))) (fun u P R h => r_pure I.1.1.sx I.1.1.o P I.hw (h u (FrR.rf u))) (hq _)
theorem o_isClean (I : INV d t lv c π g s) (hq : ∀ A v, INV d t lv c π g v → Q A A v) : GI E m_Rs_isClean [.ref 16] g s (fun y u => GI E m_Mo_isClean [.ref 120] g u (fun y' v => Q y y' v)) :=
  ro (A := isClA d (pN π)) I (fun R h => c_isClean I.pc (h s (FrP.rf t s))) (fun u P R h => r_isClean I.1.1.sx I.1.1.o P I.hw h) (hq _)
theorem o_clean (I : INV d t lv c π g s) (hq : ∀ A v, INV d t lv c π g v → Q A A v) : GI E m_Rs_clean [.ref 16] g s (fun y u => GI E m_Mo_clean [.ref 120] g u (fun y' v => Q y y' v)) :=
  ro (A := pCB (dE d) 601 0 (pN π)) I (fun R h => c_clean I.pc h) (fun u P R h => r_clean I.1.1.sx I.1.1.o P I.hw h) (hq _)
theorem o_then (I : INV d t lv c π g s) (hq : ∀ A v, INV d t lv c π g v → Q A A v) : GI E m_Rs_then [.ref 16, .int x1, .int x2] g s (fun y u => GI E m_Mo_then [.ref 120, .int x1, .int x2] g u (fun y' v => Q y y' v)) :=
  ro (A := thenA d (pN π) x1 x2) I (fun R h => c_then I.pc h) (fun u P R h => r_then I.1.1.sx I.1.1.o P I.hw h) (hq _)
theorem o_lies (I : INV d t lv c π g s) (hq : ∀ A v, INV d t lv c π g v → Q A A v) : GI E m_Rs_lies [.ref 16, .int x1, .int x2, .int x3] g s (fun y u => GI E m_Mo_lies [.ref 120, .int x1, .int x2, .int x3] g u (fun y' v => Q y y' v)) :=
  ro (A := liesA d (pN π) x1 x2 x3) I (fun R h => c_lies I.pc h) (fun u P R h => r_lies I.1.1.sx I.1.1.o P I.hw h) (hq _)
theorem o_hire (I : INV d t lv c π g s) (hq : ∀ A v, INV d t lv c π g v → Q A A v) : GI E m_Rs_hire [.ref 16, .int x1, .int x2] g s (fun y u => GI E m_Mo_hire [.ref 120, .int x1, .int x2] g u (fun y' v => Q y y' v)) :=
  ro (A := hireA d (pN π) x1 x2) I (fun R h => c_hire I.pc I.hz h) (fun u P R h => r_hire I.1.1.sx I.1.1.o P I.hw I.hn I.hz h) (hq _)
theorem o_taught (I : INV d t lv c π g s) (hq : ∀ A v, INV d t lv c π g v → Q A A v) : GI E m_Rs_taught [.ref 16, .int x1, .int x2] g s (fun y u => GI E m_Mo_taught [.ref 120, .int x1, .int x2] g u (fun y' v => Q y y' v)) :=
  rw_ (A := taughtA d (pN π) x1 x2) I (fun R h => c_taught I.pc I.1.2.2.2.1 h) (fun u P R h => r_taught I.1.1.sx I.1.1.o P I.hw h) (hq _)
theorem o_taughtAt (I : INV d t lv c π g s) (hq : ∀ A v, INV d t lv c π g v → Q A A v) : GI E m_Rs_taughtAt [.ref 16, .int x1, .int x2, .int x3] g s (fun y u => GI E m_Mo_taughtAt [.ref 120, .int x1, .int x2, .int x3] g u (fun y' v => Q y y' v)) :=
  rw_ (A := taughtAtA d (pN π) x1 x2 x3) I (fun R h => c_taughtAt I.pc I.1.2.2.2.1 h) (fun u P R h => r_taughtAt I.1.1.sx I.1.1.o P I.hw h) (hq _)
theorem o_bestSwap (I : INV d t lv c π g s) (hq : ∀ A v, INV d t lv c π g v → Q A A v) : GI E m_Rs_bestSwap [.ref 16, .int x1] g s (fun y u => GI E m_Mo_bestSwap [.ref 120, .int x1] g u (fun y' v => Q y y' v)) :=
  ro (A := bestA d (pN π) x1) I (fun R h => c_bestSwap I.pc h) (fun u P R h => r_bestSwap I.1.1.sx I.1.1.o P I.hw h) (hq _)
theorem o_missed (I : INV d t lv c π g s) (hq : ∀ A v, INV d t lv c π g v → Q A A v) : GI E m_Rs_missed [.ref 16, .int x1, .int x2] g s (fun y u => GI E m_Mo_missed [.ref 120, .int x1, .int x2] g u (fun y' v => Q y y' v)) :=
  ro (A := missedA d (pN π) x1 x2) I (fun R h => c_missed I.pc h) (fun u P R h => r_missed I.1.1.sx I.1.1.o P I.hw I.hn h) (hq _)
theorem o_catAt (I : INV d t lv c π g s) (hq : ∀ A v, INV d t lv c π g v → Q A A v) : GI E m_Rs_catAt [.ref 16, .int x1, .int x2] g s (fun y u => GI E m_Mo_catAt [.ref 120, .int x1, .int x2] g u (fun y' v => Q y y' v)) :=
  ro (A := catAtA d (pN π) x1 x2) I (fun R h => c_catAt I.pc I.2.2.1.2.2.2.1 h) (fun u P R h => r_catAt I.1.1.sx I.1.1.o P I.hw I.2.2.1.2.2.2.1 h) (hq _)
theorem o_starves (I : INV d t lv c π g s) (hq : ∀ A v, INV d t lv c π g v → Q A A v) : GI E m_Rs_starves [.ref 16, .int x1] g s (fun y u => GI E m_Mo_starves [.ref 120, .int x1] g u (fun y' v => Q y y' v)) :=
  ro (A := starvesA d (pN π) x1) I (fun R h => c_starves I.pc h) (fun u P R h => r_starves I.1.1.sx I.1.1.o P I.hw h) (hq _)
theorem o_mean (I : INV d t lv c π g s) (hq : ∀ A v, INV d t lv c π g v → Q A A v) : GI E m_Rs_mean [.ref 16, .int x1, .int x2] g s (fun y u => GI E m_Mo_mean [.ref 120, .int x1, .int x2] g u (fun y' v => Q y y' v)) :=
  ro (A := meanA d (pN π) x1 x2) I (fun R h => c_mean I.pc h) (fun u P R h => r_mean I.1.1.sx I.1.1.o P I.hw h) (hq _)
theorem o_sales (I : INV d t lv c π g s) (hq : ∀ A v, INV d t lv c π g v → Q A A v) : GI E m_Rs_sales [.ref 16, .int x1] g s (fun y u => GI E m_Mo_sales [.ref 120, .int x1] g u (fun y' v => Q y y' v)) :=
  ro (A := salesA d (pN π) x1) I (fun R h => c_sales I.pc h) (fun u P R h => r_sales I.1.1.sx I.1.1.o P h) (hq _)
theorem o_place (I : INV d t lv c π g s) (hq : ∀ A v, INV d t lv c π g v → Q A A v) : GI E m_Rs_place [.ref 16] g s (fun y u => GI E m_Mo_place [.ref 120] g u (fun y' v => Q y y' v)) := by
  refine v_Rs_place (Q := qI g _) I.1.1.sx (GI.r ?_)
  refine v_Mo_place (Q := qI g _) I.1.1.sx (GI.r ?_)
  rw [I.1.2.2.2.2.2.2.2.2.2.2, I.2.1.2.2.2.2.2.2.1]
  exact hq _ s I
end Pairs
