/-! THE INVARIANT AT THE START -/
def ps0 : PS := (beg (d0 (fun _ => 0)), 0, fun _ _ => 0, fun _ => none, (0, fun _ => (0, 0, 0, 0)), (0, fun _ => 0), -1)
theorem st_INV {g : GS} {s0 u : MS} (G : GPs 173 159 g) (g28 : g.2.2 28 0 = some 88) (C : CI0 s0) (hK : KR (d0 (fun _ => 0)) 0 u) (hn : nm (dE (d0 (fun _ => 0))) (u.1 162) = beg (d0 (fun _ => 0))) (h64 : u.1 120 64 = 0) (h171 : ∀ i, u.1 171 i = 0) (h68 : u.1 120 68 = 0) (h2 : u.1 120 2 = 0) (h17 : u.1 120 17 = -1) (hw : KWs 20 u) (hf : ∀ a, a < 120 → u.1 a = s0.1 a) : INV (d0 (fun _ => 0)) 88 0 0 ps0 g u := by
  obtain ⟨c1, c2, c3, c4, c5, c6, c7, c8, c9, c10, c11, c12, c13, c14⟩ := C
  have hO : TOk (d0 (fun _ => 0)) := (d0_PI _).1
  have hSX := G.sx
  have e10 : g.2.2 16 10 = some 88 := by
    have := (G.2.2.1 (rSL.idxOf (16, 10, 88)) (by decide +kernel)).1
    rw [show rS (rSL.idxOf (16, 10, 88)) = (16, 10, 88) from by decide +kernel] at this; exact this
  have e11 : g.2.2 16 11 = some 104 := by
    have := (G.2.2.1 (rSL.idxOf (16, 11, 104)) (by decide +kernel)).1
    rw [show rS (rSL.idxOf (16, 11, 104)) = (16, 11, 104) from by decide +kernel] at this; exact this
  have hpa : ∀ i, pa g i = none := fun i => by
    unfold pa
    split
    · exact G.2.2.2.2.1 _ (by omega)
    · exact G.2.2.2.2.2 _ (by omega)
  refine ⟨⟨⟨hSX, Or.inl rfl, e10, g28, hO, c1.mv (fun a h1 h2 => hf a (by omega)), fun j hj => absurd hj (Nat.not_lt_zero _), ?_, fun k hk => ?_, fun j hj => absurd hj (Nat.not_lt_zero _)⟩, e11, ⟨?_, ?_⟩, Or.inl ?_, ⟨0, G.1, fun i b _ e => ?_, fun i i' b _ _ e _ => ?_⟩, ⟨0, by omega, ?_, ?_, fun i hi => absurd hi (Nat.not_lt_zero _)⟩, ⟨0, by omega, ?_, fun i hi => Or.inl ⟨Nat.zero_testBit _, rfl⟩⟩, ⟨?_, fun i hi => absurd hi (Nat.not_lt_zero _)⟩, ⟨Or.inl ?_, ?_⟩, ⟨?_, fun i hi => absurd hi (Nat.not_lt_zero _)⟩, ?_⟩, ⟨hK, hn, ⟨h64, fun i hi => absurd hi (Nat.not_lt_zero _)⟩, fun i hi => Or.inl ⟨h171 i, rfl⟩, ⟨h68, fun i hi => absurd hi (Nat.not_lt_zero _)⟩, ⟨h2, fun i hi => absurd hi (Nat.not_lt_zero _)⟩, h17, hw⟩, ⟨beg_RV hO 0, Nat.zero_le _, fun i hi => absurd hi (Nat.not_lt_zero _), fun i R hi e => ?_, ⟨Nat.zero_le _, fun i hi => absurd hi (Nat.not_lt_zero _)⟩, ⟨Nat.zero_le _, fun i hi => absurd hi (Nat.not_lt_zero _)⟩, by omega⟩⟩
  · rw [hf 28 (by omega)]; exact c2
  · rw [hf 1 (by omega)]; exact c14 k hk
  · rw [hr_c2 (s := s0) (fun a h1 h2 => hf a (by omega))]; exact c3
  · exact c4.cg (fun a h1 h2 => hf a (by omega))
  · rw [hf 31 (by omega)]; exact c6
  · rw [hpa i] at e; cases e
  · rw [hpa i] at e; cases e
  · rw [hf 16 (by omega)]; exact c11
  · rw [hf 16 (by omega)]; exact c7
  · rw [hf 16 (by omega)]; exact c8
  · rw [hf 56 (by omega)]; exact c9
  · rw [hf 56 (by omega)]; exact c10
  · exact c5.cg (fun a h1 h2 => hf a (by omega))
  · rw [hf 16 (by omega)]; exact c12
  · rw [hf 16 (by omega)]; exact c13
  · exact absurd e (by show ¬ (none : Option Row) = some R; simp)
