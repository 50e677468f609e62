/-! THE REFERENCE tells a rat -/
section RRat
variable {E : EN} {g : GS} {s : MS} {T : Nat → Nat} {L M : Nat} {d : TD} {nl : NL} {sd lv : Nat}
theorem TR.ra' {u : MS} {kn wh : Nat} {ft fe : Int32} (r8 : nR d < 8) (h : TR d sd s) (a : u.1 137 sd = nI (nR d + 1)) (c8 : u.1 138 = upd (s.1 138) (8 * sd + nR d) (nI kn)) (c9 : u.1 139 = upd (s.1 139) (8 * sd + nR d) (nI wh)) (c0 : u.1 140 = upd (s.1 140) (8 * sd + nR d) ft) (c1 : u.1 141 = upd (s.1 141) (8 * sd + nR d) fe) (f : ∀ x, 131 ≤ x → x < 159 → (x < 137 ∨ 142 ≤ x) → u.1 x = s.1 x) : TR (aRa d kn wh ft fe) sd u := by
  obtain ⟨h1, h2, h3, h4, h5, h6', h7, h8, h9, h10, h11, h12, h13, h14⟩ := h
  have f' : ∀ x, 142 ≤ x → x < 159 → u.1 x = s.1 x := fun x h1 h2 => f x (by omega) h2 (by omega)
  have e' : ∀ x, 131 ≤ x → x < 137 → u.1 x = s.1 x := fun x h1 h2 => f x (by omega) (by omega) (by omega)
  refine ⟨?_, ?_, a, ?_, ?_, ?_, ?_, ?_, ?_, ?_, fun r hr => ?_, fun m hm => ?_, fun k hk => ?_, fun k hk => ?_⟩
  · rw [e' 131 (by omega) (by omega)]; exact h1
  · rw [e' 134 (by omega) (by omega)]; exact h2
  · rw [f' 142 (by omega) (by omega)]; exact h4
  · rw [f' 147 (by omega) (by omega)]; exact h5
  · rw [f' 148 (by omega) (by omega)]; exact h6'
  · rw [f' 149 (by omega) (by omega)]; exact h7
  · rw [e' 132 (by omega) (by omega), e' 133 (by omega) (by omega)]; exact h8
  · rw [e' 135 (by omega) (by omega)]; exact h9
  · rw [e' 136 (by omega) (by omega)]; exact h10
  · have hr' : r < nR d + 1 := hr
    show u.1 138 (8 * sd + r) = nI (if r = nR d then kn else dKn d r) ∧ u.1 139 (8 * sd + r) = nI (if r = nR d then wh else eWh (dE d) r) ∧ u.1 140 (8 * sd + r) = upd (dFt d) (nR d) ft r ∧ u.1 141 (8 * sd + r) = upd (dFe d) (nR d) fe r
    rw [c8, c9, c0, c1]
    by_cases z : r = nR d
    · subst z; rw [upd_s, upd_s, upd_s, upd_s, upd_s, upd_s, if_pos rfl, if_pos rfl]; exact ⟨rfl, rfl, rfl, rfl⟩
    · have ne : 8 * sd + r ≠ 8 * sd + nR d := by omega
      rw [upd_n _ _ ne, upd_n _ _ ne, upd_n _ _ ne, upd_n _ _ ne, upd_n _ _ z, upd_n _ _ z, if_neg z, if_neg z]; exact h11 r (by omega)
  · rw [f' 143 (by omega) (by omega), f' 144 (by omega) (by omega), f' 145 (by omega) (by omega), f' 146 (by omega) (by omega)]; exact h12 m hm
  · exact (h13 k hk).mv (fun a h1 h2 => f' a (by omega) h2)
  · exact (h14 k hk).mv (fun a h1 h2 => f' a (by omega) h2)
theorem gRow6 {K : Nat → Nat} {q : Nat × Nat} {k1 k2 k3 k4 k5 k6 : Nat} (h : (gRow K [k1, k2, k3, k4, k5, k6] q).2 = 0) : (K q.1 = k1 ∧ K (q.1 + 1) = k2 ∧ K (q.1 + 2) = k3 ∧ K (q.1 + 3) = k4 ∧ K (q.1 + 4) = k5 ∧ K (q.1 + 5) = k6) ∧ gk K k1 q = (q.1 + 1, 0) ∧ gk K k2 (q.1 + 1, 0) = (q.1 + 2, 0) ∧ gk K k3 (q.1 + 2, 0) = (q.1 + 3, 0) ∧ gk K k4 (q.1 + 3, 0) = (q.1 + 4, 0) ∧ gk K k5 (q.1 + 4, 0) = (q.1 + 5, 0) ∧ gRow K [k1, k2, k3, k4, k5, k6] q = (q.1 + 6, 0) := by
  have h6 : (gk K k6 (gk K k5 (gk K k4 (gk K k3 (gk K k2 (gk K k1 q)))))).2 = 0 := h
  obtain ⟨a6, b6, -, c6⟩ := gk_ok h6
  obtain ⟨a5, b5, -, c5⟩ := gk_ok a6
  obtain ⟨a4, b4, -, c4⟩ := gk_ok a5
  obtain ⟨a3, b3, -, c3⟩ := gk_ok a4
  obtain ⟨a2, b2, -, c2⟩ := gk_ok a3
  obtain ⟨a1, b1, -, c1⟩ := gk_ok a2
  rw [c1] at b2 c2
  rw [c1, c2] at b3 c3
  rw [c1, c2, c3] at b4 c4
  rw [c1, c2, c3, c4] at b5 c5
  rw [c1, c2, c3, c4, c5] at b6 c6
  refine ⟨⟨b1, b2, b3, b4, b5, b6⟩, c1, c2, c3, c4, c5, ?_⟩
  show gk K k6 (gk K k5 (gk K k4 (gk K k3 (gk K k2 (gk K k1 q))))) = _
  rw [c1, c2, c3, c4, c5]; exact c6
/-- an earlier wrong one is earlier still, behind the next token -/
theorem be_nx {b b' : Option (Nat × Nat)} {K : Nat → Nat} {κ c : Nat} {q : Nat × Nat} (z : (gk K κ q).2 = 0) (hb : q.2 = 0 → BE b q.1) (h : b' = b ∨ b' = some (c, q.1) ∨ b' = none) : BE b' (gk K κ q).1 := by
  obtain ⟨g1, -, -, g4⟩ := gk_ok z
  rw [g4]
  intro c' j' e
  show j' < q.1 + 1
  rcases h with h | h | h
  · rw [h] at e; have := hb g1 c' j' e; omega
  · rw [h] at e; injection e with e; injection e with e1 e2; omega
  · rw [h] at e; exact absurd e (by simp)
end RRat
