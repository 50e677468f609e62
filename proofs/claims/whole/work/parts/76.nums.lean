/-! LAMP, ODD, SEED: the text with another one -/
def aLm (d : TD) (v : Int32) : TD := ((d.1.1, d.1.2.1, d.1.2.2.1, v, d.1.2.2.2.2), d.2)
def aOd (d : TD) (v : Int32) : TD := ((d.1.1, d.1.2.1, d.1.2.2.1, d.1.2.2.2.1, v, d.1.2.2.2.2.2), d.2)
def aSe (d : TD) (v : Int32) : TD := ((d.1.1, d.1.2.1, d.1.2.2.1, d.1.2.2.2.1, d.1.2.2.2.2.1, d.1.2.2.2.2.2.1, d.1.2.2.2.2.2.2.1, v, d.1.2.2.2.2.2.2.2.2), d.2)
def sNum (T : Nat → Nat) (L lo hi a : Nat) (f : TD → Int32 → TD) (d : TD) (nl : NL) : SR := if lo ≤ vV T L a ∧ vV T L a ≤ hi then .inr (f d (nI (vV T L a)), nl) else .inl (5, a)
section Nums
variable {s u : MS} {d : TD} {t sd : Nat} {v : Int32}
theorem TCf.rest15 (h : TCf d t s) (f : ∀ x, t + 1 ≤ x → x < t + 14 → u.1 x = s.1 x) : (∀ j, j < nG d → u.1 (t + 1) j = dPo d j ∧ u.1 (t + 2) j = dPe d j) ∧ (∀ h, h < nH d → u.1 (t + 3) h = eFa (dE d) h ∧ u.1 (t + 4) h = nI (dOw d h)) ∧ (∀ r, r < nR d → u.1 (t + 5) r = nI (dKn d r) ∧ u.1 (t + 6) r = nI (eWh (dE d) r) ∧ u.1 (t + 7) r = dFt d r ∧ u.1 (t + 8) r = dFe d r) ∧ (∀ m, m < dM d → u.1 (t + 9) m = dPy d m ∧ ∀ k, k < nG d → u.1 (t + 10) (6 * m + k) = dWa d m k) ∧ (∀ k, k < 3 → CLaw u (t + 11) k (dL d k)) ∧ ∀ m k, m < 5 → k < 6 → u.1 (t + 10) (6 * m + k) = if m < dM d then dWa d m k else 0 := by
  obtain ⟨⟨h1, h2, h3, h4, h5, h6, h7, h8, h9, h10, h11, h12⟩, hw⟩ := h
  rw [f (t + 1) (by omega) (by omega), f (t + 2) (by omega) (by omega), f (t + 3) (by omega) (by omega), f (t + 4) (by omega) (by omega), f (t + 5) (by omega) (by omega), f (t + 6) (by omega) (by omega), f (t + 7) (by omega) (by omega), f (t + 8) (by omega) (by omega), f (t + 9) (by omega) (by omega), f (t + 10) (by omega) (by omega)]
  exact ⟨h8, h9, h10, h11, fun k hk => (h12 k hk).mv (f (t + 11) (by omega) (by omega)) (f (t + 11 + 1) (by omega) (by omega)) (f (t + 11 + 2) (by omega) (by omega)), hw⟩
theorem TCf.lm (h : TCf d t s) (a : u.1 t = upd (s.1 t) 15 v) (f : ∀ x, t + 1 ≤ x → x < t + 14 → u.1 x = s.1 x) : TCf (aLm d v) t u := by
  obtain ⟨r1, r2, r3, r4, r5, r6⟩ := h.rest15 f
  obtain ⟨⟨h1, h2, h3, h4, h5, h6, h7, -⟩, -⟩ := h
  refine ⟨⟨?_, ?_, ?_, ?_, ?_, ?_, ?_, r1, r2, r3, r4, r5⟩, r6⟩
  · rw [a, upd_n _ _ (by decide)]; exact h1
  · rw [a, upd_n _ _ (by decide)]; exact h2
  · rw [a, upd_n _ _ (by decide)]; exact h3
  · rw [a, upd_n _ _ (by decide)]; exact h4
  · rw [a, upd_s]; rfl
  · rw [a, upd_n _ _ (by decide)]; exact h6
  · rw [a, upd_n _ _ (by decide)]; exact h7
theorem TCf.od (h : TCf d t s) (a : u.1 t = upd (s.1 t) 16 v) (f : ∀ x, t + 1 ≤ x → x < t + 14 → u.1 x = s.1 x) : TCf (aOd d v) t u := by
  obtain ⟨r1, r2, r3, r4, r5, r6⟩ := h.rest15 f
  obtain ⟨⟨h1, h2, h3, h4, h5, h6, h7, -⟩, -⟩ := h
  refine ⟨⟨?_, ?_, ?_, ?_, ?_, ?_, ?_, r1, r2, r3, r4, r5⟩, r6⟩
  · rw [a, upd_n _ _ (by decide)]; exact h1
  · rw [a, upd_n _ _ (by decide)]; exact h2
  · rw [a, upd_n _ _ (by decide)]; exact h3
  · rw [a, upd_n _ _ (by decide)]; exact h4
  · rw [a, upd_n _ _ (by decide)]; exact h5
  · rw [a, upd_s]; rfl
  · rw [a, upd_n _ _ (by decide)]; exact h7
theorem TCf.se (h : TCf d t s) (a : u.1 t = upd (s.1 t) 17 v) (f : ∀ x, t + 1 ≤ x → x < t + 14 → u.1 x = s.1 x) : TCf (aSe d v) t u := by
  obtain ⟨r1, r2, r3, r4, r5, r6⟩ := h.rest15 f
  obtain ⟨⟨h1, h2, h3, h4, h5, h6, h7, -⟩, -⟩ := h
  refine ⟨⟨?_, ?_, ?_, ?_, ?_, ?_, ?_, r1, r2, r3, r4, r5⟩, r6⟩
  · rw [a, upd_n _ _ (by decide)]; exact h1
  · rw [a, upd_n _ _ (by decide)]; exact h2
  · rw [a, upd_n _ _ (by decide)]; exact h3
  · rw [a, upd_n _ _ (by decide)]; exact h4
  · rw [a, upd_n _ _ (by decide)]; exact h5
  · rw [a, upd_n _ _ (by decide)]; exact h6
  · rw [a, upd_s]; rfl
theorem TR.lm' (h : TR d sd s) (a : u.1 147 sd = v) (f : ∀ x, 131 ≤ x → x < 159 → x ≠ 147 → u.1 x = s.1 x) : TR (aLm d v) sd u := by
  obtain ⟨h1, h2, h3, h4, h5, h6, h7, h8, h9, h10, h11, h12, h13, h14⟩ := h
  have f' : ∀ x, 131 ≤ x → x < 147 → u.1 x = s.1 x := fun x a b => f x a (by omega) (by omega)
  refine ⟨?_, ?_, ?_, ?_, a, ?_, ?_, ?_, ?_, ?_, ?_, ?_, fun k hk => (h13 k hk).mv (fun x a b => f x (by omega) b (by omega)), fun k hk => (h14 k hk).mv (fun x a b => f x (by omega) b (by omega))⟩
  · rw [f' 131 (by omega) (by omega)]; exact h1
  · rw [f' 134 (by omega) (by omega)]; exact h2
  · rw [f' 137 (by omega) (by omega)]; exact h3
  · rw [f' 142 (by omega) (by omega)]; exact h4
  · rw [f 148 (by omega) (by omega) (by omega)]; exact h6
  · rw [f 149 (by omega) (by omega) (by omega)]; exact h7
  · rw [f' 132 (by omega) (by omega), f' 133 (by omega) (by omega)]; exact h8
  · rw [f' 135 (by omega) (by omega)]; exact h9
  · rw [f' 136 (by omega) (by omega)]; exact h10
  · rw [f' 138 (by omega) (by omega), f' 139 (by omega) (by omega), f' 140 (by omega) (by omega), f' 141 (by omega) (by omega)]; exact h11
  · rw [f' 143 (by omega) (by omega), f' 144 (by omega) (by omega), f' 145 (by omega) (by omega), f' 146 (by omega) (by omega)]; exact h12
theorem TR.od' (h : TR d sd s) (a : u.1 148 sd = v) (f : ∀ x, 131 ≤ x → x < 159 → x ≠ 148 → u.1 x = s.1 x) : TR (aOd d v) sd u := by
  obtain ⟨h1, h2, h3, h4, h5, h6, h7, h8, h9, h10, h11, h12, h13, h14⟩ := h
  have f' : ∀ x, 131 ≤ x → x < 148 → u.1 x = s.1 x := fun x a b => f x a (by omega) (by omega)
  refine ⟨?_, ?_, ?_, ?_, ?_, a, ?_, ?_, ?_, ?_, ?_, ?_, fun k hk => (h13 k hk).mv (fun x a b => f x (by omega) b (by omega)), fun k hk => (h14 k hk).mv (fun x a b => f x (by omega) b (by omega))⟩
  · rw [f' 131 (by omega) (by omega)]; exact h1
  · rw [f' 134 (by omega) (by omega)]; exact h2
  · rw [f' 137 (by omega) (by omega)]; exact h3
  · rw [f' 142 (by omega) (by omega)]; exact h4
  · rw [f' 147 (by omega) (by omega)]; exact h5
  · rw [f 149 (by omega) (by omega) (by omega)]; exact h7
  · rw [f' 132 (by omega) (by omega), f' 133 (by omega) (by omega)]; exact h8
  · rw [f' 135 (by omega) (by omega)]; exact h9
  · rw [f' 136 (by omega) (by omega)]; exact h10
  · rw [f' 138 (by omega) (by omega), f' 139 (by omega) (by omega), f' 140 (by omega) (by omega), f' 141 (by omega) (by omega)]; exact h11
  · rw [f' 143 (by omega) (by omega), f' 144 (by omega) (by omega), f' 145 (by omega) (by omega), f' 146 (by omega) (by omega)]; exact h12
theorem TR.se' (h : TR d sd s) (a : u.1 149 sd = v) (f : ∀ x, 131 ≤ x → x < 159 → x ≠ 149 → u.1 x = s.1 x) : TR (aSe d v) sd u := by
  obtain ⟨h1, h2, h3, h4, h5, h6, h7, h8, h9, h10, h11, h12, h13, h14⟩ := h
  have f' : ∀ x, 131 ≤ x → x < 149 → u.1 x = s.1 x := fun x a b => f x a (by omega) (by omega)
  refine ⟨?_, ?_, ?_, ?_, ?_, ?_, a, ?_, ?_, ?_, ?_, ?_, fun k hk => (h13 k hk).mv (fun x a b => f x (by omega) b (by omega)), fun k hk => (h14 k hk).mv (fun x a b => f x (by omega) b (by omega))⟩
  · rw [f' 131 (by omega) (by omega)]; exact h1
  · rw [f' 134 (by omega) (by omega)]; exact h2
  · rw [f' 137 (by omega) (by omega)]; exact h3
  · rw [f' 142 (by omega) (by omega)]; exact h4
  · rw [f' 147 (by omega) (by omega)]; exact h5
  · rw [f' 148 (by omega) (by omega)]; exact h6
  · rw [f' 132 (by omega) (by omega), f' 133 (by omega) (by omega)]; exact h8
  · rw [f' 135 (by omega) (by omega)]; exact h9
  · rw [f' 136 (by omega) (by omega)]; exact h10
  · rw [f' 138 (by omega) (by omega), f' 139 (by omega) (by omega), f' 140 (by omega) (by omega), f' 141 (by omega) (by omega)]; exact h11
  · rw [f' 143 (by omega) (by omega), f' 144 (by omega) (by omega), f' 145 (by omega) (by omega), f' 146 (by omega) (by omega)]; exact h12
end Nums
