/-! WHAT IS TOLD, as the reference notes it on its side -/
/-- the other side stands -/
def OS (lv : Nat) (s u : MS) : Prop := (∀ a, (a = 131 ∨ a = 134 ∨ a = 137 ∨ a = 142 ∨ a = 147 ∨ a = 148 ∨ a = 149) → u.1 a lv = s.1 a lv) ∧ (∀ a, (a = 132 ∨ a = 133 ∨ a = 135 ∨ a = 136) → ∀ j, j < 6 → u.1 a (6 * lv + j) = s.1 a (6 * lv + j)) ∧ (∀ a, 138 ≤ a → a ≤ 141 → ∀ j, j < 8 → u.1 a (8 * lv + j) = s.1 a (8 * lv + j)) ∧ (∀ a, (a = 143 ∨ a = 144) → ∀ j, j < 5 → u.1 a (5 * lv + j) = s.1 a (5 * lv + j)) ∧ (∀ a, (a = 145 ∨ a = 146) → ∀ j, j < 20 → u.1 a (20 * lv + j) = s.1 a (20 * lv + j)) ∧ (∀ a, (a = 150 ∨ a = 151) → ∀ j, j < 3 → u.1 a (3 * lv + j) = s.1 a (3 * lv + j)) ∧ (∀ a, 152 ≤ a → a ≤ 156 → ∀ j, j < 130 → u.1 a (130 * lv + j) = s.1 a (130 * lv + j)) ∧ ∀ a, (a = 157 ∨ a = 158) → ∀ j, j < 420 → u.1 a (420 * lv + j) = s.1 a (420 * lv + j)
theorem OS.rf (lv : Nat) (s : MS) : OS lv s s := ⟨fun _ _ => rfl, fun _ _ _ _ => rfl, fun _ _ _ _ _ => rfl, fun _ _ _ _ => rfl, fun _ _ _ _ => rfl, fun _ _ _ _ => rfl, fun _ _ _ _ _ => rfl, fun _ _ _ _ => rfl⟩
theorem OS.tr {lv : Nat} {s u v : MS} (h : OS lv s u) (k : OS lv u v) : OS lv s v := ⟨fun a ha => (k.1 a ha).trans (h.1 a ha), fun a ha j hj => (k.2.1 a ha j hj).trans (h.2.1 a ha j hj), fun a a1 a2 j hj => (k.2.2.1 a a1 a2 j hj).trans (h.2.2.1 a a1 a2 j hj), fun a ha j hj => (k.2.2.2.1 a ha j hj).trans (h.2.2.2.1 a ha j hj), fun a ha j hj => (k.2.2.2.2.1 a ha j hj).trans (h.2.2.2.2.1 a ha j hj), fun a ha j hj => (k.2.2.2.2.2.1 a ha j hj).trans (h.2.2.2.2.2.1 a ha j hj), fun a a1 a2 j hj => (k.2.2.2.2.2.2.1 a a1 a2 j hj).trans (h.2.2.2.2.2.2.1 a a1 a2 j hj), fun a ha j hj => (k.2.2.2.2.2.2.2 a ha j hj).trans (h.2.2.2.2.2.2.2 a ha j hj)⟩
theorem OS.of {lv : Nat} {s u : MS} (h : ∀ a, 131 ≤ a → a < 159 → u.1 a = s.1 a) : OS lv s u := ⟨fun a ha => by rw [h a (by omega) (by omega)], fun a ha j hj => by rw [h a (by omega) (by omega)], fun a a1 a2 j hj => by rw [h a (by omega) (by omega)], fun a ha j hj => by rw [h a (by omega) (by omega)], fun a ha j hj => by rw [h a (by omega) (by omega)], fun a ha j hj => by rw [h a (by omega) (by omega)], fun a a1 a2 j hj => by rw [h a (by omega) (by omega)], fun a ha j hj => by rw [h a (by omega) (by omega)]⟩
/-- a cell on one's own side -/
def own (sd a k : Nat) : Prop := ((a = 131 ∨ a = 134 ∨ a = 137 ∨ a = 142 ∨ a = 147 ∨ a = 148 ∨ a = 149) → k = sd) ∧ ((a = 132 ∨ a = 133 ∨ a = 135 ∨ a = 136) → 6 * sd ≤ k ∧ k < 6 * sd + 6) ∧ ((138 ≤ a ∧ a ≤ 141) → 8 * sd ≤ k ∧ k < 8 * sd + 8) ∧ ((a = 143 ∨ a = 144) → 5 * sd ≤ k ∧ k < 5 * sd + 5) ∧ ((a = 145 ∨ a = 146) → 20 * sd ≤ k ∧ k < 20 * sd + 20) ∧ ((a = 150 ∨ a = 151) → 3 * sd ≤ k ∧ k < 3 * sd + 3) ∧ ((152 ≤ a ∧ a ≤ 156) → 130 * sd ≤ k ∧ k < 130 * sd + 130) ∧ ((a = 157 ∨ a = 158) → 420 * sd ≤ k ∧ k < 420 * sd + 420)
theorem OS.w {lv sd a k : Nat} {s : MS} {v : Int32} (hl : lv + sd = 1) (h : own sd a k) : OS lv s (wi s a k v) := by
  have key : ∀ x j, (x = a → j ≠ k) → (wi s a k v).1 x j = s.1 x j := fun x j hx => by
    by_cases e : x = a
    · subst e; rw [wi_s, upd_n _ _ (hx rfl)]
    · rw [wi_n _ _ _ e]
  obtain ⟨h1, h2, h3, h4, h5, h6, h7, h8⟩ := h
  refine ⟨fun x hx => key x _ (fun e => ?_), fun x hx j hj => key x _ (fun e => ?_), fun x x1 x2 j hj => key x _ (fun e => ?_), fun x hx j hj => key x _ (fun e => ?_), fun x hx j hj => key x _ (fun e => ?_), fun x hx j hj => key x _ (fun e => ?_), fun x x1 x2 j hj => key x _ (fun e => ?_), fun x hx j hj => key x _ (fun e => ?_)⟩
  · subst e; have := h1 hx; omega
  · subst e; have := h2 hx; omega
  · subst e; have := h3 ⟨x1, x2⟩; omega
  · subst e; have := h4 hx; omega
  · subst e; have := h5 hx; omega
  · subst e; have := h6 hx; omega
  · subst e; have := h7 ⟨x1, x2⟩; omega
  · subst e; have := h8 hx; omega
/-- what the reading of a text may change -/
def FPa (lv : Nat) (s u : MS) : Prop := (∀ a, a ≠ 120 → ¬ (128 ≤ a ∧ a < 150) → u.1 a = s.1 a) ∧ (∀ a, a ≠ 128 → u.2 a = s.2 a) ∧ (∀ j, ¬ (11 ≤ j ∧ j < 17 ∧ j ≠ 12) → j ≠ 20 → u.1 120 j = s.1 120 j) ∧ OS lv s u
theorem FPa.rf (lv : Nat) (s : MS) : FPa lv s s := ⟨fun _ _ _ => rfl, fun _ _ => rfl, fun _ _ _ => rfl, OS.rf lv s⟩
theorem FPa.tr {lv : Nat} {s u v : MS} (h : FPa lv s u) (k : FPa lv u v) : FPa lv s v := ⟨fun a h1 h2 => (k.1 a h1 h2).trans (h.1 a h1 h2), fun a ha => (k.2.1 a ha).trans (h.2.1 a ha), fun j h1 h2 => (k.2.2.1 j h1 h2).trans (h.2.2.1 j h1 h2), h.2.2.2.tr k.2.2.2⟩
theorem FRq.P {lv : Nat} {s u : MS} (h : FRq s u) : FPa lv s u := ⟨fun a h1 _ => h.1 a h1, fun a _ => by rw [h.2.2], fun j h1 _ => h.2.1 j (by omega) (by omega) (by omega) (by omega) (by omega), OS.of (fun a _ _ => h.1 a (by omega))⟩
theorem FPa.w {lv sd a k : Nat} {s : MS} {v : Int32} (hl : lv + sd = 1) (ha : 131 ≤ a ∧ a < 150) (h : own sd a k) : FPa lv s (wi s a k v) := ⟨fun x _ h2 => wi_n _ _ _ (by omega), fun _ _ => by rw [wi_2], fun j _ _ => by rw [wi_n _ _ _ (by omega)], OS.w hl h⟩
section RTell
variable {E : EN} {g : GS} {s : MS} {T : Nat → Nat} {L M : Nat} {d : TD} {nl : NL} {sd : Nat}
theorem TkR.P {lv : Nat} {u : MS} (h : TkR T L M s) (k : FPa lv s u) : TkR T L M u := h.mv (k.1 123 (by decide) (by decide)) (k.1 124 (by decide) (by decide)) (k.1 125 (by decide) (by decide)) (k.2.1 126 (by decide))
theorem TR.gr' {u : MS} {po pe : Int32} (hD : DI d) (g6 : nG d < 6) (h : TR d sd s) (a : u.1 131 sd = nI (nG d + 1)) (c : u.1 132 = upd (s.1 132) (6 * sd + nG d) po) (e : u.1 133 = upd (s.1 133) (6 * sd + nG d) pe) (f : ∀ x, 134 ≤ x → x < 159 → u.1 x = s.1 x) : TR (aGr d po pe) sd u := by
  obtain ⟨h1, h2, h3, h4, h5, h6, h7, h8, h9, h10, h11, h12, h13, h14⟩ := h
  refine ⟨a, ?_, ?_, ?_, ?_, ?_, ?_, fun j hj => ?_, ?_, ?_, ?_, fun m hm => ?_, fun k hk => ?_, fun k hk => ?_⟩
  · rw [f 134 (by omega) (by omega)]; exact h2
  · rw [f 137 (by omega) (by omega)]; exact h3
  · rw [f 142 (by omega) (by omega)]; exact h4
  · rw [f 147 (by omega) (by omega)]; exact h5
  · rw [f 148 (by omega) (by omega)]; exact h6
  · rw [f 149 (by omega) (by omega)]; exact h7
  · have hj' : j < nG d + 1 := hj
    show u.1 132 (6 * sd + j) = upd (dPo d) (nG d) po j ∧ u.1 133 (6 * sd + j) = upd (dPe d) (nG d) pe j
    rw [c, e]
    by_cases z : j = nG d
    · subst z; rw [upd_s, upd_s, upd_s, upd_s]; exact ⟨rfl, rfl⟩
    · have ne : 6 * sd + j ≠ 6 * sd + nG d := by omega
      rw [upd_n _ _ ne, upd_n _ _ ne, upd_n _ _ z, upd_n _ _ z]; exact h8 j (by omega)
  · rw [f 135 (by omega) (by omega)]; exact h9
  · rw [f 136 (by omega) (by omega)]; exact h10
  · rw [f 138 (by omega) (by omega), f 139 (by omega) (by omega), f 140 (by omega) (by omega), f 141 (by omega) (by omega)]; exact h11
  · have hm' : m < dM d := hm
    obtain ⟨q1, n, q2, q3, q4⟩ := h12 m hm'
    rw [f 143 (by omega) (by omega), f 144 (by omega) (by omega), f 145 (by omega) (by omega), f 146 (by omega) (by omega)]
    refine ⟨q1, n, q2, q3, fun k hk => ?_⟩
    rw [q4 k hk]
    show (if k < nG d then dWa d m k else 0) = if k < nG d + 1 then dWa d m k else 0
    by_cases z : k < nG d
    · rw [if_pos z, if_pos (by omega)]
    · rw [if_neg z]
      split
      · exact (hD m k (by omega)).symm
      · rfl
  · exact (h13 k hk).mv (fun a h1 h2 => f a (by omega) h2)
  · exact (h14 k hk).mv (fun a h1 h2 => f a (by omega) h2)
end RTell
