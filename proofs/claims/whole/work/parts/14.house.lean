/-! A HOUSE as a row -/
def hr (s : MS) (b : Nat) : Row := fun k =>
  if k < 6 then s.1 (b + 1) k else if k < 42 then s.1 (b + 2) (k - 6) else if k < 50 then s.1 (b + 4 + (k - 42)) 0 else if k < 58 then s.1 (b + 4 + (k - 50)) 1 else if k < 66 then s.1 (b + 4 + (k - 58)) 2
  else if k < 74 then (if s.1 (b + 4 + (k - 66)) 2 ≤ 0 then -2 else s.1 (b + 4 + (k - 66)) 3) else if k < 82 then s.1 (b + 4 + (k - 74)) 4 else if k < 90 then s.1 (b + 4 + (k - 82)) 5 else if k < 98 then s.1 (b + 4 + (k - 90)) 6 else if k < 106 then s.1 (b + 4 + (k - 98)) 7
  else if k < 114 then (if s.1 (b + 4 + (k - 106)) 0 = 1 then s.1 (b + 4 + (k - 106)) 8 else -2) else if k = 114 then s.1 b 3 else if k = 115 then s.1 b 5 else if k = 116 then s.1 b 6 else if k = 117 then s.1 b 7 else if k = 118 then s.1 b 4 else if k = 119 then s.1 b 8 else 0
theorem hr_hp (s : MS) (b : Nat) {k : Nat} (h : k < 6) : hr s b k = s.1 (b + 1) k := by simp [hr, h]
theorem hr_ho (s : MS) (b : Nat) {k : Nat} (h : k < 36) : hr s b (6 + k) = s.1 (b + 2) k := by
  rw [hr, if_neg (by omega), if_pos (by omega), show 6 + k - 6 = k by omega]
theorem hr_z (s : MS) (b : Nat) {k : Nat} (h : 120 ≤ k) : hr s b k = 0 := by
  rw [hr, if_neg (by omega), if_neg (by omega), if_neg (by omega), if_neg (by omega), if_neg (by omega), if_neg (by omega), if_neg (by omega), if_neg (by omega), if_neg (by omega), if_neg (by omega), if_neg (by omega), if_neg (by omega), if_neg (by omega), if_neg (by omega), if_neg (by omega), if_neg (by omega), if_neg (by omega)]
theorem hr42 (s : MS) (b : Nat) {r : Nat} (h : r < 8) : hr s b (42 + r) = s.1 (b + 4 + r) 0 := by
  rw [hr, if_neg (by omega), if_neg (by omega), if_pos (by omega), show 42 + r - 42 = r by omega]
theorem hr50 (s : MS) (b : Nat) {r : Nat} (h : r < 8) : hr s b (50 + r) = s.1 (b + 4 + r) 1 := by
  rw [hr, if_neg (by omega), if_neg (by omega), if_neg (by omega), if_pos (by omega), show 50 + r - 50 = r by omega]
theorem hr58 (s : MS) (b : Nat) {r : Nat} (h : r < 8) : hr s b (58 + r) = s.1 (b + 4 + r) 2 := by
  rw [hr, if_neg (by omega), if_neg (by omega), if_neg (by omega), if_neg (by omega), if_pos (by omega), show 58 + r - 58 = r by omega]
theorem hr66 (s : MS) (b : Nat) {r : Nat} (h : r < 8) : hr s b (66 + r) = (if s.1 (b + 4 + r) 2 ≤ 0 then -2 else s.1 (b + 4 + r) 3) := by
  rw [hr, if_neg (by omega), if_neg (by omega), if_neg (by omega), if_neg (by omega), if_neg (by omega), if_pos (by omega), show 66 + r - 66 = r by omega]
theorem hr74 (s : MS) (b : Nat) {r : Nat} (h : r < 8) : hr s b (74 + r) = s.1 (b + 4 + r) 4 := by
  rw [hr, if_neg (by omega), if_neg (by omega), if_neg (by omega), if_neg (by omega), if_neg (by omega), if_neg (by omega), if_pos (by omega), show 74 + r - 74 = r by omega]
theorem hr82 (s : MS) (b : Nat) {r : Nat} (h : r < 8) : hr s b (82 + r) = s.1 (b + 4 + r) 5 := by
  rw [hr, if_neg (by omega), if_neg (by omega), if_neg (by omega), if_neg (by omega), if_neg (by omega), if_neg (by omega), if_neg (by omega), if_pos (by omega), show 82 + r - 82 = r by omega]
theorem hr90 (s : MS) (b : Nat) {r : Nat} (h : r < 8) : hr s b (90 + r) = s.1 (b + 4 + r) 6 := by
  rw [hr, if_neg (by omega), if_neg (by omega), if_neg (by omega), if_neg (by omega), if_neg (by omega), if_neg (by omega), if_neg (by omega), if_neg (by omega), if_pos (by omega), show 90 + r - 90 = r by omega]
theorem hr98 (s : MS) (b : Nat) {r : Nat} (h : r < 8) : hr s b (98 + r) = s.1 (b + 4 + r) 7 := by
  rw [hr, if_neg (by omega), if_neg (by omega), if_neg (by omega), if_neg (by omega), if_neg (by omega), if_neg (by omega), if_neg (by omega), if_neg (by omega), if_neg (by omega), if_pos (by omega), show 98 + r - 98 = r by omega]
theorem hr106 (s : MS) (b : Nat) {r : Nat} (h : r < 8) : hr s b (106 + r) = (if s.1 (b + 4 + r) 0 = 1 then s.1 (b + 4 + r) 8 else -2) := by
  rw [hr, if_neg (by omega), if_neg (by omega), if_neg (by omega), if_neg (by omega), if_neg (by omega), if_neg (by omega), if_neg (by omega), if_neg (by omega), if_neg (by omega), if_neg (by omega), if_pos (by omega), show 106 + r - 106 = r by omega]
theorem hr114 (s : MS) (b : Nat) : hr s b 114 = s.1 b 3 := by simp [hr]
theorem hr115 (s : MS) (b : Nat) : hr s b 115 = s.1 b 5 := by simp [hr]
theorem hr116 (s : MS) (b : Nat) : hr s b 116 = s.1 b 6 := by simp [hr]
theorem hr117 (s : MS) (b : Nat) : hr s b 117 = s.1 b 7 := by simp [hr]
theorem hr118 (s : MS) (b : Nat) : hr s b 118 = s.1 b 4 := by simp [hr]
theorem hr119 (s : MS) (b : Nat) : hr s b 119 = s.1 b 8 := by simp [hr]
theorem row_ext {R R' : Row} (h0 : ∀ k, k < 6 → R k = R' k) (h1 : ∀ k, k < 36 → R (6 + k) = R' (6 + k)) (h2 : ∀ r, r < 8 → R (42 + r) = R' (42 + r)) (h3 : ∀ r, r < 8 → R (50 + r) = R' (50 + r)) (h4 : ∀ r, r < 8 → R (58 + r) = R' (58 + r)) (h5 : ∀ r, r < 8 → R (66 + r) = R' (66 + r)) (h6 : ∀ r, r < 8 → R (74 + r) = R' (74 + r)) (h7 : ∀ r, r < 8 → R (82 + r) = R' (82 + r)) (h8 : ∀ r, r < 8 → R (90 + r) = R' (90 + r)) (h9 : ∀ r, r < 8 → R (98 + r) = R' (98 + r)) (ha : ∀ r, r < 8 → R (106 + r) = R' (106 + r))
    (hb : R 114 = R' 114) (hc : R 115 = R' 115) (hd : R 116 = R' 116) (he : R 117 = R' 117) (hf : R 118 = R' 118) (hg : R 119 = R' 119) (hz : ∀ k, 120 ≤ k → R k = R' k) : R = R' := by
  funext k
  rcases Nat.lt_or_ge k 6 with q | q
  · exact h0 k q
  rcases Nat.lt_or_ge k 42 with q2 | q2
  · have := h1 (k - 6) (by omega); rwa [show 6 + (k - 6) = k by omega] at this
  rcases Nat.lt_or_ge k 50 with q42 | q42
  · have := h2 (k - 42) (by omega); rwa [show 42 + (k - 42) = k by omega] at this
  rcases Nat.lt_or_ge k 58 with q50 | q50
  · have := h3 (k - 50) (by omega); rwa [show 50 + (k - 50) = k by omega] at this
  rcases Nat.lt_or_ge k 66 with q58 | q58
  · have := h4 (k - 58) (by omega); rwa [show 58 + (k - 58) = k by omega] at this
  rcases Nat.lt_or_ge k 74 with q66 | q66
  · have := h5 (k - 66) (by omega); rwa [show 66 + (k - 66) = k by omega] at this
  rcases Nat.lt_or_ge k 82 with q74 | q74
  · have := h6 (k - 74) (by omega); rwa [show 74 + (k - 74) = k by omega] at this
  rcases Nat.lt_or_ge k 90 with q82 | q82
  · have := h7 (k - 82) (by omega); rwa [show 82 + (k - 82) = k by omega] at this
  rcases Nat.lt_or_ge k 98 with q90 | q90
  · have := h8 (k - 90) (by omega); rwa [show 90 + (k - 90) = k by omega] at this
  rcases Nat.lt_or_ge k 106 with q98 | q98
  · have := h9 (k - 98) (by omega); rwa [show 98 + (k - 98) = k by omega] at this
  rcases Nat.lt_or_ge k 114 with q106 | q106
  · have := ha (k - 106) (by omega); rwa [show 106 + (k - 106) = k by omega] at this
  by_cases e1 : k = 114
  · rw [e1]; exact hb
  by_cases e2 : k = 115
  · rw [e2]; exact hc
  by_cases e3 : k = 116
  · rw [e3]; exact hd
  by_cases e4 : k = 117
  · rw [e4]; exact he
  by_cases e5 : k = 118
  · rw [e5]; exact hf
  by_cases e6 : k = 119
  · rw [e6]; exact hg
  exact hz k (by omega)
/-- the house's cells alone make its row -/
theorem hr_cg {s t : MS} {b : Nat} (h : ∀ a, b ≤ a → a < b + 12 → a ≠ b + 3 → t.1 a = s.1 a) : hr t b = hr s b := by
  have e0 := h b (by omega) (by omega) (by omega)
  have e1 := h (b + 1) (by omega) (by omega) (by omega)
  have e2 := h (b + 2) (by omega) (by omega) (by omega)
  have e3 : ∀ r, r < 8 → t.1 (b + 4 + r) = s.1 (b + 4 + r) := fun r hr => h _ (by omega) (by omega) (by omega)
  refine row_ext (fun k hk => ?_) (fun k hk => ?_) (fun x hx => ?_) (fun x hx => ?_) (fun x hx => ?_) (fun x hx => ?_) (fun x hx => ?_) (fun x hx => ?_) (fun x hx => ?_) (fun x hx => ?_) (fun x hx => ?_) ?_ ?_ ?_ ?_ ?_ ?_ (fun k hk => ?_)
  · rw [hr_hp _ _ hk, hr_hp _ _ hk, e1]
  · rw [hr_ho _ _ hk, hr_ho _ _ hk, e2]
  · rw [hr42 _ _ hx, hr42 _ _ hx, e3 x hx]
  · rw [hr50 _ _ hx, hr50 _ _ hx, e3 x hx]
  · rw [hr58 _ _ hx, hr58 _ _ hx, e3 x hx]
  · rw [hr66 _ _ hx, hr66 _ _ hx, e3 x hx]
  · rw [hr74 _ _ hx, hr74 _ _ hx, e3 x hx]
  · rw [hr82 _ _ hx, hr82 _ _ hx, e3 x hx]
  · rw [hr90 _ _ hx, hr90 _ _ hx, e3 x hx]
  · rw [hr98 _ _ hx, hr98 _ _ hx, e3 x hx]
  · rw [hr106 _ _ hx, hr106 _ _ hx, e3 x hx]
  · rw [hr114, hr114, e0]
  · rw [hr115, hr115, e0]
  · rw [hr116, hr116, e0]
  · rw [hr117, hr117, e0]
  · rw [hr118, hr118, e0]
  · rw [hr119, hr119, e0]
  · rw [hr_z _ _ hk, hr_z _ _ hk]
theorem hr_out {s : MS} {b a k : Nat} {v : Int32} (h : a < b ∨ b + 12 ≤ a ∨ a = b + 3) : hr (wi s a k v) b = hr s b := hr_cg (fun x h1 h2 h3 => wi_n s k v (by omega))
/-- by places: of one rat, and the others -/
theorem hr_pl {s t : MS} {b r : Nat} (hr8 : r < 8) (h : ∀ a, b ≤ a → a < b + 12 → a ≠ b + 4 + r → t.1 a = s.1 a) {R : Row} (ho : ∀ j, j ≠ 42 + r → j ≠ 50 + r → j ≠ 58 + r → j ≠ 66 + r → j ≠ 74 + r → j ≠ 82 + r → j ≠ 90 + r → j ≠ 98 + r → j ≠ 106 + r → R j = hr s b j)
    (q0 : t.1 (b + 4 + r) 0 = R (42 + r)) (q1 : t.1 (b + 4 + r) 1 = R (50 + r)) (q2 : t.1 (b + 4 + r) 2 = R (58 + r)) (q3 : (if t.1 (b + 4 + r) 2 ≤ 0 then -2 else t.1 (b + 4 + r) 3) = R (66 + r)) (q4 : t.1 (b + 4 + r) 4 = R (74 + r)) (q5 : t.1 (b + 4 + r) 5 = R (82 + r)) (q6 : t.1 (b + 4 + r) 6 = R (90 + r)) (q7 : t.1 (b + 4 + r) 7 = R (98 + r)) (q8 : (if t.1 (b + 4 + r) 0 = 1 then t.1 (b + 4 + r) 8 else -2) = R (106 + r)) : hr t b = R := by
  have e0 := h b (by omega) (by omega) (by omega)
  have e1 := h (b + 1) (by omega) (by omega) (by omega)
  have e2 := h (b + 2) (by omega) (by omega) (by omega)
  have e3 : ∀ x, x < 8 → x ≠ r → t.1 (b + 4 + x) = s.1 (b + 4 + x) := fun x hx hn => h _ (by omega) (by omega) (by omega)
  refine row_ext (fun k hk => ?_) (fun k hk => ?_) (fun x hx => ?_) (fun x hx => ?_) (fun x hx => ?_) (fun x hx => ?_) (fun x hx => ?_) (fun x hx => ?_) (fun x hx => ?_) (fun x hx => ?_) (fun x hx => ?_) ?_ ?_ ?_ ?_ ?_ ?_ (fun k hk => ?_)
  · rw [ho k (by omega) (by omega) (by omega) (by omega) (by omega) (by omega) (by omega) (by omega) (by omega), hr_hp _ _ hk, hr_hp _ _ hk, e1]
  · rw [ho (6 + k) (by omega) (by omega) (by omega) (by omega) (by omega) (by omega) (by omega) (by omega) (by omega), hr_ho _ _ hk, hr_ho _ _ hk, e2]
  · rw [hr42 _ _ hx]
    by_cases e : x = r
    · subst e; exact q0
    · rw [ho _ (by omega) (by omega) (by omega) (by omega) (by omega) (by omega) (by omega) (by omega) (by omega), hr42 _ _ hx, e3 x hx e]
  · rw [hr50 _ _ hx]
    by_cases e : x = r
    · subst e; exact q1
    · rw [ho _ (by omega) (by omega) (by omega) (by omega) (by omega) (by omega) (by omega) (by omega) (by omega), hr50 _ _ hx, e3 x hx e]
  · rw [hr58 _ _ hx]
    by_cases e : x = r
    · subst e; exact q2
    · rw [ho _ (by omega) (by omega) (by omega) (by omega) (by omega) (by omega) (by omega) (by omega) (by omega), hr58 _ _ hx, e3 x hx e]
  · rw [hr66 _ _ hx]
    by_cases e : x = r
    · subst e; exact q3
    · rw [ho _ (by omega) (by omega) (by omega) (by omega) (by omega) (by omega) (by omega) (by omega) (by omega), hr66 _ _ hx, e3 x hx e]
  · rw [hr74 _ _ hx]
    by_cases e : x = r
    · subst e; exact q4
    · rw [ho _ (by omega) (by omega) (by omega) (by omega) (by omega) (by omega) (by omega) (by omega) (by omega), hr74 _ _ hx, e3 x hx e]
  · rw [hr82 _ _ hx]
    by_cases e : x = r
    · subst e; exact q5
    · rw [ho _ (by omega) (by omega) (by omega) (by omega) (by omega) (by omega) (by omega) (by omega) (by omega), hr82 _ _ hx, e3 x hx e]
  · rw [hr90 _ _ hx]
    by_cases e : x = r
    · subst e; exact q6
    · rw [ho _ (by omega) (by omega) (by omega) (by omega) (by omega) (by omega) (by omega) (by omega) (by omega), hr90 _ _ hx, e3 x hx e]
  · rw [hr98 _ _ hx]
    by_cases e : x = r
    · subst e; exact q7
    · rw [ho _ (by omega) (by omega) (by omega) (by omega) (by omega) (by omega) (by omega) (by omega) (by omega), hr98 _ _ hx, e3 x hx e]
  · rw [hr106 _ _ hx]
    by_cases e : x = r
    · subst e; exact q8
    · rw [ho _ (by omega) (by omega) (by omega) (by omega) (by omega) (by omega) (by omega) (by omega) (by omega), hr106 _ _ hx, e3 x hx e]
  · rw [ho _ (by omega) (by omega) (by omega) (by omega) (by omega) (by omega) (by omega) (by omega) (by omega), hr114, hr114, e0]
  · rw [ho _ (by omega) (by omega) (by omega) (by omega) (by omega) (by omega) (by omega) (by omega) (by omega), hr115, hr115, e0]
  · rw [ho _ (by omega) (by omega) (by omega) (by omega) (by omega) (by omega) (by omega) (by omega) (by omega), hr116, hr116, e0]
  · rw [ho _ (by omega) (by omega) (by omega) (by omega) (by omega) (by omega) (by omega) (by omega) (by omega), hr117, hr117, e0]
  · rw [ho _ (by omega) (by omega) (by omega) (by omega) (by omega) (by omega) (by omega) (by omega) (by omega), hr118, hr118, e0]
  · rw [ho _ (by omega) (by omega) (by omega) (by omega) (by omega) (by omega) (by omega) (by omega) (by omega), hr119, hr119, e0]
  · rw [ho _ (by omega) (by omega) (by omega) (by omega) (by omega) (by omega) (by omega) (by omega) (by omega), hr_z _ _ hk, hr_z _ _ hk]

theorem hw_r1 (s : MS) (b : Nat) {r : Nat} (hr8 : r < 8) (v : Int32) : hr (wi s (b + 4 + r) 1 v) b = upd (hr s b) (50 + r) v := by
  refine hr_pl (s := s) hr8 (fun a _ _ h => wi_n s _ _ h) (fun j h0 h1 h2 h3 h4 h5 h6 h7 h8 => upd_n _ _ (by omega)) ?_ ?_ ?_ ?_ ?_ ?_ ?_ ?_ ?_ <;> rw [wi_s]
  · rw [upd_n _ _ (by omega), upd_n _ _ (by omega), hr42 _ _ hr8]
  · rw [upd_s, upd_s]
  · rw [upd_n _ _ (by omega), upd_n _ _ (by omega), hr58 _ _ hr8]
  · rw [upd_n _ _ (show 2 ≠ 1 by omega), upd_n _ _ (show 3 ≠ 1 by omega), upd_n _ _ (by omega), hr66 _ _ hr8]
  · rw [upd_n _ _ (by omega), upd_n _ _ (by omega), hr74 _ _ hr8]
  · rw [upd_n _ _ (by omega), upd_n _ _ (by omega), hr82 _ _ hr8]
  · rw [upd_n _ _ (by omega), upd_n _ _ (by omega), hr90 _ _ hr8]
  · rw [upd_n _ _ (by omega), upd_n _ _ (by omega), hr98 _ _ hr8]
  · rw [upd_n _ _ (show 0 ≠ 1 by omega), upd_n _ _ (show 8 ≠ 1 by omega), upd_n _ _ (by omega), hr106 _ _ hr8]
theorem hw_r4 (s : MS) (b : Nat) {r : Nat} (hr8 : r < 8) (v : Int32) : hr (wi s (b + 4 + r) 4 v) b = upd (hr s b) (74 + r) v := by
  refine hr_pl (s := s) hr8 (fun a _ _ h => wi_n s _ _ h) (fun j h0 h1 h2 h3 h4 h5 h6 h7 h8 => upd_n _ _ (by omega)) ?_ ?_ ?_ ?_ ?_ ?_ ?_ ?_ ?_ <;> rw [wi_s]
  · rw [upd_n _ _ (by omega), upd_n _ _ (by omega), hr42 _ _ hr8]
  · rw [upd_n _ _ (by omega), upd_n _ _ (by omega), hr50 _ _ hr8]
  · rw [upd_n _ _ (by omega), upd_n _ _ (by omega), hr58 _ _ hr8]
  · rw [upd_n _ _ (show 2 ≠ 4 by omega), upd_n _ _ (show 3 ≠ 4 by omega), upd_n _ _ (by omega), hr66 _ _ hr8]
  · rw [upd_s, upd_s]
  · rw [upd_n _ _ (by omega), upd_n _ _ (by omega), hr82 _ _ hr8]
  · rw [upd_n _ _ (by omega), upd_n _ _ (by omega), hr90 _ _ hr8]
  · rw [upd_n _ _ (by omega), upd_n _ _ (by omega), hr98 _ _ hr8]
  · rw [upd_n _ _ (show 0 ≠ 4 by omega), upd_n _ _ (show 8 ≠ 4 by omega), upd_n _ _ (by omega), hr106 _ _ hr8]
theorem hw_r5 (s : MS) (b : Nat) {r : Nat} (hr8 : r < 8) (v : Int32) : hr (wi s (b + 4 + r) 5 v) b = upd (hr s b) (82 + r) v := by
  refine hr_pl (s := s) hr8 (fun a _ _ h => wi_n s _ _ h) (fun j h0 h1 h2 h3 h4 h5 h6 h7 h8 => upd_n _ _ (by omega)) ?_ ?_ ?_ ?_ ?_ ?_ ?_ ?_ ?_ <;> rw [wi_s]
  · rw [upd_n _ _ (by omega), upd_n _ _ (by omega), hr42 _ _ hr8]
  · rw [upd_n _ _ (by omega), upd_n _ _ (by omega), hr50 _ _ hr8]
  · rw [upd_n _ _ (by omega), upd_n _ _ (by omega), hr58 _ _ hr8]
  · rw [upd_n _ _ (show 2 ≠ 5 by omega), upd_n _ _ (show 3 ≠ 5 by omega), upd_n _ _ (by omega), hr66 _ _ hr8]
  · rw [upd_n _ _ (by omega), upd_n _ _ (by omega), hr74 _ _ hr8]
  · rw [upd_s, upd_s]
  · rw [upd_n _ _ (by omega), upd_n _ _ (by omega), hr90 _ _ hr8]
  · rw [upd_n _ _ (by omega), upd_n _ _ (by omega), hr98 _ _ hr8]
  · rw [upd_n _ _ (show 0 ≠ 5 by omega), upd_n _ _ (show 8 ≠ 5 by omega), upd_n _ _ (by omega), hr106 _ _ hr8]
theorem hw_r6 (s : MS) (b : Nat) {r : Nat} (hr8 : r < 8) (v : Int32) : hr (wi s (b + 4 + r) 6 v) b = upd (hr s b) (90 + r) v := by
  refine hr_pl (s := s) hr8 (fun a _ _ h => wi_n s _ _ h) (fun j h0 h1 h2 h3 h4 h5 h6 h7 h8 => upd_n _ _ (by omega)) ?_ ?_ ?_ ?_ ?_ ?_ ?_ ?_ ?_ <;> rw [wi_s]
  · rw [upd_n _ _ (by omega), upd_n _ _ (by omega), hr42 _ _ hr8]
  · rw [upd_n _ _ (by omega), upd_n _ _ (by omega), hr50 _ _ hr8]
  · rw [upd_n _ _ (by omega), upd_n _ _ (by omega), hr58 _ _ hr8]
  · rw [upd_n _ _ (show 2 ≠ 6 by omega), upd_n _ _ (show 3 ≠ 6 by omega), upd_n _ _ (by omega), hr66 _ _ hr8]
  · rw [upd_n _ _ (by omega), upd_n _ _ (by omega), hr74 _ _ hr8]
  · rw [upd_n _ _ (by omega), upd_n _ _ (by omega), hr82 _ _ hr8]
  · rw [upd_s, upd_s]
  · rw [upd_n _ _ (by omega), upd_n _ _ (by omega), hr98 _ _ hr8]
  · rw [upd_n _ _ (show 0 ≠ 6 by omega), upd_n _ _ (show 8 ≠ 6 by omega), upd_n _ _ (by omega), hr106 _ _ hr8]
theorem hw_r7 (s : MS) (b : Nat) {r : Nat} (hr8 : r < 8) (v : Int32) : hr (wi s (b + 4 + r) 7 v) b = upd (hr s b) (98 + r) v := by
  refine hr_pl (s := s) hr8 (fun a _ _ h => wi_n s _ _ h) (fun j h0 h1 h2 h3 h4 h5 h6 h7 h8 => upd_n _ _ (by omega)) ?_ ?_ ?_ ?_ ?_ ?_ ?_ ?_ ?_ <;> rw [wi_s]
  · rw [upd_n _ _ (by omega), upd_n _ _ (by omega), hr42 _ _ hr8]
  · rw [upd_n _ _ (by omega), upd_n _ _ (by omega), hr50 _ _ hr8]
  · rw [upd_n _ _ (by omega), upd_n _ _ (by omega), hr58 _ _ hr8]
  · rw [upd_n _ _ (show 2 ≠ 7 by omega), upd_n _ _ (show 3 ≠ 7 by omega), upd_n _ _ (by omega), hr66 _ _ hr8]
  · rw [upd_n _ _ (by omega), upd_n _ _ (by omega), hr74 _ _ hr8]
  · rw [upd_n _ _ (by omega), upd_n _ _ (by omega), hr82 _ _ hr8]
  · rw [upd_n _ _ (by omega), upd_n _ _ (by omega), hr90 _ _ hr8]
  · rw [upd_s, upd_s]
  · rw [upd_n _ _ (show 0 ≠ 7 by omega), upd_n _ _ (show 8 ≠ 7 by omega), upd_n _ _ (by omega), hr106 _ _ hr8]
theorem hw_r0 (s : MS) (b : Nat) {r : Nat} (hr8 : r < 8) (v : Int32) : hr (wi s (b + 4 + r) 0 v) b = upd (upd (hr s b) (42 + r) v) (106 + r) (if v = 1 then s.1 (b + 4 + r) 8 else -2) := by
  refine hr_pl (s := s) hr8 (fun a _ _ h => wi_n s _ _ h) (fun j h0 h1 h2 h3 h4 h5 h6 h7 h8 => by rw [upd_n _ _ (by omega), upd_n _ _ (by omega)]) ?_ ?_ ?_ ?_ ?_ ?_ ?_ ?_ ?_ <;> rw [wi_s]
  · rw [upd_s, upd_n _ _ (by omega), upd_s]
  · rw [upd_n _ _ (by omega), upd_n _ _ (by omega), upd_n _ _ (by omega), hr50 _ _ hr8]
  · rw [upd_n _ _ (by omega), upd_n _ _ (by omega), upd_n _ _ (by omega), hr58 _ _ hr8]
  · rw [upd_n _ _ (show 2 ≠ 0 by omega), upd_n _ _ (show 3 ≠ 0 by omega), upd_n _ _ (by omega), upd_n _ _ (by omega), hr66 _ _ hr8]
  · rw [upd_n _ _ (by omega), upd_n _ _ (by omega), upd_n _ _ (by omega), hr74 _ _ hr8]
  · rw [upd_n _ _ (by omega), upd_n _ _ (by omega), upd_n _ _ (by omega), hr82 _ _ hr8]
  · rw [upd_n _ _ (by omega), upd_n _ _ (by omega), upd_n _ _ (by omega), hr90 _ _ hr8]
  · rw [upd_n _ _ (by omega), upd_n _ _ (by omega), upd_n _ _ (by omega), hr98 _ _ hr8]
  · rw [upd_s, upd_n _ _ (by omega), upd_s]
theorem hw_r2 (s : MS) (b : Nat) {r : Nat} (hr8 : r < 8) (v : Int32) : hr (wi s (b + 4 + r) 2 v) b = upd (upd (hr s b) (58 + r) v) (66 + r) (if v ≤ 0 then -2 else s.1 (b + 4 + r) 3) := by
  refine hr_pl (s := s) hr8 (fun a _ _ h => wi_n s _ _ h) (fun j h0 h1 h2 h3 h4 h5 h6 h7 h8 => by rw [upd_n _ _ (by omega), upd_n _ _ (by omega)]) ?_ ?_ ?_ ?_ ?_ ?_ ?_ ?_ ?_ <;> rw [wi_s]
  · rw [upd_n _ _ (by omega), upd_n _ _ (by omega), upd_n _ _ (by omega), hr42 _ _ hr8]
  · rw [upd_n _ _ (by omega), upd_n _ _ (by omega), upd_n _ _ (by omega), hr50 _ _ hr8]
  · rw [upd_s, upd_n _ _ (by omega), upd_s]
  · rw [upd_s, upd_n _ _ (by omega), upd_s]
  · rw [upd_n _ _ (by omega), upd_n _ _ (by omega), upd_n _ _ (by omega), hr74 _ _ hr8]
  · rw [upd_n _ _ (by omega), upd_n _ _ (by omega), upd_n _ _ (by omega), hr82 _ _ hr8]
  · rw [upd_n _ _ (by omega), upd_n _ _ (by omega), upd_n _ _ (by omega), hr90 _ _ hr8]
  · rw [upd_n _ _ (by omega), upd_n _ _ (by omega), upd_n _ _ (by omega), hr98 _ _ hr8]
  · rw [upd_n _ _ (show 0 ≠ 2 by omega), upd_n _ _ (show 8 ≠ 2 by omega), upd_n _ _ (by omega), upd_n _ _ (by omega), hr106 _ _ hr8]
theorem hw_r3 (s : MS) (b : Nat) {r : Nat} (hr8 : r < 8) (v : Int32) : hr (wi s (b + 4 + r) 3 v) b = upd (hr s b) (66 + r) (if s.1 (b + 4 + r) 2 ≤ 0 then -2 else v) := by
  refine hr_pl (s := s) hr8 (fun a _ _ h => wi_n s _ _ h) (fun j h0 h1 h2 h3 h4 h5 h6 h7 h8 => upd_n _ _ (by omega)) ?_ ?_ ?_ ?_ ?_ ?_ ?_ ?_ ?_ <;> rw [wi_s]
  · rw [upd_n _ _ (by omega), upd_n _ _ (by omega), hr42 _ _ hr8]
  · rw [upd_n _ _ (by omega), upd_n _ _ (by omega), hr50 _ _ hr8]
  · rw [upd_n _ _ (by omega), upd_n _ _ (by omega), hr58 _ _ hr8]
  · rw [upd_s, upd_s, upd_n _ _ (show 2 ≠ 3 by omega)]
  · rw [upd_n _ _ (by omega), upd_n _ _ (by omega), hr74 _ _ hr8]
  · rw [upd_n _ _ (by omega), upd_n _ _ (by omega), hr82 _ _ hr8]
  · rw [upd_n _ _ (by omega), upd_n _ _ (by omega), hr90 _ _ hr8]
  · rw [upd_n _ _ (by omega), upd_n _ _ (by omega), hr98 _ _ hr8]
  · rw [upd_n _ _ (show 0 ≠ 3 by omega), upd_n _ _ (show 8 ≠ 3 by omega), upd_n _ _ (by omega), hr106 _ _ hr8]
theorem hw_r8 (s : MS) (b : Nat) {r : Nat} (hr8 : r < 8) (v : Int32) : hr (wi s (b + 4 + r) 8 v) b = upd (hr s b) (106 + r) (if s.1 (b + 4 + r) 0 = 1 then v else -2) := by
  refine hr_pl (s := s) hr8 (fun a _ _ h => wi_n s _ _ h) (fun j h0 h1 h2 h3 h4 h5 h6 h7 h8 => upd_n _ _ (by omega)) ?_ ?_ ?_ ?_ ?_ ?_ ?_ ?_ ?_ <;> rw [wi_s]
  · rw [upd_n _ _ (by omega), upd_n _ _ (by omega), hr42 _ _ hr8]
  · rw [upd_n _ _ (by omega), upd_n _ _ (by omega), hr50 _ _ hr8]
  · rw [upd_n _ _ (by omega), upd_n _ _ (by omega), hr58 _ _ hr8]
  · rw [upd_n _ _ (show 2 ≠ 8 by omega), upd_n _ _ (show 3 ≠ 8 by omega), upd_n _ _ (by omega), hr66 _ _ hr8]
  · rw [upd_n _ _ (by omega), upd_n _ _ (by omega), hr74 _ _ hr8]
  · rw [upd_n _ _ (by omega), upd_n _ _ (by omega), hr82 _ _ hr8]
  · rw [upd_n _ _ (by omega), upd_n _ _ (by omega), hr90 _ _ hr8]
  · rw [upd_n _ _ (by omega), upd_n _ _ (by omega), hr98 _ _ hr8]
  · rw [upd_s, upd_s, upd_n _ _ (show 0 ≠ 8 by omega)]
theorem hw_hp (s : MS) (b : Nat) {k : Nat} (hk : k < 6) (v : Int32) : hr (wi s (b + 1) k v) b = upd (hr s b) k v := by
  have eo : ∀ a, a ≠ (b + 1) → (wi s (b + 1) k v).1 a = s.1 a := fun a h => wi_n s _ _ h
  refine row_ext (fun j hj => ?_) (fun j hj => ?_) (fun x hx => ?_) (fun x hx => ?_) (fun x hx => ?_) (fun x hx => ?_) (fun x hx => ?_) (fun x hx => ?_) (fun x hx => ?_) (fun x hx => ?_) (fun x hx => ?_) ?_ ?_ ?_ ?_ ?_ ?_ (fun j hj => ?_)
  · rw [hr_hp _ _ hj, wi_s, upd_a, upd_a, hr_hp _ _ hj]
  · rw [hr_ho _ _ hj, eo _ (by omega), upd_n _ _ (by omega), hr_ho _ _ hj]
  · rw [hr42 _ _ hx, eo _ (by omega), upd_n _ _ (by omega), hr42 _ _ hx]
  · rw [hr50 _ _ hx, eo _ (by omega), upd_n _ _ (by omega), hr50 _ _ hx]
  · rw [hr58 _ _ hx, eo _ (by omega), upd_n _ _ (by omega), hr58 _ _ hx]
  · rw [hr66 _ _ hx, eo _ (by omega), upd_n _ _ (by omega), hr66 _ _ hx]
  · rw [hr74 _ _ hx, eo _ (by omega), upd_n _ _ (by omega), hr74 _ _ hx]
  · rw [hr82 _ _ hx, eo _ (by omega), upd_n _ _ (by omega), hr82 _ _ hx]
  · rw [hr90 _ _ hx, eo _ (by omega), upd_n _ _ (by omega), hr90 _ _ hx]
  · rw [hr98 _ _ hx, eo _ (by omega), upd_n _ _ (by omega), hr98 _ _ hx]
  · rw [hr106 _ _ hx, eo _ (by omega), upd_n _ _ (by omega), hr106 _ _ hx]
  · rw [hr114, eo _ (by omega), upd_n _ _ (by omega), hr114]
  · rw [hr115, eo _ (by omega), upd_n _ _ (by omega), hr115]
  · rw [hr116, eo _ (by omega), upd_n _ _ (by omega), hr116]
  · rw [hr117, eo _ (by omega), upd_n _ _ (by omega), hr117]
  · rw [hr118, eo _ (by omega), upd_n _ _ (by omega), hr118]
  · rw [hr119, eo _ (by omega), upd_n _ _ (by omega), hr119]
  · rw [hr_z _ _ hj, upd_n _ _ (by omega), hr_z _ _ hj]
theorem hw_ho (s : MS) (b : Nat) {k : Nat} (hk : k < 36) (v : Int32) : hr (wi s (b + 2) k v) b = upd (hr s b) (6 + k) v := by
  have eo : ∀ a, a ≠ (b + 2) → (wi s (b + 2) k v).1 a = s.1 a := fun a h => wi_n s _ _ h
  refine row_ext (fun j hj => ?_) (fun j hj => ?_) (fun x hx => ?_) (fun x hx => ?_) (fun x hx => ?_) (fun x hx => ?_) (fun x hx => ?_) (fun x hx => ?_) (fun x hx => ?_) (fun x hx => ?_) (fun x hx => ?_) ?_ ?_ ?_ ?_ ?_ ?_ (fun j hj => ?_)
  · rw [hr_hp _ _ hj, eo _ (by omega), upd_n _ _ (by omega), hr_hp _ _ hj]
  · rw [hr_ho _ _ hj, wi_s, upd_a, upd_a, hr_ho _ _ hj]
    by_cases e : j = k
    · rw [if_pos e, if_pos (by omega)]
    · rw [if_neg e, if_neg (by omega)]
  · rw [hr42 _ _ hx, eo _ (by omega), upd_n _ _ (by omega), hr42 _ _ hx]
  · rw [hr50 _ _ hx, eo _ (by omega), upd_n _ _ (by omega), hr50 _ _ hx]
  · rw [hr58 _ _ hx, eo _ (by omega), upd_n _ _ (by omega), hr58 _ _ hx]
  · rw [hr66 _ _ hx, eo _ (by omega), upd_n _ _ (by omega), hr66 _ _ hx]
  · rw [hr74 _ _ hx, eo _ (by omega), upd_n _ _ (by omega), hr74 _ _ hx]
  · rw [hr82 _ _ hx, eo _ (by omega), upd_n _ _ (by omega), hr82 _ _ hx]
  · rw [hr90 _ _ hx, eo _ (by omega), upd_n _ _ (by omega), hr90 _ _ hx]
  · rw [hr98 _ _ hx, eo _ (by omega), upd_n _ _ (by omega), hr98 _ _ hx]
  · rw [hr106 _ _ hx, eo _ (by omega), upd_n _ _ (by omega), hr106 _ _ hx]
  · rw [hr114, eo _ (by omega), upd_n _ _ (by omega), hr114]
  · rw [hr115, eo _ (by omega), upd_n _ _ (by omega), hr115]
  · rw [hr116, eo _ (by omega), upd_n _ _ (by omega), hr116]
  · rw [hr117, eo _ (by omega), upd_n _ _ (by omega), hr117]
  · rw [hr118, eo _ (by omega), upd_n _ _ (by omega), hr118]
  · rw [hr119, eo _ (by omega), upd_n _ _ (by omega), hr119]
  · rw [hr_z _ _ hj, upd_n _ _ (by omega), hr_z _ _ hj]
theorem hw_114 (s : MS) (b : Nat) (v : Int32) : hr (wi s b 3 v) b = upd (hr s b) 114 v := by
  have eo : ∀ a, a ≠ b → (wi s b 3 v).1 a = s.1 a := fun a h => wi_n s _ _ h
  refine row_ext (fun j hj => ?_) (fun j hj => ?_) (fun x hx => ?_) (fun x hx => ?_) (fun x hx => ?_) (fun x hx => ?_) (fun x hx => ?_) (fun x hx => ?_) (fun x hx => ?_) (fun x hx => ?_) (fun x hx => ?_) ?_ ?_ ?_ ?_ ?_ ?_ (fun j hj => ?_)
  · rw [hr_hp _ _ hj, eo _ (by omega), upd_n _ _ (by omega), hr_hp _ _ hj]
  · rw [hr_ho _ _ hj, eo _ (by omega), upd_n _ _ (by omega), hr_ho _ _ hj]
  · rw [hr42 _ _ hx, eo _ (by omega), upd_n _ _ (by omega), hr42 _ _ hx]
  · rw [hr50 _ _ hx, eo _ (by omega), upd_n _ _ (by omega), hr50 _ _ hx]
  · rw [hr58 _ _ hx, eo _ (by omega), upd_n _ _ (by omega), hr58 _ _ hx]
  · rw [hr66 _ _ hx, eo _ (by omega), upd_n _ _ (by omega), hr66 _ _ hx]
  · rw [hr74 _ _ hx, eo _ (by omega), upd_n _ _ (by omega), hr74 _ _ hx]
  · rw [hr82 _ _ hx, eo _ (by omega), upd_n _ _ (by omega), hr82 _ _ hx]
  · rw [hr90 _ _ hx, eo _ (by omega), upd_n _ _ (by omega), hr90 _ _ hx]
  · rw [hr98 _ _ hx, eo _ (by omega), upd_n _ _ (by omega), hr98 _ _ hx]
  · rw [hr106 _ _ hx, eo _ (by omega), upd_n _ _ (by omega), hr106 _ _ hx]
  · rw [hr114, wi_s, upd_s, upd_s]
  · rw [hr115, wi_s, upd_n _ _ (by omega), upd_n _ _ (by omega), hr115]
  · rw [hr116, wi_s, upd_n _ _ (by omega), upd_n _ _ (by omega), hr116]
  · rw [hr117, wi_s, upd_n _ _ (by omega), upd_n _ _ (by omega), hr117]
  · rw [hr118, wi_s, upd_n _ _ (by omega), upd_n _ _ (by omega), hr118]
  · rw [hr119, wi_s, upd_n _ _ (by omega), upd_n _ _ (by omega), hr119]
  · rw [hr_z _ _ hj, upd_n _ _ (by omega), hr_z _ _ hj]
theorem hw_115 (s : MS) (b : Nat) (v : Int32) : hr (wi s b 5 v) b = upd (hr s b) 115 v := by
  have eo : ∀ a, a ≠ b → (wi s b 5 v).1 a = s.1 a := fun a h => wi_n s _ _ h
  refine row_ext (fun j hj => ?_) (fun j hj => ?_) (fun x hx => ?_) (fun x hx => ?_) (fun x hx => ?_) (fun x hx => ?_) (fun x hx => ?_) (fun x hx => ?_) (fun x hx => ?_) (fun x hx => ?_) (fun x hx => ?_) ?_ ?_ ?_ ?_ ?_ ?_ (fun j hj => ?_)
  · rw [hr_hp _ _ hj, eo _ (by omega), upd_n _ _ (by omega), hr_hp _ _ hj]
  · rw [hr_ho _ _ hj, eo _ (by omega), upd_n _ _ (by omega), hr_ho _ _ hj]
  · rw [hr42 _ _ hx, eo _ (by omega), upd_n _ _ (by omega), hr42 _ _ hx]
  · rw [hr50 _ _ hx, eo _ (by omega), upd_n _ _ (by omega), hr50 _ _ hx]
  · rw [hr58 _ _ hx, eo _ (by omega), upd_n _ _ (by omega), hr58 _ _ hx]
  · rw [hr66 _ _ hx, eo _ (by omega), upd_n _ _ (by omega), hr66 _ _ hx]
  · rw [hr74 _ _ hx, eo _ (by omega), upd_n _ _ (by omega), hr74 _ _ hx]
  · rw [hr82 _ _ hx, eo _ (by omega), upd_n _ _ (by omega), hr82 _ _ hx]
  · rw [hr90 _ _ hx, eo _ (by omega), upd_n _ _ (by omega), hr90 _ _ hx]
  · rw [hr98 _ _ hx, eo _ (by omega), upd_n _ _ (by omega), hr98 _ _ hx]
  · rw [hr106 _ _ hx, eo _ (by omega), upd_n _ _ (by omega), hr106 _ _ hx]
  · rw [hr114, wi_s, upd_n _ _ (by omega), upd_n _ _ (by omega), hr114]
  · rw [hr115, wi_s, upd_s, upd_s]
  · rw [hr116, wi_s, upd_n _ _ (by omega), upd_n _ _ (by omega), hr116]
  · rw [hr117, wi_s, upd_n _ _ (by omega), upd_n _ _ (by omega), hr117]
  · rw [hr118, wi_s, upd_n _ _ (by omega), upd_n _ _ (by omega), hr118]
  · rw [hr119, wi_s, upd_n _ _ (by omega), upd_n _ _ (by omega), hr119]
  · rw [hr_z _ _ hj, upd_n _ _ (by omega), hr_z _ _ hj]
theorem hw_116 (s : MS) (b : Nat) (v : Int32) : hr (wi s b 6 v) b = upd (hr s b) 116 v := by
  have eo : ∀ a, a ≠ b → (wi s b 6 v).1 a = s.1 a := fun a h => wi_n s _ _ h
  refine row_ext (fun j hj => ?_) (fun j hj => ?_) (fun x hx => ?_) (fun x hx => ?_) (fun x hx => ?_) (fun x hx => ?_) (fun x hx => ?_) (fun x hx => ?_) (fun x hx => ?_) (fun x hx => ?_) (fun x hx => ?_) ?_ ?_ ?_ ?_ ?_ ?_ (fun j hj => ?_)
  · rw [hr_hp _ _ hj, eo _ (by omega), upd_n _ _ (by omega), hr_hp _ _ hj]
  · rw [hr_ho _ _ hj, eo _ (by omega), upd_n _ _ (by omega), hr_ho _ _ hj]
  · rw [hr42 _ _ hx, eo _ (by omega), upd_n _ _ (by omega), hr42 _ _ hx]
  · rw [hr50 _ _ hx, eo _ (by omega), upd_n _ _ (by omega), hr50 _ _ hx]
  · rw [hr58 _ _ hx, eo _ (by omega), upd_n _ _ (by omega), hr58 _ _ hx]
  · rw [hr66 _ _ hx, eo _ (by omega), upd_n _ _ (by omega), hr66 _ _ hx]
  · rw [hr74 _ _ hx, eo _ (by omega), upd_n _ _ (by omega), hr74 _ _ hx]
  · rw [hr82 _ _ hx, eo _ (by omega), upd_n _ _ (by omega), hr82 _ _ hx]
  · rw [hr90 _ _ hx, eo _ (by omega), upd_n _ _ (by omega), hr90 _ _ hx]
  · rw [hr98 _ _ hx, eo _ (by omega), upd_n _ _ (by omega), hr98 _ _ hx]
  · rw [hr106 _ _ hx, eo _ (by omega), upd_n _ _ (by omega), hr106 _ _ hx]
  · rw [hr114, wi_s, upd_n _ _ (by omega), upd_n _ _ (by omega), hr114]
  · rw [hr115, wi_s, upd_n _ _ (by omega), upd_n _ _ (by omega), hr115]
  · rw [hr116, wi_s, upd_s, upd_s]
  · rw [hr117, wi_s, upd_n _ _ (by omega), upd_n _ _ (by omega), hr117]
  · rw [hr118, wi_s, upd_n _ _ (by omega), upd_n _ _ (by omega), hr118]
  · rw [hr119, wi_s, upd_n _ _ (by omega), upd_n _ _ (by omega), hr119]
  · rw [hr_z _ _ hj, upd_n _ _ (by omega), hr_z _ _ hj]
theorem hw_117 (s : MS) (b : Nat) (v : Int32) : hr (wi s b 7 v) b = upd (hr s b) 117 v := by
  have eo : ∀ a, a ≠ b → (wi s b 7 v).1 a = s.1 a := fun a h => wi_n s _ _ h
  refine row_ext (fun j hj => ?_) (fun j hj => ?_) (fun x hx => ?_) (fun x hx => ?_) (fun x hx => ?_) (fun x hx => ?_) (fun x hx => ?_) (fun x hx => ?_) (fun x hx => ?_) (fun x hx => ?_) (fun x hx => ?_) ?_ ?_ ?_ ?_ ?_ ?_ (fun j hj => ?_)
  · rw [hr_hp _ _ hj, eo _ (by omega), upd_n _ _ (by omega), hr_hp _ _ hj]
  · rw [hr_ho _ _ hj, eo _ (by omega), upd_n _ _ (by omega), hr_ho _ _ hj]
  · rw [hr42 _ _ hx, eo _ (by omega), upd_n _ _ (by omega), hr42 _ _ hx]
  · rw [hr50 _ _ hx, eo _ (by omega), upd_n _ _ (by omega), hr50 _ _ hx]
  · rw [hr58 _ _ hx, eo _ (by omega), upd_n _ _ (by omega), hr58 _ _ hx]
  · rw [hr66 _ _ hx, eo _ (by omega), upd_n _ _ (by omega), hr66 _ _ hx]
  · rw [hr74 _ _ hx, eo _ (by omega), upd_n _ _ (by omega), hr74 _ _ hx]
  · rw [hr82 _ _ hx, eo _ (by omega), upd_n _ _ (by omega), hr82 _ _ hx]
  · rw [hr90 _ _ hx, eo _ (by omega), upd_n _ _ (by omega), hr90 _ _ hx]
  · rw [hr98 _ _ hx, eo _ (by omega), upd_n _ _ (by omega), hr98 _ _ hx]
  · rw [hr106 _ _ hx, eo _ (by omega), upd_n _ _ (by omega), hr106 _ _ hx]
  · rw [hr114, wi_s, upd_n _ _ (by omega), upd_n _ _ (by omega), hr114]
  · rw [hr115, wi_s, upd_n _ _ (by omega), upd_n _ _ (by omega), hr115]
  · rw [hr116, wi_s, upd_n _ _ (by omega), upd_n _ _ (by omega), hr116]
  · rw [hr117, wi_s, upd_s, upd_s]
  · rw [hr118, wi_s, upd_n _ _ (by omega), upd_n _ _ (by omega), hr118]
  · rw [hr119, wi_s, upd_n _ _ (by omega), upd_n _ _ (by omega), hr119]
  · rw [hr_z _ _ hj, upd_n _ _ (by omega), hr_z _ _ hj]
theorem hw_118 (s : MS) (b : Nat) (v : Int32) : hr (wi s b 4 v) b = upd (hr s b) 118 v := by
  have eo : ∀ a, a ≠ b → (wi s b 4 v).1 a = s.1 a := fun a h => wi_n s _ _ h
  refine row_ext (fun j hj => ?_) (fun j hj => ?_) (fun x hx => ?_) (fun x hx => ?_) (fun x hx => ?_) (fun x hx => ?_) (fun x hx => ?_) (fun x hx => ?_) (fun x hx => ?_) (fun x hx => ?_) (fun x hx => ?_) ?_ ?_ ?_ ?_ ?_ ?_ (fun j hj => ?_)
  · rw [hr_hp _ _ hj, eo _ (by omega), upd_n _ _ (by omega), hr_hp _ _ hj]
  · rw [hr_ho _ _ hj, eo _ (by omega), upd_n _ _ (by omega), hr_ho _ _ hj]
  · rw [hr42 _ _ hx, eo _ (by omega), upd_n _ _ (by omega), hr42 _ _ hx]
  · rw [hr50 _ _ hx, eo _ (by omega), upd_n _ _ (by omega), hr50 _ _ hx]
  · rw [hr58 _ _ hx, eo _ (by omega), upd_n _ _ (by omega), hr58 _ _ hx]
  · rw [hr66 _ _ hx, eo _ (by omega), upd_n _ _ (by omega), hr66 _ _ hx]
  · rw [hr74 _ _ hx, eo _ (by omega), upd_n _ _ (by omega), hr74 _ _ hx]
  · rw [hr82 _ _ hx, eo _ (by omega), upd_n _ _ (by omega), hr82 _ _ hx]
  · rw [hr90 _ _ hx, eo _ (by omega), upd_n _ _ (by omega), hr90 _ _ hx]
  · rw [hr98 _ _ hx, eo _ (by omega), upd_n _ _ (by omega), hr98 _ _ hx]
  · rw [hr106 _ _ hx, eo _ (by omega), upd_n _ _ (by omega), hr106 _ _ hx]
  · rw [hr114, wi_s, upd_n _ _ (by omega), upd_n _ _ (by omega), hr114]
  · rw [hr115, wi_s, upd_n _ _ (by omega), upd_n _ _ (by omega), hr115]
  · rw [hr116, wi_s, upd_n _ _ (by omega), upd_n _ _ (by omega), hr116]
  · rw [hr117, wi_s, upd_n _ _ (by omega), upd_n _ _ (by omega), hr117]
  · rw [hr118, wi_s, upd_s, upd_s]
  · rw [hr119, wi_s, upd_n _ _ (by omega), upd_n _ _ (by omega), hr119]
  · rw [hr_z _ _ hj, upd_n _ _ (by omega), hr_z _ _ hj]
theorem hw_119 (s : MS) (b : Nat) (v : Int32) : hr (wi s b 8 v) b = upd (hr s b) 119 v := by
  have eo : ∀ a, a ≠ b → (wi s b 8 v).1 a = s.1 a := fun a h => wi_n s _ _ h
  refine row_ext (fun j hj => ?_) (fun j hj => ?_) (fun x hx => ?_) (fun x hx => ?_) (fun x hx => ?_) (fun x hx => ?_) (fun x hx => ?_) (fun x hx => ?_) (fun x hx => ?_) (fun x hx => ?_) (fun x hx => ?_) ?_ ?_ ?_ ?_ ?_ ?_ (fun j hj => ?_)
  · rw [hr_hp _ _ hj, eo _ (by omega), upd_n _ _ (by omega), hr_hp _ _ hj]
  · rw [hr_ho _ _ hj, eo _ (by omega), upd_n _ _ (by omega), hr_ho _ _ hj]
  · rw [hr42 _ _ hx, eo _ (by omega), upd_n _ _ (by omega), hr42 _ _ hx]
  · rw [hr50 _ _ hx, eo _ (by omega), upd_n _ _ (by omega), hr50 _ _ hx]
  · rw [hr58 _ _ hx, eo _ (by omega), upd_n _ _ (by omega), hr58 _ _ hx]
  · rw [hr66 _ _ hx, eo _ (by omega), upd_n _ _ (by omega), hr66 _ _ hx]
  · rw [hr74 _ _ hx, eo _ (by omega), upd_n _ _ (by omega), hr74 _ _ hx]
  · rw [hr82 _ _ hx, eo _ (by omega), upd_n _ _ (by omega), hr82 _ _ hx]
  · rw [hr90 _ _ hx, eo _ (by omega), upd_n _ _ (by omega), hr90 _ _ hx]
  · rw [hr98 _ _ hx, eo _ (by omega), upd_n _ _ (by omega), hr98 _ _ hx]
  · rw [hr106 _ _ hx, eo _ (by omega), upd_n _ _ (by omega), hr106 _ _ hx]
  · rw [hr114, wi_s, upd_n _ _ (by omega), upd_n _ _ (by omega), hr114]
  · rw [hr115, wi_s, upd_n _ _ (by omega), upd_n _ _ (by omega), hr115]
  · rw [hr116, wi_s, upd_n _ _ (by omega), upd_n _ _ (by omega), hr116]
  · rw [hr117, wi_s, upd_n _ _ (by omega), upd_n _ _ (by omega), hr117]
  · rw [hr118, wi_s, upd_n _ _ (by omega), upd_n _ _ (by omega), hr118]
  · rw [hr119, wi_s, upd_s, upd_s]
  · rw [hr_z _ _ hj, upd_n _ _ (by omega), hr_z _ _ hj]
