/-! BASICS for contracts: answers, indices, memory -/
abbrev Row : Type := Nat → Int32
section Ans
variable {g : GS} {s : MS}
theorem GI.r {R : Int32 → MS → Prop} {r : Int32} (h : R r s) : ∃ r' t, some (Value.int r) = some (Value.int r') ∧ mk g s = mk g t ∧ R r' t := ⟨r, s, rfl, rfl, h⟩
theorem GL.r {R : Int64 → MS → Prop} {r : Int64} (h : R r s) : ∃ r' t, some (Value.long r) = some (Value.long r') ∧ mk g s = mk g t ∧ R r' t := ⟨r, s, rfl, rfl, h⟩
theorem GA.r {R : Nat → MS → Prop} {r : Nat} (h : R r s) : ∃ r' t, some (Value.ref r) = some (Value.ref r') ∧ mk g s = mk g t ∧ R r' t := ⟨r, s, rfl, rfl, h⟩
theorem GV.r {R : MS → Prop} (h : R s) : ∃ t, (none : Option Value) = none ∧ mk g s = mk g t ∧ R t := ⟨s, rfl, rfl, h⟩
end Ans
theorem wi_def (s : MS) (a k : Nat) (v : Int32) : wi s a k v = si s a (upd (s.1 a) k v) := rfl
theorem si_1s (s : MS) (a : Nat) (f : Row) : (si s a f).1 a = f := by simp [si]
theorem si_1n (s : MS) {a b : Nat} (f : Row) (h : b ≠ a) : (si s a f).1 b = s.1 b := by simp [si, h]
theorem wi_si (s : MS) (a k : Nat) (f : Row) (v : Int32) : wi (si s a f) a k v = si s a (upd f k v) := by
  rw [wi_def, si_1s, si_si]
theorem upd_e {f : Row} {k j : Nat} {v : Int32} (h : j = k) : upd f k v j = v := by rw [h, upd_s]
/-- places in a row -/
theorem ix_c {c : Nat} {C : Int32} (hC : C = nI c) {r : Nat} (h : c + r < 2 ^ 31) : (C + nI r).toNatClampNeg = c + r := by
  rw [hC, nI_add, nI_clamp h]
theorem vi_c {c N : Nat} {C : Int32} (hC : C = nI c) {r : Nat} (h : c + r < N) (hN : N < 2 ^ 31) : vp_in (C + nI r) N := by
  rw [hC, nI_add]
  exact vp_in_nI h hN
theorem tn_n {n : Nat} (h : n < 2 ^ 31) : (nI n).toNatClampNeg = n := nI_clamp h
theorem ix42 {r : Nat} (h : r < 8) : (((42 : Int32)) + nI r).toNatClampNeg = 42 + r := ix_c (c := 42) rfl (by omega)
theorem vi42 {r : Nat} (h : r < 8) : vp_in (((42 : Int32)) + nI r) 120 := vi_c (c := 42) rfl (by omega) (by omega)
theorem ix50 {r : Nat} (h : r < 8) : (((50 : Int32)) + nI r).toNatClampNeg = 50 + r := ix_c (c := 50) rfl (by omega)
theorem vi50 {r : Nat} (h : r < 8) : vp_in (((50 : Int32)) + nI r) 120 := vi_c (c := 50) rfl (by omega) (by omega)
theorem ix58 {r : Nat} (h : r < 8) : (((58 : Int32)) + nI r).toNatClampNeg = 58 + r := ix_c (c := 58) rfl (by omega)
theorem vi58 {r : Nat} (h : r < 8) : vp_in (((58 : Int32)) + nI r) 120 := vi_c (c := 58) rfl (by omega) (by omega)
theorem ix66 {r : Nat} (h : r < 8) : (((66 : Int32)) + nI r).toNatClampNeg = 66 + r := ix_c (c := 66) rfl (by omega)
theorem vi66 {r : Nat} (h : r < 8) : vp_in (((66 : Int32)) + nI r) 120 := vi_c (c := 66) rfl (by omega) (by omega)
theorem ix74 {r : Nat} (h : r < 8) : (((74 : Int32)) + nI r).toNatClampNeg = 74 + r := ix_c (c := 74) rfl (by omega)
theorem vi74 {r : Nat} (h : r < 8) : vp_in (((74 : Int32)) + nI r) 120 := vi_c (c := 74) rfl (by omega) (by omega)
theorem ix82 {r : Nat} (h : r < 8) : (((82 : Int32)) + nI r).toNatClampNeg = 82 + r := ix_c (c := 82) rfl (by omega)
theorem vi82 {r : Nat} (h : r < 8) : vp_in (((82 : Int32)) + nI r) 120 := vi_c (c := 82) rfl (by omega) (by omega)
theorem ix90 {r : Nat} (h : r < 8) : (((90 : Int32)) + nI r).toNatClampNeg = 90 + r := ix_c (c := 90) rfl (by omega)
theorem vi90 {r : Nat} (h : r < 8) : vp_in (((90 : Int32)) + nI r) 120 := vi_c (c := 90) rfl (by omega) (by omega)
theorem ix98 {r : Nat} (h : r < 8) : (((98 : Int32)) + nI r).toNatClampNeg = 98 + r := ix_c (c := 98) rfl (by omega)
theorem vi98 {r : Nat} (h : r < 8) : vp_in (((98 : Int32)) + nI r) 120 := vi_c (c := 98) rfl (by omega) (by omega)
theorem ix106 {r : Nat} (h : r < 8) : (((106 : Int32)) + nI r).toNatClampNeg = 106 + r := ix_c (c := 106) rfl (by omega)
theorem vi106 {r : Nat} (h : r < 8) : vp_in (((106 : Int32)) + nI r) 120 := vi_c (c := 106) rfl (by omega) (by omega)
theorem tn_lt6 {k : Nat} (h : k < 6) : (nI k).toNatClampNeg = k := nI_clamp (by omega)
theorem vi_6_120 {k : Nat} (h : k < 6) : vp_in (nI k) 120 := vp_in_nI (by omega) (by omega)
/-- which numbers are not below another -/
theorem nI_le_iff {a b : Nat} (ha : a < 2 ^ 31) (hb : b < 2 ^ 31) : nI a ≤ nI b ↔ a ≤ b := nI_leI ha hb
