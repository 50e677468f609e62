/-! sets as bits; missed, catAt, hire -/
theorem bt_and : ∀ n, n < 256 → ∀ r, r < 8 → ((nI n &&& ((1 : Int32) <<< (nI r &&& 31)) = 0) ↔ n.testBit r = false) := by decide +kernel
theorem bt_shr : ∀ n, n < 256 → ∀ r, r < 8 → (((nI n >>> (nI r &&& 31)) &&& 1 = 1) ↔ n.testBit r = true) := by decide +kernel
theorem bt_sh0 : ∀ n, n < 256 → ∀ r, r < 8 → (((nI n >>> (nI r &&& 31)) &&& 1 = 0) ↔ n.testBit r = false) := by decide +kernel
theorem bt_pow : ∀ k, k < 9 → ((1 : Int32) <<< (nI k &&& 31)) = nI (2 ^ k) := by decide +kernel
def pcn (n : Nat) : Nat → Nat
  | 0 => 0
  | k + 1 => pcn n k + (if n.testBit k then 1 else 0)
theorem bt_one : ∀ n, n < 256 → ∀ r, r < 8 → ((nI n >>> (nI r &&& 31)) &&& 1) = nI (if n.testBit r then 1 else 0) := by decide +kernel
def bcE (x0 : Int32) : Int32 := ((((((((x0 - (((x0.toUInt32 >>> ((1 : Int32).toUInt32 &&& Int32.toUInt32 31)).toInt32) &&& 1431655765)) &&& 858993459) + ((((x0 - (((x0.toUInt32 >>> ((1 : Int32).toUInt32 &&& Int32.toUInt32 31)).toInt32) &&& 1431655765)).toUInt32 >>> ((2 : Int32).toUInt32 &&& Int32.toUInt32 31)).toInt32) &&& 858993459)) + (((((x0 - (((x0.toUInt32 >>> ((1 : Int32).toUInt32 &&& Int32.toUInt32 31)).toInt32) &&& 1431655765)) &&& 858993459) + ((((x0 - (((x0.toUInt32 >>> ((1 : Int32).toUInt32 &&& Int32.toUInt32 31)).toInt32) &&& 1431655765)).toUInt32 >>> ((2 : Int32).toUInt32 &&& Int32.toUInt32 31)).toInt32) &&& 858993459)).toUInt32 >>> ((4 : Int32).toUInt32 &&& Int32.toUInt32 31)).toInt32)) &&& 252645135) + (((((((x0 - (((x0.toUInt32 >>> ((1 : Int32).toUInt32 &&& Int32.toUInt32 31)).toInt32) &&& 1431655765)) &&& 858993459) + ((((x0 - (((x0.toUInt32 >>> ((1 : Int32).toUInt32 &&& Int32.toUInt32 31)).toInt32) &&& 1431655765)).toUInt32 >>> ((2 : Int32).toUInt32 &&& Int32.toUInt32 31)).toInt32) &&& 858993459)) + (((((x0 - (((x0.toUInt32 >>> ((1 : Int32).toUInt32 &&& Int32.toUInt32 31)).toInt32) &&& 1431655765)) &&& 858993459) + ((((x0 - (((x0.toUInt32 >>> ((1 : Int32).toUInt32 &&& Int32.toUInt32 31)).toInt32) &&& 1431655765)).toUInt32 >>> ((2 : Int32).toUInt32 &&& Int32.toUInt32 31)).toInt32) &&& 858993459)).toUInt32 >>> ((4 : Int32).toUInt32 &&& Int32.toUInt32 31)).toInt32)) &&& 252645135).toUInt32 >>> ((8 : Int32).toUInt32 &&& Int32.toUInt32 31)).toInt32)) + ((((((((x0 - (((x0.toUInt32 >>> ((1 : Int32).toUInt32 &&& Int32.toUInt32 31)).toInt32) &&& 1431655765)) &&& 858993459) + ((((x0 - (((x0.toUInt32 >>> ((1 : Int32).toUInt32 &&& Int32.toUInt32 31)).toInt32) &&& 1431655765)).toUInt32 >>> ((2 : Int32).toUInt32 &&& Int32.toUInt32 31)).toInt32) &&& 858993459)) + (((((x0 - (((x0.toUInt32 >>> ((1 : Int32).toUInt32 &&& Int32.toUInt32 31)).toInt32) &&& 1431655765)) &&& 858993459) + ((((x0 - (((x0.toUInt32 >>> ((1 : Int32).toUInt32 &&& Int32.toUInt32 31)).toInt32) &&& 1431655765)).toUInt32 >>> ((2 : Int32).toUInt32 &&& Int32.toUInt32 31)).toInt32) &&& 858993459)).toUInt32 >>> ((4 : Int32).toUInt32 &&& Int32.toUInt32 31)).toInt32)) &&& 252645135) + (((((((x0 - (((x0.toUInt32 >>> ((1 : Int32).toUInt32 &&& Int32.toUInt32 31)).toInt32) &&& 1431655765)) &&& 858993459) + ((((x0 - (((x0.toUInt32 >>> ((1 : Int32).toUInt32 &&& Int32.toUInt32 31)).toInt32) &&& 1431655765)).toUInt32 >>> ((2 : Int32).toUInt32 &&& Int32.toUInt32 31)).toInt32) &&& 858993459)) + (((((x0 - (((x0.toUInt32 >>> ((1 : Int32).toUInt32 &&& Int32.toUInt32 31)).toInt32) &&& 1431655765)) &&& 858993459) + ((((x0 - (((x0.toUInt32 >>> ((1 : Int32).toUInt32 &&& Int32.toUInt32 31)).toInt32) &&& 1431655765)).toUInt32 >>> ((2 : Int32).toUInt32 &&& Int32.toUInt32 31)).toInt32) &&& 858993459)).toUInt32 >>> ((4 : Int32).toUInt32 &&& Int32.toUInt32 31)).toInt32)) &&& 252645135).toUInt32 >>> ((8 : Int32).toUInt32 &&& Int32.toUInt32 31)).toInt32)).toUInt32 >>> ((16 : Int32).toUInt32 &&& Int32.toUInt32 31)).toInt32)) &&& 63)
theorem bcE_n : ∀ n, n < 256 → bcE (nI n) = nI (pcn n 8) := by decide +kernel
theorem pcn_le (n : Nat) : ∀ k, pcn n k ≤ k
  | 0 => Nat.le_refl _
  | k + 1 => by have := pcn_le n k; rw [pcn]; split <;> omega
section Bits
variable {E : EN} {g : GS} {s : MS} {R : Int32 → MS → Prop}
theorem f_Int_bitCount {n : Nat} (hn : n < 256) (h : R (nI (pcn n 8)) s) : GI E m_Int_bitCount [.int (nI n)] g s R := by
  refine v_Int_bitCount (Q := qI g R) _ (GI.r ?_)
  show R (bcE (nI n)) s
  rw [bcE_n n hn]; exact h
theorem f_Mo_bits {n : Nat} (hn : n < 256) (h : R (nI (pcn n 8)) s) : GI E m_Mo_bits [.int (nI n)] g s R := by
  refine v_Mo_bits (Q := qI g R) _ ?_
  refine upto (P := fun k => AWP E m_Mo_bits 4 0 0 [(0, .int (nI n)), (1, .int (nI (pcn n k))), (2, .int (nI k))] [] (mk g s) (qI g R)) 8 ?_ ?_ 0 (Nat.zero_le _)
  · exact v_Mo_bits_4 _ _ _ (pk_le 8 8 (fun _ => GI.r h) (fun q => absurd q (by omega)))
  · intro k hk ih
    refine v_Mo_bits_4 _ _ _ (pk_le 8 k (fun q => absurd q (by omega)) (fun _ => ?_))
    rw [bt_one n hn k hk, nI_add, nI_1]
    rw [pcn] at ih
    exact ih
end Bits
