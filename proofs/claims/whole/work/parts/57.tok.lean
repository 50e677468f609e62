/-! TOKENS, pure: where each begins and ends, its kind and value -/
def isB (c : Nat) : Bool := decide (c = 9 ∨ c = 10 ∨ c = 13 ∨ c = 32)
def isL (c : Nat) : Bool := decide (97 ≤ c ∧ c ≤ 122)
def isDg (c : Nat) : Bool := decide (48 ≤ c ∧ c ≤ 57)
def runF (P : Nat → Bool) (T : Nat → Nat) (L : Nat) : Nat → Nat → Nat
  | 0, i => i
  | n + 1, i => if i < L ∧ P (T i) = true then runF P T L n (i + 1) else i
def runT (P : Nat → Bool) (T : Nat → Nat) (L i : Nat) : Nat := runF P T L (L - i) i
theorem runT_u (P : Nat → Bool) (T : Nat → Nat) (L i : Nat) : runT P T L i = if i < L ∧ P (T i) = true then runT P T L (i + 1) else i := by
  unfold runT
  by_cases h : i < L
  · rw [show L - i = (L - (i + 1)) + 1 by omega, runF]
  · rw [show L - i = 0 by omega, runF, if_neg (by omega)]
theorem run_bd (P : Nat → Bool) (T : Nat → Nat) (L : Nat) : ∀ n i, i ≤ runF P T L n i ∧ (i ≤ L → runF P T L n i ≤ L)
  | 0, i => ⟨Nat.le_refl _, fun h => h⟩
  | n + 1, i => by
    rw [runF]
    split
    · rename_i q
      have := run_bd P T L n (i + 1)
      exact ⟨by omega, fun _ => this.2 (by omega)⟩
    · exact ⟨Nat.le_refl _, fun h => h⟩
theorem runT_ge (P : Nat → Bool) (T : Nat → Nat) (L i : Nat) : i ≤ runT P T L i := (run_bd P T L _ i).1
theorem runT_le (P : Nat → Bool) (T : Nat → Nat) {L i : Nat} (h : i ≤ L) : runT P T L i ≤ L := (run_bd P T L _ i).2 h
theorem run_all {P : Nat → Bool} {T : Nat → Nat} {L : Nat} : ∀ n i j, i ≤ j → j < runF P T L n i → j < L ∧ P (T j) = true
  | 0, i, j, h1, h2 => by rw [runF] at h2; omega
  | n + 1, i, j, h1, h2 => by
    rw [runF] at h2
    split at h2
    · rename_i q
      by_cases e : j = i
      · subst e; exact q
      · exact run_all n (i + 1) j (by omega) h2
    · omega
def endT (T : Nat → Nat) (L i : Nat) : Nat := if isL (T i) = true then runT isL T L (i + 1) else if isDg (T i) = true then runT isDg T L (i + 1) else i + 1
theorem endT_gt (T : Nat → Nat) (L i : Nat) : i < endT T L i := by
  unfold endT
  split
  · have := runT_ge isL T L (i + 1); omega
  · split
    · have := runT_ge isDg T L (i + 1); omega
    · omega
theorem endT_le (T : Nat → Nat) {L i : Nat} (h : i < L) : endT T L i ≤ L := by
  unfold endT
  split
  · exact runT_le isL T h
  · split
    · exact runT_le isDg T h
    · exact h
theorem endT_L {T : Nat → Nat} {L i : Nat} (h : isL (T i) = true) {j : Nat} (h1 : i ≤ j) (h2 : j < endT T L i) : isL (T j) = true := by
  unfold endT at h2
  rw [if_pos h] at h2
  by_cases e : j = i
  · rw [e]; exact h
  · exact (run_all _ _ j (by omega) h2).2
theorem endT_D {T : Nat → Nat} {L i : Nat} (h : isDg (T i) = true) (h' : ¬ isL (T i) = true) {j : Nat} (h1 : i ≤ j) (h2 : j < endT T L i) : isDg (T j) = true := by
  unfold endT at h2
  rw [if_neg h', if_pos h] at h2
  by_cases e : j = i
  · rw [e]; exact h
  · exact (run_all _ _ j (by omega) h2).2
/-- where token j begins -/
def bp (T : Nat → Nat) (L : Nat) : Nat → Nat
  | 0 => runT isB T L 0
  | j + 1 => runT isB T L (endT T L (bp T L j))
def nmT (b z : Nat) (T : Nat → Nat) (i : Nat) : Nat → Nat
  | 0 => 0
  | n + 1 => b * nmT b z T i n + (T (i + n) - z)
theorem nmT_cg {b z : Nat} {T T' : Nat → Nat} {i i' : Nat} : ∀ n, (∀ j, j < n → T (i + j) = T' (i' + j)) → nmT b z T i n = nmT b z T' i' n
  | 0, _ => rfl
  | n + 1, h => by rw [nmT, nmT, nmT_cg n (fun j hj => h j (by omega)), h n (by omega)]
theorem nmT_inj {T T' : Nat → Nat} {i i' : Nat} : ∀ n n', (∀ j, j < n → isL (T (i + j)) = true) → (∀ j, j < n' → isL (T' (i' + j)) = true) → nmT 27 96 T i n = nmT 27 96 T' i' n' → n = n' ∧ ∀ j, j < n → T (i + j) = T' (i' + j)
  | 0, 0, _, _, _ => ⟨rfl, fun j hj => absurd hj (by omega)⟩
  | 0, n' + 1, _, h2, e => by
    have := h2 n' (by omega)
    simp only [isL, decide_eq_true_eq] at this
    rw [nmT, nmT] at e
    omega
  | n + 1, 0, h1, _, e => by
    have := h1 n (by omega)
    simp only [isL, decide_eq_true_eq] at this
    rw [nmT, nmT] at e
    omega
  | n + 1, n' + 1, h1, h2, e => by
    have a1 := h1 n (by omega)
    have a2 := h2 n' (by omega)
    simp only [isL, decide_eq_true_eq] at a1 a2
    rw [nmT, nmT] at e
    have e1 : nmT 27 96 T i n = nmT 27 96 T' i' n' := by omega
    obtain ⟨q1, q2⟩ := nmT_inj n n' (fun j hj => h1 j (by omega)) (fun j hj => h2 j (by omega)) e1
    subst q1
    refine ⟨rfl, fun j hj => ?_⟩
    by_cases z : j = n
    · subst z; omega
    · exact q2 j (by omega)
theorem nmT_lt {b z : Nat} {T : Nat → Nat} {i : Nat} : ∀ n, (∀ j, j < n → T (i + j) - z < b) → nmT b z T i n < b ^ n
  | 0, _ => by simp [nmT]
  | n + 1, h => by
    have ih := nmT_lt n (fun j hj => h j (by omega))
    have a := h n (by omega)
    rw [nmT, Nat.pow_succ]
    have h1 : nmT b z T i n + 1 ≤ b ^ n := ih
    have h2 : b * (nmT b z T i n + 1) ≤ b * b ^ n := Nat.mul_le_mul_left b h1
    rw [Nat.mul_add, Nat.mul_one] at h2
    rw [Nat.mul_comm (b ^ n) b]
    omega
theorem nmT_ge {T : Nat → Nat} {i : Nat} : ∀ n, (∀ j, j < n + 1 → isL (T (i + j)) = true) → 27 ^ n ≤ nmT 27 96 T i (n + 1)
  | 0, h => by
    have := h 0 (by omega)
    simp only [isL, decide_eq_true_eq] at this
    rw [nmT, nmT]; omega
  | n + 1, h => by
    have ih := nmT_ge n (fun j hj => h j (by omega))
    rw [nmT, Nat.pow_succ]
    omega
def WL : List Nat := [103,114,97,105,110,32,32,104,111,108,101,32,32,32,114,97,116,32,32,32,32,108,111,97,100,32,32,32,101,97,116,115,32,32,32,101,114,114,115,32,32,32,119,97,110,116,115,32,32,108,97,109,112,32,32,32,111,100,100,32,32,32,32,115,101,101,100,32,32,32,105,102,32,32,32,32,32,116,104,101,110,32,32,32,101,108,115,101,32,32,32,104,117,110,103,101,114,32,102,97,116,32,32,32,32,109,117,99,104,32,32,32,100,97,114,107,32,32,32,102,97,114,32,32,32,32,107,110,111,119,32,32,32,116,114,105,112,115,32,32]
def wW (j : Nat) : Nat := WL.getD j 0
theorem wW_is : ∀ j, j < 140 → (((Int32.toUInt32 (((strBs.getD 0 []).getD j 0) &&& 255)) % 65536).toInt32) = nI (wW j) ∧ wW j < 256 := by decide +kernel
def wln : List Nat := [5, 4, 3, 4, 4, 4, 5, 4, 3, 4, 2, 4, 4, 6, 3, 4, 4, 3, 4, 5]
theorem ww_1 : ∀ k, k < 20 → wln.getD k 0 < 7 ∧ wW (7 * k + wln.getD k 0) = 32 ∧ nmT 27 96 wW (7 * k) (wln.getD k 0) = kws.getD k 0 ∧ ∀ j, j < wln.getD k 0 → isL (wW (7 * k + j)) = true := by decide +kernel
theorem ww_2 : ∀ k, k < 20 → ∀ n, n < 7 → wW (7 * k + n) = 32 → (∀ j, j < n → isL (wW (7 * k + j)) = true) → nmT 27 96 wW (7 * k) n = kws.getD k 0 := by decide +kernel
theorem word_iff {T : Nat → Nat} {i n k : Nat} (hk : k < 20) (hn : n < 7) (hl : ∀ j, j < n → isL (T (i + j)) = true) : ((∀ j, j < n → wW (7 * k + j) = T (i + j)) ∧ wW (7 * k + n) = 32) ↔ nmT 27 96 T i n = kws.getD k 0 := by
  constructor
  · rintro ⟨h1, h2⟩
    rw [← ww_2 k hk n hn h2 (fun j hj => by rw [h1 j hj]; exact hl j hj)]
    exact nmT_cg n (fun j hj => (h1 j hj).symm)
  · intro e
    obtain ⟨w1, w2, w3, w4⟩ := ww_1 k hk
    obtain ⟨q1, q2⟩ := nmT_inj n _ hl w4 (e.trans w3.symm)
    refine ⟨fun j hj => (q2 j hj).symm, by rw [q1]; exact w2⟩
/-- which word, 20 if none -/
def kwx (n v : Nat) : Nat := if n < 7 then kws.findIdx (fun x => x == v) else 20
theorem kws_n : kws.length = 20 := by decide
theorem kws_d : ∀ i, i < 20 → ∀ j, j < 20 → kws.getD i 0 = kws.getD j 0 → i = j := by decide +kernel
theorem kws_b : ∀ i, i < 20 → kws.getD i 0 < 27 ^ 6 := by decide +kernel
theorem kwx_of {n v k : Nat} (hn : n < 7) (hk : k < 20) (h : v = kws.getD k 0) : kwx n v = k := by
  unfold kwx
  rw [if_pos hn, h]
  have : ∀ k, k < 20 → kws.findIdx (fun x => x == kws.getD k 0) = k := by decide +kernel
  exact this k hk
theorem kwx_no {n v : Nat} (h : ∀ k, k < 20 → v ≠ kws.getD k 0) : kwx n v = 20 := by
  unfold kwx
  split
  · have : kws.findIdx (fun x => x == v) = kws.length := by
      rw [List.findIdx_eq_length]
      intro x hx
      obtain ⟨i, hi, e⟩ := List.mem_iff_getElem.mp hx
      have hi' : i < 20 := by rw [← kws_n]; exact hi
      have := h i hi'
      rw [List.getD_eq_getElem?_getD, List.getElem?_eq_getElem hi] at this
      simp only [Option.getD_some] at this
      rw [e] at this
      simp only [beq_eq_false_iff_ne, ne_eq]
      exact fun q => this q.symm
    rw [this, kws_n]
  · rfl
def sgs : List Nat := [59, 61, 43, 45, 42, 47, 60, 40, 41]
def tkK (T : Nat → Nat) (L i : Nat) : Nat := if isL (T i) = true then (if 8 < endT T L i - i then 1 else if kwx (endT T L i - i) (nmT 27 96 T i (endT T L i - i)) < 20 then 4 + kwx (endT T L i - i) (nmT 27 96 T i (endT T L i - i)) else 2) else if isDg (T i) = true then (if 4 < endT T L i - i then 1 else 3) else if sgs.findIdx (fun x => x == T i) < 9 then 24 + sgs.findIdx (fun x => x == T i) else 1
def tkV (T : Nat → Nat) (L i : Nat) : Nat := if isL (T i) = true then nmT 27 96 T i (min (endT T L i - i) 8) else if isDg (T i) = true then nmT 10 48 T i (min (endT T L i - i) 4) else 0
/-- the class's tokens -/
def TkC (T : Nat → Nat) (L M : Nat) (s : MS) : Prop := s.1 18 3 = nI M ∧ M ≤ 401 ∧ (∀ j, j < M → bp T L j < L ∧ s.1 19 j = nI (tkK T L (bp T L j)) ∧ s.1 20 j = nI (bp T L j) ∧ s.2 21 j = lN (tkV T L (bp T L j))) ∧ s.1 19 M = 0 ∧ s.1 20 M = nI L ∧ (L ≤ bp T L M ∨ M = 401)
theorem tk_uniq {T : Nat → Nat} {L M M' : Nat} (h1 : ∀ j, j < M → bp T L j < L) (h2 : L ≤ bp T L M ∨ M = 401) (h3 : M ≤ 401) (k1 : ∀ j, j < M' → bp T L j < L) (k2 : L ≤ bp T L M' ∨ M' = 401) (k3 : M' ≤ 401) : M = M' := by
  rcases Nat.lt_trichotomy M M' with q | q | q
  · have := k1 M q; omega
  · exact q
  · have := h1 M' q; omega
