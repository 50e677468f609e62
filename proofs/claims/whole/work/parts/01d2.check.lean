/-! the instruction tables are what the bytes say, by program (gen08.py) -/
theorem k_Laws_addWaiting : mOk m_Laws_addWaiting := mOk_of 30 (fun pc h => if_neg (Nat.not_lt.mpr h)) (by decide +kernel)
theorem k_Laws_writeWaiting : mOk m_Laws_writeWaiting := mOk_of 69 (fun pc h => if_neg (Nat.not_lt.mpr h)) (by decide +kernel)
theorem k_Laws_rankOf : mOk m_Laws_rankOf := mOk_of 18 (fun pc h => if_neg (Nat.not_lt.mpr h)) (by decide +kernel)
theorem k_Tokens_placeOf : mOk m_Tokens_placeOf := mOk_of 23 (fun pc h => if_neg (Nat.not_lt.mpr h)) (by decide +kernel)
theorem k_Rs_place : mOk m_Rs_place := mOk_of 5 (fun pc h => if_neg (Nat.not_lt.mpr h)) (by decide +kernel)
theorem k_Rs_heap : mOk m_Rs_heap := mOk_of 28 (fun pc h => if_neg (Nat.not_lt.mpr h)) (by decide +kernel)
theorem k_Rs_isOf : mOk m_Rs_isOf := mOk_of 15 (fun pc h => if_neg (Nat.not_lt.mpr h)) (by decide +kernel)
theorem k_Rs_hole : mOk m_Rs_hole := mOk_of 42 (fun pc h => if_neg (Nat.not_lt.mpr h)) (by decide +kernel)
theorem k_House_inHole : mOk m_House_inHole := mOk_of 12 (fun pc h => if_neg (Nat.not_lt.mpr h)) (by decide +kernel)
theorem k_Rs_rat : mOk m_Rs_rat := mOk_of 148 (fun pc h => if_neg (Nat.not_lt.mpr h)) (by decide +kernel)
theorem k_Rs_worth : mOk m_Rs_worth := mOk_of 31 (fun pc h => if_neg (Nat.not_lt.mpr h)) (by decide +kernel)
theorem k_House_worthOf : mOk m_House_worthOf := mOk_of 44 (fun pc h => if_neg (Nat.not_lt.mpr h)) (by decide +kernel)
theorem k_House_allInHole : mOk m_House_allInHole := mOk_of 27 (fun pc h => if_neg (Nat.not_lt.mpr h)) (by decide +kernel)
theorem k_Rs_pure : mOk m_Rs_pure := mOk_of 84 (fun pc h => if_neg (Nat.not_lt.mpr h)) (by decide +kernel)
theorem k_Rs_commonDivisor : mOk m_Rs_commonDivisor := mOk_of 36 (fun pc h => if_neg (Nat.not_lt.mpr h)) (by decide +kernel)
theorem k_Rs_minutes : mOk m_Rs_minutes := mOk_of 41 (fun pc h => if_neg (Nat.not_lt.mpr h)) (by decide +kernel)
theorem k_Rs_remember : mOk m_Rs_remember := mOk_of 80 (fun pc h => if_neg (Nat.not_lt.mpr h)) (by decide +kernel)
theorem k_House_take : mOk m_House_take := mOk_of 114 (fun pc h => if_neg (Nat.not_lt.mpr h)) (by decide +kernel)
theorem k_Rat_take : mOk m_Rat_take := mOk_of 73 (fun pc h => if_neg (Nat.not_lt.mpr h)) (by decide +kernel)
theorem k_Mill_goOn : mOk m_Mill_goOn := mOk_of 46 (fun pc h => if_neg (Nat.not_lt.mpr h)) (by decide +kernel)
theorem k_Mill_quietMinutes : mOk m_Mill_quietMinutes := mOk_of 83 (fun pc h => if_neg (Nat.not_lt.mpr h)) (by decide +kernel)
theorem k_Mill_waits : mOk m_Mill_waits := mOk_of 90 (fun pc h => if_neg (Nat.not_lt.mpr h)) (by decide +kernel)
theorem k_House_allInHeap : mOk m_House_allInHeap := mOk_of 27 (fun pc h => if_neg (Nat.not_lt.mpr h)) (by decide +kernel)
theorem k_Mill_skip : mOk m_Mill_skip := mOk_of 94 (fun pc h => if_neg (Nat.not_lt.mpr h)) (by decide +kernel)
theorem k_Mill_goMinute : mOk m_Mill_goMinute := mOk_of 105 (fun pc h => if_neg (Nat.not_lt.mpr h)) (by decide +kernel)
theorem k_Mill_beAtHeap : mOk m_Mill_beAtHeap := mOk_of 103 (fun pc h => if_neg (Nat.not_lt.mpr h)) (by decide +kernel)
theorem k_Mill_nibble : mOk m_Mill_nibble := mOk_of 77 (fun pc h => if_neg (Nat.not_lt.mpr h)) (by decide +kernel)
theorem k0_Mill_load : ∀ i, i < 60 → okI m_Mill_load (0 + i) = true := by decide +kernel
theorem k1_Mill_load : ∀ i, i < 60 → okI m_Mill_load (60 + i) = true := by decide +kernel
theorem k2_Mill_load : ∀ i, i < 60 → okI m_Mill_load (120 + i) = true := by decide +kernel
theorem k3_Mill_load : ∀ i, i < 60 → okI m_Mill_load (180 + i) = true := by decide +kernel
theorem k4_Mill_load : ∀ i, i < 60 → okI m_Mill_load (240 + i) = true := by decide +kernel
theorem k_Mill_load : mOk m_Mill_load := mOk_of 300 (fun pc h => if_neg (Nat.not_lt.mpr (Nat.le_trans (Nat.le_of_ble_eq_true rfl) h))) (by
  intro pc h
  rcases Nat.lt_or_ge pc 60 with h0 | h0
  · have e := k0_Mill_load (pc - 0) (by omega)
    rwa [show 0 + (pc - 0) = pc by omega] at e
  rcases Nat.lt_or_ge pc 120 with h1 | h1
  · have e := k1_Mill_load (pc - 60) (by omega)
    rwa [show 60 + (pc - 60) = pc by omega] at e
  rcases Nat.lt_or_ge pc 180 with h2 | h2
  · have e := k2_Mill_load (pc - 120) (by omega)
    rwa [show 120 + (pc - 120) = pc by omega] at e
  rcases Nat.lt_or_ge pc 240 with h3 | h3
  · have e := k3_Mill_load (pc - 180) (by omega)
    rwa [show 180 + (pc - 180) = pc by omega] at e
  rcases Nat.lt_or_ge pc 300 with h4 | h4
  · have e := k4_Mill_load (pc - 240) (by omega)
    rwa [show 240 + (pc - 240) = pc by omega] at e
  omega)
theorem k_Mill_know : mOk m_Mill_know := mOk_of 76 (fun pc h => if_neg (Nat.not_lt.mpr h)) (by decide +kernel)
theorem k0_Laws_valueOf : ∀ i, i < 60 → okI m_Laws_valueOf (0 + i) = true := by decide +kernel
theorem k1_Laws_valueOf : ∀ i, i < 60 → okI m_Laws_valueOf (60 + i) = true := by decide +kernel
theorem k2_Laws_valueOf : ∀ i, i < 60 → okI m_Laws_valueOf (120 + i) = true := by decide +kernel
theorem k3_Laws_valueOf : ∀ i, i < 60 → okI m_Laws_valueOf (180 + i) = true := by decide +kernel
theorem k4_Laws_valueOf : ∀ i, i < 60 → okI m_Laws_valueOf (240 + i) = true := by decide +kernel
theorem k_Laws_valueOf : mOk m_Laws_valueOf := mOk_of 300 (fun pc h => if_neg (Nat.not_lt.mpr (Nat.le_trans (Nat.le_of_ble_eq_true rfl) h))) (by
  intro pc h
  rcases Nat.lt_or_ge pc 60 with h0 | h0
  · have e := k0_Laws_valueOf (pc - 0) (by omega)
    rwa [show 0 + (pc - 0) = pc by omega] at e
  rcases Nat.lt_or_ge pc 120 with h1 | h1
  · have e := k1_Laws_valueOf (pc - 60) (by omega)
    rwa [show 60 + (pc - 60) = pc by omega] at e
  rcases Nat.lt_or_ge pc 180 with h2 | h2
  · have e := k2_Laws_valueOf (pc - 120) (by omega)
    rwa [show 120 + (pc - 120) = pc by omega] at e
  rcases Nat.lt_or_ge pc 240 with h3 | h3
  · have e := k3_Laws_valueOf (pc - 180) (by omega)
    rwa [show 180 + (pc - 180) = pc by omega] at e
  rcases Nat.lt_or_ge pc 300 with h4 | h4
  · have e := k4_Laws_valueOf (pc - 240) (by omega)
    rwa [show 240 + (pc - 240) = pc by omega] at e
  omega)
theorem k_Laws_join : mOk m_Laws_join := mOk_of 52 (fun pc h => if_neg (Nat.not_lt.mpr h)) (by decide +kernel)
theorem k_Mill_lot : mOk m_Mill_lot := mOk_of 25 (fun pc h => if_neg (Nat.not_lt.mpr h)) (by decide +kernel)
theorem k_Mill_stir : mOk m_Mill_stir := mOk_of 18 (fun pc h => if_neg (Nat.not_lt.mpr h)) (by decide +kernel)
theorem k_Mill_walk : mOk m_Mill_walk := mOk_of 101 (fun pc h => if_neg (Nat.not_lt.mpr h)) (by decide +kernel)
theorem k_Rs_pour : mOk m_Rs_pour := mOk_of 65 (fun pc h => if_neg (Nat.not_lt.mpr h)) (by decide +kernel)
