/-! the instruction tables are what the bytes say, by program (gen08.py) -/
theorem k_Mo_isHole : mOk m_Mo_isHole := mOk_of 17 (fun pc h => if_neg (Nat.not_lt.mpr h)) (by decide +kernel)
theorem k_Mo_rat : mOk m_Mo_rat := mOk_of 87 (fun pc h => if_neg (Nat.not_lt.mpr h)) (by decide +kernel)
theorem k_Mo_isRat : mOk m_Mo_isRat := mOk_of 17 (fun pc h => if_neg (Nat.not_lt.mpr h)) (by decide +kernel)
theorem k_Mo_worth : mOk m_Mo_worth := mOk_of 20 (fun pc h => if_neg (Nat.not_lt.mpr h)) (by decide +kernel)
theorem k_Mo_copies : mOk m_Mo_copies := mOk_of 31 (fun pc h => if_neg (Nat.not_lt.mpr h)) (by decide +kernel)
theorem k_Mo_worthOf : mOk m_Mo_worthOf := mOk_of 113 (fun pc h => if_neg (Nat.not_lt.mpr h)) (by decide +kernel)
theorem k_Mo_pure : mOk m_Mo_pure := mOk_of 114 (fun pc h => if_neg (Nat.not_lt.mpr h)) (by decide +kernel)
theorem k_Mo_common : mOk m_Mo_common := mOk_of 23 (fun pc h => if_neg (Nat.not_lt.mpr h)) (by decide +kernel)
theorem k_Mo_minutes : mOk m_Mo_minutes := mOk_of 46 (fun pc h => if_neg (Nat.not_lt.mpr h)) (by decide +kernel)
theorem k_Mo_goes : mOk m_Mo_goes := mOk_of 18 (fun pc h => if_neg (Nat.not_lt.mpr h)) (by decide +kernel)
theorem k_Mo_minuteGoes : mOk m_Mo_minuteGoes := mOk_of 183 (fun pc h => if_neg (Nat.not_lt.mpr h)) (by decide +kernel)
theorem k0_Mo_atHeap : ∀ i, i < 60 → okI m_Mo_atHeap (0 + i) = true := by decide +kernel
theorem k1_Mo_atHeap : ∀ i, i < 60 → okI m_Mo_atHeap (60 + i) = true := by decide +kernel
theorem k2_Mo_atHeap : ∀ i, i < 60 → okI m_Mo_atHeap (120 + i) = true := by decide +kernel
theorem k3_Mo_atHeap : ∀ i, i < 60 → okI m_Mo_atHeap (180 + i) = true := by decide +kernel
theorem k4_Mo_atHeap : ∀ i, i < 60 → okI m_Mo_atHeap (240 + i) = true := by decide +kernel
theorem k5_Mo_atHeap : ∀ i, i < 60 → okI m_Mo_atHeap (300 + i) = true := by decide +kernel
theorem k_Mo_atHeap : mOk m_Mo_atHeap := mOk_of 360 (fun pc h => if_neg (Nat.not_lt.mpr (Nat.le_trans (Nat.le_of_ble_eq_true rfl) h))) (by
  intro pc h
  rcases Nat.lt_or_ge pc 60 with h0 | h0
  · have e := k0_Mo_atHeap (pc - 0) (by omega)
    rwa [show 0 + (pc - 0) = pc by omega] at e
  rcases Nat.lt_or_ge pc 120 with h1 | h1
  · have e := k1_Mo_atHeap (pc - 60) (by omega)
    rwa [show 60 + (pc - 60) = pc by omega] at e
  rcases Nat.lt_or_ge pc 180 with h2 | h2
  · have e := k2_Mo_atHeap (pc - 120) (by omega)
    rwa [show 120 + (pc - 120) = pc by omega] at e
  rcases Nat.lt_or_ge pc 240 with h3 | h3
  · have e := k3_Mo_atHeap (pc - 180) (by omega)
    rwa [show 180 + (pc - 180) = pc by omega] at e
  rcases Nat.lt_or_ge pc 300 with h4 | h4
  · have e := k4_Mo_atHeap (pc - 240) (by omega)
    rwa [show 240 + (pc - 240) = pc by omega] at e
  rcases Nat.lt_or_ge pc 360 with h5 | h5
  · have e := k5_Mo_atHeap (pc - 300) (by omega)
    rwa [show 300 + (pc - 300) = pc by omega] at e
  omega)
theorem k_Mo_nibbles : mOk m_Mo_nibbles := mOk_of 82 (fun pc h => if_neg (Nat.not_lt.mpr h)) (by decide +kernel)
theorem k0_Mo_tells : ∀ i, i < 60 → okI m_Mo_tells (0 + i) = true := by decide +kernel
theorem k1_Mo_tells : ∀ i, i < 60 → okI m_Mo_tells (60 + i) = true := by decide +kernel
theorem k2_Mo_tells : ∀ i, i < 60 → okI m_Mo_tells (120 + i) = true := by decide +kernel
theorem k3_Mo_tells : ∀ i, i < 60 → okI m_Mo_tells (180 + i) = true := by decide +kernel
theorem k4_Mo_tells : ∀ i, i < 60 → okI m_Mo_tells (240 + i) = true := by decide +kernel
theorem k5_Mo_tells : ∀ i, i < 60 → okI m_Mo_tells (300 + i) = true := by decide +kernel
theorem k_Mo_tells : mOk m_Mo_tells := mOk_of 360 (fun pc h => if_neg (Nat.not_lt.mpr (Nat.le_trans (Nat.le_of_ble_eq_true rfl) h))) (by
  intro pc h
  rcases Nat.lt_or_ge pc 60 with h0 | h0
  · have e := k0_Mo_tells (pc - 0) (by omega)
    rwa [show 0 + (pc - 0) = pc by omega] at e
  rcases Nat.lt_or_ge pc 120 with h1 | h1
  · have e := k1_Mo_tells (pc - 60) (by omega)
    rwa [show 60 + (pc - 60) = pc by omega] at e
  rcases Nat.lt_or_ge pc 180 with h2 | h2
  · have e := k2_Mo_tells (pc - 120) (by omega)
    rwa [show 120 + (pc - 120) = pc by omega] at e
  rcases Nat.lt_or_ge pc 240 with h3 | h3
  · have e := k3_Mo_tells (pc - 180) (by omega)
    rwa [show 180 + (pc - 180) = pc by omega] at e
  rcases Nat.lt_or_ge pc 300 with h4 | h4
  · have e := k4_Mo_tells (pc - 240) (by omega)
    rwa [show 240 + (pc - 240) = pc by omega] at e
  rcases Nat.lt_or_ge pc 360 with h5 | h5
  · have e := k5_Mo_tells (pc - 300) (by omega)
    rwa [show 300 + (pc - 300) = pc by omega] at e
  omega)
theorem k_Mo_termOf : mOk m_Mo_termOf := mOk_of 172 (fun pc h => if_neg (Nat.not_lt.mpr h)) (by decide +kernel)
theorem k_Mo_held : mOk m_Mo_held := mOk_of 20 (fun pc h => if_neg (Nat.not_lt.mpr h)) (by decide +kernel)
theorem k_Mo_lotOf : mOk m_Mo_lotOf := mOk_of 30 (fun pc h => if_neg (Nat.not_lt.mpr h)) (by decide +kernel)
theorem k_Mo_mixed : mOk m_Mo_mixed := mOk_of 19 (fun pc h => if_neg (Nat.not_lt.mpr h)) (by decide +kernel)
theorem k_Mo_drops : mOk m_Mo_drops := mOk_of 127 (fun pc h => if_neg (Nat.not_lt.mpr h)) (by decide +kernel)
theorem k_Mo_keeps : mOk m_Mo_keeps := mOk_of 98 (fun pc h => if_neg (Nat.not_lt.mpr h)) (by decide +kernel)
theorem k_Mo_pour : mOk m_Mo_pour := mOk_of 60 (fun pc h => if_neg (Nat.not_lt.mpr h)) (by decide +kernel)
theorem k_Mo_swap : mOk m_Mo_swap := mOk_of 39 (fun pc h => if_neg (Nat.not_lt.mpr h)) (by decide +kernel)
theorem k_Mo_swaps : mOk m_Mo_swaps := mOk_of 75 (fun pc h => if_neg (Nat.not_lt.mpr h)) (by decide +kernel)
theorem k_Mo_teach : mOk m_Mo_teach := mOk_of 51 (fun pc h => if_neg (Nat.not_lt.mpr h)) (by decide +kernel)
theorem k_Mo_give : mOk m_Mo_give := mOk_of 113 (fun pc h => if_neg (Nat.not_lt.mpr h)) (by decide +kernel)
theorem k_Mo_send : mOk m_Mo_send := mOk_of 64 (fun pc h => if_neg (Nat.not_lt.mpr h)) (by decide +kernel)
theorem k_Mo_goesHome : mOk m_Mo_goesHome := mOk_of 91 (fun pc h => if_neg (Nat.not_lt.mpr h)) (by decide +kernel)
theorem k_Mo_cat : mOk m_Mo_cat := mOk_of 54 (fun pc h => if_neg (Nat.not_lt.mpr h)) (by decide +kernel)
theorem k0_Mo_sell : ∀ i, i < 60 → okI m_Mo_sell (0 + i) = true := by decide +kernel
theorem k1_Mo_sell : ∀ i, i < 60 → okI m_Mo_sell (60 + i) = true := by decide +kernel
theorem k2_Mo_sell : ∀ i, i < 60 → okI m_Mo_sell (120 + i) = true := by decide +kernel
theorem k3_Mo_sell : ∀ i, i < 60 → okI m_Mo_sell (180 + i) = true := by decide +kernel
theorem k_Mo_sell : mOk m_Mo_sell := mOk_of 240 (fun pc h => if_neg (Nat.not_lt.mpr (Nat.le_trans (Nat.le_of_ble_eq_true rfl) h))) (by
  intro pc h
  rcases Nat.lt_or_ge pc 60 with h0 | h0
  · have e := k0_Mo_sell (pc - 0) (by omega)
    rwa [show 0 + (pc - 0) = pc by omega] at e
  rcases Nat.lt_or_ge pc 120 with h1 | h1
  · have e := k1_Mo_sell (pc - 60) (by omega)
    rwa [show 60 + (pc - 60) = pc by omega] at e
  rcases Nat.lt_or_ge pc 180 with h2 | h2
  · have e := k2_Mo_sell (pc - 120) (by omega)
    rwa [show 120 + (pc - 120) = pc by omega] at e
  rcases Nat.lt_or_ge pc 240 with h3 | h3
  · have e := k3_Mo_sell (pc - 180) (by omega)
    rwa [show 180 + (pc - 180) = pc by omega] at e
  omega)
theorem k_Mo_isEnough : mOk m_Mo_isEnough := mOk_of 90 (fun pc h => if_neg (Nat.not_lt.mpr h)) (by decide +kernel)
theorem k_Mo_wantedBy : mOk m_Mo_wantedBy := mOk_of 112 (fun pc h => if_neg (Nat.not_lt.mpr h)) (by decide +kernel)
theorem k_Mo_sales : mOk m_Mo_sales := mOk_of 89 (fun pc h => if_neg (Nat.not_lt.mpr h)) (by decide +kernel)
theorem k_Mo_paysOf : mOk m_Mo_paysOf := mOk_of 50 (fun pc h => if_neg (Nat.not_lt.mpr h)) (by decide +kernel)
theorem k_Mo_undo : mOk m_Mo_undo := mOk_of 55 (fun pc h => if_neg (Nat.not_lt.mpr h)) (by decide +kernel)
theorem k_Mo_isClean : mOk m_Mo_isClean := mOk_of 10 (fun pc h => if_neg (Nat.not_lt.mpr h)) (by decide +kernel)
