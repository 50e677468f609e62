/-! the instruction tables are what the bytes say, by program (gen08.py) -/
theorem k_Mo_put : mOk m_Mo_put := mOk_of 37 (fun pc h => if_neg (Nat.not_lt.mpr h)) (by decide +kernel)
theorem k_Mo_back : mOk m_Mo_back := mOk_of 29 (fun pc h => if_neg (Nat.not_lt.mpr h)) (by decide +kernel)
theorem k0_Mo_read : ∀ i, i < 60 → okI m_Mo_read (0 + i) = true := by decide +kernel
theorem k1_Mo_read : ∀ i, i < 60 → okI m_Mo_read (60 + i) = true := by decide +kernel
theorem k2_Mo_read : ∀ i, i < 60 → okI m_Mo_read (120 + i) = true := by decide +kernel
theorem k3_Mo_read : ∀ i, i < 60 → okI m_Mo_read (180 + i) = true := by decide +kernel
theorem k_Mo_read : mOk m_Mo_read := mOk_of 240 (fun pc h => if_neg (Nat.not_lt.mpr (Nat.le_trans (Nat.le_of_ble_eq_true rfl) h))) (by
  intro pc h
  rcases Nat.lt_or_ge pc 60 with h0 | h0
  · have e := k0_Mo_read (pc - 0) (by omega)
    rwa [show 0 + (pc - 0) = pc by omega] at e
  rcases Nat.lt_or_ge pc 120 with h1 | h1
  · have e := k1_Mo_read (pc - 60) (by omega)
    rwa [show 60 + (pc - 60) = pc by omega] at e
  rcases Nat.lt_or_ge pc 180 with h2 | h2
  · have e := k2_Mo_read (pc - 120) (by omega)
    rwa [show 120 + (pc - 120) = pc by omega] at e
  rcases Nat.lt_or_ge pc 240 with h3 | h3
  · have e := k3_Mo_read (pc - 180) (by omega)
    rwa [show 180 + (pc - 180) = pc by omega] at e
  omega)
theorem k0_Mo_cut : ∀ i, i < 60 → okI m_Mo_cut (0 + i) = true := by decide +kernel
theorem k1_Mo_cut : ∀ i, i < 60 → okI m_Mo_cut (60 + i) = true := by decide +kernel
theorem k2_Mo_cut : ∀ i, i < 60 → okI m_Mo_cut (120 + i) = true := by decide +kernel
theorem k3_Mo_cut : ∀ i, i < 60 → okI m_Mo_cut (180 + i) = true := by decide +kernel
theorem k4_Mo_cut : ∀ i, i < 60 → okI m_Mo_cut (240 + i) = true := by decide +kernel
theorem k_Mo_cut : mOk m_Mo_cut := mOk_of 300 (fun pc h => if_neg (Nat.not_lt.mpr (Nat.le_trans (Nat.le_of_ble_eq_true rfl) h))) (by
  intro pc h
  rcases Nat.lt_or_ge pc 60 with h0 | h0
  · have e := k0_Mo_cut (pc - 0) (by omega)
    rwa [show 0 + (pc - 0) = pc by omega] at e
  rcases Nat.lt_or_ge pc 120 with h1 | h1
  · have e := k1_Mo_cut (pc - 60) (by omega)
    rwa [show 60 + (pc - 60) = pc by omega] at e
  rcases Nat.lt_or_ge pc 180 with h2 | h2
  · have e := k2_Mo_cut (pc - 120) (by omega)
    rwa [show 120 + (pc - 120) = pc by omega] at e
  rcases Nat.lt_or_ge pc 240 with h3 | h3
  · have e := k3_Mo_cut (pc - 180) (by omega)
    rwa [show 180 + (pc - 180) = pc by omega] at e
  rcases Nat.lt_or_ge pc 300 with h4 | h4
  · have e := k4_Mo_cut (pc - 240) (by omega)
    rwa [show 240 + (pc - 240) = pc by omega] at e
  omega)
theorem k_Mo_byteAt : mOk m_Mo_byteAt := mOk_of 23 (fun pc h => if_neg (Nat.not_lt.mpr h)) (by decide +kernel)
theorem k_Mo_token : mOk m_Mo_token := mOk_of 52 (fun pc h => if_neg (Nat.not_lt.mpr h)) (by decide +kernel)
theorem k_Mo_isLetter : mOk m_Mo_isLetter := mOk_of 18 (fun pc h => if_neg (Nat.not_lt.mpr h)) (by decide +kernel)
theorem k_Mo_isDigit : mOk m_Mo_isDigit := mOk_of 18 (fun pc h => if_neg (Nat.not_lt.mpr h)) (by decide +kernel)
theorem k_Mo_sign : mOk m_Mo_sign := mOk_of 106 (fun pc h => if_neg (Nat.not_lt.mpr h)) (by decide +kernel)
theorem k_Mo_is : mOk m_Mo_is := mOk_of 26 (fun pc h => if_neg (Nat.not_lt.mpr h)) (by decide +kernel)
theorem k0_Mo_tellOne : ∀ i, i < 60 → okI m_Mo_tellOne (0 + i) = true := by decide +kernel
theorem k1_Mo_tellOne : ∀ i, i < 60 → okI m_Mo_tellOne (60 + i) = true := by decide +kernel
theorem k2_Mo_tellOne : ∀ i, i < 60 → okI m_Mo_tellOne (120 + i) = true := by decide +kernel
theorem k3_Mo_tellOne : ∀ i, i < 60 → okI m_Mo_tellOne (180 + i) = true := by decide +kernel
theorem k4_Mo_tellOne : ∀ i, i < 60 → okI m_Mo_tellOne (240 + i) = true := by decide +kernel
theorem k5_Mo_tellOne : ∀ i, i < 60 → okI m_Mo_tellOne (300 + i) = true := by decide +kernel
theorem k_Mo_tellOne : mOk m_Mo_tellOne := mOk_of 360 (fun pc h => if_neg (Nat.not_lt.mpr (Nat.le_trans (Nat.le_of_ble_eq_true rfl) h))) (by
  intro pc h
  rcases Nat.lt_or_ge pc 60 with h0 | h0
  · have e := k0_Mo_tellOne (pc - 0) (by omega)
    rwa [show 0 + (pc - 0) = pc by omega] at e
  rcases Nat.lt_or_ge pc 120 with h1 | h1
  · have e := k1_Mo_tellOne (pc - 60) (by omega)
    rwa [show 60 + (pc - 60) = pc by omega] at e
  rcases Nat.lt_or_ge pc 180 with h2 | h2
  · have e := k2_Mo_tellOne (pc - 120) (by omega)
    rwa [show 120 + (pc - 120) = pc by omega] at e
  rcases Nat.lt_or_ge pc 240 with h3 | h3
  · have e := k3_Mo_tellOne (pc - 180) (by omega)
    rwa [show 180 + (pc - 180) = pc by omega] at e
  rcases Nat.lt_or_ge pc 300 with h4 | h4
  · have e := k4_Mo_tellOne (pc - 240) (by omega)
    rwa [show 240 + (pc - 240) = pc by omega] at e
  rcases Nat.lt_or_ge pc 360 with h5 | h5
  · have e := k5_Mo_tellOne (pc - 300) (by omega)
    rwa [show 300 + (pc - 300) = pc by omega] at e
  omega)
theorem k_Mo_roomFor : mOk m_Mo_roomFor := mOk_of 22 (fun pc h => if_neg (Nat.not_lt.mpr h)) (by decide +kernel)
theorem k_Mo_fail : mOk m_Mo_fail := mOk_of 27 (fun pc h => if_neg (Nat.not_lt.mpr h)) (by decide +kernel)
theorem k_Mo_goesOn : mOk m_Mo_goesOn := mOk_of 29 (fun pc h => if_neg (Nat.not_lt.mpr h)) (by decide +kernel)
theorem k_Mo_tellGrain : mOk m_Mo_tellGrain := mOk_of 92 (fun pc h => if_neg (Nat.not_lt.mpr h)) (by decide +kernel)
theorem k_Mo_named : mOk m_Mo_named := mOk_of 57 (fun pc h => if_neg (Nat.not_lt.mpr h)) (by decide +kernel)
theorem k_Mo_must : mOk m_Mo_must := mOk_of 21 (fun pc h => if_neg (Nat.not_lt.mpr h)) (by decide +kernel)
theorem k_Mo_wrong : mOk m_Mo_wrong := mOk_of 57 (fun pc h => if_neg (Nat.not_lt.mpr h)) (by decide +kernel)
theorem k_Mo_bounded : mOk m_Mo_bounded := mOk_of 57 (fun pc h => if_neg (Nat.not_lt.mpr h)) (by decide +kernel)
theorem k_Mo_notes : mOk m_Mo_notes := mOk_of 46 (fun pc h => if_neg (Nat.not_lt.mpr h)) (by decide +kernel)
theorem k_Mo_tellHole : mOk m_Mo_tellHole := mOk_of 89 (fun pc h => if_neg (Nat.not_lt.mpr h)) (by decide +kernel)
theorem k_Mo_known : mOk m_Mo_known := mOk_of 76 (fun pc h => if_neg (Nat.not_lt.mpr h)) (by decide +kernel)
theorem k_Mo_tellRat : mOk m_Mo_tellRat := mOk_of 113 (fun pc h => if_neg (Nat.not_lt.mpr h)) (by decide +kernel)
theorem k_Mo_tellWants : mOk m_Mo_tellWants := mOk_of 189 (fun pc h => if_neg (Nat.not_lt.mpr h)) (by decide +kernel)
theorem k_Mo_tellLaw : mOk m_Mo_tellLaw := mOk_of 188 (fun pc h => if_neg (Nat.not_lt.mpr h)) (by decide +kernel)
theorem k0_Mo_expression : ∀ i, i < 60 → okI m_Mo_expression (0 + i) = true := by decide +kernel
theorem k1_Mo_expression : ∀ i, i < 60 → okI m_Mo_expression (60 + i) = true := by decide +kernel
theorem k2_Mo_expression : ∀ i, i < 60 → okI m_Mo_expression (120 + i) = true := by decide +kernel
theorem k3_Mo_expression : ∀ i, i < 60 → okI m_Mo_expression (180 + i) = true := by decide +kernel
theorem k4_Mo_expression : ∀ i, i < 60 → okI m_Mo_expression (240 + i) = true := by decide +kernel
theorem k_Mo_expression : mOk m_Mo_expression := mOk_of 300 (fun pc h => if_neg (Nat.not_lt.mpr (Nat.le_trans (Nat.le_of_ble_eq_true rfl) h))) (by
  intro pc h
  rcases Nat.lt_or_ge pc 60 with h0 | h0
  · have e := k0_Mo_expression (pc - 0) (by omega)
    rwa [show 0 + (pc - 0) = pc by omega] at e
  rcases Nat.lt_or_ge pc 120 with h1 | h1
  · have e := k1_Mo_expression (pc - 60) (by omega)
    rwa [show 60 + (pc - 60) = pc by omega] at e
  rcases Nat.lt_or_ge pc 180 with h2 | h2
  · have e := k2_Mo_expression (pc - 120) (by omega)
    rwa [show 120 + (pc - 120) = pc by omega] at e
  rcases Nat.lt_or_ge pc 240 with h3 | h3
  · have e := k3_Mo_expression (pc - 180) (by omega)
    rwa [show 180 + (pc - 180) = pc by omega] at e
  rcases Nat.lt_or_ge pc 300 with h4 | h4
  · have e := k4_Mo_expression (pc - 240) (by omega)
    rwa [show 240 + (pc - 240) = pc by omega] at e
  omega)
theorem k_Mo_unit : mOk m_Mo_unit := mOk_of 94 (fun pc h => if_neg (Nat.not_lt.mpr h)) (by decide +kernel)
theorem k_Mo_emit : mOk m_Mo_emit := mOk_of 31 (fun pc h => if_neg (Nat.not_lt.mpr h)) (by decide +kernel)
theorem k_Mo_comesOut : mOk m_Mo_comesOut := mOk_of 92 (fun pc h => if_neg (Nat.not_lt.mpr h)) (by decide +kernel)
theorem k_Mo_term : mOk m_Mo_term := mOk_of 48 (fun pc h => if_neg (Nat.not_lt.mpr h)) (by decide +kernel)
theorem k_Mo_place : mOk m_Mo_place := mOk_of 5 (fun pc h => if_neg (Nat.not_lt.mpr h)) (by decide +kernel)
theorem k_Mo_heap : mOk m_Mo_heap := mOk_of 19 (fun pc h => if_neg (Nat.not_lt.mpr h)) (by decide +kernel)
theorem k_Mo_isGrain : mOk m_Mo_isGrain := mOk_of 17 (fun pc h => if_neg (Nat.not_lt.mpr h)) (by decide +kernel)
theorem k_Mo_in : mOk m_Mo_in := mOk_of 16 (fun pc h => if_neg (Nat.not_lt.mpr h)) (by decide +kernel)
theorem k_Mo_hole : mOk m_Mo_hole := mOk_of 35 (fun pc h => if_neg (Nat.not_lt.mpr h)) (by decide +kernel)
