/-! the instruction tables are what the bytes say, by program (gen08.py) -/
theorem k_Tokens_nameOf : mOk m_Tokens_nameOf := mOk_of 36 (fun pc h => if_neg (Nat.not_lt.mpr h)) (by decide +kernel)
theorem k_Tokens_numberOf : mOk m_Tokens_numberOf := mOk_of 34 (fun pc h => if_neg (Nat.not_lt.mpr h)) (by decide +kernel)
theorem k_Str_indexOf : mOk m_Str_indexOf := mOk_of 7 (fun pc h => if_neg (Nat.not_lt.mpr h)) (by decide +kernel)
theorem k_Str_indexOf2 : mOk m_Str_indexOf2 := mOk_of 37 (fun pc h => if_neg (Nat.not_lt.mpr h)) (by decide +kernel)
theorem k_Str_length : mOk m_Str_length := mOk_of 11 (fun pc h => if_neg (Nat.not_lt.mpr h)) (by decide +kernel)
theorem k_Str_coder : mOk m_Str_coder := mOk_of 15 (fun pc h => if_neg (Nat.not_lt.mpr h)) (by decide +kernel)
theorem k_Lat_indexOf : mOk m_Lat_indexOf := mOk_of 37 (fun pc h => if_neg (Nat.not_lt.mpr h)) (by decide +kernel)
theorem k_Lat_canEncode : mOk m_Lat_canEncode := mOk_of 17 (fun pc h => if_neg (Nat.not_lt.mpr h)) (by decide +kernel)
theorem k_Lat_indexOfChar : mOk m_Lat_indexOfChar := mOk_of 33 (fun pc h => if_neg (Nat.not_lt.mpr h)) (by decide +kernel)
theorem k_Grammar_check : mOk m_Grammar_check := mOk_of 72 (fun pc h => if_neg (Nat.not_lt.mpr h)) (by decide +kernel)
theorem k_Grammar_kind : mOk m_Grammar_kind := mOk_of 12 (fun pc h => if_neg (Nat.not_lt.mpr h)) (by decide +kernel)
theorem k_Tokens_kindOf : mOk m_Tokens_kindOf := mOk_of 23 (fun pc h => if_neg (Nat.not_lt.mpr h)) (by decide +kernel)
theorem k_Grammar_checkTell : mOk m_Grammar_checkTell := mOk_of 160 (fun pc h => if_neg (Nat.not_lt.mpr h)) (by decide +kernel)
theorem k_Grammar_mostOf : mOk m_Grammar_mostOf := mOk_of 59 (fun pc h => if_neg (Nat.not_lt.mpr h)) (by decide +kernel)
theorem k_Grammar_pass : mOk m_Grammar_pass := mOk_of 53 (fun pc h => if_neg (Nat.not_lt.mpr h)) (by decide +kernel)
theorem k_Grammar_checkRow : mOk m_Grammar_checkRow := mOk_of 49 (fun pc h => if_neg (Nat.not_lt.mpr h)) (by decide +kernel)
theorem k_Grammar_passKind : mOk m_Grammar_passKind := mOk_of 19 (fun pc h => if_neg (Nat.not_lt.mpr h)) (by decide +kernel)
theorem k_Grammar_checkLaw : mOk m_Grammar_checkLaw := mOk_of 75 (fun pc h => if_neg (Nat.not_lt.mpr h)) (by decide +kernel)
theorem k_Grammar_checkSum : mOk m_Grammar_checkSum := mOk_of 180 (fun pc h => if_neg (Nat.not_lt.mpr h)) (by decide +kernel)
theorem k_Grammar_checkWants : mOk m_Grammar_checkWants := mOk_of 60 (fun pc h => if_neg (Nat.not_lt.mpr h)) (by decide +kernel)
theorem k_Teller_fill : mOk m_Teller_fill := mOk_of 72 (fun pc h => if_neg (Nat.not_lt.mpr h)) (by decide +kernel)
theorem k_Text_clear : mOk m_Text_clear := mOk_of 70 (fun pc h => if_neg (Nat.not_lt.mpr h)) (by decide +kernel)
theorem k_Laws_clear : mOk m_Laws_clear := mOk_of 30 (fun pc h => if_neg (Nat.not_lt.mpr h)) (by decide +kernel)
theorem k0_Teller_fillTell : ∀ i, i < 60 → okI m_Teller_fillTell (0 + i) = true := by decide +kernel
theorem k1_Teller_fillTell : ∀ i, i < 60 → okI m_Teller_fillTell (60 + i) = true := by decide +kernel
theorem k2_Teller_fillTell : ∀ i, i < 60 → okI m_Teller_fillTell (120 + i) = true := by decide +kernel
theorem k3_Teller_fillTell : ∀ i, i < 60 → okI m_Teller_fillTell (180 + i) = true := by decide +kernel
theorem k_Teller_fillTell : mOk m_Teller_fillTell := mOk_of 240 (fun pc h => if_neg (Nat.not_lt.mpr (Nat.le_trans (Nat.le_of_ble_eq_true rfl) h))) (by
  intro pc h
  rcases Nat.lt_or_ge pc 60 with h0 | h0
  · have e := k0_Teller_fillTell (pc - 0) (by omega)
    rwa [show 0 + (pc - 0) = pc by omega] at e
  rcases Nat.lt_or_ge pc 120 with h1 | h1
  · have e := k1_Teller_fillTell (pc - 60) (by omega)
    rwa [show 60 + (pc - 60) = pc by omega] at e
  rcases Nat.lt_or_ge pc 180 with h2 | h2
  · have e := k2_Teller_fillTell (pc - 120) (by omega)
    rwa [show 120 + (pc - 120) = pc by omega] at e
  rcases Nat.lt_or_ge pc 240 with h3 | h3
  · have e := k3_Teller_fillTell (pc - 180) (by omega)
    rwa [show 180 + (pc - 180) = pc by omega] at e
  omega)
theorem k_Teller_fillGrain : mOk m_Teller_fillGrain := mOk_of 68 (fun pc h => if_neg (Nat.not_lt.mpr h)) (by decide +kernel)
theorem k_Teller_takeNewName : mOk m_Teller_takeNewName := mOk_of 137 (fun pc h => if_neg (Nat.not_lt.mpr h)) (by decide +kernel)
theorem k_Teller_takeNumber : mOk m_Teller_takeNumber := mOk_of 66 (fun pc h => if_neg (Nat.not_lt.mpr h)) (by decide +kernel)
theorem k_Teller_fillHole : mOk m_Teller_fillHole := mOk_of 65 (fun pc h => if_neg (Nat.not_lt.mpr h)) (by decide +kernel)
theorem k_Teller_takeName : mOk m_Teller_takeName := mOk_of 95 (fun pc h => if_neg (Nat.not_lt.mpr h)) (by decide +kernel)
theorem k_Teller_fillRat : mOk m_Teller_fillRat := mOk_of 96 (fun pc h => if_neg (Nat.not_lt.mpr h)) (by decide +kernel)
theorem k_Teller_fillMerchant : mOk m_Teller_fillMerchant := mOk_of 145 (fun pc h => if_neg (Nat.not_lt.mpr h)) (by decide +kernel)
theorem k_Text_wantOf : mOk m_Text_wantOf := mOk_of 12 (fun pc h => if_neg (Nat.not_lt.mpr h)) (by decide +kernel)
theorem k_Laws_write : mOk m_Laws_write := mOk_of 97 (fun pc h => if_neg (Nat.not_lt.mpr h)) (by decide +kernel)
theorem k0_Laws_writeToken : ∀ i, i < 60 → okI m_Laws_writeToken (0 + i) = true := by decide +kernel
theorem k1_Laws_writeToken : ∀ i, i < 60 → okI m_Laws_writeToken (60 + i) = true := by decide +kernel
theorem k2_Laws_writeToken : ∀ i, i < 60 → okI m_Laws_writeToken (120 + i) = true := by decide +kernel
theorem k3_Laws_writeToken : ∀ i, i < 60 → okI m_Laws_writeToken (180 + i) = true := by decide +kernel
theorem k4_Laws_writeToken : ∀ i, i < 60 → okI m_Laws_writeToken (240 + i) = true := by decide +kernel
theorem k_Laws_writeToken : mOk m_Laws_writeToken := mOk_of 300 (fun pc h => if_neg (Nat.not_lt.mpr (Nat.le_trans (Nat.le_of_ble_eq_true rfl) h))) (by
  intro pc h
  rcases Nat.lt_or_ge pc 60 with h0 | h0
  · have e := k0_Laws_writeToken (pc - 0) (by omega)
    rwa [show 0 + (pc - 0) = pc by omega] at e
  rcases Nat.lt_or_ge pc 120 with h1 | h1
  · have e := k1_Laws_writeToken (pc - 60) (by omega)
    rwa [show 60 + (pc - 60) = pc by omega] at e
  rcases Nat.lt_or_ge pc 180 with h2 | h2
  · have e := k2_Laws_writeToken (pc - 120) (by omega)
    rwa [show 120 + (pc - 120) = pc by omega] at e
  rcases Nat.lt_or_ge pc 240 with h3 | h3
  · have e := k3_Laws_writeToken (pc - 180) (by omega)
    rwa [show 180 + (pc - 180) = pc by omega] at e
  rcases Nat.lt_or_ge pc 300 with h4 | h4
  · have e := k4_Laws_writeToken (pc - 240) (by omega)
    rwa [show 240 + (pc - 240) = pc by omega] at e
  omega)
theorem k_Laws_addStep : mOk m_Laws_addStep := mOk_of 31 (fun pc h => if_neg (Nat.not_lt.mpr h)) (by decide +kernel)
