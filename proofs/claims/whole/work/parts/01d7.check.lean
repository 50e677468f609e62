/-! the instruction tables are what the bytes say, by program (gen08.py) -/
theorem k_Mo_isCleanNow : mOk m_Mo_isCleanNow := mOk_of 74 (fun pc h => if_neg (Nat.not_lt.mpr h)) (by decide +kernel)
theorem k_Mo_clean : mOk m_Mo_clean := mOk_of 9 (fun pc h => if_neg (Nat.not_lt.mpr h)) (by decide +kernel)
theorem k_Mo_cleanBy : mOk m_Mo_cleanBy := mOk_of 32 (fun pc h => if_neg (Nat.not_lt.mpr h)) (by decide +kernel)
theorem k_Mo_then : mOk m_Mo_then := mOk_of 102 (fun pc h => if_neg (Nat.not_lt.mpr h)) (by decide +kernel)
theorem k_Mo_isLong : mOk m_Mo_isLong := mOk_of 9 (fun pc h => if_neg (Nat.not_lt.mpr h)) (by decide +kernel)
theorem k_Mo_worthAll : mOk m_Mo_worthAll := mOk_of 33 (fun pc h => if_neg (Nat.not_lt.mpr h)) (by decide +kernel)
theorem k_Mo_inHeap : mOk m_Mo_inHeap := mOk_of 27 (fun pc h => if_neg (Nat.not_lt.mpr h)) (by decide +kernel)
theorem k_Mo_inHoles : mOk m_Mo_inHoles := mOk_of 87 (fun pc h => if_neg (Nat.not_lt.mpr h)) (by decide +kernel)
theorem k_Mo_lies : mOk m_Mo_lies := mOk_of 68 (fun pc h => if_neg (Nat.not_lt.mpr h)) (by decide +kernel)
theorem k_Mo_hire : mOk m_Mo_hire := mOk_of 146 (fun pc h => if_neg (Nat.not_lt.mpr h)) (by decide +kernel)
theorem k_Mo_feesOf : mOk m_Mo_feesOf := mOk_of 51 (fun pc h => if_neg (Nat.not_lt.mpr h)) (by decide +kernel)
theorem k_Mo_bits : mOk m_Mo_bits := mOk_of 26 (fun pc h => if_neg (Nat.not_lt.mpr h)) (by decide +kernel)
theorem k_Mo_hires : mOk m_Mo_hires := mOk_of 86 (fun pc h => if_neg (Nat.not_lt.mpr h)) (by decide +kernel)
theorem k_Mo_taught : mOk m_Mo_taught := mOk_of 22 (fun pc h => if_neg (Nat.not_lt.mpr h)) (by decide +kernel)
theorem k_Mo_isSet : mOk m_Mo_isSet := mOk_of 58 (fun pc h => if_neg (Nat.not_lt.mpr h)) (by decide +kernel)
theorem k_Mo_teaches : mOk m_Mo_teaches := mOk_of 172 (fun pc h => if_neg (Nat.not_lt.mpr h)) (by decide +kernel)
theorem k_Mo_taughtAt : mOk m_Mo_taughtAt := mOk_of 84 (fun pc h => if_neg (Nat.not_lt.mpr h)) (by decide +kernel)
theorem k_Mo_bestSwap : mOk m_Mo_bestSwap := mOk_of 154 (fun pc h => if_neg (Nat.not_lt.mpr h)) (by decide +kernel)
theorem k_Mo_missed : mOk m_Mo_missed := mOk_of 118 (fun pc h => if_neg (Nat.not_lt.mpr h)) (by decide +kernel)
theorem k_Mo_catAt : mOk m_Mo_catAt := mOk_of 108 (fun pc h => if_neg (Nat.not_lt.mpr h)) (by decide +kernel)
theorem k_Mo_starves : mOk m_Mo_starves := mOk_of 52 (fun pc h => if_neg (Nat.not_lt.mpr h)) (by decide +kernel)
theorem k_Mo_mean : mOk m_Mo_mean := mOk_of 66 (fun pc h => if_neg (Nat.not_lt.mpr h)) (by decide +kernel)
theorem k_Mo_tell : mOk m_Mo_tell := mOk_of 107 (fun pc h => if_neg (Nat.not_lt.mpr h)) (by decide +kernel)
theorem k_Mo_forget : mOk m_Mo_forget := mOk_of 12 (fun pc h => if_neg (Nat.not_lt.mpr h)) (by decide +kernel)
theorem k_Mo_jokes : mOk m_Mo_jokes := mOk_of 159 (fun pc h => if_neg (Nat.not_lt.mpr h)) (by decide +kernel)
theorem k_Mo_isSo : mOk m_Mo_isSo := mOk_of 149 (fun pc h => if_neg (Nat.not_lt.mpr h)) (by decide +kernel)
theorem k_Mo_hold : mOk m_Mo_hold := mOk_of 51 (fun pc h => if_neg (Nat.not_lt.mpr h)) (by decide +kernel)
theorem k_Mo_restore : mOk m_Mo_restore := mOk_of 58 (fun pc h => if_neg (Nat.not_lt.mpr h)) (by decide +kernel)
theorem k0_Mo_count : ∀ i, i < 60 → okI m_Mo_count (0 + i) = true := by decide +kernel
theorem k1_Mo_count : ∀ i, i < 60 → okI m_Mo_count (60 + i) = true := by decide +kernel
theorem k2_Mo_count : ∀ i, i < 60 → okI m_Mo_count (120 + i) = true := by decide +kernel
theorem k3_Mo_count : ∀ i, i < 60 → okI m_Mo_count (180 + i) = true := by decide +kernel
theorem k4_Mo_count : ∀ i, i < 60 → okI m_Mo_count (240 + i) = true := by decide +kernel
theorem k5_Mo_count : ∀ i, i < 60 → okI m_Mo_count (300 + i) = true := by decide +kernel
theorem k_Mo_count : mOk m_Mo_count := mOk_of 360 (fun pc h => if_neg (Nat.not_lt.mpr (Nat.le_trans (Nat.le_of_ble_eq_true rfl) h))) (by
  intro pc h
  rcases Nat.lt_or_ge pc 60 with h0 | h0
  · have e := k0_Mo_count (pc - 0) (by omega)
    rwa [show 0 + (pc - 0) = pc by omega] at e
  rcases Nat.lt_or_ge pc 120 with h1 | h1
  · have e := k1_Mo_count (pc - 60) (by omega)
    rwa [show 60 + (pc - 60) = pc by omega] at e
  rcases Nat.lt_or_ge pc 180 with h2 | h2
  · have e := k2_Mo_count (pc - 120) (by omega)
    rwa [show 120 + (pc - 120) = pc by omega] at e
  rcases Nat.lt_or_ge pc 240 with h3 | h3
  · have e := k3_Mo_count (pc - 180) (by omega)
    rwa [show 180 + (pc - 180) = pc by omega] at e
  rcases Nat.lt_or_ge pc 300 with h4 | h4
  · have e := k4_Mo_count (pc - 240) (by omega)
    rwa [show 240 + (pc - 240) = pc by omega] at e
  rcases Nat.lt_or_ge pc 360 with h5 | h5
  · have e := k5_Mo_count (pc - 300) (by omega)
    rwa [show 300 + (pc - 300) = pc by omega] at e
  omega)
theorem k0_Law_law : ∀ i, i < 60 → okI m_Law_law (0 + i) = true := by decide +kernel
theorem k1_Law_law : ∀ i, i < 60 → okI m_Law_law (60 + i) = true := by decide +kernel
theorem k2_Law_law : ∀ i, i < 60 → okI m_Law_law (120 + i) = true := by decide +kernel
theorem k3_Law_law : ∀ i, i < 60 → okI m_Law_law (180 + i) = true := by decide +kernel
theorem k4_Law_law : ∀ i, i < 60 → okI m_Law_law (240 + i) = true := by decide +kernel
theorem k5_Law_law : ∀ i, i < 60 → okI m_Law_law (300 + i) = true := by decide +kernel
theorem k6_Law_law : ∀ i, i < 60 → okI m_Law_law (360 + i) = true := by decide +kernel
theorem k7_Law_law : ∀ i, i < 60 → okI m_Law_law (420 + i) = true := by decide +kernel
theorem k8_Law_law : ∀ i, i < 60 → okI m_Law_law (480 + i) = true := by decide +kernel
theorem k9_Law_law : ∀ i, i < 60 → okI m_Law_law (540 + i) = true := by decide +kernel
theorem k10_Law_law : ∀ i, i < 60 → okI m_Law_law (600 + i) = true := by decide +kernel
theorem k11_Law_law : ∀ i, i < 60 → okI m_Law_law (660 + i) = true := by decide +kernel
theorem k12_Law_law : ∀ i, i < 60 → okI m_Law_law (720 + i) = true := by decide +kernel
theorem k13_Law_law : ∀ i, i < 60 → okI m_Law_law (780 + i) = true := by decide +kernel
theorem k14_Law_law : ∀ i, i < 60 → okI m_Law_law (840 + i) = true := by decide +kernel
theorem k15_Law_law : ∀ i, i < 60 → okI m_Law_law (900 + i) = true := by decide +kernel
theorem k16_Law_law : ∀ i, i < 60 → okI m_Law_law (960 + i) = true := by decide +kernel
theorem k17_Law_law : ∀ i, i < 60 → okI m_Law_law (1020 + i) = true := by decide +kernel
theorem k18_Law_law : ∀ i, i < 60 → okI m_Law_law (1080 + i) = true := by decide +kernel
theorem k19_Law_law : ∀ i, i < 60 → okI m_Law_law (1140 + i) = true := by decide +kernel
theorem k20_Law_law : ∀ i, i < 60 → okI m_Law_law (1200 + i) = true := by decide +kernel
theorem k21_Law_law : ∀ i, i < 60 → okI m_Law_law (1260 + i) = true := by decide +kernel
theorem k_Law_law : mOk m_Law_law := mOk_of 1320 (fun pc h => if_neg (Nat.not_lt.mpr (Nat.le_trans (Nat.le_of_ble_eq_true rfl) h))) (by
  intro pc h
  rcases Nat.lt_or_ge pc 60 with h0 | h0
  · have e := k0_Law_law (pc - 0) (by omega)
    rwa [show 0 + (pc - 0) = pc by omega] at e
  rcases Nat.lt_or_ge pc 120 with h1 | h1
  · have e := k1_Law_law (pc - 60) (by omega)
    rwa [show 60 + (pc - 60) = pc by omega] at e
  rcases Nat.lt_or_ge pc 180 with h2 | h2
  · have e := k2_Law_law (pc - 120) (by omega)
    rwa [show 120 + (pc - 120) = pc by omega] at e
  rcases Nat.lt_or_ge pc 240 with h3 | h3
  · have e := k3_Law_law (pc - 180) (by omega)
    rwa [show 180 + (pc - 180) = pc by omega] at e
  rcases Nat.lt_or_ge pc 300 with h4 | h4
  · have e := k4_Law_law (pc - 240) (by omega)
    rwa [show 240 + (pc - 240) = pc by omega] at e
  rcases Nat.lt_or_ge pc 360 with h5 | h5
  · have e := k5_Law_law (pc - 300) (by omega)
    rwa [show 300 + (pc - 300) = pc by omega] at e
  rcases Nat.lt_or_ge pc 420 with h6 | h6
  · have e := k6_Law_law (pc - 360) (by omega)
    rwa [show 360 + (pc - 360) = pc by omega] at e
  rcases Nat.lt_or_ge pc 480 with h7 | h7
  · have e := k7_Law_law (pc - 420) (by omega)
    rwa [show 420 + (pc - 420) = pc by omega] at e
  rcases Nat.lt_or_ge pc 540 with h8 | h8
  · have e := k8_Law_law (pc - 480) (by omega)
    rwa [show 480 + (pc - 480) = pc by omega] at e
  rcases Nat.lt_or_ge pc 600 with h9 | h9
  · have e := k9_Law_law (pc - 540) (by omega)
    rwa [show 540 + (pc - 540) = pc by omega] at e
  rcases Nat.lt_or_ge pc 660 with h10 | h10
  · have e := k10_Law_law (pc - 600) (by omega)
    rwa [show 600 + (pc - 600) = pc by omega] at e
  rcases Nat.lt_or_ge pc 720 with h11 | h11
  · have e := k11_Law_law (pc - 660) (by omega)
    rwa [show 660 + (pc - 660) = pc by omega] at e
  rcases Nat.lt_or_ge pc 780 with h12 | h12
  · have e := k12_Law_law (pc - 720) (by omega)
    rwa [show 720 + (pc - 720) = pc by omega] at e
  rcases Nat.lt_or_ge pc 840 with h13 | h13
  · have e := k13_Law_law (pc - 780) (by omega)
    rwa [show 780 + (pc - 780) = pc by omega] at e
  rcases Nat.lt_or_ge pc 900 with h14 | h14
  · have e := k14_Law_law (pc - 840) (by omega)
    rwa [show 840 + (pc - 840) = pc by omega] at e
  rcases Nat.lt_or_ge pc 960 with h15 | h15
  · have e := k15_Law_law (pc - 900) (by omega)
    rwa [show 900 + (pc - 900) = pc by omega] at e
  rcases Nat.lt_or_ge pc 1020 with h16 | h16
  · have e := k16_Law_law (pc - 960) (by omega)
    rwa [show 960 + (pc - 960) = pc by omega] at e
  rcases Nat.lt_or_ge pc 1080 with h17 | h17
  · have e := k17_Law_law (pc - 1020) (by omega)
    rwa [show 1020 + (pc - 1020) = pc by omega] at e
  rcases Nat.lt_or_ge pc 1140 with h18 | h18
  · have e := k18_Law_law (pc - 1080) (by omega)
    rwa [show 1080 + (pc - 1080) = pc by omega] at e
  rcases Nat.lt_or_ge pc 1200 with h19 | h19
  · have e := k19_Law_law (pc - 1140) (by omega)
    rwa [show 1140 + (pc - 1140) = pc by omega] at e
  rcases Nat.lt_or_ge pc 1260 with h20 | h20
  · have e := k20_Law_law (pc - 1200) (by omega)
    rwa [show 1200 + (pc - 1200) = pc by omega] at e
  rcases Nat.lt_or_ge pc 1320 with h21 | h21
  · have e := k21_Law_law (pc - 1260) (by omega)
    rwa [show 1260 + (pc - 1260) = pc by omega] at e
  omega)
