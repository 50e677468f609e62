/-! the instruction tables are what the bytes say, by program (gen08.py) -/
theorem k_Rs_taughtAt : mOk m_Rs_taughtAt := mOk_of 55 (fun pc h => if_neg (Nat.not_lt.mpr h)) (by decide +kernel)
theorem k_Planner_grainOf : mOk m_Planner_grainOf := mOk_of 48 (fun pc h => if_neg (Nat.not_lt.mpr h)) (by decide +kernel)
theorem k_Rs_bestSwap : mOk m_Rs_bestSwap := mOk_of 47 (fun pc h => if_neg (Nat.not_lt.mpr h)) (by decide +kernel)
theorem k_Planner_seekSwap : mOk m_Planner_seekSwap := mOk_of 129 (fun pc h => if_neg (Nat.not_lt.mpr h)) (by decide +kernel)
theorem k_Mill_exchangeFar : mOk m_Mill_exchangeFar := mOk_of 27 (fun pc h => if_neg (Nat.not_lt.mpr h)) (by decide +kernel)
theorem k_Rs_missed : mOk m_Rs_missed := mOk_of 55 (fun pc h => if_neg (Nat.not_lt.mpr h)) (by decide +kernel)
theorem k_Planner_seekMissed : mOk m_Planner_seekMissed := mOk_of 120 (fun pc h => if_neg (Nat.not_lt.mpr h)) (by decide +kernel)
theorem k_Rs_catAt : mOk m_Rs_catAt := mOk_of 59 (fun pc h => if_neg (Nat.not_lt.mpr h)) (by decide +kernel)
theorem k_Planner_seekCat : mOk m_Planner_seekCat := mOk_of 116 (fun pc h => if_neg (Nat.not_lt.mpr h)) (by decide +kernel)
theorem k_Rs_starves : mOk m_Rs_starves := mOk_of 35 (fun pc h => if_neg (Nat.not_lt.mpr h)) (by decide +kernel)
theorem k_Planner_starvesBy : mOk m_Planner_starvesBy := mOk_of 56 (fun pc h => if_neg (Nat.not_lt.mpr h)) (by decide +kernel)
theorem k_Rs_mean : mOk m_Rs_mean := mOk_of 38 (fun pc h => if_neg (Nat.not_lt.mpr h)) (by decide +kernel)
theorem k_Planner_misplacedOf : mOk m_Planner_misplacedOf := mOk_of 80 (fun pc h => if_neg (Nat.not_lt.mpr h)) (by decide +kernel)
theorem k_Rs_sales : mOk m_Rs_sales := mOk_of 47 (fun pc h => if_neg (Nat.not_lt.mpr h)) (by decide +kernel)
theorem k_Planner_seekSales : mOk m_Planner_seekSales := mOk_of 113 (fun pc h => if_neg (Nat.not_lt.mpr h)) (by decide +kernel)
theorem k_Rs_tell : mOk m_Rs_tell := mOk_of 63 (fun pc h => if_neg (Nat.not_lt.mpr h)) (by decide +kernel)
theorem k_Facts_note : mOk m_Facts_note := mOk_of 69 (fun pc h => if_neg (Nat.not_lt.mpr h)) (by decide +kernel)
theorem k_Rs_forget : mOk m_Rs_forget := mOk_of 18 (fun pc h => if_neg (Nat.not_lt.mpr h)) (by decide +kernel)
theorem k_Rs_jokes : mOk m_Rs_jokes := mOk_of 50 (fun pc h => if_neg (Nat.not_lt.mpr h)) (by decide +kernel)
theorem k_Facts_watch : mOk m_Facts_watch := mOk_of 68 (fun pc h => if_neg (Nat.not_lt.mpr h)) (by decide +kernel)
theorem k_Facts_seekJoke : mOk m_Facts_seekJoke := mOk_of 124 (fun pc h => if_neg (Nat.not_lt.mpr h)) (by decide +kernel)
theorem k_Facts_fits : mOk m_Facts_fits := mOk_of 120 (fun pc h => if_neg (Nat.not_lt.mpr h)) (by decide +kernel)
theorem k_Facts_seenIn : mOk m_Facts_seenIn := mOk_of 22 (fun pc h => if_neg (Nat.not_lt.mpr h)) (by decide +kernel)
theorem k_Rs_hold : mOk m_Rs_hold := mOk_of 59 (fun pc h => if_neg (Nat.not_lt.mpr h)) (by decide +kernel)
theorem k_Rs_restore : mOk m_Rs_restore := mOk_of 57 (fun pc h => if_neg (Nat.not_lt.mpr h)) (by decide +kernel)
theorem k0_Rs_count : ∀ i, i < 60 → okI m_Rs_count (0 + i) = true := by decide +kernel
theorem k1_Rs_count : ∀ i, i < 60 → okI m_Rs_count (60 + i) = true := by decide +kernel
theorem k2_Rs_count : ∀ i, i < 60 → okI m_Rs_count (120 + i) = true := by decide +kernel
theorem k3_Rs_count : ∀ i, i < 60 → okI m_Rs_count (180 + i) = true := by decide +kernel
theorem k_Rs_count : mOk m_Rs_count := mOk_of 240 (fun pc h => if_neg (Nat.not_lt.mpr (Nat.le_trans (Nat.le_of_ble_eq_true rfl) h))) (by
  intro pc h
  rcases Nat.lt_or_ge pc 60 with h0 | h0
  · have e := k0_Rs_count (pc - 0) (by omega)
    rwa [show 0 + (pc - 0) = pc by omega] at e
  rcases Nat.lt_or_ge pc 120 with h1 | h1
  · have e := k1_Rs_count (pc - 60) (by omega)
    rwa [show 60 + (pc - 60) = pc by omega] at e
  rcases Nat.lt_or_ge pc 180 with h2 | h2
  · have e := k2_Rs_count (pc - 120) (by omega)
    rwa [show 120 + (pc - 120) = pc by omega] at e
  rcases Nat.lt_or_ge pc 240 with h3 | h3
  · have e := k3_Rs_count (pc - 180) (by omega)
    rwa [show 180 + (pc - 180) = pc by omega] at e
  omega)
theorem k_House_allCarried : mOk m_House_allCarried := mOk_of 32 (fun pc h => if_neg (Nat.not_lt.mpr h)) (by decide +kernel)
theorem k0_Mo_init : ∀ i, i < 60 → okI m_Mo_init (0 + i) = true := by decide +kernel
theorem k1_Mo_init : ∀ i, i < 60 → okI m_Mo_init (60 + i) = true := by decide +kernel
theorem k2_Mo_init : ∀ i, i < 60 → okI m_Mo_init (120 + i) = true := by decide +kernel
theorem k3_Mo_init : ∀ i, i < 60 → okI m_Mo_init (180 + i) = true := by decide +kernel
theorem k4_Mo_init : ∀ i, i < 60 → okI m_Mo_init (240 + i) = true := by decide +kernel
theorem k5_Mo_init : ∀ i, i < 60 → okI m_Mo_init (300 + i) = true := by decide +kernel
theorem k6_Mo_init : ∀ i, i < 60 → okI m_Mo_init (360 + i) = true := by decide +kernel
theorem k7_Mo_init : ∀ i, i < 60 → okI m_Mo_init (420 + i) = true := by decide +kernel
theorem k8_Mo_init : ∀ i, i < 60 → okI m_Mo_init (480 + i) = true := by decide +kernel
theorem k9_Mo_init : ∀ i, i < 60 → okI m_Mo_init (540 + i) = true := by decide +kernel
theorem k10_Mo_init : ∀ i, i < 60 → okI m_Mo_init (600 + i) = true := by decide +kernel
theorem k11_Mo_init : ∀ i, i < 60 → okI m_Mo_init (660 + i) = true := by decide +kernel
theorem k12_Mo_init : ∀ i, i < 60 → okI m_Mo_init (720 + i) = true := by decide +kernel
theorem k13_Mo_init : ∀ i, i < 60 → okI m_Mo_init (780 + i) = true := by decide +kernel
theorem k14_Mo_init : ∀ i, i < 60 → okI m_Mo_init (840 + i) = true := by decide +kernel
theorem k_Mo_init : mOk m_Mo_init := mOk_of 900 (fun pc h => if_neg (Nat.not_lt.mpr (Nat.le_trans (Nat.le_of_ble_eq_true rfl) h))) (by
  intro pc h
  rcases Nat.lt_or_ge pc 60 with h0 | h0
  · have e := k0_Mo_init (pc - 0) (by omega)
    rwa [show 0 + (pc - 0) = pc by omega] at e
  rcases Nat.lt_or_ge pc 120 with h1 | h1
  · have e := k1_Mo_init (pc - 60) (by omega)
    rwa [show 60 + (pc - 60) = pc by omega] at e
  rcases Nat.lt_or_ge pc 180 with h2 | h2
  · have e := k2_Mo_init (pc - 120) (by omega)
    rwa [show 120 + (pc - 120) = pc by omega] at e
  rcases Nat.lt_or_ge pc 240 with h3 | h3
  · have e := k3_Mo_init (pc - 180) (by omega)
    rwa [show 180 + (pc - 180) = pc by omega] at e
  rcases Nat.lt_or_ge pc 300 with h4 | h4
  · have e := k4_Mo_init (pc - 240) (by omega)
    rwa [show 240 + (pc - 240) = pc by omega] at e
  rcases Nat.lt_or_ge pc 360 with h5 | h5
  · have e := k5_Mo_init (pc - 300) (by omega)
    rwa [show 300 + (pc - 300) = pc by omega] at e
  rcases Nat.lt_or_ge pc 420 with h6 | h6
  · have e := k6_Mo_init (pc - 360) (by omega)
    rwa [show 360 + (pc - 360) = pc by omega] at e
  rcases Nat.lt_or_ge pc 480 with h7 | h7
  · have e := k7_Mo_init (pc - 420) (by omega)
    rwa [show 420 + (pc - 420) = pc by omega] at e
  rcases Nat.lt_or_ge pc 540 with h8 | h8
  · have e := k8_Mo_init (pc - 480) (by omega)
    rwa [show 480 + (pc - 480) = pc by omega] at e
  rcases Nat.lt_or_ge pc 600 with h9 | h9
  · have e := k9_Mo_init (pc - 540) (by omega)
    rwa [show 540 + (pc - 540) = pc by omega] at e
  rcases Nat.lt_or_ge pc 660 with h10 | h10
  · have e := k10_Mo_init (pc - 600) (by omega)
    rwa [show 600 + (pc - 600) = pc by omega] at e
  rcases Nat.lt_or_ge pc 720 with h11 | h11
  · have e := k11_Mo_init (pc - 660) (by omega)
    rwa [show 660 + (pc - 660) = pc by omega] at e
  rcases Nat.lt_or_ge pc 780 with h12 | h12
  · have e := k12_Mo_init (pc - 720) (by omega)
    rwa [show 720 + (pc - 720) = pc by omega] at e
  rcases Nat.lt_or_ge pc 840 with h13 | h13
  · have e := k13_Mo_init (pc - 780) (by omega)
    rwa [show 780 + (pc - 780) = pc by omega] at e
  rcases Nat.lt_or_ge pc 900 with h14 | h14
  · have e := k14_Mo_init (pc - 840) (by omega)
    rwa [show 840 + (pc - 840) = pc by omega] at e
  omega)
theorem k_Mo_plain : mOk m_Mo_plain := mOk_of 88 (fun pc h => if_neg (Nat.not_lt.mpr h)) (by decide +kernel)
theorem k_Mo_word : mOk m_Mo_word := mOk_of 33 (fun pc h => if_neg (Nat.not_lt.mpr h)) (by decide +kernel)
theorem k_Mo_appends : mOk m_Mo_appends := mOk_of 22 (fun pc h => if_neg (Nat.not_lt.mpr h)) (by decide +kernel)
theorem k_Mo_begins : mOk m_Mo_begins := mOk_of 149 (fun pc h => if_neg (Nat.not_lt.mpr h)) (by decide +kernel)
theorem k_Mo_plainly : mOk m_Mo_plainly := mOk_of 48 (fun pc h => if_neg (Nat.not_lt.mpr h)) (by decide +kernel)
theorem k_Mo_keepsRow : mOk m_Mo_keepsRow := mOk_of 27 (fun pc h => if_neg (Nat.not_lt.mpr h)) (by decide +kernel)
theorem k_Mo_feed : mOk m_Mo_feed := mOk_of 47 (fun pc h => if_neg (Nat.not_lt.mpr h)) (by decide +kernel)
