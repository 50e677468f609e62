theorem rfT_all : ((List.range 173).all fun a => (List.range 80).all fun f => match rfT a f with
  | none => true
  | some b => (List.range 159).any fun j => (rS j == (a, f, b)) && (decide (120 ≤ a) || decide (j < 107))) = true := by decide +kernel
set_option maxHeartbeats 4000000 in
set_option maxRecDepth 20000 in
theorem rfT_bd {a f b : Nat} (h : rfT a f = some b) : a < 173 ∧ f < 80 := by
  unfold rfT at h
  by_cases q1 : a < 56
  · rw [if_pos q1] at h
    by_cases q2 : a < 31
    · rw [if_pos q2] at h
      by_cases q3 : a < 22
      · rw [if_pos q3] at h
        by_cases q4 : a < 18
        · rw [if_pos q4] at h
          by_cases q5 : a = 16
          · rw [if_pos q5] at h
            by_cases q6 : f = 0
            · rw [if_pos q6] at h
              omega
            · rw [if_neg q6] at h
              by_cases q7 : f = 1
              · rw [if_pos q7] at h
                omega
              · rw [if_neg q7] at h
                by_cases q8 : f = 2
                · rw [if_pos q8] at h
                  omega
                · rw [if_neg q8] at h
                  by_cases q9 : f = 3
                  · rw [if_pos q9] at h
                    omega
                  · rw [if_neg q9] at h
                    by_cases q10 : f = 4
                    · rw [if_pos q10] at h
                      omega
                    · rw [if_neg q10] at h
                      by_cases q11 : f = 5
                      · rw [if_pos q11] at h
                        omega
                      · rw [if_neg q11] at h
                        by_cases q12 : f = 6
                        · rw [if_pos q12] at h
                          omega
                        · rw [if_neg q12] at h
                          by_cases q13 : f = 7
                          · rw [if_pos q13] at h
                            omega
                          · rw [if_neg q13] at h
                            by_cases q14 : f = 8
                            · rw [if_pos q14] at h
                              omega
                            · rw [if_neg q14] at h
                              by_cases q15 : f = 9
                              · rw [if_pos q15] at h
                                omega
                              · rw [if_neg q15] at h
                                exact absurd h (by simp)
          · rw [if_neg q5] at h
            exact absurd h (by simp)
        · rw [if_neg q4] at h
          by_cases q5 : a = 18
          · rw [if_pos q5] at h
            by_cases q6 : f = 0
            · rw [if_pos q6] at h
              omega
            · rw [if_neg q6] at h
              by_cases q7 : f = 1
              · rw [if_pos q7] at h
                omega
              · rw [if_neg q7] at h
                by_cases q8 : f = 2
                · rw [if_pos q8] at h
                  omega
                · rw [if_neg q8] at h
                  exact absurd h (by simp)
          · rw [if_neg q5] at h
            exact absurd h (by simp)
      · rw [if_neg q3] at h
        by_cases q4 : a < 24
        · rw [if_pos q4] at h
          by_cases q5 : a = 22
          · rw [if_pos q5] at h
            by_cases q6 : f = 0
            · rw [if_pos q6] at h
              omega
            · rw [if_neg q6] at h
              by_cases q7 : f = 3
              · rw [if_pos q7] at h
                omega
              · rw [if_neg q7] at h
                exact absurd h (by simp)
          · rw [if_neg q5] at h
            exact absurd h (by simp)
        · rw [if_neg q4] at h
          by_cases q5 : a < 28
          · rw [if_pos q5] at h
            by_cases q6 : a = 24
            · rw [if_pos q6] at h
              by_cases q7 : f = 0
              · rw [if_pos q7] at h
                omega
              · rw [if_neg q7] at h
                by_cases q8 : f = 1
                · rw [if_pos q8] at h
                  omega
                · rw [if_neg q8] at h
                  by_cases q9 : f = 2
                  · rw [if_pos q9] at h
                    omega
                  · rw [if_neg q9] at h
                    by_cases q10 : f = 4
                    · rw [if_pos q10] at h
                      omega
                    · rw [if_neg q10] at h
                      exact absurd h (by simp)
            · rw [if_neg q6] at h
              exact absurd h (by simp)
          · rw [if_neg q5] at h
            by_cases q6 : a = 28
            · rw [if_pos q6] at h
              by_cases q7 : f = 1
              · rw [if_pos q7] at h
                omega
              · rw [if_neg q7] at h
                by_cases q8 : f = 3
                · rw [if_pos q8] at h
                  omega
                · rw [if_neg q8] at h
                  exact absurd h (by simp)
            · rw [if_neg q6] at h
              exact absurd h (by simp)
    · rw [if_neg q2] at h
      by_cases q3 : a < 35
      · rw [if_pos q3] at h
        by_cases q4 : a < 32
        · rw [if_pos q4] at h
          by_cases q5 : a = 31
          · rw [if_pos q5] at h
            by_cases q6 : f = 0
            · rw [if_pos q6] at h
              omega
            · rw [if_neg q6] at h
              by_cases q7 : f = 1
              · rw [if_pos q7] at h
                omega
              · rw [if_neg q7] at h
                exact absurd h (by simp)
          · rw [if_neg q5] at h
            exact absurd h (by simp)
        · rw [if_neg q4] at h
          by_cases q5 : a = 32
          · rw [if_pos q5] at h
            by_cases q6 : f = 0
            · rw [if_pos q6] at h
              omega
            · rw [if_neg q6] at h
              by_cases q7 : f = 1
              · rw [if_pos q7] at h
                omega
              · rw [if_neg q7] at h
                by_cases q8 : f = 2
                · rw [if_pos q8] at h
                  omega
                · rw [if_neg q8] at h
                  exact absurd h (by simp)
          · rw [if_neg q5] at h
            exact absurd h (by simp)
      · rw [if_neg q3] at h
        by_cases q4 : a < 44
        · rw [if_pos q4] at h
          by_cases q5 : a = 35
          · rw [if_pos q5] at h
            by_cases q6 : f = 0
            · rw [if_pos q6] at h
              omega
            · rw [if_neg q6] at h
              by_cases q7 : f = 1
              · rw [if_pos q7] at h
                omega
              · rw [if_neg q7] at h
                by_cases q8 : f = 2
                · rw [if_pos q8] at h
                  omega
                · rw [if_neg q8] at h
                  by_cases q9 : f = 3
                  · rw [if_pos q9] at h
                    omega
                  · rw [if_neg q9] at h
                    by_cases q10 : f = 4
                    · rw [if_pos q10] at h
                      omega
                    · rw [if_neg q10] at h
                      by_cases q11 : f = 5
                      · rw [if_pos q11] at h
                        omega
                      · rw [if_neg q11] at h
                        by_cases q12 : f = 6
                        · rw [if_pos q12] at h
                          omega
                        · rw [if_neg q12] at h
                          by_cases q13 : f = 7
                          · rw [if_pos q13] at h
                            omega
                          · rw [if_neg q13] at h
                            exact absurd h (by simp)
          · rw [if_neg q5] at h
            exact absurd h (by simp)
        · rw [if_neg q4] at h
          by_cases q5 : a < 47
          · rw [if_pos q5] at h
            by_cases q6 : a = 44
            · rw [if_pos q6] at h
              by_cases q7 : f = 0
              · rw [if_pos q7] at h
                omega
              · rw [if_neg q7] at h
                by_cases q8 : f = 1
                · rw [if_pos q8] at h
                  omega
                · rw [if_neg q8] at h
                  by_cases q9 : f = 2
                  · rw [if_pos q9] at h
                    omega
                  · rw [if_neg q9] at h
                    exact absurd h (by simp)
            · rw [if_neg q6] at h
              exact absurd h (by simp)
          · rw [if_neg q5] at h
            by_cases q6 : a = 47
            · rw [if_pos q6] at h
              by_cases q7 : f = 0
              · rw [if_pos q7] at h
                omega
              · rw [if_neg q7] at h
                by_cases q8 : f = 1
                · rw [if_pos q8] at h
                  omega
                · rw [if_neg q8] at h
                  by_cases q9 : f = 2
                  · rw [if_pos q9] at h
                    omega
                  · rw [if_neg q9] at h
                    by_cases q10 : f = 3
                    · rw [if_pos q10] at h
                      omega
                    · rw [if_neg q10] at h
                      by_cases q11 : f = 4
                      · rw [if_pos q11] at h
                        omega
                      · rw [if_neg q11] at h
                        by_cases q12 : f = 5
                        · rw [if_pos q12] at h
                          omega
                        · rw [if_neg q12] at h
                          by_cases q13 : f = 6
                          · rw [if_pos q13] at h
                            omega
                          · rw [if_neg q13] at h
                            by_cases q14 : f = 7
                            · rw [if_pos q14] at h
                              omega
                            · rw [if_neg q14] at h
                              exact absurd h (by simp)
            · rw [if_neg q6] at h
              exact absurd h (by simp)
  · rw [if_neg q1] at h
    by_cases q2 : a < 88
    · rw [if_pos q2] at h
      by_cases q3 : a < 65
      · rw [if_pos q3] at h
        by_cases q4 : a < 62
        · rw [if_pos q4] at h
          by_cases q5 : a = 56
          · rw [if_pos q5] at h
            by_cases q6 : f = 0
            · rw [if_pos q6] at h
              omega
            · rw [if_neg q6] at h
              by_cases q7 : f = 1
              · rw [if_pos q7] at h
                omega
              · rw [if_neg q7] at h
                by_cases q8 : f = 2
                · rw [if_pos q8] at h
                  omega
                · rw [if_neg q8] at h
                  by_cases q9 : f = 3
                  · rw [if_pos q9] at h
                    omega
                  · rw [if_neg q9] at h
                    by_cases q10 : f = 4
                    · rw [if_pos q10] at h
                      omega
                    · rw [if_neg q10] at h
                      by_cases q11 : f = 5
                      · rw [if_pos q11] at h
                        omega
                      · rw [if_neg q11] at h
                        exact absurd h (by simp)
          · rw [if_neg q5] at h
            exact absurd h (by simp)
        · rw [if_neg q4] at h
          by_cases q5 : a = 62
          · rw [if_pos q5] at h
            by_cases q6 : f = 0
            · rw [if_pos q6] at h
              omega
            · rw [if_neg q6] at h
              by_cases q7 : f = 1
              · rw [if_pos q7] at h
                omega
              · rw [if_neg q7] at h
                by_cases q8 : f = 2
                · rw [if_pos q8] at h
                  omega
                · rw [if_neg q8] at h
                  exact absurd h (by simp)
          · rw [if_neg q5] at h
            exact absurd h (by simp)
      · rw [if_neg q3] at h
        by_cases q4 : a < 74
        · rw [if_pos q4] at h
          by_cases q5 : a = 65
          · rw [if_pos q5] at h
            by_cases q6 : f = 0
            · rw [if_pos q6] at h
              omega
            · rw [if_neg q6] at h
              by_cases q7 : f = 1
              · rw [if_pos q7] at h
                omega
              · rw [if_neg q7] at h
                by_cases q8 : f = 2
                · rw [if_pos q8] at h
                  omega
                · rw [if_neg q8] at h
                  by_cases q9 : f = 3
                  · rw [if_pos q9] at h
                    omega
                  · rw [if_neg q9] at h
                    by_cases q10 : f = 4
                    · rw [if_pos q10] at h
                      omega
                    · rw [if_neg q10] at h
                      by_cases q11 : f = 5
                      · rw [if_pos q11] at h
                        omega
                      · rw [if_neg q11] at h
                        by_cases q12 : f = 6
                        · rw [if_pos q12] at h
                          omega
                        · rw [if_neg q12] at h
                          by_cases q13 : f = 7
                          · rw [if_pos q13] at h
                            omega
                          · rw [if_neg q13] at h
                            exact absurd h (by simp)
          · rw [if_neg q5] at h
            exact absurd h (by simp)
        · rw [if_neg q4] at h
          by_cases q5 : a < 77
          · rw [if_pos q5] at h
            by_cases q6 : a = 74
            · rw [if_pos q6] at h
              by_cases q7 : f = 0
              · rw [if_pos q7] at h
                omega
              · rw [if_neg q7] at h
                by_cases q8 : f = 1
                · rw [if_pos q8] at h
                  omega
                · rw [if_neg q8] at h
                  by_cases q9 : f = 2
                  · rw [if_pos q9] at h
                    omega
                  · rw [if_neg q9] at h
                    exact absurd h (by simp)
            · rw [if_neg q6] at h
              exact absurd h (by simp)
          · rw [if_neg q5] at h
            by_cases q6 : a = 77
            · rw [if_pos q6] at h
              by_cases q7 : f = 0
              · rw [if_pos q7] at h
                omega
              · rw [if_neg q7] at h
                by_cases q8 : f = 1
                · rw [if_pos q8] at h
                  omega
                · rw [if_neg q8] at h
                  by_cases q9 : f = 2
                  · rw [if_pos q9] at h
                    omega
                  · rw [if_neg q9] at h
                    by_cases q10 : f = 3
                    · rw [if_pos q10] at h
                      omega
                    · rw [if_neg q10] at h
                      by_cases q11 : f = 4
                      · rw [if_pos q11] at h
                        omega
                      · rw [if_neg q11] at h
                        by_cases q12 : f = 5
                        · rw [if_pos q12] at h
                          omega
                        · rw [if_neg q12] at h
                          by_cases q13 : f = 6
                          · rw [if_pos q13] at h
                            omega
                          · rw [if_neg q13] at h
                            by_cases q14 : f = 7
                            · rw [if_pos q14] at h
                              omega
                            · rw [if_neg q14] at h
                              exact absurd h (by simp)
            · rw [if_neg q6] at h
              exact absurd h (by simp)
    · rw [if_neg q2] at h
      by_cases q3 : a < 104
      · rw [if_pos q3] at h
        by_cases q4 : a < 99
        · rw [if_pos q4] at h
          by_cases q5 : a = 88
          · rw [if_pos q5] at h
            by_cases q6 : f = 0
            · rw [if_pos q6] at h
              omega
            · rw [if_neg q6] at h
              by_cases q7 : f = 1
              · rw [if_pos q7] at h
                omega
              · rw [if_neg q7] at h
                by_cases q8 : f = 2
                · rw [if_pos q8] at h
                  omega
                · rw [if_neg q8] at h
                  by_cases q9 : f = 3
                  · rw [if_pos q9] at h
                    omega
                  · rw [if_neg q9] at h
                    by_cases q10 : f = 4
                    · rw [if_pos q10] at h
                      omega
                    · rw [if_neg q10] at h
                      by_cases q11 : f = 5
                      · rw [if_pos q11] at h
                        omega
                      · rw [if_neg q11] at h
                        by_cases q12 : f = 6
                        · rw [if_pos q12] at h
                          omega
                        · rw [if_neg q12] at h
                          by_cases q13 : f = 7
                          · rw [if_pos q13] at h
                            omega
                          · rw [if_neg q13] at h
                            by_cases q14 : f = 8
                            · rw [if_pos q14] at h
                              omega
                            · rw [if_neg q14] at h
                              by_cases q15 : f = 9
                              · rw [if_pos q15] at h
                                omega
                              · rw [if_neg q15] at h
                                by_cases q16 : f = 10
                                · rw [if_pos q16] at h
                                  omega
                                · rw [if_neg q16] at h
                                  exact absurd h (by simp)
          · rw [if_neg q5] at h
            exact absurd h (by simp)
        · rw [if_neg q4] at h
          by_cases q5 : a = 99
          · rw [if_pos q5] at h
            by_cases q6 : f = 0
            · rw [if_pos q6] at h
              omega
            · rw [if_neg q6] at h
              by_cases q7 : f = 1
              · rw [if_pos q7] at h
                omega
              · rw [if_neg q7] at h
                by_cases q8 : f = 2
                · rw [if_pos q8] at h
                  omega
                · rw [if_neg q8] at h
                  by_cases q9 : f = 3
                  · rw [if_pos q9] at h
                    omega
                  · rw [if_neg q9] at h
                    exact absurd h (by simp)
          · rw [if_neg q5] at h
            exact absurd h (by simp)
      · rw [if_neg q3] at h
        by_cases q4 : a < 115
        · rw [if_pos q4] at h
          by_cases q5 : a = 104
          · rw [if_pos q5] at h
            by_cases q6 : f = 0
            · rw [if_pos q6] at h
              omega
            · rw [if_neg q6] at h
              by_cases q7 : f = 1
              · rw [if_pos q7] at h
                omega
              · rw [if_neg q7] at h
                by_cases q8 : f = 2
                · rw [if_pos q8] at h
                  omega
                · rw [if_neg q8] at h
                  by_cases q9 : f = 3
                  · rw [if_pos q9] at h
                    omega
                  · rw [if_neg q9] at h
                    by_cases q10 : f = 4
                    · rw [if_pos q10] at h
                      omega
                    · rw [if_neg q10] at h
                      by_cases q11 : f = 5
                      · rw [if_pos q11] at h
                        omega
                      · rw [if_neg q11] at h
                        by_cases q12 : f = 6
                        · rw [if_pos q12] at h
                          omega
                        · rw [if_neg q12] at h
                          by_cases q13 : f = 7
                          · rw [if_pos q13] at h
                            omega
                          · rw [if_neg q13] at h
                            by_cases q14 : f = 8
                            · rw [if_pos q14] at h
                              omega
                            · rw [if_neg q14] at h
                              by_cases q15 : f = 9
                              · rw [if_pos q15] at h
                                omega
                              · rw [if_neg q15] at h
                                by_cases q16 : f = 10
                                · rw [if_pos q16] at h
                                  omega
                                · rw [if_neg q16] at h
                                  exact absurd h (by simp)
          · rw [if_neg q5] at h
            exact absurd h (by simp)
        · rw [if_neg q4] at h
          by_cases q5 : a < 120
          · rw [if_pos q5] at h
            by_cases q6 : a = 115
            · rw [if_pos q6] at h
              by_cases q7 : f = 0
              · rw [if_pos q7] at h
                omega
              · rw [if_neg q7] at h
                by_cases q8 : f = 1
                · rw [if_pos q8] at h
                  omega
                · rw [if_neg q8] at h
                  by_cases q9 : f = 2
                  · rw [if_pos q9] at h
                    omega
                  · rw [if_neg q9] at h
                    by_cases q10 : f = 3
                    · rw [if_pos q10] at h
                      omega
                    · rw [if_neg q10] at h
                      exact absurd h (by simp)
            · rw [if_neg q6] at h
              exact absurd h (by simp)
          · rw [if_neg q5] at h
            by_cases q6 : a = 120
            · rw [if_pos q6] at h
              by_cases q7 : f = 1
              · rw [if_pos q7] at h
                omega
              · rw [if_neg q7] at h
                by_cases q8 : f = 3
                · rw [if_pos q8] at h
                  omega
                · rw [if_neg q8] at h
                  by_cases q9 : f = 5
                  · rw [if_pos q9] at h
                    omega
                  · rw [if_neg q9] at h
                    by_cases q10 : f = 6
                    · rw [if_pos q10] at h
                      omega
                    · rw [if_neg q10] at h
                      by_cases q11 : f = 7
                      · rw [if_pos q11] at h
                        omega
                      · rw [if_neg q11] at h
                        by_cases q12 : f = 8
                        · rw [if_pos q12] at h
                          omega
                        · rw [if_neg q12] at h
                          by_cases q13 : f = 9
                          · rw [if_pos q13] at h
                            omega
                          · rw [if_neg q13] at h
                            by_cases q14 : f = 21
                            · rw [if_pos q14] at h
                              omega
                            · rw [if_neg q14] at h
                              by_cases q15 : f = 22
                              · rw [if_pos q15] at h
                                omega
                              · rw [if_neg q15] at h
                                by_cases q16 : f = 23
                                · rw [if_pos q16] at h
                                  omega
                                · rw [if_neg q16] at h
                                  by_cases q17 : f = 24
                                  · rw [if_pos q17] at h
                                    omega
                                  · rw [if_neg q17] at h
                                    by_cases q18 : f = 25
                                    · rw [if_pos q18] at h
                                      omega
                                    · rw [if_neg q18] at h
                                      by_cases q19 : f = 26
                                      · rw [if_pos q19] at h
                                        omega
                                      · rw [if_neg q19] at h
                                        by_cases q20 : f = 27
                                        · rw [if_pos q20] at h
                                          omega
                                        · rw [if_neg q20] at h
                                          by_cases q21 : f = 28
                                          · rw [if_pos q21] at h
                                            omega
                                          · rw [if_neg q21] at h
                                            by_cases q22 : f = 29
                                            · rw [if_pos q22] at h
                                              omega
                                            · rw [if_neg q22] at h
                                              by_cases q23 : f = 30
                                              · rw [if_pos q23] at h
                                                omega
                                              · rw [if_neg q23] at h
                                                by_cases q24 : f = 31
                                                · rw [if_pos q24] at h
                                                  omega
                                                · rw [if_neg q24] at h
                                                  by_cases q25 : f = 32
                                                  · rw [if_pos q25] at h
                                                    omega
                                                  · rw [if_neg q25] at h
                                                    by_cases q26 : f = 33
                                                    · rw [if_pos q26] at h
                                                      omega
                                                    · rw [if_neg q26] at h
                                                      by_cases q27 : f = 34
                                                      · rw [if_pos q27] at h
                                                        omega
                                                      · rw [if_neg q27] at h
                                                        by_cases q28 : f = 35
                                                        · rw [if_pos q28] at h
                                                          omega
                                                        · rw [if_neg q28] at h
                                                          by_cases q29 : f = 36
                                                          · rw [if_pos q29] at h
                                                            omega
                                                          · rw [if_neg q29] at h
                                                            by_cases q30 : f = 37
                                                            · rw [if_pos q30] at h
                                                              omega
                                                            · rw [if_neg q30] at h
                                                              by_cases q31 : f = 38
                                                              · rw [if_pos q31] at h
                                                                omega
                                                              · rw [if_neg q31] at h
                                                                by_cases q32 : f = 39
                                                                · rw [if_pos q32] at h
                                                                  omega
                                                                · rw [if_neg q32] at h
                                                                  by_cases q33 : f = 40
                                                                  · rw [if_pos q33] at h
                                                                    omega
                                                                  · rw [if_neg q33] at h
                                                                    by_cases q34 : f = 41
                                                                    · rw [if_pos q34] at h
                                                                      omega
                                                                    · rw [if_neg q34] at h
                                                                      by_cases q35 : f = 42
                                                                      · rw [if_pos q35] at h
                                                                        omega
                                                                      · rw [if_neg q35] at h
                                                                        by_cases q36 : f = 43
                                                                        · rw [if_pos q36] at h
                                                                          omega
                                                                        · rw [if_neg q36] at h
                                                                          by_cases q37 : f = 44
                                                                          · rw [if_pos q37] at h
                                                                            omega
                                                                          · rw [if_neg q37] at h
                                                                            by_cases q38 : f = 46
                                                                            · rw [if_pos q38] at h
                                                                              omega
                                                                            · rw [if_neg q38] at h
                                                                              by_cases q39 : f = 47
                                                                              · rw [if_pos q39] at h
                                                                                omega
                                                                              · rw [if_neg q39] at h
                                                                                by_cases q40 : f = 48
                                                                                · rw [if_pos q40] at h
                                                                                  omega
                                                                                · rw [if_neg q40] at h
                                                                                  by_cases q41 : f = 49
                                                                                  · rw [if_pos q41] at h
                                                                                    omega
                                                                                  · rw [if_neg q41] at h
                                                                                    by_cases q42 : f = 50
                                                                                    · rw [if_pos q42] at h
                                                                                      omega
                                                                                    · rw [if_neg q42] at h
                                                                                      by_cases q43 : f = 52
                                                                                      · rw [if_pos q43] at h
                                                                                        omega
                                                                                      · rw [if_neg q43] at h
                                                                                        by_cases q44 : f = 53
                                                                                        · rw [if_pos q44] at h
                                                                                          omega
                                                                                        · rw [if_neg q44] at h
                                                                                          by_cases q45 : f = 54
                                                                                          · rw [if_pos q45] at h
                                                                                            omega
                                                                                          · rw [if_neg q45] at h
                                                                                            by_cases q46 : f = 56
                                                                                            · rw [if_pos q46] at h
                                                                                              omega
                                                                                            · rw [if_neg q46] at h
                                                                                              by_cases q47 : f = 57
                                                                                              · rw [if_pos q47] at h
                                                                                                omega
                                                                                              · rw [if_neg q47] at h
                                                                                                by_cases q48 : f = 59
                                                                                                · rw [if_pos q48] at h
                                                                                                  omega
                                                                                                · rw [if_neg q48] at h
                                                                                                  by_cases q49 : f = 60
                                                                                                  · rw [if_pos q49] at h
                                                                                                    omega
                                                                                                  · rw [if_neg q49] at h
                                                                                                    by_cases q50 : f = 62
                                                                                                    · rw [if_pos q50] at h
                                                                                                      omega
                                                                                                    · rw [if_neg q50] at h
                                                                                                      by_cases q51 : f = 63
                                                                                                      · rw [if_pos q51] at h
                                                                                                        omega
                                                                                                      · rw [if_neg q51] at h
                                                                                                        by_cases q52 : f = 65
                                                                                                        · rw [if_pos q52] at h
                                                                                                          omega
                                                                                                        · rw [if_neg q52] at h
                                                                                                          by_cases q53 : f = 69
                                                                                                          · rw [if_pos q53] at h
                                                                                                            omega
                                                                                                          · rw [if_neg q53] at h
                                                                                                            by_cases q54 : f = 70
                                                                                                            · rw [if_pos q54] at h
                                                                                                              omega
                                                                                                            · rw [if_neg q54] at h
                                                                                                              by_cases q55 : f = 71
                                                                                                              · rw [if_pos q55] at h
                                                                                                                omega
                                                                                                              · rw [if_neg q55] at h
                                                                                                                by_cases q56 : f = 72
                                                                                                                · rw [if_pos q56] at h
                                                                                                                  omega
                                                                                                                · rw [if_neg q56] at h
                                                                                                                  by_cases q57 : f = 73
                                                                                                                  · rw [if_pos q57] at h
                                                                                                                    omega
                                                                                                                  · rw [if_neg q57] at h
                                                                                                                    by_cases q58 : f = 74
                                                                                                                    · rw [if_pos q58] at h
                                                                                                                      omega
                                                                                                                    · rw [if_neg q58] at h
                                                                                                                      exact absurd h (by simp)
            · rw [if_neg q6] at h
              exact absurd h (by simp)
