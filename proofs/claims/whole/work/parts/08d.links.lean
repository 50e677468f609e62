/-! links, by program (gen08.py) -/
theorem tb_p1 (i : Nat) {y : MethodName} {n : Nat} (h : lw_privs_1[i]? = some (y, n)) : Cond.selects y.cls y y ∈ TB := by
  have h := List.mem_of_getElem? h
  exact List.mem_filter.mpr ⟨List.mem_append_left _ (List.mem_map.mpr ⟨_, (List.mem_append_left _ h), rfl⟩), rfl⟩
theorem tb_p2 (i : Nat) {y : MethodName} {n : Nat} (h : lw_privs_2[i]? = some (y, n)) : Cond.selects y.cls y y ∈ TB := by
  have h := List.mem_of_getElem? h
  exact List.mem_filter.mpr ⟨List.mem_append_left _ (List.mem_map.mpr ⟨_, (List.mem_append_right _ (List.mem_append_left _ h)), rfl⟩), rfl⟩
theorem tb_p3 (i : Nat) {y : MethodName} {n : Nat} (h : lw_privs_3[i]? = some (y, n)) : Cond.selects y.cls y y ∈ TB := by
  have h := List.mem_of_getElem? h
  exact List.mem_filter.mpr ⟨List.mem_append_left _ (List.mem_map.mpr ⟨_, (List.mem_append_right _ (List.mem_append_right _ (List.mem_append_left _ h))), rfl⟩), rfl⟩
theorem tb_p4 (i : Nat) {y : MethodName} {n : Nat} (h : lw_privs_4[i]? = some (y, n)) : Cond.selects y.cls y y ∈ TB := by
  have h := List.mem_of_getElem? h
  exact List.mem_filter.mpr ⟨List.mem_append_left _ (List.mem_map.mpr ⟨_, (List.mem_append_right _ (List.mem_append_right _ (List.mem_append_right _ (List.mem_append_left _ h)))), rfl⟩), rfl⟩
theorem tb_p5 (i : Nat) {y : MethodName} {n : Nat} (h : lw_privs_5[i]? = some (y, n)) : Cond.selects y.cls y y ∈ TB := by
  have h := List.mem_of_getElem? h
  exact List.mem_filter.mpr ⟨List.mem_append_left _ (List.mem_map.mpr ⟨_, (List.mem_append_right _ (List.mem_append_right _ (List.mem_append_right _ (List.mem_append_right _ (List.mem_append_left _ h))))), rfl⟩), rfl⟩
theorem tb_p6 (i : Nat) {y : MethodName} {n : Nat} (h : lw_privs_6[i]? = some (y, n)) : Cond.selects y.cls y y ∈ TB := by
  have h := List.mem_of_getElem? h
  exact List.mem_filter.mpr ⟨List.mem_append_left _ (List.mem_map.mpr ⟨_, (List.mem_append_right _ (List.mem_append_right _ (List.mem_append_right _ (List.mem_append_right _ (List.mem_append_right _ (List.mem_append_left _ h)))))), rfl⟩), rfl⟩
theorem tb_p7 (i : Nat) {y : MethodName} {n : Nat} (h : lw_privs_7[i]? = some (y, n)) : Cond.selects y.cls y y ∈ TB := by
  have h := List.mem_of_getElem? h
  exact List.mem_filter.mpr ⟨List.mem_append_left _ (List.mem_map.mpr ⟨_, (List.mem_append_right _ (List.mem_append_right _ (List.mem_append_right _ (List.mem_append_right _ (List.mem_append_right _ (List.mem_append_right _ h)))))), rfl⟩), rfl⟩
theorem fl_Rs_9 : FL "RatSorters" 9 10 0 := FL.of (by decide) (by decide) rfl (tb_c3 3 rfl rfl)
theorem fl_Rs_16 : FL "RatSorters" 16 10 1 := FL.of (by decide) (by decide) rfl (tb_c3 4 rfl rfl)
theorem fl_Rs_25 : FL "RatSorters" 25 10 2 := FL.of (by decide) (by decide) rfl (tb_c3 5 rfl rfl)
theorem fl_Rs_32 : FL "RatSorters" 32 10 5 := FL.of (by decide) (by decide) rfl (tb_c3 6 rfl rfl)
theorem fl_Rs_39 : FL "RatSorters" 39 10 6 := FL.of (by decide) (by decide) rfl (tb_c3 7 rfl rfl)
theorem fl_Rs_46 : FL "RatSorters" 46 10 7 := FL.of (by decide) (by decide) rfl (tb_c3 8 rfl rfl)
theorem fl_Rs_50 : FL "RatSorters" 50 10 8 := FL.of (by decide) (by decide) rfl (tb_c3 9 rfl rfl)
theorem fl_Rs_54 : FL "RatSorters" 54 10 9 := FL.of (by decide) (by decide) rfl (tb_c3 10 rfl rfl)
theorem fl_Rs_60 : FL "RatSorters" 60 10 10 := FL.of (by decide) (by decide) rfl (tb_c3 11 rfl rfl)
theorem fl_Rs_64 : FL "RatSorters" 64 10 11 := FL.of (by decide) (by decide) rfl (tb_c3 12 rfl rfl)
theorem fl_Rs_72 : FL "RatSorters" 72 10 3 := FL.of (by decide) (by decide) rfl (tb_c3 13 rfl rfl)
theorem fl_Rs_81 : FL "RatSorters" 81 10 4 := FL.of (by decide) (by decide) rfl (tb_c3 14 rfl rfl)
theorem fl_Rs_85 : FL "RatSorters" 85 10 13 := FL.of (by decide) (by decide) rfl (tb_c3 16 rfl rfl)
theorem fl_Tokens_9 : FL "RatSorters$Tokens" 9 9 0 := FL.of (by decide) (by decide) rfl (tb_c1 35 rfl rfl)
theorem fl_Tokens_15 : FL "RatSorters$Tokens" 15 9 1 := FL.of (by decide) (by decide) rfl (tb_c1 37 rfl rfl)
theorem fl_Tokens_18 : FL "RatSorters$Tokens" 18 9 2 := FL.of (by decide) (by decide) rfl (tb_c1 38 rfl rfl)
theorem fl_Grammar_11 : FL "RatSorters$Grammar" 11 1 3 := FL.of (by decide) (by decide) rfl (tb_c1 66 rfl rfl)
theorem fl_Grammar_17 : FL "RatSorters$Grammar" 17 1 0 := FL.of (by decide) (by decide) rfl (tb_c1 62 rfl rfl)
theorem fl_Planner_12 : FL "RatSorters$Planner" 12 5 0 := FL.of (by decide) (by decide) rfl (tb_c1 196 rfl rfl)
theorem fl_Planner_18 : FL "RatSorters$Planner" 18 5 1 := FL.of (by decide) (by decide) rfl (tb_c1 197 rfl rfl)
theorem fl_House_9 : FL "RatSorters$House" 9 2 0 := FL.of (by decide) (by decide) rfl (tb_c1 149 rfl rfl)
theorem fl_House_15 : FL "RatSorters$House" 15 2 1 := FL.of (by decide) (by decide) rfl (tb_c1 152 rfl rfl)
theorem fl_House_20 : FL "RatSorters$House" 20 2 2 := FL.of (by decide) (by decide) rfl (tb_c1 155 rfl rfl)
theorem fl_Facts_9 : FL "RatSorters$Facts" 9 0 0 := FL.of (by decide) (by decide) rfl (tb_c1 232 rfl rfl)
theorem fl_Facts_15 : FL "RatSorters$Facts" 15 0 1 := FL.of (by decide) (by decide) rfl (tb_c1 233 rfl rfl)
theorem fl_Facts_18 : FL "RatSorters$Facts" 18 0 2 := FL.of (by decide) (by decide) rfl (tb_c1 234 rfl rfl)
theorem fl_Facts_21 : FL "RatSorters$Facts" 21 0 3 := FL.of (by decide) (by decide) rfl (tb_c1 235 rfl rfl)
theorem fl_Facts_24 : FL "RatSorters$Facts" 24 0 4 := FL.of (by decide) (by decide) rfl (tb_c1 236 rfl rfl)
theorem fl_Facts_30 : FL "RatSorters$Facts" 30 0 5 := FL.of (by decide) (by decide) rfl (tb_c1 237 rfl rfl)
theorem fl_Text_9 : FL "RatSorters$Text" 9 8 0 := FL.of (by decide) (by decide) rfl (tb_c2 55 rfl rfl)
theorem fl_Text_15 : FL "RatSorters$Text" 15 8 1 := FL.of (by decide) (by decide) rfl (tb_c2 58 rfl rfl)
theorem fl_Text_18 : FL "RatSorters$Text" 18 8 2 := FL.of (by decide) (by decide) rfl (tb_c2 61 rfl rfl)
theorem fl_Text_21 : FL "RatSorters$Text" 21 8 3 := FL.of (by decide) (by decide) rfl (tb_c2 64 rfl rfl)
theorem fl_Text_24 : FL "RatSorters$Text" 24 8 4 := FL.of (by decide) (by decide) rfl (tb_c2 68 rfl rfl)
theorem fl_Text_27 : FL "RatSorters$Text" 27 8 5 := FL.of (by decide) (by decide) rfl (tb_c2 71 rfl rfl)
theorem fl_Text_30 : FL "RatSorters$Text" 30 8 6 := FL.of (by decide) (by decide) rfl (tb_c2 74 rfl rfl)
theorem fl_Text_33 : FL "RatSorters$Text" 33 8 7 := FL.of (by decide) (by decide) rfl (tb_c2 77 rfl rfl)
theorem fl_Text_36 : FL "RatSorters$Text" 36 8 8 := FL.of (by decide) (by decide) rfl (tb_c2 80 rfl rfl)
theorem fl_Text_39 : FL "RatSorters$Text" 39 8 9 := FL.of (by decide) (by decide) rfl (tb_c2 84 rfl rfl)
theorem fl_Text_45 : FL "RatSorters$Text" 45 8 10 := FL.of (by decide) (by decide) rfl (tb_c2 86 rfl rfl)
theorem fl_Text_49 : FL "RatSorters$Text" 49 8 15 := FL.of (by decide) (by decide) rfl (tb_c2 112 rfl rfl)
theorem fl_Text_53 : FL "RatSorters$Text" 53 8 16 := FL.of (by decide) (by decide) rfl (tb_c2 115 rfl rfl)
theorem fl_Laws_11 : FL "RatSorters$Laws" 11 3 0 := FL.of (by decide) (by decide) rfl (tb_c2 33 rfl rfl)
theorem fl_Laws_15 : FL "RatSorters$Laws" 15 3 1 := FL.of (by decide) (by decide) rfl (tb_c2 34 rfl rfl)
theorem fl_Laws_18 : FL "RatSorters$Laws" 18 3 2 := FL.of (by decide) (by decide) rfl (tb_c2 35 rfl rfl)
theorem fl_Laws_21 : FL "RatSorters$Laws" 21 3 3 := FL.of (by decide) (by decide) rfl (tb_c2 36 rfl rfl)
theorem fl_Teller_11 : FL "RatSorters$Teller" 11 7 0 := FL.of (by decide) (by decide) rfl (tb_c2 165 rfl rfl)
theorem fl_Teller_15 : FL "RatSorters$Teller" 15 7 1 := FL.of (by decide) (by decide) rfl (tb_c2 166 rfl rfl)
theorem fl_Teller_19 : FL "RatSorters$Teller" 19 7 2 := FL.of (by decide) (by decide) rfl (tb_c2 167 rfl rfl)
theorem fl_Teller_22 : FL "RatSorters$Teller" 22 7 4 := FL.of (by decide) (by decide) rfl (tb_c2 168 rfl rfl)
theorem fl_Teller_26 : FL "RatSorters$Teller" 26 7 5 := FL.of (by decide) (by decide) rfl (tb_c2 170 rfl rfl)
theorem fl_Mill_9 : FL "RatSorters$Mill" 9 4 1 := FL.of (by decide) (by decide) rfl (tb_c2 200 rfl rfl)
theorem fl_Mill_17 : FL "RatSorters$Mill" 17 4 3 := FL.of (by decide) (by decide) rfl (tb_c2 203 rfl rfl)
theorem fl_Mill_20 : FL "RatSorters$Mill" 20 4 0 := FL.of (by decide) (by decide) rfl (tb_c2 197 rfl rfl)
theorem fl_Rs_233 : FL "RatSorters" 233 10 15 := FL.of (by decide) (by decide) rfl (tb_c3 18 rfl rfl)
theorem fl_Rs_341 : FL "RatSorters" 341 10 16 := FL.of (by decide) (by decide) rfl (tb_c3 19 rfl rfl)
theorem fl_Mill_24 : FL "RatSorters$Mill" 24 8 17 := FL.of (by decide) (by decide) rfl (tb_c2 118 rfl rfl)
theorem fl_Mill_30 : FL "RatSorters$Mill" 30 4 2 := FL.of (by decide) (by decide) rfl (tb_c2 201 rfl rfl)
theorem fl_Mill_31 : FL "RatSorters$Mill" 31 8 2 := FL.of (by decide) (by decide) rfl (tb_c2 62 rfl rfl)
theorem fl_House_25 : FL "RatSorters$House" 25 8 11 := FL.of (by decide) (by decide) rfl (tb_c2 90 rfl rfl)
theorem fl_House_31 : FL "RatSorters$House" 31 8 0 := FL.of (by decide) (by decide) rfl (tb_c2 56 rfl rfl)
theorem fl_House_34 : FL "RatSorters$House" 34 8 13 := FL.of (by decide) (by decide) rfl (tb_c2 102 rfl rfl)
theorem fl_House_36 : FL "RatSorters$House" 36 8 4 := FL.of (by decide) (by decide) rfl (tb_c2 69 rfl rfl)
theorem fl_House_39 : FL "RatSorters$House" 39 8 6 := FL.of (by decide) (by decide) rfl (tb_c2 75 rfl rfl)
theorem fl_House_46 : FL "RatSorters$House" 46 2 3 := FL.of (by decide) (by decide) rfl (tb_c1 159 rfl rfl)
theorem fl_House_49 : FL "RatSorters$House" 49 2 4 := FL.of (by decide) (by decide) rfl (tb_c1 162 rfl rfl)
theorem fl_House_52 : FL "RatSorters$House" 52 2 5 := FL.of (by decide) (by decide) rfl (tb_c1 166 rfl rfl)
theorem fl_House_55 : FL "RatSorters$House" 55 2 6 := FL.of (by decide) (by decide) rfl (tb_c1 169 rfl rfl)
theorem fl_House_58 : FL "RatSorters$House" 58 2 7 := FL.of (by decide) (by decide) rfl (tb_c1 171 rfl rfl)
theorem fl_House_61 : FL "RatSorters$House" 61 2 8 := FL.of (by decide) (by decide) rfl (tb_c1 174 rfl rfl)
theorem fl_Rat_9 : FL "RatSorters$Rat" 9 6 0 := FL.of (by decide) (by decide) rfl (tb_c1 95 rfl rfl)
theorem fl_Rat_13 : FL "RatSorters$Rat" 13 6 1 := FL.of (by decide) (by decide) rfl (tb_c1 100 rfl rfl)
theorem fl_Rat_16 : FL "RatSorters$Rat" 16 6 2 := FL.of (by decide) (by decide) rfl (tb_c1 104 rfl rfl)
theorem fl_Rat_19 : FL "RatSorters$Rat" 19 6 3 := FL.of (by decide) (by decide) rfl (tb_c1 108 rfl rfl)
theorem fl_Rat_22 : FL "RatSorters$Rat" 22 6 4 := FL.of (by decide) (by decide) rfl (tb_c1 112 rfl rfl)
theorem fl_Rat_25 : FL "RatSorters$Rat" 25 6 5 := FL.of (by decide) (by decide) rfl (tb_c1 116 rfl rfl)
theorem fl_Rat_28 : FL "RatSorters$Rat" 28 6 6 := FL.of (by decide) (by decide) rfl (tb_c1 119 rfl rfl)
theorem fl_Rat_31 : FL "RatSorters$Rat" 31 6 7 := FL.of (by decide) (by decide) rfl (tb_c1 124 rfl rfl)
theorem fl_Rat_34 : FL "RatSorters$Rat" 34 6 8 := FL.of (by decide) (by decide) rfl (tb_c1 127 rfl rfl)
theorem fl_Facts_34 : FL "RatSorters$Facts" 34 0 7 := FL.of (by decide) (by decide) rfl (tb_c1 239 rfl rfl)
theorem fl_Facts_38 : FL "RatSorters$Facts" 38 0 6 := FL.of (by decide) (by decide) rfl (tb_c1 238 rfl rfl)
theorem fl_Planner_21 : FL "RatSorters$Planner" 21 5 4 := FL.of (by decide) (by decide) rfl (tb_c1 202 rfl rfl)
theorem fl_Rs_92 : FL "RatSorters" 92 10 12 := FL.of (by decide) (by decide) rfl (tb_c3 15 rfl rfl)
theorem fl_Rs_107 : FL "RatSorters" 107 1 1 := FL.of (by decide) (by decide) rfl (tb_c1 64 rfl rfl)
theorem fl_Rs_114 : FL "RatSorters" 114 7 6 := FL.of (by decide) (by decide) rfl (tb_c2 172 rfl rfl)
theorem fl_Tokens_22 : FL "RatSorters$Tokens" 22 9 3 := FL.of (by decide) (by decide) rfl (tb_c1 41 rfl rfl)
theorem fl_Grammar_21 : FL "RatSorters$Grammar" 21 1 1 := FL.of (by decide) (by decide) rfl (tb_c1 63 rfl rfl)
theorem fl_Grammar_25 : FL "RatSorters$Grammar" 25 1 2 := FL.of (by decide) (by decide) rfl (tb_c1 65 rfl rfl)
theorem fl_Teller_35 : FL "RatSorters$Teller" 35 7 3 := FL.of (by decide) (by decide) rfl (tb_c2 169 rfl rfl)
theorem fl_Teller_39 : FL "RatSorters$Teller" 39 7 6 := FL.of (by decide) (by decide) rfl (tb_c2 171 rfl rfl)
theorem fl_Teller_42 : FL "RatSorters$Teller" 42 7 7 := FL.of (by decide) (by decide) rfl (tb_c2 173 rfl rfl)
theorem fl_Teller_45 : FL "RatSorters$Teller" 45 9 3 := FL.of (by decide) (by decide) rfl (tb_c1 42 rfl rfl)
theorem fl_Text_56 : FL "RatSorters$Text" 56 8 11 := FL.of (by decide) (by decide) rfl (tb_c2 89 rfl rfl)
theorem fl_Text_59 : FL "RatSorters$Text" 59 8 12 := FL.of (by decide) (by decide) rfl (tb_c2 95 rfl rfl)
theorem fl_Text_62 : FL "RatSorters$Text" 62 8 13 := FL.of (by decide) (by decide) rfl (tb_c2 101 rfl rfl)
theorem fl_Text_65 : FL "RatSorters$Text" 65 8 14 := FL.of (by decide) (by decide) rfl (tb_c2 107 rfl rfl)
theorem fl_Text_68 : FL "RatSorters$Text" 68 8 17 := FL.of (by decide) (by decide) rfl (tb_c2 119 rfl rfl)
theorem fl_Laws_24 : FL "RatSorters$Laws" 24 3 4 := FL.of (by decide) (by decide) rfl (tb_c2 37 rfl rfl)
theorem fl_Teller_73 : FL "RatSorters$Teller" 73 8 15 := FL.of (by decide) (by decide) rfl (tb_c2 113 rfl rfl)
theorem fl_Teller_76 : FL "RatSorters$Teller" 76 8 16 := FL.of (by decide) (by decide) rfl (tb_c2 116 rfl rfl)
theorem fl_Teller_79 : FL "RatSorters$Teller" 79 8 17 := FL.of (by decide) (by decide) rfl (tb_c2 120 rfl rfl)
theorem fl_Teller_82 : FL "RatSorters$Teller" 82 8 10 := FL.of (by decide) (by decide) rfl (tb_c2 87 rfl rfl)
theorem fl_Teller_92 : FL "RatSorters$Teller" 92 8 11 := FL.of (by decide) (by decide) rfl (tb_c2 91 rfl rfl)
theorem fl_Teller_99 : FL "RatSorters$Teller" 99 8 0 := FL.of (by decide) (by decide) rfl (tb_c2 57 rfl rfl)
theorem fl_Teller_102 : FL "RatSorters$Teller" 102 8 1 := FL.of (by decide) (by decide) rfl (tb_c2 59 rfl rfl)
theorem fl_Teller_144 : FL "RatSorters$Teller" 144 9 2 := FL.of (by decide) (by decide) rfl (tb_c1 40 rfl rfl)
theorem fl_Teller_105 : FL "RatSorters$Teller" 105 8 12 := FL.of (by decide) (by decide) rfl (tb_c2 96 rfl rfl)
theorem fl_Teller_108 : FL "RatSorters$Teller" 108 8 2 := FL.of (by decide) (by decide) rfl (tb_c2 63 rfl rfl)
theorem fl_Teller_111 : FL "RatSorters$Teller" 111 8 3 := FL.of (by decide) (by decide) rfl (tb_c2 65 rfl rfl)
theorem fl_Teller_117 : FL "RatSorters$Teller" 117 8 13 := FL.of (by decide) (by decide) rfl (tb_c2 104 rfl rfl)
theorem fl_Teller_120 : FL "RatSorters$Teller" 120 8 4 := FL.of (by decide) (by decide) rfl (tb_c2 70 rfl rfl)
theorem fl_Teller_123 : FL "RatSorters$Teller" 123 8 5 := FL.of (by decide) (by decide) rfl (tb_c2 72 rfl rfl)
theorem fl_Teller_126 : FL "RatSorters$Teller" 126 8 6 := FL.of (by decide) (by decide) rfl (tb_c2 76 rfl rfl)
theorem fl_Teller_129 : FL "RatSorters$Teller" 129 8 7 := FL.of (by decide) (by decide) rfl (tb_c2 78 rfl rfl)
theorem fl_Teller_132 : FL "RatSorters$Teller" 132 8 14 := FL.of (by decide) (by decide) rfl (tb_c2 108 rfl rfl)
theorem fl_Teller_135 : FL "RatSorters$Teller" 135 8 8 := FL.of (by decide) (by decide) rfl (tb_c2 81 rfl rfl)
theorem fl_Teller_141 : FL "RatSorters$Teller" 141 8 9 := FL.of (by decide) (by decide) rfl (tb_c2 85 rfl rfl)
theorem fl_Laws_28 : FL "RatSorters$Laws" 28 3 5 := FL.of (by decide) (by decide) rfl (tb_c2 38 rfl rfl)
theorem fl_Laws_31 : FL "RatSorters$Laws" 31 3 6 := FL.of (by decide) (by decide) rfl (tb_c2 39 rfl rfl)
theorem fl_Laws_34 : FL "RatSorters$Laws" 34 9 3 := FL.of (by decide) (by decide) rfl (tb_c1 43 rfl rfl)
theorem fl_Laws_39 : FL "RatSorters$Laws" 39 9 0 := FL.of (by decide) (by decide) rfl (tb_c1 36 rfl rfl)
theorem fl_Laws_42 : FL "RatSorters$Laws" 42 9 2 := FL.of (by decide) (by decide) rfl (tb_c1 39 rfl rfl)
theorem fl_Rs_119 : FL "RatSorters" 119 8 11 := FL.of (by decide) (by decide) rfl (tb_c2 92 rfl rfl)
theorem fl_Rs_126 : FL "RatSorters" 126 2 0 := FL.of (by decide) (by decide) rfl (tb_c1 150 rfl rfl)
theorem fl_Rs_130 : FL "RatSorters" 130 8 12 := FL.of (by decide) (by decide) rfl (tb_c2 97 rfl rfl)
theorem fl_Rs_137 : FL "RatSorters" 137 8 13 := FL.of (by decide) (by decide) rfl (tb_c2 106 rfl rfl)
theorem fl_Rs_140 : FL "RatSorters" 140 2 2 := FL.of (by decide) (by decide) rfl (tb_c1 158 rfl rfl)
theorem fl_Rs_143 : FL "RatSorters" 143 6 0 := FL.of (by decide) (by decide) rfl (tb_c1 97 rfl rfl)
theorem fl_Rs_148 : FL "RatSorters" 148 6 1 := FL.of (by decide) (by decide) rfl (tb_c1 101 rfl rfl)
theorem fl_Rs_151 : FL "RatSorters" 151 6 2 := FL.of (by decide) (by decide) rfl (tb_c1 106 rfl rfl)
theorem fl_Rs_154 : FL "RatSorters" 154 6 3 := FL.of (by decide) (by decide) rfl (tb_c1 109 rfl rfl)
theorem fl_Rs_157 : FL "RatSorters" 157 6 4 := FL.of (by decide) (by decide) rfl (tb_c1 115 rfl rfl)
theorem fl_Rs_160 : FL "RatSorters" 160 6 5 := FL.of (by decide) (by decide) rfl (tb_c1 117 rfl rfl)
theorem fl_Rs_163 : FL "RatSorters" 163 6 6 := FL.of (by decide) (by decide) rfl (tb_c1 121 rfl rfl)
theorem fl_Rs_166 : FL "RatSorters" 166 6 7 := FL.of (by decide) (by decide) rfl (tb_c1 125 rfl rfl)
theorem fl_Rs_169 : FL "RatSorters" 169 6 8 := FL.of (by decide) (by decide) rfl (tb_c1 128 rfl rfl)
theorem fl_House_87 : FL "RatSorters$House" 87 8 3 := FL.of (by decide) (by decide) rfl (tb_c2 66 rfl rfl)
theorem fl_House_90 : FL "RatSorters$House" 90 8 1 := FL.of (by decide) (by decide) rfl (tb_c2 60 rfl rfl)
theorem fl_Rs_179 : FL "RatSorters" 179 8 3 := FL.of (by decide) (by decide) rfl (tb_c2 67 rfl rfl)
theorem fl_Rs_197 : FL "RatSorters" 197 2 3 := FL.of (by decide) (by decide) rfl (tb_c1 161 rfl rfl)
theorem fl_Rs_236 : FL "RatSorters" 236 10 14 := FL.of (by decide) (by decide) rfl (tb_c3 17 rfl rfl)
theorem fl_Mill_53 : FL "RatSorters$Mill" 53 8 13 := FL.of (by decide) (by decide) rfl (tb_c2 103 rfl rfl)
theorem fl_Mill_56 : FL "RatSorters$Mill" 56 2 2 := FL.of (by decide) (by decide) rfl (tb_c1 156 rfl rfl)
theorem fl_Mill_61 : FL "RatSorters$Mill" 61 6 0 := FL.of (by decide) (by decide) rfl (tb_c1 96 rfl rfl)
theorem fl_Mill_149 : FL "RatSorters$Mill" 149 6 1 := FL.of (by decide) (by decide) rfl (tb_c1 102 rfl rfl)
theorem fl_Mill_89 : FL "RatSorters$Mill" 89 2 3 := FL.of (by decide) (by decide) rfl (tb_c1 160 rfl rfl)
theorem fl_Mill_92 : FL "RatSorters$Mill" 92 8 15 := FL.of (by decide) (by decide) rfl (tb_c2 114 rfl rfl)
theorem fl_Mill_95 : FL "RatSorters$Mill" 95 2 0 := FL.of (by decide) (by decide) rfl (tb_c1 151 rfl rfl)
theorem fl_Mill_98 : FL "RatSorters$Mill" 98 6 6 := FL.of (by decide) (by decide) rfl (tb_c1 120 rfl rfl)
theorem fl_Mill_83 : FL "RatSorters$Mill" 83 2 4 := FL.of (by decide) (by decide) rfl (tb_c1 163 rfl rfl)
theorem fl_Mill_101 : FL "RatSorters$Mill" 101 8 16 := FL.of (by decide) (by decide) rfl (tb_c2 117 rfl rfl)
theorem fl_Mill_66 : FL "RatSorters$Mill" 66 6 4 := FL.of (by decide) (by decide) rfl (tb_c1 114 rfl rfl)
theorem fl_Mill_50 : FL "RatSorters$Mill" 50 4 4 := FL.of (by decide) (by decide) rfl (tb_c2 204 rfl rfl)
theorem fl_Mill_107 : FL "RatSorters$Mill" 107 2 8 := FL.of (by decide) (by decide) rfl (tb_c1 175 rfl rfl)
theorem fl_Mill_113 : FL "RatSorters$Mill" 113 8 11 := FL.of (by decide) (by decide) rfl (tb_c2 93 rfl rfl)
theorem fl_Mill_116 : FL "RatSorters$Mill" 116 2 5 := FL.of (by decide) (by decide) rfl (tb_c1 167 rfl rfl)
theorem fl_Mill_119 : FL "RatSorters$Mill" 119 8 5 := FL.of (by decide) (by decide) rfl (tb_c2 73 rfl rfl)
theorem fl_Mill_125 : FL "RatSorters$Mill" 125 8 10 := FL.of (by decide) (by decide) rfl (tb_c2 88 rfl rfl)
theorem fl_Mill_137 : FL "RatSorters$Mill" 137 6 2 := FL.of (by decide) (by decide) rfl (tb_c1 107 rfl rfl)
theorem fl_Mill_140 : FL "RatSorters$Mill" 140 6 3 := FL.of (by decide) (by decide) rfl (tb_c1 110 rfl rfl)
theorem fl_Mill_143 : FL "RatSorters$Mill" 143 8 12 := FL.of (by decide) (by decide) rfl (tb_c2 98 rfl rfl)
theorem fl_Mill_146 : FL "RatSorters$Mill" 146 6 8 := FL.of (by decide) (by decide) rfl (tb_c1 129 rfl rfl)
theorem fl_Mill_152 : FL "RatSorters$Mill" 152 6 5 := FL.of (by decide) (by decide) rfl (tb_c1 118 rfl rfl)
theorem fl_Mill_155 : FL "RatSorters$Mill" 155 6 7 := FL.of (by decide) (by decide) rfl (tb_c1 126 rfl rfl)
theorem fl_Mill_158 : FL "RatSorters$Mill" 158 2 1 := FL.of (by decide) (by decide) rfl (tb_c1 154 rfl rfl)
theorem fl_Rs_204 : FL "RatSorters" 204 2 5 := FL.of (by decide) (by decide) rfl (tb_c1 168 rfl rfl)
theorem fl_House_114 : FL "RatSorters$House" 114 6 3 := FL.of (by decide) (by decide) rfl (tb_c1 111 rfl rfl)
theorem fl_House_82 : FL "RatSorters$House" 82 6 2 := FL.of (by decide) (by decide) rfl (tb_c1 105 rfl rfl)
theorem fl_House_117 : FL "RatSorters$House" 117 6 1 := FL.of (by decide) (by decide) rfl (tb_c1 103 rfl rfl)
theorem fl_House_102 : FL "RatSorters$House" 102 6 0 := FL.of (by decide) (by decide) rfl (tb_c1 99 rfl rfl)
theorem fl_Rs_216 : FL "RatSorters" 216 2 4 := FL.of (by decide) (by decide) rfl (tb_c1 165 rfl rfl)
theorem fl_Rs_219 : FL "RatSorters" 219 8 14 := FL.of (by decide) (by decide) rfl (tb_c2 110 rfl rfl)
theorem fl_Rs_222 : FL "RatSorters" 222 2 7 := FL.of (by decide) (by decide) rfl (tb_c1 173 rfl rfl)
theorem fl_House_120 : FL "RatSorters$House" 120 8 14 := FL.of (by decide) (by decide) rfl (tb_c2 111 rfl rfl)
theorem fl_House_85 : FL "RatSorters$House" 85 8 12 := FL.of (by decide) (by decide) rfl (tb_c2 99 rfl rfl)
theorem fl_House_129 : FL "RatSorters$House" 129 8 8 := FL.of (by decide) (by decide) rfl (tb_c2 83 rfl rfl)
theorem fl_House_112 : FL "RatSorters$House" 112 6 6 := FL.of (by decide) (by decide) rfl (tb_c1 123 rfl rfl)
theorem fl_Planner_35 : FL "RatSorters$Planner" 35 4 0 := FL.of (by decide) (by decide) rfl (tb_c2 199 rfl rfl)
theorem fl_Rs_274 : FL "RatSorters" 274 2 8 := FL.of (by decide) (by decide) rfl (tb_c1 176 rfl rfl)
theorem fl_Rs_281 : FL "RatSorters" 281 5 3 := FL.of (by decide) (by decide) rfl (tb_c1 201 rfl rfl)
theorem fl_Rs_284 : FL "RatSorters" 284 5 2 := FL.of (by decide) (by decide) rfl (tb_c1 199 rfl rfl)
theorem fl_Planner_65 : FL "RatSorters$Planner" 65 5 2 := FL.of (by decide) (by decide) rfl (tb_c1 198 rfl rfl)
theorem fl_Planner_68 : FL "RatSorters$Planner" 68 5 3 := FL.of (by decide) (by decide) rfl (tb_c1 200 rfl rfl)
theorem fl_Planner_71 : FL "RatSorters$Planner" 71 8 13 := FL.of (by decide) (by decide) rfl (tb_c2 105 rfl rfl)
theorem fl_Planner_95 : FL "RatSorters$Planner" 95 8 7 := FL.of (by decide) (by decide) rfl (tb_c2 79 rfl rfl)
theorem fl_Planner_46 : FL "RatSorters$Planner" 46 2 2 := FL.of (by decide) (by decide) rfl (tb_c1 157 rfl rfl)
theorem fl_Planner_99 : FL "RatSorters$Planner" 99 6 0 := FL.of (by decide) (by decide) rfl (tb_c1 98 rfl rfl)
theorem fl_Rs_294 : FL "RatSorters" 294 5 7 := FL.of (by decide) (by decide) rfl (tb_c1 206 rfl rfl)
theorem fl_Planner_109 : FL "RatSorters$Planner" 109 5 5 := FL.of (by decide) (by decide) rfl (tb_c1 203 rfl rfl)
theorem fl_Planner_112 : FL "RatSorters$Planner" 112 8 11 := FL.of (by decide) (by decide) rfl (tb_c2 94 rfl rfl)
theorem fl_Planner_115 : FL "RatSorters$Planner" 115 5 7 := FL.of (by decide) (by decide) rfl (tb_c1 205 rfl rfl)
theorem fl_Planner_125 : FL "RatSorters$Planner" 125 5 6 := FL.of (by decide) (by decide) rfl (tb_c1 204 rfl rfl)
theorem fl_Planner_128 : FL "RatSorters$Planner" 128 6 6 := FL.of (by decide) (by decide) rfl (tb_c1 122 rfl rfl)
theorem fl_Planner_135 : FL "RatSorters$Planner" 135 8 12 := FL.of (by decide) (by decide) rfl (tb_c2 100 rfl rfl)
theorem fl_Planner_142 : FL "RatSorters$Planner" 142 2 4 := FL.of (by decide) (by decide) rfl (tb_c1 164 rfl rfl)
theorem fl_Planner_50 : FL "RatSorters$Planner" 50 6 4 := FL.of (by decide) (by decide) rfl (tb_c1 113 rfl rfl)
theorem fl_Planner_55 : FL "RatSorters$Planner" 55 8 17 := FL.of (by decide) (by decide) rfl (tb_c2 121 rfl rfl)
theorem fl_Planner_60 : FL "RatSorters$Planner" 60 4 2 := FL.of (by decide) (by decide) rfl (tb_c2 202 rfl rfl)
theorem fl_Planner_145 : FL "RatSorters$Planner" 145 8 14 := FL.of (by decide) (by decide) rfl (tb_c2 109 rfl rfl)
theorem fl_Planner_148 : FL "RatSorters$Planner" 148 8 8 := FL.of (by decide) (by decide) rfl (tb_c2 82 rfl rfl)
theorem fl_Planner_151 : FL "RatSorters$Planner" 151 2 7 := FL.of (by decide) (by decide) rfl (tb_c1 172 rfl rfl)
theorem fl_Rs_330 : FL "RatSorters" 330 0 7 := FL.of (by decide) (by decide) rfl (tb_c2 0 rfl rfl)
theorem fl_Facts_42 : FL "RatSorters$Facts" 42 4 0 := FL.of (by decide) (by decide) rfl (tb_c2 198 rfl rfl)
theorem fl_Facts_52 : FL "RatSorters$Facts" 52 2 1 := FL.of (by decide) (by decide) rfl (tb_c1 153 rfl rfl)
theorem fl_Rs_344 : FL "RatSorters" 344 2 6 := FL.of (by decide) (by decide) rfl (tb_c1 170 rfl rfl)
theorem fl_Mo_13 : FL "RatSortersModel" 13 11 1 := FL.of (by decide) (by decide) rfl (tb_c6 51 rfl rfl)
theorem fl_Mo_17 : FL "RatSortersModel" 17 11 3 := FL.of (by decide) (by decide) rfl (tb_c6 53 rfl rfl)
theorem fl_Mo_20 : FL "RatSortersModel" 20 11 5 := FL.of (by decide) (by decide) rfl (tb_c6 55 rfl rfl)
theorem fl_Mo_24 : FL "RatSortersModel" 24 11 6 := FL.of (by decide) (by decide) rfl (tb_c6 56 rfl rfl)
theorem fl_Mo_27 : FL "RatSortersModel" 27 11 7 := FL.of (by decide) (by decide) rfl (tb_c6 57 rfl rfl)
theorem fl_Mo_30 : FL "RatSortersModel" 30 11 8 := FL.of (by decide) (by decide) rfl (tb_c6 58 rfl rfl)
theorem fl_Mo_34 : FL "RatSortersModel" 34 11 9 := FL.of (by decide) (by decide) rfl (tb_c6 59 rfl rfl)
theorem fl_Mo_37 : FL "RatSortersModel" 37 11 17 := FL.of (by decide) (by decide) rfl (tb_c6 67 rfl rfl)
theorem fl_Mo_40 : FL "RatSortersModel" 40 11 21 := FL.of (by decide) (by decide) rfl (tb_c6 71 rfl rfl)
theorem fl_Mo_43 : FL "RatSortersModel" 43 11 22 := FL.of (by decide) (by decide) rfl (tb_c6 72 rfl rfl)
theorem fl_Mo_46 : FL "RatSortersModel" 46 11 23 := FL.of (by decide) (by decide) rfl (tb_c6 73 rfl rfl)
theorem fl_Mo_49 : FL "RatSortersModel" 49 11 24 := FL.of (by decide) (by decide) rfl (tb_c6 74 rfl rfl)
theorem fl_Mo_52 : FL "RatSortersModel" 52 11 25 := FL.of (by decide) (by decide) rfl (tb_c6 75 rfl rfl)
theorem fl_Mo_55 : FL "RatSortersModel" 55 11 26 := FL.of (by decide) (by decide) rfl (tb_c6 76 rfl rfl)
theorem fl_Mo_58 : FL "RatSortersModel" 58 11 27 := FL.of (by decide) (by decide) rfl (tb_c6 77 rfl rfl)
theorem fl_Mo_61 : FL "RatSortersModel" 61 11 28 := FL.of (by decide) (by decide) rfl (tb_c6 78 rfl rfl)
theorem fl_Mo_64 : FL "RatSortersModel" 64 11 29 := FL.of (by decide) (by decide) rfl (tb_c6 79 rfl rfl)
theorem fl_Mo_67 : FL "RatSortersModel" 67 11 30 := FL.of (by decide) (by decide) rfl (tb_c6 80 rfl rfl)
theorem fl_Mo_70 : FL "RatSortersModel" 70 11 31 := FL.of (by decide) (by decide) rfl (tb_c6 81 rfl rfl)
theorem fl_Mo_73 : FL "RatSortersModel" 73 11 32 := FL.of (by decide) (by decide) rfl (tb_c6 82 rfl rfl)
theorem fl_Mo_76 : FL "RatSortersModel" 76 11 33 := FL.of (by decide) (by decide) rfl (tb_c6 83 rfl rfl)
theorem fl_Mo_79 : FL "RatSortersModel" 79 11 34 := FL.of (by decide) (by decide) rfl (tb_c6 84 rfl rfl)
theorem fl_Mo_82 : FL "RatSortersModel" 82 11 35 := FL.of (by decide) (by decide) rfl (tb_c6 85 rfl rfl)
theorem fl_Mo_85 : FL "RatSortersModel" 85 11 36 := FL.of (by decide) (by decide) rfl (tb_c6 86 rfl rfl)
theorem fl_Mo_88 : FL "RatSortersModel" 88 11 37 := FL.of (by decide) (by decide) rfl (tb_c6 87 rfl rfl)
theorem fl_Mo_91 : FL "RatSortersModel" 91 11 38 := FL.of (by decide) (by decide) rfl (tb_c6 88 rfl rfl)
theorem fl_Mo_94 : FL "RatSortersModel" 94 11 39 := FL.of (by decide) (by decide) rfl (tb_c6 89 rfl rfl)
theorem fl_Mo_97 : FL "RatSortersModel" 97 11 40 := FL.of (by decide) (by decide) rfl (tb_c6 90 rfl rfl)
theorem fl_Mo_100 : FL "RatSortersModel" 100 11 41 := FL.of (by decide) (by decide) rfl (tb_c6 91 rfl rfl)
theorem fl_Mo_103 : FL "RatSortersModel" 103 11 42 := FL.of (by decide) (by decide) rfl (tb_c6 92 rfl rfl)
theorem fl_Mo_106 : FL "RatSortersModel" 106 11 43 := FL.of (by decide) (by decide) rfl (tb_c6 93 rfl rfl)
theorem fl_Mo_109 : FL "RatSortersModel" 109 11 44 := FL.of (by decide) (by decide) rfl (tb_c6 94 rfl rfl)
theorem fl_Mo_112 : FL "RatSortersModel" 112 11 46 := FL.of (by decide) (by decide) rfl (tb_c6 96 rfl rfl)
theorem fl_Mo_116 : FL "RatSortersModel" 116 11 47 := FL.of (by decide) (by decide) rfl (tb_c6 97 rfl rfl)
theorem fl_Mo_119 : FL "RatSortersModel" 119 11 48 := FL.of (by decide) (by decide) rfl (tb_c6 98 rfl rfl)
theorem fl_Mo_122 : FL "RatSortersModel" 122 11 49 := FL.of (by decide) (by decide) rfl (tb_c6 99 rfl rfl)
theorem fl_Mo_125 : FL "RatSortersModel" 125 11 50 := FL.of (by decide) (by decide) rfl (tb_c6 100 rfl rfl)
theorem fl_Mo_128 : FL "RatSortersModel" 128 11 52 := FL.of (by decide) (by decide) rfl (tb_c6 102 rfl rfl)
theorem fl_Mo_131 : FL "RatSortersModel" 131 11 53 := FL.of (by decide) (by decide) rfl (tb_c6 103 rfl rfl)
theorem fl_Mo_134 : FL "RatSortersModel" 134 11 54 := FL.of (by decide) (by decide) rfl (tb_c6 104 rfl rfl)
theorem fl_Mo_137 : FL "RatSortersModel" 137 11 56 := FL.of (by decide) (by decide) rfl (tb_c6 106 rfl rfl)
theorem fl_Mo_140 : FL "RatSortersModel" 140 11 57 := FL.of (by decide) (by decide) rfl (tb_c6 107 rfl rfl)
theorem fl_Mo_143 : FL "RatSortersModel" 143 11 59 := FL.of (by decide) (by decide) rfl (tb_c6 109 rfl rfl)
theorem fl_Mo_146 : FL "RatSortersModel" 146 11 60 := FL.of (by decide) (by decide) rfl (tb_c6 110 rfl rfl)
theorem fl_Mo_149 : FL "RatSortersModel" 149 11 62 := FL.of (by decide) (by decide) rfl (tb_c6 112 rfl rfl)
theorem fl_Mo_152 : FL "RatSortersModel" 152 11 63 := FL.of (by decide) (by decide) rfl (tb_c6 113 rfl rfl)
theorem fl_Mo_155 : FL "RatSortersModel" 155 11 65 := FL.of (by decide) (by decide) rfl (tb_c6 115 rfl rfl)
theorem fl_Mo_158 : FL "RatSortersModel" 158 11 69 := FL.of (by decide) (by decide) rfl (tb_c6 119 rfl rfl)
theorem fl_Mo_161 : FL "RatSortersModel" 161 11 70 := FL.of (by decide) (by decide) rfl (tb_c6 120 rfl rfl)
theorem fl_Mo_164 : FL "RatSortersModel" 164 11 71 := FL.of (by decide) (by decide) rfl (tb_c6 121 rfl rfl)
theorem fl_Mo_167 : FL "RatSortersModel" 167 11 72 := FL.of (by decide) (by decide) rfl (tb_c6 122 rfl rfl)
theorem fl_Mo_170 : FL "RatSortersModel" 170 11 73 := FL.of (by decide) (by decide) rfl (tb_c6 123 rfl rfl)
theorem fl_Mo_173 : FL "RatSortersModel" 173 11 74 := FL.of (by decide) (by decide) rfl (tb_c6 124 rfl rfl)
theorem fl_Mo_257 : FL "RatSortersModel" 257 11 18 := FL.of (by decide) (by decide) rfl (tb_c6 68 rfl rfl)
theorem fl_Mo_344 : FL "RatSortersModel" 344 11 61 := FL.of (by decide) (by decide) rfl (tb_c6 111 rfl rfl)
theorem fl_Mo_190 : FL "RatSortersModel" 190 11 2 := FL.of (by decide) (by decide) rfl (tb_c6 52 rfl rfl)
theorem fl_Mo_196 : FL "RatSortersModel" 196 11 4 := FL.of (by decide) (by decide) rfl (tb_c6 54 rfl rfl)
theorem fl_Mo_230 : FL "RatSortersModel" 230 11 11 := FL.of (by decide) (by decide) rfl (tb_c6 61 rfl rfl)
theorem fl_Mo_254 : FL "RatSortersModel" 254 11 12 := FL.of (by decide) (by decide) rfl (tb_c6 62 rfl rfl)
theorem fl_Mo_227 : FL "RatSortersModel" 227 11 13 := FL.of (by decide) (by decide) rfl (tb_c6 63 rfl rfl)
theorem fl_Mo_236 : FL "RatSortersModel" 236 11 15 := FL.of (by decide) (by decide) rfl (tb_c6 65 rfl rfl)
theorem fl_Mo_260 : FL "RatSortersModel" 260 11 19 := FL.of (by decide) (by decide) rfl (tb_c6 69 rfl rfl)
theorem fl_Mo_263 : FL "RatSortersModel" 263 11 20 := FL.of (by decide) (by decide) rfl (tb_c6 70 rfl rfl)
theorem fl_Mo_266 : FL "RatSortersModel" 266 11 45 := FL.of (by decide) (by decide) rfl (tb_c6 95 rfl rfl)
theorem fl_Mo_269 : FL "RatSortersModel" 269 11 51 := FL.of (by decide) (by decide) rfl (tb_c6 101 rfl rfl)
theorem fl_Mo_233 : FL "RatSortersModel" 233 11 14 := FL.of (by decide) (by decide) rfl (tb_c6 64 rfl rfl)
theorem fl_Mo_239 : FL "RatSortersModel" 239 11 16 := FL.of (by decide) (by decide) rfl (tb_c6 66 rfl rfl)
theorem fl_Mo_275 : FL "RatSortersModel" 275 11 64 := FL.of (by decide) (by decide) rfl (tb_c6 114 rfl rfl)
theorem fl_Mo_278 : FL "RatSortersModel" 278 11 68 := FL.of (by decide) (by decide) rfl (tb_c6 118 rfl rfl)
theorem fl_Mo_205 : FL "RatSortersModel" 205 11 10 := FL.of (by decide) (by decide) rfl (tb_c6 60 rfl rfl)
theorem fl_Mo_327 : FL "RatSortersModel" 327 11 55 := FL.of (by decide) (by decide) rfl (tb_c6 105 rfl rfl)
theorem fl_Mo_340 : FL "RatSortersModel" 340 11 58 := FL.of (by decide) (by decide) rfl (tb_c6 108 rfl rfl)
theorem fl_Mo_454 : FL "RatSortersModel" 454 11 67 := FL.of (by decide) (by decide) rfl (tb_c6 117 rfl rfl)
theorem fl_Mo_451 : FL "RatSortersModel" 451 11 66 := FL.of (by decide) (by decide) rfl (tb_c6 116 rfl rfl)
theorem ci_Rs_init : CI m_Rs_init 0 := ⟨tb_c1 25 rfl rfl, tb_c1 1 rfl rfl, ⟨by decide, by decide⟩, by decide +kernel⟩
theorem ci_Tokens_init : CI m_Tokens_init 0 := ⟨tb_c1 33 rfl rfl, tb_c1 2 rfl rfl, ⟨by decide, by decide⟩, by decide +kernel⟩
theorem ci_Grammar_init : CI m_Grammar_init 1 := ⟨tb_c1 60 rfl rfl, tb_c1 3 rfl rfl, ⟨by decide, by decide⟩, by decide +kernel⟩
theorem ci_Planner_init : CI m_Planner_init 0 := ⟨tb_c1 80 rfl rfl, tb_c1 4 rfl rfl, ⟨by decide, by decide⟩, by decide +kernel⟩
theorem ci_House_init : CI m_House_init 0 := ⟨tb_c1 86 rfl rfl, tb_c1 5 rfl rfl, ⟨by decide, by decide⟩, by decide +kernel⟩
theorem ci_Rat_init : CI m_Rat_init 0 := ⟨tb_c1 93 rfl rfl, tb_c1 6 rfl rfl, ⟨by decide, by decide⟩, by decide +kernel⟩
theorem ci_Facts_init : CI m_Facts_init 0 := ⟨tb_c1 228 rfl rfl, tb_c1 7 rfl rfl, ⟨by decide, by decide⟩, by decide +kernel⟩
theorem ci_Text_init : CI m_Text_init 0 := ⟨tb_c2 25 rfl rfl, tb_c1 8 rfl rfl, ⟨by decide, by decide⟩, by decide +kernel⟩
theorem ci_Laws_init : CI m_Laws_init 0 := ⟨tb_c2 31 rfl rfl, tb_c1 9 rfl rfl, ⟨by decide, by decide⟩, by decide +kernel⟩
theorem ci_Teller_init : CI m_Teller_init 2 := ⟨tb_c2 163 rfl rfl, tb_c1 10 rfl rfl, ⟨by decide, by decide⟩, by decide +kernel⟩
theorem ci_Mill_init : CI m_Mill_init 1 := ⟨tb_c2 195 rfl rfl, tb_c1 11 rfl rfl, ⟨by decide, by decide⟩, by decide +kernel⟩
theorem ci_Rs_startOver : CI m_Rs_startOver 0 := ⟨tb_c2 219 rfl rfl, tb_c1 1 rfl rfl, ⟨by decide, by decide⟩, by decide +kernel⟩
theorem ci_Mill_use : CI m_Mill_use 1 := ⟨tb_c2 223 rfl rfl, tb_c1 11 rfl rfl, ⟨by decide, by decide⟩, by decide +kernel⟩
theorem ci_House_begin : CI m_House_begin 1 := ⟨tb_c2 230 rfl rfl, tb_c1 5 rfl rfl, ⟨by decide, by decide⟩, by decide +kernel⟩
theorem ci_Rat_begin : CI m_Rat_begin 2 := ⟨tb_c2 234 rfl rfl, tb_c1 6 rfl rfl, ⟨by decide, by decide⟩, by decide +kernel⟩
theorem ci_Facts_clear : CI m_Facts_clear 0 := ⟨tb_c2 238 rfl rfl, tb_c1 7 rfl rfl, ⟨by decide, by decide⟩, by decide +kernel⟩
theorem ci_Planner_dropWays : CI m_Planner_dropWays 0 := ⟨tb_c3 2 rfl rfl, tb_c1 4 rfl rfl, ⟨by decide, by decide⟩, by decide +kernel⟩
theorem ci_Rs_feed : CI m_Rs_feed 5 := ⟨tb_c3 58 rfl rfl, tb_c1 1 rfl rfl, ⟨by decide, by decide⟩, by decide +kernel⟩
theorem ci_Rs_putFour : CI m_Rs_putFour 1 := ⟨tb_c3 62 rfl rfl, tb_c1 1 rfl rfl, ⟨by decide, by decide⟩, by decide +kernel⟩
theorem ci_Rs_back : CI m_Rs_back 1 := ⟨tb_c3 66 rfl rfl, tb_c1 1 rfl rfl, ⟨by decide, by decide⟩, by decide +kernel⟩
theorem ci_Rs_read : CI m_Rs_read 0 := ⟨tb_c3 70 rfl rfl, tb_c1 1 rfl rfl, ⟨by decide, by decide⟩, by decide +kernel⟩
theorem ci_Tokens_scan : CI m_Tokens_scan 2 := ⟨tb_c3 74 rfl rfl, tb_c1 2 rfl rfl, ⟨by decide, by decide⟩, by decide +kernel⟩
theorem ci_Tokens_behindBlanks : CI m_Tokens_behindBlanks 3 := ⟨tb_c3 77 rfl rfl, tb_c1 2 rfl rfl, ⟨by decide, by decide⟩, by decide +kernel⟩
theorem ci_Tokens_isBlank : CI m_Tokens_isBlank 1 := ⟨tb_c3 80 rfl rfl, tb_c1 2 rfl rfl, ⟨by decide, by decide⟩, by decide +kernel⟩
theorem ci_Tokens_endOf : CI m_Tokens_endOf 3 := ⟨tb_c3 83 rfl rfl, tb_c1 2 rfl rfl, ⟨by decide, by decide⟩, by decide +kernel⟩
theorem ci_Tokens_isLetter : CI m_Tokens_isLetter 1 := ⟨tb_c3 86 rfl rfl, tb_c1 2 rfl rfl, ⟨by decide, by decide⟩, by decide +kernel⟩
theorem ci_Tokens_isDigit : CI m_Tokens_isDigit 1 := ⟨tb_c3 89 rfl rfl, tb_c1 2 rfl rfl, ⟨by decide, by decide⟩, by decide +kernel⟩
theorem ci_Tokens_add : CI m_Tokens_add 3 := ⟨tb_c3 93 rfl rfl, tb_c1 2 rfl rfl, ⟨by decide, by decide⟩, by decide +kernel⟩
theorem ci_Tokens_wordOf : CI m_Tokens_wordOf 3 := ⟨tb_c3 96 rfl rfl, tb_c1 2 rfl rfl, ⟨by decide, by decide⟩, by decide +kernel⟩
theorem ci_Tokens_isWord : CI m_Tokens_isWord 4 := ⟨tb_c3 99 rfl rfl, tb_c1 2 rfl rfl, ⟨by decide, by decide⟩, by decide +kernel⟩
theorem ci_Str_charAt : CI m_Str_charAt 1 := ⟨tb_c3 104 rfl rfl, tb_c1 14 rfl rfl, ⟨by decide, by decide⟩, by decide +kernel⟩
theorem ci_Str_isLatin1 : CI m_Str_isLatin1 0 := ⟨tb_c3 108 rfl rfl, tb_c1 14 rfl rfl, ⟨by decide, by decide⟩, by decide +kernel⟩
theorem ci_Lat_charAt : CI m_Lat_charAt 2 := ⟨tb_c3 113 rfl rfl, tb_c1 15 rfl rfl, ⟨by decide, by decide⟩, by decide +kernel⟩
theorem ci_Str_checkIndex : CI m_Str_checkIndex 2 := ⟨tb_c3 116 rfl rfl, tb_c1 14 rfl rfl, ⟨by decide, by decide⟩, by decide +kernel⟩
theorem ci_Pre_checkIndex : CI m_Pre_checkIndex 3 := ⟨tb_c3 121 rfl rfl, tb_c1 16 rfl rfl, ⟨by decide, by decide⟩, by decide +kernel⟩
theorem ci_Tokens_nameOf : CI m_Tokens_nameOf 3 := ⟨tb_c3 146 rfl rfl, tb_c1 2 rfl rfl, ⟨by decide, by decide⟩, by decide +kernel⟩
theorem ci_Tokens_numberOf : CI m_Tokens_numberOf 3 := ⟨tb_c3 150 rfl rfl, tb_c1 2 rfl rfl, ⟨by decide, by decide⟩, by decide +kernel⟩
theorem ci_Str_indexOf : CI m_Str_indexOf 1 := ⟨tb_c3 156 rfl rfl, tb_c1 14 rfl rfl, ⟨by decide, by decide⟩, by decide +kernel⟩
theorem ci_Str_indexOf2 : CI m_Str_indexOf2 2 := ⟨tb_c3 160 rfl rfl, tb_c1 14 rfl rfl, ⟨by decide, by decide⟩, by decide +kernel⟩
theorem ci_Str_length : CI m_Str_length 0 := ⟨tb_c3 164 rfl rfl, tb_c1 14 rfl rfl, ⟨by decide, by decide⟩, by decide +kernel⟩
theorem ci_Str_coder : CI m_Str_coder 0 := ⟨tb_c3 168 rfl rfl, tb_c1 14 rfl rfl, ⟨by decide, by decide⟩, by decide +kernel⟩
theorem ci_Lat_indexOf : CI m_Lat_indexOf 4 := ⟨tb_c3 171 rfl rfl, tb_c1 15 rfl rfl, ⟨by decide, by decide⟩, by decide +kernel⟩
theorem ci_Lat_canEncode : CI m_Lat_canEncode 1 := ⟨tb_c3 174 rfl rfl, tb_c1 15 rfl rfl, ⟨by decide, by decide⟩, by decide +kernel⟩
theorem ci_Lat_indexOfChar : CI m_Lat_indexOfChar 4 := ⟨tb_c3 181 rfl rfl, tb_c1 15 rfl rfl, ⟨by decide, by decide⟩, by decide +kernel⟩
theorem ci_Grammar_check : CI m_Grammar_check 0 := ⟨tb_c3 220 rfl rfl, tb_c1 3 rfl rfl, ⟨by decide, by decide⟩, by decide +kernel⟩
theorem ci_Grammar_kind : CI m_Grammar_kind 0 := ⟨tb_c3 224 rfl rfl, tb_c1 3 rfl rfl, ⟨by decide, by decide⟩, by decide +kernel⟩
theorem ci_Tokens_kindOf : CI m_Tokens_kindOf 1 := ⟨tb_c3 228 rfl rfl, tb_c1 2 rfl rfl, ⟨by decide, by decide⟩, by decide +kernel⟩
theorem ci_Grammar_checkTell : CI m_Grammar_checkTell 0 := ⟨tb_c3 232 rfl rfl, tb_c1 3 rfl rfl, ⟨by decide, by decide⟩, by decide +kernel⟩
theorem ci_Grammar_mostOf : CI m_Grammar_mostOf 1 := ⟨tb_c3 235 rfl rfl, tb_c1 3 rfl rfl, ⟨by decide, by decide⟩, by decide +kernel⟩
theorem ci_Grammar_pass : CI m_Grammar_pass 2 := ⟨tb_c3 239 rfl rfl, tb_c1 3 rfl rfl, ⟨by decide, by decide⟩, by decide +kernel⟩
theorem ci_Grammar_checkRow : CI m_Grammar_checkRow 1 := ⟨tb_c4 4 rfl rfl, tb_c1 3 rfl rfl, ⟨by decide, by decide⟩, by decide +kernel⟩
theorem ci_Grammar_passKind : CI m_Grammar_passKind 1 := ⟨tb_c4 10 rfl rfl, tb_c1 3 rfl rfl, ⟨by decide, by decide⟩, by decide +kernel⟩
theorem ci_Grammar_checkLaw : CI m_Grammar_checkLaw 0 := ⟨tb_c4 16 rfl rfl, tb_c1 3 rfl rfl, ⟨by decide, by decide⟩, by decide +kernel⟩
theorem ci_Grammar_checkSum : CI m_Grammar_checkSum 1 := ⟨tb_c4 20 rfl rfl, tb_c1 3 rfl rfl, ⟨by decide, by decide⟩, by decide +kernel⟩
theorem ci_Grammar_checkWants : CI m_Grammar_checkWants 0 := ⟨tb_c4 24 rfl rfl, tb_c1 3 rfl rfl, ⟨by decide, by decide⟩, by decide +kernel⟩
theorem ci_Teller_fill : CI m_Teller_fill 1 := ⟨tb_c4 29 rfl rfl, tb_c1 10 rfl rfl, ⟨by decide, by decide⟩, by decide +kernel⟩
theorem ci_Text_clear : CI m_Text_clear 0 := ⟨tb_c4 33 rfl rfl, tb_c1 8 rfl rfl, ⟨by decide, by decide⟩, by decide +kernel⟩
theorem ci_Laws_clear : CI m_Laws_clear 0 := ⟨tb_c4 37 rfl rfl, tb_c1 9 rfl rfl, ⟨by decide, by decide⟩, by decide +kernel⟩
theorem ci_Teller_fillTell : CI m_Teller_fillTell 0 := ⟨tb_c4 41 rfl rfl, tb_c1 10 rfl rfl, ⟨by decide, by decide⟩, by decide +kernel⟩
theorem ci_Teller_fillGrain : CI m_Teller_fillGrain 0 := ⟨tb_c4 46 rfl rfl, tb_c1 10 rfl rfl, ⟨by decide, by decide⟩, by decide +kernel⟩
theorem ci_Teller_takeNewName : CI m_Teller_takeNewName 2 := ⟨tb_c4 50 rfl rfl, tb_c1 10 rfl rfl, ⟨by decide, by decide⟩, by decide +kernel⟩
theorem ci_Teller_takeNumber : CI m_Teller_takeNumber 2 := ⟨tb_c4 54 rfl rfl, tb_c1 10 rfl rfl, ⟨by decide, by decide⟩, by decide +kernel⟩
theorem ci_Teller_fillHole : CI m_Teller_fillHole 0 := ⟨tb_c4 58 rfl rfl, tb_c1 10 rfl rfl, ⟨by decide, by decide⟩, by decide +kernel⟩
theorem ci_Teller_takeName : CI m_Teller_takeName 1 := ⟨tb_c4 62 rfl rfl, tb_c1 10 rfl rfl, ⟨by decide, by decide⟩, by decide +kernel⟩
theorem ci_Teller_fillRat : CI m_Teller_fillRat 0 := ⟨tb_c4 66 rfl rfl, tb_c1 10 rfl rfl, ⟨by decide, by decide⟩, by decide +kernel⟩
theorem ci_Teller_fillMerchant : CI m_Teller_fillMerchant 0 := ⟨tb_c4 70 rfl rfl, tb_c1 10 rfl rfl, ⟨by decide, by decide⟩, by decide +kernel⟩
theorem ci_Text_wantOf : CI m_Text_wantOf 2 := ⟨tb_c4 74 rfl rfl, tb_c1 8 rfl rfl, ⟨by decide, by decide⟩, by decide +kernel⟩
theorem ci_Laws_write : CI m_Laws_write 3 := ⟨tb_c4 78 rfl rfl, tb_c1 9 rfl rfl, ⟨by decide, by decide⟩, by decide +kernel⟩
theorem ci_Laws_writeToken : CI m_Laws_writeToken 2 := ⟨tb_c4 82 rfl rfl, tb_c1 9 rfl rfl, ⟨by decide, by decide⟩, by decide +kernel⟩
theorem ci_Laws_addStep : CI m_Laws_addStep 1 := ⟨tb_c4 86 rfl rfl, tb_c1 9 rfl rfl, ⟨by decide, by decide⟩, by decide +kernel⟩
theorem ci_Laws_addWaiting : CI m_Laws_addWaiting 1 := ⟨tb_c4 90 rfl rfl, tb_c1 9 rfl rfl, ⟨by decide, by decide⟩, by decide +kernel⟩
theorem ci_Laws_writeWaiting : CI m_Laws_writeWaiting 1 := ⟨tb_c4 94 rfl rfl, tb_c1 9 rfl rfl, ⟨by decide, by decide⟩, by decide +kernel⟩
theorem ci_Laws_rankOf : CI m_Laws_rankOf 1 := ⟨tb_c4 97 rfl rfl, tb_c1 9 rfl rfl, ⟨by decide, by decide⟩, by decide +kernel⟩
theorem ci_Tokens_placeOf : CI m_Tokens_placeOf 1 := ⟨tb_c4 102 rfl rfl, tb_c1 2 rfl rfl, ⟨by decide, by decide⟩, by decide +kernel⟩
theorem ci_Rs_place : CI m_Rs_place 0 := ⟨tb_c4 107 rfl rfl, tb_c1 1 rfl rfl, ⟨by decide, by decide⟩, by decide +kernel⟩
theorem ci_Rs_heap : CI m_Rs_heap 1 := ⟨tb_c4 111 rfl rfl, tb_c1 1 rfl rfl, ⟨by decide, by decide⟩, by decide +kernel⟩
theorem ci_Rs_isOf : CI m_Rs_isOf 2 := ⟨tb_c4 114 rfl rfl, tb_c1 1 rfl rfl, ⟨by decide, by decide⟩, by decide +kernel⟩
theorem ci_Rs_hole : CI m_Rs_hole 2 := ⟨tb_c4 118 rfl rfl, tb_c1 1 rfl rfl, ⟨by decide, by decide⟩, by decide +kernel⟩
theorem ci_House_inHole : CI m_House_inHole 2 := ⟨tb_c4 122 rfl rfl, tb_c1 5 rfl rfl, ⟨by decide, by decide⟩, by decide +kernel⟩
theorem ci_Rs_rat : CI m_Rs_rat 2 := ⟨tb_c4 126 rfl rfl, tb_c1 1 rfl rfl, ⟨by decide, by decide⟩, by decide +kernel⟩
theorem ci_Rs_worth : CI m_Rs_worth 1 := ⟨tb_c4 130 rfl rfl, tb_c1 1 rfl rfl, ⟨by decide, by decide⟩, by decide +kernel⟩
theorem ci_House_worthOf : CI m_House_worthOf 2 := ⟨tb_c4 134 rfl rfl, tb_c1 5 rfl rfl, ⟨by decide, by decide⟩, by decide +kernel⟩
theorem ci_House_allInHole : CI m_House_allInHole 1 := ⟨tb_c4 139 rfl rfl, tb_c1 5 rfl rfl, ⟨by decide, by decide⟩, by decide +kernel⟩
theorem ci_Rs_pure : CI m_Rs_pure 2 := ⟨tb_c4 144 rfl rfl, tb_c1 1 rfl rfl, ⟨by decide, by decide⟩, by decide +kernel⟩
theorem ci_Rs_commonDivisor : CI m_Rs_commonDivisor 2 := ⟨tb_c4 148 rfl rfl, tb_c1 1 rfl rfl, ⟨by decide, by decide⟩, by decide +kernel⟩
theorem ci_Rs_minutes : CI m_Rs_minutes 1 := ⟨tb_c4 153 rfl rfl, tb_c1 1 rfl rfl, ⟨by decide, by decide⟩, by decide +kernel⟩
theorem ci_Rs_remember : CI m_Rs_remember 0 := ⟨tb_c4 157 rfl rfl, tb_c1 1 rfl rfl, ⟨by decide, by decide⟩, by decide +kernel⟩
theorem ci_House_take : CI m_House_take 1 := ⟨tb_c4 161 rfl rfl, tb_c1 5 rfl rfl, ⟨by decide, by decide⟩, by decide +kernel⟩
theorem ci_Rat_take : CI m_Rat_take 1 := ⟨tb_c4 166 rfl rfl, tb_c1 6 rfl rfl, ⟨by decide, by decide⟩, by decide +kernel⟩
theorem ci_Mill_goOn : CI m_Mill_goOn 2 := ⟨tb_c4 171 rfl rfl, tb_c1 11 rfl rfl, ⟨by decide, by decide⟩, by decide +kernel⟩
theorem ci_Mill_quietMinutes : CI m_Mill_quietMinutes 2 := ⟨tb_c4 175 rfl rfl, tb_c1 11 rfl rfl, ⟨by decide, by decide⟩, by decide +kernel⟩
theorem ci_Mill_waits : CI m_Mill_waits 3 := ⟨tb_c4 179 rfl rfl, tb_c1 11 rfl rfl, ⟨by decide, by decide⟩, by decide +kernel⟩
theorem ci_House_allInHeap : CI m_House_allInHeap 0 := ⟨tb_c4 184 rfl rfl, tb_c1 5 rfl rfl, ⟨by decide, by decide⟩, by decide +kernel⟩
theorem ci_Mill_skip : CI m_Mill_skip 2 := ⟨tb_c4 188 rfl rfl, tb_c1 11 rfl rfl, ⟨by decide, by decide⟩, by decide +kernel⟩
theorem ci_Mill_goMinute : CI m_Mill_goMinute 1 := ⟨tb_c4 193 rfl rfl, tb_c1 11 rfl rfl, ⟨by decide, by decide⟩, by decide +kernel⟩
theorem ci_Mill_beAtHeap : CI m_Mill_beAtHeap 3 := ⟨tb_c4 197 rfl rfl, tb_c1 11 rfl rfl, ⟨by decide, by decide⟩, by decide +kernel⟩
theorem ci_Mill_nibble : CI m_Mill_nibble 2 := ⟨tb_c4 201 rfl rfl, tb_c1 11 rfl rfl, ⟨by decide, by decide⟩, by decide +kernel⟩
theorem ci_Mill_load : CI m_Mill_load 3 := ⟨tb_c4 205 rfl rfl, tb_c1 11 rfl rfl, ⟨by decide, by decide⟩, by decide +kernel⟩
theorem ci_Mill_know : CI m_Mill_know 3 := ⟨tb_c4 209 rfl rfl, tb_c1 11 rfl rfl, ⟨by decide, by decide⟩, by decide +kernel⟩
theorem ci_Laws_valueOf : CI m_Laws_valueOf 2 := ⟨tb_c4 213 rfl rfl, tb_c1 9 rfl rfl, ⟨by decide, by decide⟩, by decide +kernel⟩
theorem ci_Laws_join : CI m_Laws_join 3 := ⟨tb_c4 218 rfl rfl, tb_c1 9 rfl rfl, ⟨by decide, by decide⟩, by decide +kernel⟩
theorem ci_Mill_lot : CI m_Mill_lot 3 := ⟨tb_c4 221 rfl rfl, tb_c1 11 rfl rfl, ⟨by decide, by decide⟩, by decide +kernel⟩
theorem ci_Mill_stir : CI m_Mill_stir 2 := ⟨tb_c4 224 rfl rfl, tb_c1 11 rfl rfl, ⟨by decide, by decide⟩, by decide +kernel⟩
theorem ci_Mill_walk : CI m_Mill_walk 2 := ⟨tb_c4 229 rfl rfl, tb_c1 11 rfl rfl, ⟨by decide, by decide⟩, by decide +kernel⟩
theorem ci_Rs_pour : CI m_Rs_pour 2 := ⟨tb_c4 233 rfl rfl, tb_c1 1 rfl rfl, ⟨by decide, by decide⟩, by decide +kernel⟩
theorem ci_Rs_swap : CI m_Rs_swap 2 := ⟨tb_c4 237 rfl rfl, tb_c1 1 rfl rfl, ⟨by decide, by decide⟩, by decide +kernel⟩
theorem ci_House_exchange : CI m_House_exchange 2 := ⟨tb_c5 1 rfl rfl, tb_c1 5 rfl rfl, ⟨by decide, by decide⟩, by decide +kernel⟩
theorem ci_Rs_teach : CI m_Rs_teach 2 := ⟨tb_c5 5 rfl rfl, tb_c1 1 rfl rfl, ⟨by decide, by decide⟩, by decide +kernel⟩
theorem ci_Rs_give : CI m_Rs_give 3 := ⟨tb_c5 9 rfl rfl, tb_c1 1 rfl rfl, ⟨by decide, by decide⟩, by decide +kernel⟩
theorem ci_Rs_send : CI m_Rs_send 2 := ⟨tb_c5 13 rfl rfl, tb_c1 1 rfl rfl, ⟨by decide, by decide⟩, by decide +kernel⟩
theorem ci_House_sendHome : CI m_House_sendHome 1 := ⟨tb_c5 17 rfl rfl, tb_c1 5 rfl rfl, ⟨by decide, by decide⟩, by decide +kernel⟩
theorem ci_House_callBack : CI m_House_callBack 1 := ⟨tb_c5 21 rfl rfl, tb_c1 5 rfl rfl, ⟨by decide, by decide⟩, by decide +kernel⟩
theorem ci_Rs_cat : CI m_Rs_cat 1 := ⟨tb_c5 25 rfl rfl, tb_c1 1 rfl rfl, ⟨by decide, by decide⟩, by decide +kernel⟩
theorem ci_Rs_sell : CI m_Rs_sell 1 := ⟨tb_c5 29 rfl rfl, tb_c1 1 rfl rfl, ⟨by decide, by decide⟩, by decide +kernel⟩
theorem ci_House_hasFor : CI m_House_hasFor 2 := ⟨tb_c5 33 rfl rfl, tb_c1 5 rfl rfl, ⟨by decide, by decide⟩, by decide +kernel⟩
theorem ci_House_handOver : CI m_House_handOver 2 := ⟨tb_c5 38 rfl rfl, tb_c1 5 rfl rfl, ⟨by decide, by decide⟩, by decide +kernel⟩
theorem ci_Rs_undo : CI m_Rs_undo 0 := ⟨tb_c5 43 rfl rfl, tb_c1 1 rfl rfl, ⟨by decide, by decide⟩, by decide +kernel⟩
theorem ci_Rs_isClean : CI m_Rs_isClean 0 := ⟨tb_c5 47 rfl rfl, tb_c1 1 rfl rfl, ⟨by decide, by decide⟩, by decide +kernel⟩
theorem ci_House_isSorted : CI m_House_isSorted 1 := ⟨tb_c5 51 rfl rfl, tb_c1 5 rfl rfl, ⟨by decide, by decide⟩, by decide +kernel⟩
theorem ci_House_ratsThatAre : CI m_House_ratsThatAre 2 := ⟨tb_c5 55 rfl rfl, tb_c1 5 rfl rfl, ⟨by decide, by decide⟩, by decide +kernel⟩
theorem ci_House_isSortedFor : CI m_House_isSortedFor 2 := ⟨tb_c5 59 rfl rfl, tb_c1 5 rfl rfl, ⟨by decide, by decide⟩, by decide +kernel⟩
theorem ci_Rs_clean : CI m_Rs_clean 0 := ⟨tb_c5 63 rfl rfl, tb_c1 1 rfl rfl, ⟨by decide, by decide⟩, by decide +kernel⟩
theorem ci_Planner_cleanBy : CI m_Planner_cleanBy 3 := ⟨tb_c5 67 rfl rfl, tb_c1 4 rfl rfl, ⟨by decide, by decide⟩, by decide +kernel⟩
theorem ci_Rs_then : CI m_Rs_then 2 := ⟨tb_c5 74 rfl rfl, tb_c1 1 rfl rfl, ⟨by decide, by decide⟩, by decide +kernel⟩
theorem ci_Rs_isMinutes : CI m_Rs_isMinutes 1 := ⟨tb_c5 77 rfl rfl, tb_c1 1 rfl rfl, ⟨by decide, by decide⟩, by decide +kernel⟩
theorem ci_Planner_ahead : CI m_Planner_ahead 3 := ⟨tb_c5 81 rfl rfl, tb_c1 4 rfl rfl, ⟨by decide, by decide⟩, by decide +kernel⟩
theorem ci_House_allWorth : CI m_House_allWorth 1 := ⟨tb_c5 86 rfl rfl, tb_c1 5 rfl rfl, ⟨by decide, by decide⟩, by decide +kernel⟩
theorem ci_House_allInHoles : CI m_House_allInHoles 0 := ⟨tb_c5 92 rfl rfl, tb_c1 5 rfl rfl, ⟨by decide, by decide⟩, by decide +kernel⟩
theorem ci_House_misplaced : CI m_House_misplaced 1 := ⟨tb_c5 96 rfl rfl, tb_c1 5 rfl rfl, ⟨by decide, by decide⟩, by decide +kernel⟩
theorem ci_Rs_lies : CI m_Rs_lies 3 := ⟨tb_c5 100 rfl rfl, tb_c1 1 rfl rfl, ⟨by decide, by decide⟩, by decide +kernel⟩
theorem ci_Rs_hire : CI m_Rs_hire 2 := ⟨tb_c5 104 rfl rfl, tb_c1 1 rfl rfl, ⟨by decide, by decide⟩, by decide +kernel⟩
theorem ci_Planner_seekHired : CI m_Planner_seekHired 3 := ⟨tb_c5 108 rfl rfl, tb_c1 4 rfl rfl, ⟨by decide, by decide⟩, by decide +kernel⟩
theorem ci_Planner_feesOf : CI m_Planner_feesOf 2 := ⟨tb_c5 111 rfl rfl, tb_c1 4 rfl rfl, ⟨by decide, by decide⟩, by decide +kernel⟩
theorem ci_Planner_isCheaper : CI m_Planner_isCheaper 2 := ⟨tb_c5 115 rfl rfl, tb_c1 4 rfl rfl, ⟨by decide, by decide⟩, by decide +kernel⟩
theorem ci_Int_bitCount : CI m_Int_bitCount 1 := ⟨tb_c5 118 rfl rfl, tb_c1 20 rfl rfl, ⟨by decide, by decide⟩, by decide +kernel⟩
theorem ci_Planner_keepOnly : CI m_Planner_keepOnly 2 := ⟨tb_c5 125 rfl rfl, tb_c1 4 rfl rfl, ⟨by decide, by decide⟩, by decide +kernel⟩
theorem ci_Rs_taught : CI m_Rs_taught 2 := ⟨tb_c5 132 rfl rfl, tb_c1 1 rfl rfl, ⟨by decide, by decide⟩, by decide +kernel⟩
theorem ci_Rs_canBeTaught : CI m_Rs_canBeTaught 2 := ⟨tb_c5 136 rfl rfl, tb_c1 1 rfl rfl, ⟨by decide, by decide⟩, by decide +kernel⟩
theorem ci_Planner_seekWay : CI m_Planner_seekWay 4 := ⟨tb_c5 141 rfl rfl, tb_c1 4 rfl rfl, ⟨by decide, by decide⟩, by decide +kernel⟩
theorem ci_Planner_teachWay : CI m_Planner_teachWay 3 := ⟨tb_c5 145 rfl rfl, tb_c1 4 rfl rfl, ⟨by decide, by decide⟩, by decide +kernel⟩
theorem ci_Rs_taughtAt : CI m_Rs_taughtAt 3 := ⟨tb_c5 150 rfl rfl, tb_c1 1 rfl rfl, ⟨by decide, by decide⟩, by decide +kernel⟩
theorem ci_Planner_grainOf : CI m_Planner_grainOf 2 := ⟨tb_c5 154 rfl rfl, tb_c1 4 rfl rfl, ⟨by decide, by decide⟩, by decide +kernel⟩
theorem ci_Rs_bestSwap : CI m_Rs_bestSwap 1 := ⟨tb_c5 158 rfl rfl, tb_c1 1 rfl rfl, ⟨by decide, by decide⟩, by decide +kernel⟩
theorem ci_Planner_seekSwap : CI m_Planner_seekSwap 2 := ⟨tb_c5 162 rfl rfl, tb_c1 4 rfl rfl, ⟨by decide, by decide⟩, by decide +kernel⟩
theorem ci_Mill_exchangeFar : CI m_Mill_exchangeFar 2 := ⟨tb_c5 167 rfl rfl, tb_c1 11 rfl rfl, ⟨by decide, by decide⟩, by decide +kernel⟩
theorem ci_Rs_missed : CI m_Rs_missed 2 := ⟨tb_c5 171 rfl rfl, tb_c1 1 rfl rfl, ⟨by decide, by decide⟩, by decide +kernel⟩
theorem ci_Planner_seekMissed : CI m_Planner_seekMissed 3 := ⟨tb_c5 175 rfl rfl, tb_c1 4 rfl rfl, ⟨by decide, by decide⟩, by decide +kernel⟩
theorem ci_Rs_catAt : CI m_Rs_catAt 2 := ⟨tb_c5 179 rfl rfl, tb_c1 1 rfl rfl, ⟨by decide, by decide⟩, by decide +kernel⟩
theorem ci_Planner_seekCat : CI m_Planner_seekCat 3 := ⟨tb_c5 183 rfl rfl, tb_c1 4 rfl rfl, ⟨by decide, by decide⟩, by decide +kernel⟩
theorem ci_Rs_starves : CI m_Rs_starves 1 := ⟨tb_c5 187 rfl rfl, tb_c1 1 rfl rfl, ⟨by decide, by decide⟩, by decide +kernel⟩
theorem ci_Planner_starvesBy : CI m_Planner_starvesBy 3 := ⟨tb_c5 191 rfl rfl, tb_c1 4 rfl rfl, ⟨by decide, by decide⟩, by decide +kernel⟩
theorem ci_Rs_mean : CI m_Rs_mean 2 := ⟨tb_c5 195 rfl rfl, tb_c1 1 rfl rfl, ⟨by decide, by decide⟩, by decide +kernel⟩
theorem ci_Planner_misplacedOf : CI m_Planner_misplacedOf 4 := ⟨tb_c5 199 rfl rfl, tb_c1 4 rfl rfl, ⟨by decide, by decide⟩, by decide +kernel⟩
theorem ci_Rs_sales : CI m_Rs_sales 1 := ⟨tb_c5 204 rfl rfl, tb_c1 1 rfl rfl, ⟨by decide, by decide⟩, by decide +kernel⟩
theorem ci_Planner_seekSales : CI m_Planner_seekSales 2 := ⟨tb_c5 208 rfl rfl, tb_c1 4 rfl rfl, ⟨by decide, by decide⟩, by decide +kernel⟩
theorem ci_Rs_tell : CI m_Rs_tell 4 := ⟨tb_c5 213 rfl rfl, tb_c1 1 rfl rfl, ⟨by decide, by decide⟩, by decide +kernel⟩
theorem ci_Facts_note : CI m_Facts_note 4 := ⟨tb_c5 217 rfl rfl, tb_c1 7 rfl rfl, ⟨by decide, by decide⟩, by decide +kernel⟩
theorem ci_Rs_forget : CI m_Rs_forget 0 := ⟨tb_c5 221 rfl rfl, tb_c1 1 rfl rfl, ⟨by decide, by decide⟩, by decide +kernel⟩
theorem ci_Rs_jokes : CI m_Rs_jokes 2 := ⟨tb_c5 225 rfl rfl, tb_c1 1 rfl rfl, ⟨by decide, by decide⟩, by decide +kernel⟩
theorem ci_Facts_watch : CI m_Facts_watch 1 := ⟨tb_c5 229 rfl rfl, tb_c1 7 rfl rfl, ⟨by decide, by decide⟩, by decide +kernel⟩
theorem ci_Facts_seekJoke : CI m_Facts_seekJoke 3 := ⟨tb_c5 236 rfl rfl, tb_c1 7 rfl rfl, ⟨by decide, by decide⟩, by decide +kernel⟩
theorem ci_Facts_fits : CI m_Facts_fits 4 := ⟨tb_c6 0 rfl rfl, tb_c1 7 rfl rfl, ⟨by decide, by decide⟩, by decide +kernel⟩
theorem ci_Facts_seenIn : CI m_Facts_seenIn 3 := ⟨tb_c6 4 rfl rfl, tb_c1 7 rfl rfl, ⟨by decide, by decide⟩, by decide +kernel⟩
theorem ci_Rs_hold : CI m_Rs_hold 1 := ⟨tb_c6 8 rfl rfl, tb_c1 1 rfl rfl, ⟨by decide, by decide⟩, by decide +kernel⟩
theorem ci_Rs_restore : CI m_Rs_restore 1 := ⟨tb_c6 12 rfl rfl, tb_c1 1 rfl rfl, ⟨by decide, by decide⟩, by decide +kernel⟩
theorem ci_Rs_count : CI m_Rs_count 1 := ⟨tb_c6 16 rfl rfl, tb_c1 1 rfl rfl, ⟨by decide, by decide⟩, by decide +kernel⟩
theorem ci_House_allCarried : CI m_House_allCarried 1 := ⟨tb_c6 21 rfl rfl, tb_c1 5 rfl rfl, ⟨by decide, by decide⟩, by decide +kernel⟩
theorem ci_Mo_init : CI m_Mo_init 0 := ⟨tb_c6 26 rfl rfl, tb_c1 13 rfl rfl, ⟨by decide, by decide⟩, by decide +kernel⟩
theorem ci_Mo_plain : CI m_Mo_plain 1 := ⟨tb_c6 31 rfl rfl, tb_c1 13 rfl rfl, ⟨by decide, by decide⟩, by decide +kernel⟩
theorem ci_Mo_word : CI m_Mo_word 7 := ⟨tb_c6 34 rfl rfl, tb_c1 13 rfl rfl, ⟨by decide, by decide⟩, by decide +kernel⟩
theorem ci_Mo_appends : CI m_Mo_appends 2 := ⟨tb_c6 37 rfl rfl, tb_c1 13 rfl rfl, ⟨by decide, by decide⟩, by decide +kernel⟩
theorem ci_Mo_begins : CI m_Mo_begins 0 := ⟨tb_c6 42 rfl rfl, tb_c1 13 rfl rfl, ⟨by decide, by decide⟩, by decide +kernel⟩
theorem ci_Mo_plainly : CI m_Mo_plainly 0 := ⟨tb_c6 46 rfl rfl, tb_c1 13 rfl rfl, ⟨by decide, by decide⟩, by decide +kernel⟩
theorem ci_Mo_keepsRow : CI m_Mo_keepsRow 0 := ⟨tb_c6 50 rfl rfl, tb_c1 13 rfl rfl, ⟨by decide, by decide⟩, by decide +kernel⟩
theorem ci_Mo_feed : CI m_Mo_feed 5 := ⟨tb_c7 40 rfl rfl, tb_c1 13 rfl rfl, ⟨by decide, by decide⟩, by decide +kernel⟩
theorem ci_Mo_put : CI m_Mo_put 1 := ⟨tb_c7 44 rfl rfl, tb_c1 13 rfl rfl, ⟨by decide, by decide⟩, by decide +kernel⟩
theorem ci_Mo_back : CI m_Mo_back 1 := ⟨tb_c7 48 rfl rfl, tb_c1 13 rfl rfl, ⟨by decide, by decide⟩, by decide +kernel⟩
theorem ci_Mo_read : CI m_Mo_read 0 := ⟨tb_c7 52 rfl rfl, tb_c1 13 rfl rfl, ⟨by decide, by decide⟩, by decide +kernel⟩
theorem ci_Mo_cut : CI m_Mo_cut 0 := ⟨tb_c7 56 rfl rfl, tb_c1 13 rfl rfl, ⟨by decide, by decide⟩, by decide +kernel⟩
theorem ci_Mo_byteAt : CI m_Mo_byteAt 1 := ⟨tb_c7 60 rfl rfl, tb_c1 13 rfl rfl, ⟨by decide, by decide⟩, by decide +kernel⟩
theorem ci_Mo_token : CI m_Mo_token 4 := ⟨tb_c7 64 rfl rfl, tb_c1 13 rfl rfl, ⟨by decide, by decide⟩, by decide +kernel⟩
theorem ci_Mo_isLetter : CI m_Mo_isLetter 1 := ⟨tb_c7 67 rfl rfl, tb_c1 13 rfl rfl, ⟨by decide, by decide⟩, by decide +kernel⟩
theorem ci_Mo_isDigit : CI m_Mo_isDigit 1 := ⟨tb_c7 70 rfl rfl, tb_c1 13 rfl rfl, ⟨by decide, by decide⟩, by decide +kernel⟩
theorem ci_Mo_sign : CI m_Mo_sign 3 := ⟨tb_c7 74 rfl rfl, tb_c1 13 rfl rfl, ⟨by decide, by decide⟩, by decide +kernel⟩
theorem ci_Mo_is : CI m_Mo_is 1 := ⟨tb_c7 78 rfl rfl, tb_c1 13 rfl rfl, ⟨by decide, by decide⟩, by decide +kernel⟩
theorem ci_Mo_tellOne : CI m_Mo_tellOne 0 := ⟨tb_c7 82 rfl rfl, tb_c1 13 rfl rfl, ⟨by decide, by decide⟩, by decide +kernel⟩
theorem ci_Mo_roomFor : CI m_Mo_roomFor 2 := ⟨tb_c7 86 rfl rfl, tb_c1 13 rfl rfl, ⟨by decide, by decide⟩, by decide +kernel⟩
theorem ci_Mo_fail : CI m_Mo_fail 1 := ⟨tb_c7 90 rfl rfl, tb_c1 13 rfl rfl, ⟨by decide, by decide⟩, by decide +kernel⟩
theorem ci_Mo_goesOn : CI m_Mo_goesOn 0 := ⟨tb_c7 94 rfl rfl, tb_c1 13 rfl rfl, ⟨by decide, by decide⟩, by decide +kernel⟩
theorem ci_Mo_tellGrain : CI m_Mo_tellGrain 0 := ⟨tb_c7 98 rfl rfl, tb_c1 13 rfl rfl, ⟨by decide, by decide⟩, by decide +kernel⟩
theorem ci_Mo_named : CI m_Mo_named 0 := ⟨tb_c7 102 rfl rfl, tb_c1 13 rfl rfl, ⟨by decide, by decide⟩, by decide +kernel⟩
theorem ci_Mo_must : CI m_Mo_must 1 := ⟨tb_c7 106 rfl rfl, tb_c1 13 rfl rfl, ⟨by decide, by decide⟩, by decide +kernel⟩
theorem ci_Mo_wrong : CI m_Mo_wrong 2 := ⟨tb_c7 110 rfl rfl, tb_c1 13 rfl rfl, ⟨by decide, by decide⟩, by decide +kernel⟩
theorem ci_Mo_bounded : CI m_Mo_bounded 2 := ⟨tb_c7 114 rfl rfl, tb_c1 13 rfl rfl, ⟨by decide, by decide⟩, by decide +kernel⟩
theorem ci_Mo_notes : CI m_Mo_notes 3 := ⟨tb_c7 118 rfl rfl, tb_c1 13 rfl rfl, ⟨by decide, by decide⟩, by decide +kernel⟩
theorem ci_Mo_tellHole : CI m_Mo_tellHole 0 := ⟨tb_c7 122 rfl rfl, tb_c1 13 rfl rfl, ⟨by decide, by decide⟩, by decide +kernel⟩
theorem ci_Mo_known : CI m_Mo_known 1 := ⟨tb_c7 126 rfl rfl, tb_c1 13 rfl rfl, ⟨by decide, by decide⟩, by decide +kernel⟩
theorem ci_Mo_tellRat : CI m_Mo_tellRat 0 := ⟨tb_c7 130 rfl rfl, tb_c1 13 rfl rfl, ⟨by decide, by decide⟩, by decide +kernel⟩
theorem ci_Mo_tellWants : CI m_Mo_tellWants 0 := ⟨tb_c7 134 rfl rfl, tb_c1 13 rfl rfl, ⟨by decide, by decide⟩, by decide +kernel⟩
theorem ci_Mo_tellLaw : CI m_Mo_tellLaw 1 := ⟨tb_c7 138 rfl rfl, tb_c1 13 rfl rfl, ⟨by decide, by decide⟩, by decide +kernel⟩
theorem ci_Mo_expression : CI m_Mo_expression 0 := ⟨tb_c7 142 rfl rfl, tb_c1 13 rfl rfl, ⟨by decide, by decide⟩, by decide +kernel⟩
theorem ci_Mo_unit : CI m_Mo_unit 0 := ⟨tb_c7 146 rfl rfl, tb_c1 13 rfl rfl, ⟨by decide, by decide⟩, by decide +kernel⟩
theorem ci_Mo_emit : CI m_Mo_emit 2 := ⟨tb_c7 150 rfl rfl, tb_c1 13 rfl rfl, ⟨by decide, by decide⟩, by decide +kernel⟩
theorem ci_Mo_comesOut : CI m_Mo_comesOut 1 := ⟨tb_c7 154 rfl rfl, tb_c1 13 rfl rfl, ⟨by decide, by decide⟩, by decide +kernel⟩
theorem ci_Mo_term : CI m_Mo_term 0 := ⟨tb_c7 158 rfl rfl, tb_c1 13 rfl rfl, ⟨by decide, by decide⟩, by decide +kernel⟩
theorem ci_Mo_place : CI m_Mo_place 0 := ⟨tb_c7 162 rfl rfl, tb_c1 13 rfl rfl, ⟨by decide, by decide⟩, by decide +kernel⟩
theorem ci_Mo_heap : CI m_Mo_heap 1 := ⟨tb_c7 166 rfl rfl, tb_c1 13 rfl rfl, ⟨by decide, by decide⟩, by decide +kernel⟩
theorem ci_Mo_isGrain : CI m_Mo_isGrain 1 := ⟨tb_c7 170 rfl rfl, tb_c1 13 rfl rfl, ⟨by decide, by decide⟩, by decide +kernel⟩
theorem ci_Mo_in : CI m_Mo_in 3 := ⟨tb_c7 173 rfl rfl, tb_c1 13 rfl rfl, ⟨by decide, by decide⟩, by decide +kernel⟩
theorem ci_Mo_hole : CI m_Mo_hole 2 := ⟨tb_c7 177 rfl rfl, tb_c1 13 rfl rfl, ⟨by decide, by decide⟩, by decide +kernel⟩
theorem ci_Mo_isHole : CI m_Mo_isHole 1 := ⟨tb_c7 181 rfl rfl, tb_c1 13 rfl rfl, ⟨by decide, by decide⟩, by decide +kernel⟩
theorem ci_Mo_rat : CI m_Mo_rat 2 := ⟨tb_c7 185 rfl rfl, tb_c1 13 rfl rfl, ⟨by decide, by decide⟩, by decide +kernel⟩
theorem ci_Mo_isRat : CI m_Mo_isRat 1 := ⟨tb_c7 189 rfl rfl, tb_c1 13 rfl rfl, ⟨by decide, by decide⟩, by decide +kernel⟩
theorem ci_Mo_worth : CI m_Mo_worth 1 := ⟨tb_c7 193 rfl rfl, tb_c1 13 rfl rfl, ⟨by decide, by decide⟩, by decide +kernel⟩
theorem ci_Mo_copies : CI m_Mo_copies 0 := ⟨tb_c7 197 rfl rfl, tb_c1 13 rfl rfl, ⟨by decide, by decide⟩, by decide +kernel⟩
theorem ci_Mo_worthOf : CI m_Mo_worthOf 1 := ⟨tb_c7 201 rfl rfl, tb_c1 13 rfl rfl, ⟨by decide, by decide⟩, by decide +kernel⟩
theorem ci_Mo_pure : CI m_Mo_pure 2 := ⟨tb_c7 205 rfl rfl, tb_c1 13 rfl rfl, ⟨by decide, by decide⟩, by decide +kernel⟩
theorem ci_Mo_common : CI m_Mo_common 2 := ⟨tb_c7 208 rfl rfl, tb_c1 13 rfl rfl, ⟨by decide, by decide⟩, by decide +kernel⟩
theorem ci_Mo_minutes : CI m_Mo_minutes 1 := ⟨tb_c7 212 rfl rfl, tb_c1 13 rfl rfl, ⟨by decide, by decide⟩, by decide +kernel⟩
theorem ci_Mo_goes : CI m_Mo_goes 1 := ⟨tb_c7 216 rfl rfl, tb_c1 13 rfl rfl, ⟨by decide, by decide⟩, by decide +kernel⟩
theorem ci_Mo_minuteGoes : CI m_Mo_minuteGoes 0 := ⟨tb_c7 220 rfl rfl, tb_c1 13 rfl rfl, ⟨by decide, by decide⟩, by decide +kernel⟩
theorem ci_Mo_atHeap : CI m_Mo_atHeap 1 := ⟨tb_c7 224 rfl rfl, tb_c1 13 rfl rfl, ⟨by decide, by decide⟩, by decide +kernel⟩
theorem ci_Mo_nibbles : CI m_Mo_nibbles 1 := ⟨tb_c7 228 rfl rfl, tb_c1 13 rfl rfl, ⟨by decide, by decide⟩, by decide +kernel⟩
theorem ci_Mo_tells : CI m_Mo_tells 6 := ⟨tb_c7 232 rfl rfl, tb_c1 13 rfl rfl, ⟨by decide, by decide⟩, by decide +kernel⟩
theorem ci_Mo_termOf : CI m_Mo_termOf 2 := ⟨tb_c7 236 rfl rfl, tb_c1 13 rfl rfl, ⟨by decide, by decide⟩, by decide +kernel⟩
theorem ci_Mo_held : CI m_Mo_held 3 := ⟨tb_c7 239 rfl rfl, tb_c1 13 rfl rfl, ⟨by decide, by decide⟩, by decide +kernel⟩
theorem ci_Mo_lotOf : CI m_Mo_lotOf 1 := ⟨tb_c8 3 rfl rfl, tb_c1 13 rfl rfl, ⟨by decide, by decide⟩, by decide +kernel⟩
theorem ci_Mo_mixed : CI m_Mo_mixed 2 := ⟨tb_c8 6 rfl rfl, tb_c1 13 rfl rfl, ⟨by decide, by decide⟩, by decide +kernel⟩
theorem ci_Mo_drops : CI m_Mo_drops 1 := ⟨tb_c8 11 rfl rfl, tb_c1 13 rfl rfl, ⟨by decide, by decide⟩, by decide +kernel⟩
theorem ci_Mo_keeps : CI m_Mo_keeps 0 := ⟨tb_c8 15 rfl rfl, tb_c1 13 rfl rfl, ⟨by decide, by decide⟩, by decide +kernel⟩
theorem ci_Mo_pour : CI m_Mo_pour 2 := ⟨tb_c8 19 rfl rfl, tb_c1 13 rfl rfl, ⟨by decide, by decide⟩, by decide +kernel⟩
theorem ci_Mo_swap : CI m_Mo_swap 2 := ⟨tb_c8 23 rfl rfl, tb_c1 13 rfl rfl, ⟨by decide, by decide⟩, by decide +kernel⟩
theorem ci_Mo_swaps : CI m_Mo_swaps 2 := ⟨tb_c8 27 rfl rfl, tb_c1 13 rfl rfl, ⟨by decide, by decide⟩, by decide +kernel⟩
theorem ci_Mo_teach : CI m_Mo_teach 2 := ⟨tb_c8 31 rfl rfl, tb_c1 13 rfl rfl, ⟨by decide, by decide⟩, by decide +kernel⟩
theorem ci_Mo_give : CI m_Mo_give 3 := ⟨tb_c8 35 rfl rfl, tb_c1 13 rfl rfl, ⟨by decide, by decide⟩, by decide +kernel⟩
theorem ci_Mo_send : CI m_Mo_send 2 := ⟨tb_c8 39 rfl rfl, tb_c1 13 rfl rfl, ⟨by decide, by decide⟩, by decide +kernel⟩
theorem ci_Mo_goesHome : CI m_Mo_goesHome 1 := ⟨tb_c8 43 rfl rfl, tb_c1 13 rfl rfl, ⟨by decide, by decide⟩, by decide +kernel⟩
theorem ci_Mo_cat : CI m_Mo_cat 1 := ⟨tb_c8 47 rfl rfl, tb_c1 13 rfl rfl, ⟨by decide, by decide⟩, by decide +kernel⟩
theorem ci_Mo_sell : CI m_Mo_sell 1 := ⟨tb_c8 51 rfl rfl, tb_c1 13 rfl rfl, ⟨by decide, by decide⟩, by decide +kernel⟩
theorem ci_Mo_isEnough : CI m_Mo_isEnough 1 := ⟨tb_c8 55 rfl rfl, tb_c1 13 rfl rfl, ⟨by decide, by decide⟩, by decide +kernel⟩
theorem ci_Mo_wantedBy : CI m_Mo_wantedBy 2 := ⟨tb_c8 59 rfl rfl, tb_c1 13 rfl rfl, ⟨by decide, by decide⟩, by decide +kernel⟩
theorem ci_Mo_sales : CI m_Mo_sales 1 := ⟨tb_c8 63 rfl rfl, tb_c1 13 rfl rfl, ⟨by decide, by decide⟩, by decide +kernel⟩
theorem ci_Mo_paysOf : CI m_Mo_paysOf 1 := ⟨tb_c8 67 rfl rfl, tb_c1 13 rfl rfl, ⟨by decide, by decide⟩, by decide +kernel⟩
theorem ci_Mo_undo : CI m_Mo_undo 0 := ⟨tb_c8 71 rfl rfl, tb_c1 13 rfl rfl, ⟨by decide, by decide⟩, by decide +kernel⟩
theorem ci_Mo_isClean : CI m_Mo_isClean 0 := ⟨tb_c8 75 rfl rfl, tb_c1 13 rfl rfl, ⟨by decide, by decide⟩, by decide +kernel⟩
theorem ci_Mo_isCleanNow : CI m_Mo_isCleanNow 1 := ⟨tb_c8 79 rfl rfl, tb_c1 13 rfl rfl, ⟨by decide, by decide⟩, by decide +kernel⟩
theorem ci_Mo_clean : CI m_Mo_clean 0 := ⟨tb_c8 83 rfl rfl, tb_c1 13 rfl rfl, ⟨by decide, by decide⟩, by decide +kernel⟩
theorem ci_Mo_cleanBy : CI m_Mo_cleanBy 0 := ⟨tb_c8 87 rfl rfl, tb_c1 13 rfl rfl, ⟨by decide, by decide⟩, by decide +kernel⟩
theorem ci_Mo_then : CI m_Mo_then 2 := ⟨tb_c8 91 rfl rfl, tb_c1 13 rfl rfl, ⟨by decide, by decide⟩, by decide +kernel⟩
theorem ci_Mo_isLong : CI m_Mo_isLong 1 := ⟨tb_c8 94 rfl rfl, tb_c1 13 rfl rfl, ⟨by decide, by decide⟩, by decide +kernel⟩
theorem ci_Mo_worthAll : CI m_Mo_worthAll 0 := ⟨tb_c8 98 rfl rfl, tb_c1 13 rfl rfl, ⟨by decide, by decide⟩, by decide +kernel⟩
theorem ci_Mo_inHeap : CI m_Mo_inHeap 0 := ⟨tb_c8 102 rfl rfl, tb_c1 13 rfl rfl, ⟨by decide, by decide⟩, by decide +kernel⟩
theorem ci_Mo_inHoles : CI m_Mo_inHoles 1 := ⟨tb_c8 106 rfl rfl, tb_c1 13 rfl rfl, ⟨by decide, by decide⟩, by decide +kernel⟩
theorem ci_Mo_lies : CI m_Mo_lies 3 := ⟨tb_c8 110 rfl rfl, tb_c1 13 rfl rfl, ⟨by decide, by decide⟩, by decide +kernel⟩
theorem ci_Mo_hire : CI m_Mo_hire 2 := ⟨tb_c8 114 rfl rfl, tb_c1 13 rfl rfl, ⟨by decide, by decide⟩, by decide +kernel⟩
theorem ci_Mo_feesOf : CI m_Mo_feesOf 1 := ⟨tb_c8 118 rfl rfl, tb_c1 13 rfl rfl, ⟨by decide, by decide⟩, by decide +kernel⟩
theorem ci_Mo_bits : CI m_Mo_bits 1 := ⟨tb_c8 121 rfl rfl, tb_c1 13 rfl rfl, ⟨by decide, by decide⟩, by decide +kernel⟩
theorem ci_Mo_hires : CI m_Mo_hires 1 := ⟨tb_c8 125 rfl rfl, tb_c1 13 rfl rfl, ⟨by decide, by decide⟩, by decide +kernel⟩
theorem ci_Mo_taught : CI m_Mo_taught 2 := ⟨tb_c8 129 rfl rfl, tb_c1 13 rfl rfl, ⟨by decide, by decide⟩, by decide +kernel⟩
theorem ci_Mo_isSet : CI m_Mo_isSet 2 := ⟨tb_c8 133 rfl rfl, tb_c1 13 rfl rfl, ⟨by decide, by decide⟩, by decide +kernel⟩
theorem ci_Mo_teaches : CI m_Mo_teaches 2 := ⟨tb_c8 137 rfl rfl, tb_c1 13 rfl rfl, ⟨by decide, by decide⟩, by decide +kernel⟩
theorem ci_Mo_taughtAt : CI m_Mo_taughtAt 3 := ⟨tb_c8 141 rfl rfl, tb_c1 13 rfl rfl, ⟨by decide, by decide⟩, by decide +kernel⟩
theorem ci_Mo_bestSwap : CI m_Mo_bestSwap 1 := ⟨tb_c8 145 rfl rfl, tb_c1 13 rfl rfl, ⟨by decide, by decide⟩, by decide +kernel⟩
theorem ci_Mo_missed : CI m_Mo_missed 2 := ⟨tb_c8 149 rfl rfl, tb_c1 13 rfl rfl, ⟨by decide, by decide⟩, by decide +kernel⟩
theorem ci_Mo_catAt : CI m_Mo_catAt 2 := ⟨tb_c8 153 rfl rfl, tb_c1 13 rfl rfl, ⟨by decide, by decide⟩, by decide +kernel⟩
theorem ci_Mo_starves : CI m_Mo_starves 1 := ⟨tb_c8 157 rfl rfl, tb_c1 13 rfl rfl, ⟨by decide, by decide⟩, by decide +kernel⟩
theorem ci_Mo_mean : CI m_Mo_mean 2 := ⟨tb_c8 161 rfl rfl, tb_c1 13 rfl rfl, ⟨by decide, by decide⟩, by decide +kernel⟩
theorem ci_Mo_tell : CI m_Mo_tell 4 := ⟨tb_c8 165 rfl rfl, tb_c1 13 rfl rfl, ⟨by decide, by decide⟩, by decide +kernel⟩
theorem ci_Mo_forget : CI m_Mo_forget 0 := ⟨tb_c8 169 rfl rfl, tb_c1 13 rfl rfl, ⟨by decide, by decide⟩, by decide +kernel⟩
theorem ci_Mo_jokes : CI m_Mo_jokes 2 := ⟨tb_c8 173 rfl rfl, tb_c1 13 rfl rfl, ⟨by decide, by decide⟩, by decide +kernel⟩
theorem ci_Mo_isSo : CI m_Mo_isSo 4 := ⟨tb_c8 177 rfl rfl, tb_c1 13 rfl rfl, ⟨by decide, by decide⟩, by decide +kernel⟩
theorem ci_Mo_hold : CI m_Mo_hold 1 := ⟨tb_c8 181 rfl rfl, tb_c1 13 rfl rfl, ⟨by decide, by decide⟩, by decide +kernel⟩
theorem ci_Mo_restore : CI m_Mo_restore 1 := ⟨tb_c8 185 rfl rfl, tb_c1 13 rfl rfl, ⟨by decide, by decide⟩, by decide +kernel⟩
theorem ci_Mo_count : CI m_Mo_count 1 := ⟨tb_c8 189 rfl rfl, tb_c1 13 rfl rfl, ⟨by decide, by decide⟩, by decide +kernel⟩
theorem cn_Rs_15 : CN "RatSorters" 15 m_Tokens_init 0 := ⟨ci_Tokens_init, Or.inr ⟨"RatSorters", by decide⟩, rfl, tb_c1 32 rfl rfl, rfl⟩
theorem cn_Rs_22 : CN "RatSorters" 22 m_Grammar_init 1 := ⟨ci_Grammar_init, Or.inl (tb_c1 58 rfl rfl), rfl, tb_c1 59 rfl rfl, rfl⟩
theorem cn_Rs_31 : CN "RatSorters" 31 m_Planner_init 0 := ⟨ci_Planner_init, Or.inr ⟨"RatSorters", by decide⟩, rfl, tb_c1 79 rfl rfl, rfl⟩
theorem cn_Rs_38 : CN "RatSorters" 38 m_Facts_init 0 := ⟨ci_Facts_init, Or.inr ⟨"RatSorters", by decide⟩, rfl, tb_c1 227 rfl rfl, rfl⟩
theorem cn_Rs_45 : CN "RatSorters" 45 m_House_init 0 := ⟨ci_House_init, Or.inl (tb_c2 19 rfl rfl), rfl, tb_c1 85 rfl rfl, rfl⟩
theorem cn_Rs_59 : CN "RatSorters" 59 m_Text_init 0 := ⟨ci_Text_init, Or.inr ⟨"RatSorters", by decide⟩, rfl, tb_c2 24 rfl rfl, rfl⟩
theorem cn_Rs_69 : CN "RatSorters" 69 m_Teller_init 2 := ⟨ci_Teller_init, Or.inl (tb_c2 161 rfl rfl), rfl, tb_c2 162 rfl rfl, rfl⟩
theorem cn_Rs_78 : CN "RatSorters" 78 m_Mill_init 1 := ⟨ci_Mill_init, Or.inl (tb_c2 193 rfl rfl), rfl, tb_c2 194 rfl rfl, rfl⟩
theorem cv_Rs_89 : CV "RatSorters" 89 m_Rs_startOver 0 := ⟨ci_Rs_startOver, tb_c2 216 rfl rfl, tb_c2 218 rfl rfl, tb_p1 0 (n := 17) rfl⟩
theorem cn_Planner_11 : CN "RatSorters$Planner" 11 m_House_init 0 := ⟨ci_House_init, Or.inl (tb_c1 84 rfl rfl), rfl, tb_c1 85 rfl rfl, rfl⟩
theorem cn_House_24 : CN "RatSorters$House" 24 m_Rat_init 0 := ⟨ci_Rat_init, Or.inr ⟨"RatSorters", by decide⟩, rfl, tb_c1 92 rfl rfl, rfl⟩
theorem cn_Facts_29 : CN "RatSorters$Facts" 29 m_House_init 0 := ⟨ci_House_init, Or.inl (tb_c1 231 rfl rfl), rfl, tb_c1 85 rfl rfl, rfl⟩
theorem cn_Text_44 : CN "RatSorters$Text" 44 m_Laws_init 0 := ⟨ci_Laws_init, Or.inr ⟨"RatSorters", by decide⟩, rfl, tb_c2 30 rfl rfl, rfl⟩
theorem cv_Rs_353 : CV "RatSorters" 353 m_Mill_use 1 := ⟨ci_Mill_use, tb_c2 220 rfl rfl, tb_c2 221 rfl rfl, tb_c2 222 rfl rfl⟩
theorem cv_Rs_356 : CV "RatSorters" 356 m_House_begin 1 := ⟨ci_House_begin, tb_c2 227 rfl rfl, tb_c2 228 rfl rfl, tb_c2 229 rfl rfl⟩
theorem cv_Rs_359 : CV "RatSorters" 359 m_Facts_clear 0 := ⟨ci_Facts_clear, tb_c2 235 rfl rfl, tb_c2 236 rfl rfl, tb_c2 237 rfl rfl⟩
theorem cv_Rs_243 : CV "RatSorters" 243 m_Planner_dropWays 0 := ⟨ci_Planner_dropWays, tb_c2 239 rfl rfl, tb_c3 0 rfl rfl, tb_c3 1 rfl rfl⟩
theorem cv_House_42 : CV "RatSorters$House" 42 m_Rat_begin 2 := ⟨ci_Rat_begin, tb_c2 231 rfl rfl, tb_c2 232 rfl rfl, tb_c2 233 rfl rfl⟩
theorem cv_Rs_95 : CV "RatSorters" 95 m_Rs_putFour 1 := ⟨ci_Rs_putFour, tb_c3 59 rfl rfl, tb_c3 61 rfl rfl, tb_p1 1 (n := 17) rfl⟩
theorem cv_Rs_99 : CV "RatSorters" 99 m_Tokens_scan 2 := ⟨ci_Tokens_scan, tb_c3 71 rfl rfl, tb_c3 72 rfl rfl, tb_c3 73 rfl rfl⟩
theorem cv_Rs_103 : CV "RatSorters" 103 m_Grammar_check 0 := ⟨ci_Grammar_check, tb_c3 217 rfl rfl, tb_c3 218 rfl rfl, tb_c3 219 rfl rfl⟩
theorem cv_Rs_110 : CV "RatSorters" 110 m_Teller_fill 1 := ⟨ci_Teller_fill, tb_c4 26 rfl rfl, tb_c4 27 rfl rfl, tb_c4 28 rfl rfl⟩
theorem cv_Rs_115 : CV "RatSorters" 115 m_Tokens_placeOf 1 := ⟨ci_Tokens_placeOf, tb_c4 99 rfl rfl, tb_c4 100 rfl rfl, tb_c4 101 rfl rfl⟩
theorem cs_Tokens_26 : CS "RatSorters$Tokens" 26 m_Tokens_behindBlanks 3 := ⟨ci_Tokens_behindBlanks, tb_c3 75 rfl rfl, tb_c3 76 rfl rfl⟩
theorem cs_Tokens_30 : CS "RatSorters$Tokens" 30 m_Tokens_endOf 3 := ⟨ci_Tokens_endOf, tb_c3 81 rfl rfl, tb_c3 82 rfl rfl⟩
theorem cv_Tokens_33 : CV "RatSorters$Tokens" 33 m_Tokens_add 3 := ⟨ci_Tokens_add, tb_c3 90 rfl rfl, tb_c3 92 rfl rfl, tb_p1 2 (n := 4) rfl⟩
theorem cs_Tokens_68 : CS "RatSorters$Tokens" 68 m_Tokens_isBlank 1 := ⟨ci_Tokens_isBlank, tb_c3 78 rfl rfl, tb_c3 79 rfl rfl⟩
theorem cs_Tokens_37 : CS "RatSorters$Tokens" 37 m_Tokens_isLetter 1 := ⟨ci_Tokens_isLetter, tb_c3 84 rfl rfl, tb_c3 85 rfl rfl⟩
theorem cs_Tokens_54 : CS "RatSorters$Tokens" 54 m_Tokens_isDigit 1 := ⟨ci_Tokens_isDigit, tb_c3 87 rfl rfl, tb_c3 88 rfl rfl⟩
theorem cs_Tokens_41 : CS "RatSorters$Tokens" 41 m_Tokens_wordOf 3 := ⟨ci_Tokens_wordOf, tb_c3 94 rfl rfl, tb_c3 95 rfl rfl⟩
theorem cs_Tokens_50 : CS "RatSorters$Tokens" 50 m_Tokens_nameOf 3 := ⟨ci_Tokens_nameOf, tb_c3 144 rfl rfl, tb_c3 145 rfl rfl⟩
theorem cs_Tokens_57 : CS "RatSorters$Tokens" 57 m_Tokens_numberOf 3 := ⟨ci_Tokens_numberOf, tb_c3 148 rfl rfl, tb_c3 149 rfl rfl⟩
theorem cv_Tokens_62 : CV "RatSorters$Tokens" 62 m_Str_indexOf 1 := ⟨ci_Str_indexOf, tb_c3 153 rfl rfl, tb_c3 154 rfl rfl, tb_c3 155 rfl rfl⟩
theorem cs_Tokens_71 : CS "RatSorters$Tokens" 71 m_Tokens_isWord 4 := ⟨ci_Tokens_isWord, tb_c3 97 rfl rfl, tb_c3 98 rfl rfl⟩
theorem cv_Tokens_77 : CV "RatSorters$Tokens" 77 m_Str_charAt 1 := ⟨ci_Str_charAt, tb_c3 101 rfl rfl, tb_c3 102 rfl rfl, tb_c3 103 rfl rfl⟩
theorem cv_Str_492 : CV "java/lang/String" 492 m_Str_isLatin1 0 := ⟨ci_Str_isLatin1, tb_c3 105 rfl rfl, tb_c3 106 rfl rfl, tb_c3 107 rfl rfl⟩
theorem cs_Str_495 : CS "java/lang/String" 495 m_Lat_charAt 2 := ⟨ci_Lat_charAt, tb_c3 111 rfl rfl, tb_c3 112 rfl rfl⟩
theorem cs_Lat_9 : CS "java/lang/StringLatin1" 9 m_Str_checkIndex 2 := ⟨ci_Str_checkIndex, tb_c3 114 rfl rfl, tb_c3 115 rfl rfl⟩
theorem cs_Str_1059 : CS "java/lang/String" 1059 m_Pre_checkIndex 3 := ⟨ci_Pre_checkIndex, tb_c3 119 rfl rfl, tb_c3 120 rfl rfl⟩
theorem cv_Str_633 : CV "java/lang/String" 633 m_Str_indexOf2 2 := ⟨ci_Str_indexOf2, tb_c3 157 rfl rfl, tb_c3 158 rfl rfl, tb_c3 159 rfl rfl⟩
theorem cv_Str_505 : CV "java/lang/String" 505 m_Str_length 0 := ⟨ci_Str_length, tb_c3 161 rfl rfl, tb_c3 162 rfl rfl, tb_c3 163 rfl rfl⟩
theorem cs_Str_637 : CS "java/lang/String" 637 m_Lat_indexOf 4 := ⟨ci_Lat_indexOf, tb_c3 169 rfl rfl, tb_c3 170 rfl rfl⟩
theorem cv_Str_335 : CV "java/lang/String" 335 m_Str_coder 0 := ⟨ci_Str_coder, tb_c3 165 rfl rfl, tb_c3 166 rfl rfl, tb_c3 167 rfl rfl⟩
theorem cs_Lat_88 : CS "java/lang/StringLatin1" 88 m_Lat_canEncode 1 := ⟨ci_Lat_canEncode, tb_c3 172 rfl rfl, tb_c3 173 rfl rfl⟩
theorem cs_Lat_95 : CS "java/lang/StringLatin1" 95 m_Lat_indexOfChar 4 := ⟨ci_Lat_indexOfChar, tb_c3 179 rfl rfl, tb_c3 180 rfl rfl⟩
theorem cv_Grammar_28 : CV "RatSorters$Grammar" 28 m_Grammar_kind 0 := ⟨ci_Grammar_kind, tb_c3 221 rfl rfl, tb_c3 223 rfl rfl, tb_p1 3 (n := 4) rfl⟩
theorem cv_Grammar_32 : CV "RatSorters$Grammar" 32 m_Grammar_checkTell 0 := ⟨ci_Grammar_checkTell, tb_c3 229 rfl rfl, tb_c3 231 rfl rfl, tb_p1 4 (n := 4) rfl⟩
theorem cv_Grammar_35 : CV "RatSorters$Grammar" 35 m_Tokens_kindOf 1 := ⟨ci_Tokens_kindOf, tb_c3 225 rfl rfl, tb_c3 226 rfl rfl, tb_c3 227 rfl rfl⟩
theorem cs_Grammar_43 : CS "RatSorters$Grammar" 43 m_Grammar_mostOf 1 := ⟨ci_Grammar_mostOf, tb_c3 233 rfl rfl, tb_c3 234 rfl rfl⟩
theorem cv_Grammar_39 : CV "RatSorters$Grammar" 39 m_Grammar_pass 2 := ⟨ci_Grammar_pass, tb_c3 236 rfl rfl, tb_c3 238 rfl rfl, tb_p1 5 (n := 4) rfl⟩
theorem cv_Grammar_48 : CV "RatSorters$Grammar" 48 m_Grammar_checkRow 1 := ⟨ci_Grammar_checkRow, tb_c4 1 rfl rfl, tb_c4 3 rfl rfl, tb_p1 6 (n := 4) rfl⟩
theorem cv_Grammar_56 : CV "RatSorters$Grammar" 56 m_Grammar_checkLaw 0 := ⟨ci_Grammar_checkLaw, tb_c4 13 rfl rfl, tb_c4 15 rfl rfl, tb_p1 8 (n := 4) rfl⟩
theorem cv_Grammar_59 : CV "RatSorters$Grammar" 59 m_Grammar_checkWants 0 := ⟨ci_Grammar_checkWants, tb_c4 21 rfl rfl, tb_c4 23 rfl rfl, tb_p1 10 (n := 4) rfl⟩
theorem cv_Grammar_64 : CV "RatSorters$Grammar" 64 m_Str_length 0 := ⟨ci_Str_length, tb_c4 5 rfl rfl, tb_c3 162 rfl rfl, tb_c3 163 rfl rfl⟩
theorem cv_Grammar_69 : CV "RatSorters$Grammar" 69 m_Str_charAt 1 := ⟨ci_Str_charAt, tb_c4 6 rfl rfl, tb_c3 102 rfl rfl, tb_c3 103 rfl rfl⟩
theorem cv_Grammar_73 : CV "RatSorters$Grammar" 73 m_Grammar_passKind 1 := ⟨ci_Grammar_passKind, tb_c4 7 rfl rfl, tb_c4 9 rfl rfl, tb_p1 7 (n := 4) rfl⟩
theorem cv_Grammar_77 : CV "RatSorters$Grammar" 77 m_Grammar_checkSum 1 := ⟨ci_Grammar_checkSum, tb_c4 17 rfl rfl, tb_c4 19 rfl rfl, tb_p1 9 (n := 4) rfl⟩
theorem cv_Teller_30 : CV "RatSorters$Teller" 30 m_Text_clear 0 := ⟨ci_Text_clear, tb_c4 30 rfl rfl, tb_c4 31 rfl rfl, tb_c4 32 rfl rfl⟩
theorem cv_Teller_50 : CV "RatSorters$Teller" 50 m_Teller_fillTell 0 := ⟨ci_Teller_fillTell, tb_c4 38 rfl rfl, tb_c4 40 rfl rfl, tb_p1 11 (n := 8) rfl⟩
theorem cv_Text_71 : CV "RatSorters$Text" 71 m_Laws_clear 0 := ⟨ci_Laws_clear, tb_c4 34 rfl rfl, tb_c4 35 rfl rfl, tb_c4 36 rfl rfl⟩
theorem cv_Teller_53 : CV "RatSorters$Teller" 53 m_Tokens_kindOf 1 := ⟨ci_Tokens_kindOf, tb_c4 42 rfl rfl, tb_c3 226 rfl rfl, tb_c3 227 rfl rfl⟩
theorem cv_Teller_57 : CV "RatSorters$Teller" 57 m_Teller_fillGrain 0 := ⟨ci_Teller_fillGrain, tb_c4 43 rfl rfl, tb_c4 45 rfl rfl, tb_p1 12 (n := 8) rfl⟩
theorem cv_Teller_60 : CV "RatSorters$Teller" 60 m_Teller_fillHole 0 := ⟨ci_Teller_fillHole, tb_c4 55 rfl rfl, tb_c4 57 rfl rfl, tb_p1 15 (n := 8) rfl⟩
theorem cv_Teller_63 : CV "RatSorters$Teller" 63 m_Teller_fillRat 0 := ⟨ci_Teller_fillRat, tb_c4 63 rfl rfl, tb_c4 65 rfl rfl, tb_p2 1 (n := 8) rfl⟩
theorem cv_Teller_66 : CV "RatSorters$Teller" 66 m_Teller_fillMerchant 0 := ⟨ci_Teller_fillMerchant, tb_c4 67 rfl rfl, tb_c4 69 rfl rfl, tb_p2 2 (n := 8) rfl⟩
theorem cv_Teller_69 : CV "RatSorters$Teller" 69 m_Teller_takeNumber 2 := ⟨ci_Teller_takeNumber, tb_c4 51 rfl rfl, tb_c4 53 rfl rfl, tb_p1 14 (n := 8) rfl⟩
theorem cv_Teller_86 : CV "RatSorters$Teller" 86 m_Laws_write 3 := ⟨ci_Laws_write, tb_c4 75 rfl rfl, tb_c4 76 rfl rfl, tb_c4 77 rfl rfl⟩
theorem cv_Teller_95 : CV "RatSorters$Teller" 95 m_Teller_takeNewName 2 := ⟨ci_Teller_takeNewName, tb_c4 47 rfl rfl, tb_c4 49 rfl rfl, tb_p1 13 (n := 8) rfl⟩
theorem cv_Teller_114 : CV "RatSorters$Teller" 114 m_Teller_takeName 1 := ⟨ci_Teller_takeName, tb_c4 59 rfl rfl, tb_c4 61 rfl rfl, tb_p2 0 (n := 8) rfl⟩
theorem cv_Teller_138 : CV "RatSorters$Teller" 138 m_Text_wantOf 2 := ⟨ci_Text_wantOf, tb_c4 71 rfl rfl, tb_c4 72 rfl rfl, tb_c4 73 rfl rfl⟩
theorem cv_Laws_46 : CV "RatSorters$Laws" 46 m_Laws_writeToken 2 := ⟨ci_Laws_writeToken, tb_c4 79 rfl rfl, tb_c4 81 rfl rfl, tb_p2 3 (n := 7) rfl⟩
theorem cv_Laws_50 : CV "RatSorters$Laws" 50 m_Laws_addStep 1 := ⟨ci_Laws_addStep, tb_c4 83 rfl rfl, tb_c4 85 rfl rfl, tb_p2 4 (n := 7) rfl⟩
theorem cv_Laws_54 : CV "RatSorters$Laws" 54 m_Laws_addWaiting 1 := ⟨ci_Laws_addWaiting, tb_c4 87 rfl rfl, tb_c4 89 rfl rfl, tb_p2 5 (n := 7) rfl⟩
theorem cv_Laws_57 : CV "RatSorters$Laws" 57 m_Laws_writeWaiting 1 := ⟨ci_Laws_writeWaiting, tb_c4 91 rfl rfl, tb_c4 93 rfl rfl, tb_p2 6 (n := 7) rfl⟩
theorem cs_Laws_66 : CS "RatSorters$Laws" 66 m_Laws_rankOf 1 := ⟨ci_Laws_rankOf, tb_c4 95 rfl rfl, tb_c4 96 rfl rfl⟩
theorem cs_Rs_122 : CS "RatSorters" 122 m_Rs_isOf 2 := ⟨ci_Rs_isOf, tb_c4 112 rfl rfl, tb_c4 113 rfl rfl⟩
theorem cv_Rs_133 : CV "RatSorters" 133 m_House_inHole 2 := ⟨ci_House_inHole, tb_c4 119 rfl rfl, tb_c4 120 rfl rfl, tb_c4 121 rfl rfl⟩
theorem cv_Rs_172 : CV "RatSorters" 172 m_House_worthOf 2 := ⟨ci_House_worthOf, tb_c4 131 rfl rfl, tb_c4 132 rfl rfl, tb_c4 133 rfl rfl⟩
theorem cv_House_74 : CV "RatSorters$House" 74 m_House_inHole 2 := ⟨ci_House_inHole, tb_c4 135 rfl rfl, tb_c4 120 rfl rfl, tb_c4 121 rfl rfl⟩
theorem cv_House_78 : CV "RatSorters$House" 78 m_House_allInHole 1 := ⟨ci_House_allInHole, tb_c4 136 rfl rfl, tb_c4 137 rfl rfl, tb_c4 138 rfl rfl⟩
theorem cv_Rs_176 : CV "RatSorters" 176 m_House_allInHole 1 := ⟨ci_House_allInHole, tb_c4 145 rfl rfl, tb_c4 137 rfl rfl, tb_c4 138 rfl rfl⟩
theorem cs_Rs_182 : CS "RatSorters" 182 m_Rs_commonDivisor 2 := ⟨ci_Rs_commonDivisor, tb_c4 146 rfl rfl, tb_c4 147 rfl rfl⟩
theorem cv_Rs_190 : CV "RatSorters" 190 m_Rs_remember 0 := ⟨ci_Rs_remember, tb_c4 154 rfl rfl, tb_c4 156 rfl rfl, tb_p2 7 (n := 17) rfl⟩
theorem cv_Rs_193 : CV "RatSorters" 193 m_Mill_goOn 2 := ⟨ci_Mill_goOn, tb_c4 168 rfl rfl, tb_c4 169 rfl rfl, tb_c4 170 rfl rfl⟩
theorem cv_Rs_239 : CV "RatSorters" 239 m_House_take 1 := ⟨ci_House_take, tb_c4 158 rfl rfl, tb_c4 159 rfl rfl, tb_c4 160 rfl rfl⟩
theorem cv_House_70 : CV "RatSorters$House" 70 m_Rat_take 1 := ⟨ci_Rat_take, tb_c4 163 rfl rfl, tb_c4 164 rfl rfl, tb_c4 165 rfl rfl⟩
theorem cv_Mill_38 : CV "RatSorters$Mill" 38 m_Mill_quietMinutes 2 := ⟨ci_Mill_quietMinutes, tb_c4 172 rfl rfl, tb_c4 174 rfl rfl, tb_p2 8 (n := 5) rfl⟩
theorem cv_Mill_42 : CV "RatSorters$Mill" 42 m_Mill_skip 2 := ⟨ci_Mill_skip, tb_c4 185 rfl rfl, tb_c4 187 rfl rfl, tb_p2 10 (n := 5) rfl⟩
theorem cv_Mill_46 : CV "RatSorters$Mill" 46 m_Mill_goMinute 1 := ⟨ci_Mill_goMinute, tb_c4 190 rfl rfl, tb_c4 191 rfl rfl, tb_c4 192 rfl rfl⟩
theorem cv_Mill_164 : CV "RatSorters$Mill" 164 m_Mill_waits 3 := ⟨ci_Mill_waits, tb_c4 176 rfl rfl, tb_c4 178 rfl rfl, tb_p2 9 (n := 5) rfl⟩
theorem cv_Mill_168 : CV "RatSorters$Mill" 168 m_House_allInHeap 0 := ⟨ci_House_allInHeap, tb_c4 181 rfl rfl, tb_c4 182 rfl rfl, tb_c4 183 rfl rfl⟩
theorem cv_Mill_75 : CV "RatSorters$Mill" 75 m_Mill_beAtHeap 3 := ⟨ci_Mill_beAtHeap, tb_c4 194 rfl rfl, tb_c4 196 rfl rfl, tb_p2 11 (n := 5) rfl⟩
theorem cv_Mill_79 : CV "RatSorters$Mill" 79 m_Mill_walk 2 := ⟨ci_Mill_walk, tb_c4 226 rfl rfl, tb_c4 228 rfl rfl, tb_p2 15 (n := 5) rfl⟩
theorem cv_Mill_104 : CV "RatSorters$Mill" 104 m_Mill_nibble 2 := ⟨ci_Mill_nibble, tb_c4 198 rfl rfl, tb_c4 200 rfl rfl, tb_p2 12 (n := 5) rfl⟩
theorem cv_Mill_110 : CV "RatSorters$Mill" 110 m_Mill_load 3 := ⟨ci_Mill_load, tb_c4 202 rfl rfl, tb_c4 204 rfl rfl, tb_p2 13 (n := 5) rfl⟩
theorem cv_Mill_122 : CV "RatSorters$Mill" 122 m_Mill_know 3 := ⟨ci_Mill_know, tb_c4 206 rfl rfl, tb_c4 208 rfl rfl, tb_p2 14 (n := 5) rfl⟩
theorem cv_Mill_129 : CV "RatSorters$Mill" 129 m_Laws_valueOf 2 := ⟨ci_Laws_valueOf, tb_c4 210 rfl rfl, tb_c4 211 rfl rfl, tb_c4 212 rfl rfl⟩
theorem cs_Mill_133 : CS "RatSorters$Mill" 133 m_Mill_lot 3 := ⟨ci_Mill_lot, tb_c4 219 rfl rfl, tb_c4 220 rfl rfl⟩
theorem cs_Laws_73 : CS "RatSorters$Laws" 73 m_Laws_join 3 := ⟨ci_Laws_join, tb_c4 216 rfl rfl, tb_c4 217 rfl rfl⟩
theorem cs_Mill_160 : CS "RatSorters$Mill" 160 m_Mill_stir 2 := ⟨ci_Mill_stir, tb_c4 222 rfl rfl, tb_c4 223 rfl rfl⟩
theorem cv_Rs_200 : CV "RatSorters" 200 m_House_exchange 2 := ⟨ci_House_exchange, tb_c4 238 rfl rfl, tb_c4 239 rfl rfl, tb_c5 0 rfl rfl⟩
theorem cv_Rs_210 : CV "RatSorters" 210 m_House_sendHome 1 := ⟨ci_House_sendHome, tb_c5 14 rfl rfl, tb_c5 15 rfl rfl, tb_c5 16 rfl rfl⟩
theorem cv_Rs_213 : CV "RatSorters" 213 m_House_callBack 1 := ⟨ci_House_callBack, tb_c5 18 rfl rfl, tb_c5 19 rfl rfl, tb_c5 20 rfl rfl⟩
theorem cv_Rs_225 : CV "RatSorters" 225 m_House_hasFor 2 := ⟨ci_House_hasFor, tb_c5 30 rfl rfl, tb_c5 31 rfl rfl, tb_c5 32 rfl rfl⟩
theorem cv_Rs_229 : CV "RatSorters" 229 m_House_handOver 2 := ⟨ci_House_handOver, tb_c5 35 rfl rfl, tb_c5 36 rfl rfl, tb_c5 37 rfl rfl⟩
theorem cv_House_123 : CV "RatSorters$House" 123 m_Text_wantOf 2 := ⟨ci_Text_wantOf, tb_c5 34 rfl rfl, tb_c4 72 rfl rfl, tb_c4 73 rfl rfl⟩
theorem cv_Rs_246 : CV "RatSorters" 246 m_House_isSorted 1 := ⟨ci_House_isSorted, tb_c5 48 rfl rfl, tb_c5 49 rfl rfl, tb_c5 50 rfl rfl⟩
theorem cv_House_105 : CV "RatSorters$House" 105 m_House_ratsThatAre 2 := ⟨ci_House_ratsThatAre, tb_c5 52 rfl rfl, tb_c5 53 rfl rfl, tb_c5 54 rfl rfl⟩
theorem cv_House_108 : CV "RatSorters$House" 108 m_House_isSortedFor 2 := ⟨ci_House_isSortedFor, tb_c5 56 rfl rfl, tb_c5 57 rfl rfl, tb_c5 58 rfl rfl⟩
theorem cv_Rs_250 : CV "RatSorters" 250 m_Planner_cleanBy 3 := ⟨ci_Planner_cleanBy, tb_c5 64 rfl rfl, tb_c5 65 rfl rfl, tb_c5 66 rfl rfl⟩
theorem cv_Planner_25 : CV "RatSorters$Planner" 25 m_House_take 1 := ⟨ci_House_take, tb_c5 68 rfl rfl, tb_c4 159 rfl rfl, tb_c4 160 rfl rfl⟩
theorem cv_Planner_39 : CV "RatSorters$Planner" 39 m_House_isSorted 1 := ⟨ci_House_isSorted, tb_c5 69 rfl rfl, tb_c5 49 rfl rfl, tb_c5 50 rfl rfl⟩
theorem cv_Planner_43 : CV "RatSorters$Planner" 43 m_Mill_goMinute 1 := ⟨ci_Mill_goMinute, tb_c5 70 rfl rfl, tb_c4 191 rfl rfl, tb_c4 192 rfl rfl⟩
theorem cs_Rs_254 : CS "RatSorters" 254 m_Rs_isMinutes 1 := ⟨ci_Rs_isMinutes, tb_c5 75 rfl rfl, tb_c5 76 rfl rfl⟩
theorem cv_Rs_258 : CV "RatSorters" 258 m_Planner_ahead 3 := ⟨ci_Planner_ahead, tb_c5 78 rfl rfl, tb_c5 79 rfl rfl, tb_c5 80 rfl rfl⟩
theorem cv_Rs_262 : CV "RatSorters" 262 m_House_allWorth 1 := ⟨ci_House_allWorth, tb_c5 83 rfl rfl, tb_c5 84 rfl rfl, tb_c5 85 rfl rfl⟩
theorem cv_Rs_265 : CV "RatSorters" 265 m_House_allInHeap 0 := ⟨ci_House_allInHeap, tb_c5 88 rfl rfl, tb_c4 182 rfl rfl, tb_c4 183 rfl rfl⟩
theorem cv_Rs_268 : CV "RatSorters" 268 m_House_allInHoles 0 := ⟨ci_House_allInHoles, tb_c5 89 rfl rfl, tb_c5 90 rfl rfl, tb_c5 91 rfl rfl⟩
theorem cv_Rs_271 : CV "RatSorters" 271 m_House_misplaced 1 := ⟨ci_House_misplaced, tb_c5 93 rfl rfl, tb_c5 94 rfl rfl, tb_c5 95 rfl rfl⟩
theorem cv_Planner_29 : CV "RatSorters$Planner" 29 m_Mill_goOn 2 := ⟨ci_Mill_goOn, tb_c5 82 rfl rfl, tb_c4 169 rfl rfl, tb_c4 170 rfl rfl⟩
theorem cv_House_98 : CV "RatSorters$House" 98 m_House_worthOf 2 := ⟨ci_House_worthOf, tb_c5 87 rfl rfl, tb_c4 132 rfl rfl, tb_c4 133 rfl rfl⟩
theorem cv_Rs_277 : CV "RatSorters" 277 m_Planner_seekHired 3 := ⟨ci_Planner_seekHired, tb_c5 105 rfl rfl, tb_c5 106 rfl rfl, tb_c5 107 rfl rfl⟩
theorem cs_Planner_73 : CS "RatSorters$Planner" 73 m_Planner_feesOf 2 := ⟨ci_Planner_feesOf, tb_c5 109 rfl rfl, tb_c5 110 rfl rfl⟩
theorem cv_Planner_77 : CV "RatSorters$Planner" 77 m_Planner_isCheaper 2 := ⟨ci_Planner_isCheaper, tb_c5 112 rfl rfl, tb_c5 114 rfl rfl, tb_p3 0 (n := 8) rfl⟩
theorem cv_Planner_81 : CV "RatSorters$Planner" 81 m_Planner_keepOnly 2 := ⟨ci_Planner_keepOnly, tb_c5 122 rfl rfl, tb_c5 124 rfl rfl, tb_p3 1 (n := 8) rfl⟩
theorem cv_Planner_85 : CV "RatSorters$Planner" 85 m_House_isSortedFor 2 := ⟨ci_House_isSortedFor, tb_c5 128 rfl rfl, tb_c5 57 rfl rfl, tb_c5 58 rfl rfl⟩
theorem cs_Planner_89 : CS "RatSorters$Planner" 89 m_Int_bitCount 1 := ⟨ci_Int_bitCount, tb_c5 116 rfl rfl, tb_c5 117 rfl rfl⟩
theorem cv_Planner_102 : CV "RatSorters$Planner" 102 m_House_callBack 1 := ⟨ci_House_callBack, tb_c5 126 rfl rfl, tb_c5 19 rfl rfl, tb_c5 20 rfl rfl⟩
theorem cv_Planner_106 : CV "RatSorters$Planner" 106 m_House_sendHome 1 := ⟨ci_House_sendHome, tb_c5 127 rfl rfl, tb_c5 15 rfl rfl, tb_c5 16 rfl rfl⟩
theorem cv_Rs_287 : CV "RatSorters" 287 m_Rs_canBeTaught 2 := ⟨ci_Rs_canBeTaught, tb_c5 133 rfl rfl, tb_c5 135 rfl rfl, tb_p3 2 (n := 17) rfl⟩
theorem cv_Rs_290 : CV "RatSorters" 290 m_Planner_seekWay 4 := ⟨ci_Planner_seekWay, tb_c5 138 rfl rfl, tb_c5 139 rfl rfl, tb_c5 140 rfl rfl⟩
theorem cs_Rs_297 : CS "RatSorters" 297 m_Int_bitCount 1 := ⟨ci_Int_bitCount, tb_c5 137 rfl rfl, tb_c5 117 rfl rfl⟩
theorem cv_Planner_118 : CV "RatSorters$Planner" 118 m_Planner_teachWay 3 := ⟨ci_Planner_teachWay, tb_c5 142 rfl rfl, tb_c5 144 rfl rfl, tb_p3 3 (n := 8) rfl⟩
theorem cv_Planner_122 : CV "RatSorters$Planner" 122 m_House_allWorth 1 := ⟨ci_House_allWorth, tb_c5 146 rfl rfl, tb_c5 84 rfl rfl, tb_c5 85 rfl rfl⟩
theorem cv_Rs_302 : CV "RatSorters" 302 m_Planner_grainOf 2 := ⟨ci_Planner_grainOf, tb_c5 151 rfl rfl, tb_c5 152 rfl rfl, tb_c5 153 rfl rfl⟩
theorem cv_Rs_305 : CV "RatSorters" 305 m_Planner_seekSwap 2 := ⟨ci_Planner_seekSwap, tb_c5 159 rfl rfl, tb_c5 160 rfl rfl, tb_c5 161 rfl rfl⟩
theorem cv_Planner_131 : CV "RatSorters$Planner" 131 m_Planner_cleanBy 3 := ⟨ci_Planner_cleanBy, tb_c5 163 rfl rfl, tb_c5 65 rfl rfl, tb_c5 66 rfl rfl⟩
theorem cv_Planner_138 : CV "RatSorters$Planner" 138 m_Mill_exchangeFar 2 := ⟨ci_Mill_exchangeFar, tb_c5 164 rfl rfl, tb_c5 165 rfl rfl, tb_c5 166 rfl rfl⟩
theorem cv_Rs_309 : CV "RatSorters" 309 m_Planner_seekMissed 3 := ⟨ci_Planner_seekMissed, tb_c5 172 rfl rfl, tb_c5 173 rfl rfl, tb_c5 174 rfl rfl⟩
theorem cv_Rs_312 : CV "RatSorters" 312 m_Planner_seekCat 3 := ⟨ci_Planner_seekCat, tb_c5 180 rfl rfl, tb_c5 181 rfl rfl, tb_c5 182 rfl rfl⟩
theorem cv_Rs_315 : CV "RatSorters" 315 m_Planner_starvesBy 3 := ⟨ci_Planner_starvesBy, tb_c5 188 rfl rfl, tb_c5 189 rfl rfl, tb_c5 190 rfl rfl⟩
theorem cv_Rs_318 : CV "RatSorters" 318 m_Planner_misplacedOf 4 := ⟨ci_Planner_misplacedOf, tb_c5 196 rfl rfl, tb_c5 197 rfl rfl, tb_c5 198 rfl rfl⟩
theorem cv_Planner_61 : CV "RatSorters$Planner" 61 m_House_misplaced 1 := ⟨ci_House_misplaced, tb_c5 200 rfl rfl, tb_c5 94 rfl rfl, tb_c5 95 rfl rfl⟩
theorem cv_Rs_322 : CV "RatSorters" 322 m_Planner_seekSales 2 := ⟨ci_Planner_seekSales, tb_c5 205 rfl rfl, tb_c5 206 rfl rfl, tb_c5 207 rfl rfl⟩
theorem cv_Planner_154 : CV "RatSorters$Planner" 154 m_House_hasFor 2 := ⟨ci_House_hasFor, tb_c5 209 rfl rfl, tb_c5 31 rfl rfl, tb_c5 32 rfl rfl⟩
theorem cv_Rs_326 : CV "RatSorters" 326 m_Facts_note 4 := ⟨ci_Facts_note, tb_c5 214 rfl rfl, tb_c5 215 rfl rfl, tb_c5 216 rfl rfl⟩
theorem cv_Rs_333 : CV "RatSorters" 333 m_Facts_watch 1 := ⟨ci_Facts_watch, tb_c5 226 rfl rfl, tb_c5 227 rfl rfl, tb_c5 228 rfl rfl⟩
theorem cv_Rs_337 : CV "RatSorters" 337 m_Facts_seekJoke 3 := ⟨ci_Facts_seekJoke, tb_c5 233 rfl rfl, tb_c5 234 rfl rfl, tb_c5 235 rfl rfl⟩
theorem cv_Facts_48 : CV "RatSorters$Facts" 48 m_House_begin 1 := ⟨ci_House_begin, tb_c5 230 rfl rfl, tb_c2 228 rfl rfl, tb_c2 229 rfl rfl⟩
theorem cv_Facts_59 : CV "RatSorters$Facts" 59 m_Mill_goMinute 1 := ⟨ci_Mill_goMinute, tb_c5 232 rfl rfl, tb_c4 191 rfl rfl, tb_c4 192 rfl rfl⟩
theorem cv_Facts_63 : CV "RatSorters$Facts" 63 m_Facts_fits 4 := ⟨ci_Facts_fits, tb_c5 237 rfl rfl, tb_c5 239 rfl rfl, tb_p3 4 (n := 8) rfl⟩
theorem cv_Facts_67 : CV "RatSorters$Facts" 67 m_Facts_seenIn 3 := ⟨ci_Facts_seenIn, tb_c6 1 rfl rfl, tb_c6 3 rfl rfl, tb_p3 5 (n := 8) rfl⟩
theorem cv_Rs_347 : CV "RatSorters" 347 m_House_ratsThatAre 2 := ⟨ci_House_ratsThatAre, tb_c6 17 rfl rfl, tb_c5 53 rfl rfl, tb_c5 54 rfl rfl⟩
theorem cv_Rs_350 : CV "RatSorters" 350 m_House_allCarried 1 := ⟨ci_House_allCarried, tb_c6 18 rfl rfl, tb_c6 19 rfl rfl, tb_c6 20 rfl rfl⟩
theorem cv_Mo_176 : CV "RatSortersModel" 176 m_Mo_plain 1 := ⟨ci_Mo_plain, tb_c6 28 rfl rfl, tb_c6 30 rfl rfl, tb_p3 6 (n := 75) rfl⟩
theorem cs_Mo_180 : CS "RatSortersModel" 180 m_Mo_word 7 := ⟨ci_Mo_word, tb_c6 32 rfl rfl, tb_c6 33 rfl rfl⟩
theorem cv_Mo_184 : CV "RatSortersModel" 184 m_Mo_begins 0 := ⟨ci_Mo_begins, tb_c6 39 rfl rfl, tb_c6 41 rfl rfl, tb_p3 7 (n := 75) rfl⟩
theorem cv_Mo_187 : CV "RatSortersModel" 187 m_Mo_keepsRow 0 := ⟨ci_Mo_keepsRow, tb_c6 47 rfl rfl, tb_c6 49 rfl rfl, tb_p3 9 (n := 75) rfl⟩
theorem cs_Mo_201 : CS "RatSortersModel" 201 m_Mo_appends 2 := ⟨ci_Mo_appends, tb_c6 35 rfl rfl, tb_c6 36 rfl rfl⟩
theorem cv_Mo_347 : CV "RatSortersModel" 347 m_Mo_plainly 0 := ⟨ci_Mo_plainly, tb_c6 43 rfl rfl, tb_c6 45 rfl rfl, tb_p3 8 (n := 75) rfl⟩
theorem cv_Mo_193 : CV "RatSortersModel" 193 m_Mo_put 1 := ⟨ci_Mo_put, tb_c7 41 rfl rfl, tb_c7 43 rfl rfl, tb_p3 10 (n := 75) rfl⟩
theorem cv_Mo_251 : CV "RatSortersModel" 251 m_Mo_cut 0 := ⟨ci_Mo_cut, tb_c7 53 rfl rfl, tb_c7 55 rfl rfl, tb_p3 11 (n := 75) rfl⟩
theorem cv_Mo_245 : CV "RatSortersModel" 245 m_Mo_is 1 := ⟨ci_Mo_is, tb_c7 75 rfl rfl, tb_c7 77 rfl rfl, tb_p3 15 (n := 75) rfl⟩
theorem cv_Mo_272 : CV "RatSortersModel" 272 m_Mo_tellOne 0 := ⟨ci_Mo_tellOne, tb_c7 79 rfl rfl, tb_c7 81 rfl rfl, tb_p4 0 (n := 75) rfl⟩
theorem cv_Mo_208 : CV "RatSortersModel" 208 m_Mo_byteAt 1 := ⟨ci_Mo_byteAt, tb_c7 57 rfl rfl, tb_c7 59 rfl rfl, tb_p3 12 (n := 75) rfl⟩
theorem cv_Mo_212 : CV "RatSortersModel" 212 m_Mo_token 4 := ⟨ci_Mo_token, tb_c7 61 rfl rfl, tb_c7 63 rfl rfl, tb_p3 13 (n := 75) rfl⟩
theorem cs_Mo_216 : CS "RatSortersModel" 216 m_Mo_isLetter 1 := ⟨ci_Mo_isLetter, tb_c7 65 rfl rfl, tb_c7 66 rfl rfl⟩
theorem cs_Mo_220 : CS "RatSortersModel" 220 m_Mo_isDigit 1 := ⟨ci_Mo_isDigit, tb_c7 68 rfl rfl, tb_c7 69 rfl rfl⟩
theorem cv_Mo_223 : CV "RatSortersModel" 223 m_Mo_sign 3 := ⟨ci_Mo_sign, tb_c7 71 rfl rfl, tb_c7 73 rfl rfl, tb_p3 14 (n := 75) rfl⟩
theorem cv_Mo_281 : CV "RatSortersModel" 281 m_Mo_roomFor 2 := ⟨ci_Mo_roomFor, tb_c7 83 rfl rfl, tb_c7 85 rfl rfl, tb_p4 1 (n := 75) rfl⟩
theorem cv_Mo_285 : CV "RatSortersModel" 285 m_Mo_tellGrain 0 := ⟨ci_Mo_tellGrain, tb_c7 95 rfl rfl, tb_c7 97 rfl rfl, tb_p4 4 (n := 75) rfl⟩
theorem cv_Mo_288 : CV "RatSortersModel" 288 m_Mo_tellHole 0 := ⟨ci_Mo_tellHole, tb_c7 119 rfl rfl, tb_c7 121 rfl rfl, tb_p4 10 (n := 75) rfl⟩
theorem cv_Mo_291 : CV "RatSortersModel" 291 m_Mo_tellRat 0 := ⟨ci_Mo_tellRat, tb_c7 127 rfl rfl, tb_c7 129 rfl rfl, tb_p4 12 (n := 75) rfl⟩
theorem cv_Mo_294 : CV "RatSortersModel" 294 m_Mo_tellWants 0 := ⟨ci_Mo_tellWants, tb_c7 131 rfl rfl, tb_c7 133 rfl rfl, tb_p4 13 (n := 75) rfl⟩
theorem cv_Mo_248 : CV "RatSortersModel" 248 m_Mo_goesOn 0 := ⟨ci_Mo_goesOn, tb_c7 91 rfl rfl, tb_c7 93 rfl rfl, tb_p4 3 (n := 75) rfl⟩
theorem cv_Mo_297 : CV "RatSortersModel" 297 m_Mo_bounded 2 := ⟨ci_Mo_bounded, tb_c7 111 rfl rfl, tb_c7 113 rfl rfl, tb_p4 8 (n := 75) rfl⟩
theorem cv_Mo_301 : CV "RatSortersModel" 301 m_Mo_must 1 := ⟨ci_Mo_must, tb_c7 103 rfl rfl, tb_c7 105 rfl rfl, tb_p4 6 (n := 75) rfl⟩
theorem cv_Mo_242 : CV "RatSortersModel" 242 m_Mo_fail 1 := ⟨ci_Mo_fail, tb_c7 87 rfl rfl, tb_c7 89 rfl rfl, tb_p4 2 (n := 75) rfl⟩
theorem cv_Mo_304 : CV "RatSortersModel" 304 m_Mo_tellLaw 1 := ⟨ci_Mo_tellLaw, tb_c7 135 rfl rfl, tb_c7 137 rfl rfl, tb_p4 14 (n := 75) rfl⟩
theorem cv_Mo_310 : CV "RatSortersModel" 310 m_Mo_named 0 := ⟨ci_Mo_named, tb_c7 99 rfl rfl, tb_c7 101 rfl rfl, tb_p4 5 (n := 75) rfl⟩
theorem cv_Mo_314 : CV "RatSortersModel" 314 m_Mo_notes 3 := ⟨ci_Mo_notes, tb_c7 115 rfl rfl, tb_c7 117 rfl rfl, tb_p4 9 (n := 75) rfl⟩
theorem cv_Mo_307 : CV "RatSortersModel" 307 m_Mo_wrong 2 := ⟨ci_Mo_wrong, tb_c7 107 rfl rfl, tb_c7 109 rfl rfl, tb_p4 7 (n := 75) rfl⟩
theorem cv_Mo_318 : CV "RatSortersModel" 318 m_Mo_known 1 := ⟨ci_Mo_known, tb_c7 123 rfl rfl, tb_c7 125 rfl rfl, tb_p4 11 (n := 75) rfl⟩
theorem cv_Mo_321 : CV "RatSortersModel" 321 m_Mo_expression 0 := ⟨ci_Mo_expression, tb_c7 139 rfl rfl, tb_c7 141 rfl rfl, tb_p4 15 (n := 75) rfl⟩
theorem cv_Mo_324 : CV "RatSortersModel" 324 m_Mo_term 0 := ⟨ci_Mo_term, tb_c7 155 rfl rfl, tb_c7 157 rfl rfl, tb_p5 3 (n := 75) rfl⟩
theorem cv_Mo_333 : CV "RatSortersModel" 333 m_Mo_unit 0 := ⟨ci_Mo_unit, tb_c7 143 rfl rfl, tb_c7 145 rfl rfl, tb_p5 0 (n := 75) rfl⟩
theorem cv_Mo_336 : CV "RatSortersModel" 336 m_Mo_comesOut 1 := ⟨ci_Mo_comesOut, tb_c7 151 rfl rfl, tb_c7 153 rfl rfl, tb_p5 2 (n := 75) rfl⟩
theorem cv_Mo_330 : CV "RatSortersModel" 330 m_Mo_emit 2 := ⟨ci_Mo_emit, tb_c7 147 rfl rfl, tb_c7 149 rfl rfl, tb_p5 1 (n := 75) rfl⟩
theorem cv_Mo_386 : CV "RatSortersModel" 386 m_Mo_isGrain 1 := ⟨ci_Mo_isGrain, tb_c7 167 rfl rfl, tb_c7 169 rfl rfl, tb_p5 4 (n := 75) rfl⟩
theorem cs_Mo_350 : CS "RatSortersModel" 350 m_Mo_in 3 := ⟨ci_Mo_in, tb_c7 171 rfl rfl, tb_c7 172 rfl rfl⟩
theorem cv_Mo_389 : CV "RatSortersModel" 389 m_Mo_isHole 1 := ⟨ci_Mo_isHole, tb_c7 178 rfl rfl, tb_c7 180 rfl rfl, tb_p5 5 (n := 75) rfl⟩
theorem cv_Mo_392 : CV "RatSortersModel" 392 m_Mo_isRat 1 := ⟨ci_Mo_isRat, tb_c7 186 rfl rfl, tb_c7 188 rfl rfl, tb_p5 6 (n := 75) rfl⟩
theorem cv_Mo_395 : CV "RatSortersModel" 395 m_Mo_copies 0 := ⟨ci_Mo_copies, tb_c7 194 rfl rfl, tb_c7 196 rfl rfl, tb_p5 7 (n := 75) rfl⟩
theorem cv_Mo_383 : CV "RatSortersModel" 383 m_Mo_worthOf 1 := ⟨ci_Mo_worthOf, tb_c7 198 rfl rfl, tb_c7 200 rfl rfl, tb_p5 8 (n := 75) rfl⟩
theorem cs_Mo_398 : CS "RatSortersModel" 398 m_Mo_common 2 := ⟨ci_Mo_common, tb_c7 206 rfl rfl, tb_c7 207 rfl rfl⟩
theorem cv_Mo_401 : CV "RatSortersModel" 401 m_Mo_goes 1 := ⟨ci_Mo_goes, tb_c7 213 rfl rfl, tb_c7 215 rfl rfl, tb_p5 9 (n := 75) rfl⟩
theorem cv_Mo_404 : CV "RatSortersModel" 404 m_Mo_keeps 0 := ⟨ci_Mo_keeps, tb_c8 12 rfl rfl, tb_c8 14 rfl rfl, tb_p6 1 (n := 75) rfl⟩
theorem cv_Mo_380 : CV "RatSortersModel" 380 m_Mo_minuteGoes 0 := ⟨ci_Mo_minuteGoes, tb_c7 217 rfl rfl, tb_c7 219 rfl rfl, tb_p5 10 (n := 75) rfl⟩
theorem cv_Mo_374 : CV "RatSortersModel" 374 m_Mo_atHeap 1 := ⟨ci_Mo_atHeap, tb_c7 221 rfl rfl, tb_c7 223 rfl rfl, tb_p5 11 (n := 75) rfl⟩
theorem cv_Mo_377 : CV "RatSortersModel" 377 m_Mo_drops 1 := ⟨ci_Mo_drops, tb_c8 8 rfl rfl, tb_c8 10 rfl rfl, tb_p6 0 (n := 75) rfl⟩
theorem cv_Mo_364 : CV "RatSortersModel" 364 m_Mo_nibbles 1 := ⟨ci_Mo_nibbles, tb_c7 225 rfl rfl, tb_c7 227 rfl rfl, tb_p5 12 (n := 75) rfl⟩
theorem cv_Mo_367 : CV "RatSortersModel" 367 m_Mo_tells 6 := ⟨ci_Mo_tells, tb_c7 229 rfl rfl, tb_c7 231 rfl rfl, tb_p5 13 (n := 75) rfl⟩
theorem cv_Mo_371 : CV "RatSortersModel" 371 m_Mo_lotOf 1 := ⟨ci_Mo_lotOf, tb_c8 0 rfl rfl, tb_c8 2 rfl rfl, tb_p5 15 (n := 75) rfl⟩
theorem cv_Mo_358 : CV "RatSortersModel" 358 m_Mo_termOf 2 := ⟨ci_Mo_termOf, tb_c7 233 rfl rfl, tb_c7 235 rfl rfl, tb_p5 14 (n := 75) rfl⟩
theorem cs_Mo_361 : CS "RatSortersModel" 361 m_Mo_held 3 := ⟨ci_Mo_held, tb_c7 237 rfl rfl, tb_c7 238 rfl rfl⟩
theorem cs_Mo_355 : CS "RatSortersModel" 355 m_Mo_mixed 2 := ⟨ci_Mo_mixed, tb_c8 4 rfl rfl, tb_c8 5 rfl rfl⟩
theorem cv_Mo_407 : CV "RatSortersModel" 407 m_Mo_swaps 2 := ⟨ci_Mo_swaps, tb_c8 24 rfl rfl, tb_c8 26 rfl rfl, tb_p6 2 (n := 75) rfl⟩
theorem cv_Mo_410 : CV "RatSortersModel" 410 m_Mo_goesHome 1 := ⟨ci_Mo_goesHome, tb_c8 40 rfl rfl, tb_c8 42 rfl rfl, tb_p6 3 (n := 75) rfl⟩
theorem cv_Mo_416 : CV "RatSortersModel" 416 m_Mo_isEnough 1 := ⟨ci_Mo_isEnough, tb_c8 52 rfl rfl, tb_c8 54 rfl rfl, tb_p6 4 (n := 75) rfl⟩
theorem cv_Mo_413 : CV "RatSortersModel" 413 m_Mo_wantedBy 2 := ⟨ci_Mo_wantedBy, tb_c8 56 rfl rfl, tb_c8 58 rfl rfl, tb_p6 5 (n := 75) rfl⟩
theorem cv_Mo_419 : CV "RatSortersModel" 419 m_Mo_paysOf 1 := ⟨ci_Mo_paysOf, tb_c8 64 rfl rfl, tb_c8 66 rfl rfl, tb_p6 6 (n := 75) rfl⟩
theorem cv_Mo_422 : CV "RatSortersModel" 422 m_Mo_isCleanNow 1 := ⟨ci_Mo_isCleanNow, tb_c8 76 rfl rfl, tb_c8 78 rfl rfl, tb_p6 7 (n := 75) rfl⟩
theorem cv_Mo_426 : CV "RatSortersModel" 426 m_Mo_cleanBy 0 := ⟨ci_Mo_cleanBy, tb_c8 84 rfl rfl, tb_c8 86 rfl rfl, tb_p6 8 (n := 75) rfl⟩
theorem cs_Mo_429 : CS "RatSortersModel" 429 m_Mo_isLong 1 := ⟨ci_Mo_isLong, tb_c8 92 rfl rfl, tb_c8 93 rfl rfl⟩
theorem cv_Mo_432 : CV "RatSortersModel" 432 m_Mo_worthAll 0 := ⟨ci_Mo_worthAll, tb_c8 95 rfl rfl, tb_c8 97 rfl rfl, tb_p6 9 (n := 75) rfl⟩
theorem cv_Mo_435 : CV "RatSortersModel" 435 m_Mo_inHeap 0 := ⟨ci_Mo_inHeap, tb_c8 99 rfl rfl, tb_c8 101 rfl rfl, tb_p6 10 (n := 75) rfl⟩
theorem cv_Mo_438 : CV "RatSortersModel" 438 m_Mo_inHoles 1 := ⟨ci_Mo_inHoles, tb_c8 103 rfl rfl, tb_c8 105 rfl rfl, tb_p6 11 (n := 75) rfl⟩
theorem cv_Mo_442 : CV "RatSortersModel" 442 m_Mo_feesOf 1 := ⟨ci_Mo_feesOf, tb_c8 115 rfl rfl, tb_c8 117 rfl rfl, tb_p6 12 (n := 75) rfl⟩
theorem cs_Mo_445 : CS "RatSortersModel" 445 m_Mo_bits 1 := ⟨ci_Mo_bits, tb_c8 119 rfl rfl, tb_c8 120 rfl rfl⟩
theorem cv_Mo_448 : CV "RatSortersModel" 448 m_Mo_hires 1 := ⟨ci_Mo_hires, tb_c8 122 rfl rfl, tb_c8 124 rfl rfl, tb_p6 13 (n := 75) rfl⟩
theorem cv_Mo_457 : CV "RatSortersModel" 457 m_Mo_isSet 2 := ⟨ci_Mo_isSet, tb_c8 130 rfl rfl, tb_c8 132 rfl rfl, tb_p6 14 (n := 75) rfl⟩
theorem cv_Mo_461 : CV "RatSortersModel" 461 m_Mo_teaches 2 := ⟨ci_Mo_teaches, tb_c8 134 rfl rfl, tb_c8 136 rfl rfl, tb_p6 15 (n := 75) rfl⟩
theorem cv_Mo_464 : CV "RatSortersModel" 464 m_Mo_isSo 4 := ⟨ci_Mo_isSo, tb_c8 174 rfl rfl, tb_c8 176 rfl rfl, tb_p7 0 (n := 75) rfl⟩
theorem cn_Law_9 : CN "RatSortersLaw" 9 m_Rs_init 0 := ⟨ci_Rs_init, Or.inl (tb_c1 23 rfl rfl), rfl, tb_c1 24 rfl rfl, rfl⟩
theorem cn_Law_12 : CN "RatSortersLaw" 12 m_Mo_init 0 := ⟨ci_Mo_init, Or.inl (tb_c6 24 rfl rfl), rfl, tb_c6 25 rfl rfl, rfl⟩
theorem cv_Law_13 : CV "RatSortersLaw" 13 m_Rs_feed 5 := ⟨ci_Rs_feed, tb_c3 55 rfl rfl, tb_c3 56 rfl rfl, tb_c3 57 rfl rfl⟩
theorem cv_Law_17 : CV "RatSortersLaw" 17 m_Mo_feed 5 := ⟨ci_Mo_feed, tb_c7 37 rfl rfl, tb_c7 38 rfl rfl, tb_c7 39 rfl rfl⟩
theorem cv_Law_18 : CV "RatSortersLaw" 18 m_Rs_back 1 := ⟨ci_Rs_back, tb_c3 63 rfl rfl, tb_c3 64 rfl rfl, tb_c3 65 rfl rfl⟩
theorem cv_Law_22 : CV "RatSortersLaw" 22 m_Mo_back 1 := ⟨ci_Mo_back, tb_c7 45 rfl rfl, tb_c7 46 rfl rfl, tb_c7 47 rfl rfl⟩
theorem cv_Law_23 : CV "RatSortersLaw" 23 m_Rs_read 0 := ⟨ci_Rs_read, tb_c3 67 rfl rfl, tb_c3 68 rfl rfl, tb_c3 69 rfl rfl⟩
theorem cv_Law_27 : CV "RatSortersLaw" 27 m_Mo_read 0 := ⟨ci_Mo_read, tb_c7 49 rfl rfl, tb_c7 50 rfl rfl, tb_c7 51 rfl rfl⟩
theorem cv_Law_28 : CV "RatSortersLaw" 28 m_Rs_place 0 := ⟨ci_Rs_place, tb_c4 104 rfl rfl, tb_c4 105 rfl rfl, tb_c4 106 rfl rfl⟩
theorem cv_Law_31 : CV "RatSortersLaw" 31 m_Mo_place 0 := ⟨ci_Mo_place, tb_c7 159 rfl rfl, tb_c7 160 rfl rfl, tb_c7 161 rfl rfl⟩
theorem cv_Law_32 : CV "RatSortersLaw" 32 m_Rs_heap 1 := ⟨ci_Rs_heap, tb_c4 108 rfl rfl, tb_c4 109 rfl rfl, tb_c4 110 rfl rfl⟩
theorem cv_Law_35 : CV "RatSortersLaw" 35 m_Mo_heap 1 := ⟨ci_Mo_heap, tb_c7 163 rfl rfl, tb_c7 164 rfl rfl, tb_c7 165 rfl rfl⟩
theorem cv_Law_36 : CV "RatSortersLaw" 36 m_Rs_hole 2 := ⟨ci_Rs_hole, tb_c4 115 rfl rfl, tb_c4 116 rfl rfl, tb_c4 117 rfl rfl⟩
theorem cv_Law_40 : CV "RatSortersLaw" 40 m_Mo_hole 2 := ⟨ci_Mo_hole, tb_c7 174 rfl rfl, tb_c7 175 rfl rfl, tb_c7 176 rfl rfl⟩
theorem cv_Law_41 : CV "RatSortersLaw" 41 m_Rs_rat 2 := ⟨ci_Rs_rat, tb_c4 123 rfl rfl, tb_c4 124 rfl rfl, tb_c4 125 rfl rfl⟩
theorem cv_Law_44 : CV "RatSortersLaw" 44 m_Mo_rat 2 := ⟨ci_Mo_rat, tb_c7 182 rfl rfl, tb_c7 183 rfl rfl, tb_c7 184 rfl rfl⟩
theorem cv_Law_45 : CV "RatSortersLaw" 45 m_Rs_worth 1 := ⟨ci_Rs_worth, tb_c4 127 rfl rfl, tb_c4 128 rfl rfl, tb_c4 129 rfl rfl⟩
theorem cv_Law_48 : CV "RatSortersLaw" 48 m_Mo_worth 1 := ⟨ci_Mo_worth, tb_c7 190 rfl rfl, tb_c7 191 rfl rfl, tb_c7 192 rfl rfl⟩
theorem cv_Law_49 : CV "RatSortersLaw" 49 m_Rs_pure 2 := ⟨ci_Rs_pure, tb_c4 141 rfl rfl, tb_c4 142 rfl rfl, tb_c4 143 rfl rfl⟩
theorem cv_Law_53 : CV "RatSortersLaw" 53 m_Mo_pure 2 := ⟨ci_Mo_pure, tb_c7 202 rfl rfl, tb_c7 203 rfl rfl, tb_c7 204 rfl rfl⟩
theorem cv_Law_54 : CV "RatSortersLaw" 54 m_Rs_minutes 1 := ⟨ci_Rs_minutes, tb_c4 150 rfl rfl, tb_c4 151 rfl rfl, tb_c4 152 rfl rfl⟩
theorem cv_Law_57 : CV "RatSortersLaw" 57 m_Mo_minutes 1 := ⟨ci_Mo_minutes, tb_c7 209 rfl rfl, tb_c7 210 rfl rfl, tb_c7 211 rfl rfl⟩
theorem cv_Law_58 : CV "RatSortersLaw" 58 m_Rs_pour 2 := ⟨ci_Rs_pour, tb_c4 230 rfl rfl, tb_c4 231 rfl rfl, tb_c4 232 rfl rfl⟩
theorem cv_Law_61 : CV "RatSortersLaw" 61 m_Mo_pour 2 := ⟨ci_Mo_pour, tb_c8 16 rfl rfl, tb_c8 17 rfl rfl, tb_c8 18 rfl rfl⟩
theorem cv_Law_62 : CV "RatSortersLaw" 62 m_Rs_swap 2 := ⟨ci_Rs_swap, tb_c4 234 rfl rfl, tb_c4 235 rfl rfl, tb_c4 236 rfl rfl⟩
theorem cv_Law_66 : CV "RatSortersLaw" 66 m_Mo_swap 2 := ⟨ci_Mo_swap, tb_c8 20 rfl rfl, tb_c8 21 rfl rfl, tb_c8 22 rfl rfl⟩
theorem cv_Law_67 : CV "RatSortersLaw" 67 m_Rs_teach 2 := ⟨ci_Rs_teach, tb_c5 2 rfl rfl, tb_c5 3 rfl rfl, tb_c5 4 rfl rfl⟩
theorem cv_Law_70 : CV "RatSortersLaw" 70 m_Mo_teach 2 := ⟨ci_Mo_teach, tb_c8 28 rfl rfl, tb_c8 29 rfl rfl, tb_c8 30 rfl rfl⟩
theorem cv_Law_71 : CV "RatSortersLaw" 71 m_Rs_give 3 := ⟨ci_Rs_give, tb_c5 6 rfl rfl, tb_c5 7 rfl rfl, tb_c5 8 rfl rfl⟩
theorem cv_Law_75 : CV "RatSortersLaw" 75 m_Mo_give 3 := ⟨ci_Mo_give, tb_c8 32 rfl rfl, tb_c8 33 rfl rfl, tb_c8 34 rfl rfl⟩
theorem cv_Law_76 : CV "RatSortersLaw" 76 m_Rs_send 2 := ⟨ci_Rs_send, tb_c5 10 rfl rfl, tb_c5 11 rfl rfl, tb_c5 12 rfl rfl⟩
theorem cv_Law_80 : CV "RatSortersLaw" 80 m_Mo_send 2 := ⟨ci_Mo_send, tb_c8 36 rfl rfl, tb_c8 37 rfl rfl, tb_c8 38 rfl rfl⟩
theorem cv_Law_81 : CV "RatSortersLaw" 81 m_Rs_cat 1 := ⟨ci_Rs_cat, tb_c5 22 rfl rfl, tb_c5 23 rfl rfl, tb_c5 24 rfl rfl⟩
theorem cv_Law_84 : CV "RatSortersLaw" 84 m_Mo_cat 1 := ⟨ci_Mo_cat, tb_c8 44 rfl rfl, tb_c8 45 rfl rfl, tb_c8 46 rfl rfl⟩
theorem cv_Law_85 : CV "RatSortersLaw" 85 m_Rs_sell 1 := ⟨ci_Rs_sell, tb_c5 26 rfl rfl, tb_c5 27 rfl rfl, tb_c5 28 rfl rfl⟩
theorem cv_Law_89 : CV "RatSortersLaw" 89 m_Mo_sell 1 := ⟨ci_Mo_sell, tb_c8 48 rfl rfl, tb_c8 49 rfl rfl, tb_c8 50 rfl rfl⟩
theorem cv_Law_90 : CV "RatSortersLaw" 90 m_Rs_undo 0 := ⟨ci_Rs_undo, tb_c5 40 rfl rfl, tb_c5 41 rfl rfl, tb_c5 42 rfl rfl⟩
theorem cv_Law_94 : CV "RatSortersLaw" 94 m_Mo_undo 0 := ⟨ci_Mo_undo, tb_c8 68 rfl rfl, tb_c8 69 rfl rfl, tb_c8 70 rfl rfl⟩
theorem cv_Law_95 : CV "RatSortersLaw" 95 m_Rs_isClean 0 := ⟨ci_Rs_isClean, tb_c5 44 rfl rfl, tb_c5 45 rfl rfl, tb_c5 46 rfl rfl⟩
theorem cv_Law_98 : CV "RatSortersLaw" 98 m_Mo_isClean 0 := ⟨ci_Mo_isClean, tb_c8 72 rfl rfl, tb_c8 73 rfl rfl, tb_c8 74 rfl rfl⟩
theorem cv_Law_99 : CV "RatSortersLaw" 99 m_Rs_clean 0 := ⟨ci_Rs_clean, tb_c5 60 rfl rfl, tb_c5 61 rfl rfl, tb_c5 62 rfl rfl⟩
theorem cv_Law_102 : CV "RatSortersLaw" 102 m_Mo_clean 0 := ⟨ci_Mo_clean, tb_c8 80 rfl rfl, tb_c8 81 rfl rfl, tb_c8 82 rfl rfl⟩
theorem cv_Law_103 : CV "RatSortersLaw" 103 m_Rs_then 2 := ⟨ci_Rs_then, tb_c5 71 rfl rfl, tb_c5 72 rfl rfl, tb_c5 73 rfl rfl⟩
theorem cv_Law_106 : CV "RatSortersLaw" 106 m_Mo_then 2 := ⟨ci_Mo_then, tb_c8 88 rfl rfl, tb_c8 89 rfl rfl, tb_c8 90 rfl rfl⟩
theorem cv_Law_107 : CV "RatSortersLaw" 107 m_Rs_lies 3 := ⟨ci_Rs_lies, tb_c5 97 rfl rfl, tb_c5 98 rfl rfl, tb_c5 99 rfl rfl⟩
theorem cv_Law_111 : CV "RatSortersLaw" 111 m_Mo_lies 3 := ⟨ci_Mo_lies, tb_c8 107 rfl rfl, tb_c8 108 rfl rfl, tb_c8 109 rfl rfl⟩
theorem cv_Law_112 : CV "RatSortersLaw" 112 m_Rs_hire 2 := ⟨ci_Rs_hire, tb_c5 101 rfl rfl, tb_c5 102 rfl rfl, tb_c5 103 rfl rfl⟩
theorem cv_Law_115 : CV "RatSortersLaw" 115 m_Mo_hire 2 := ⟨ci_Mo_hire, tb_c8 111 rfl rfl, tb_c8 112 rfl rfl, tb_c8 113 rfl rfl⟩
theorem cv_Law_116 : CV "RatSortersLaw" 116 m_Rs_taught 2 := ⟨ci_Rs_taught, tb_c5 129 rfl rfl, tb_c5 130 rfl rfl, tb_c5 131 rfl rfl⟩
theorem cv_Law_119 : CV "RatSortersLaw" 119 m_Mo_taught 2 := ⟨ci_Mo_taught, tb_c8 126 rfl rfl, tb_c8 127 rfl rfl, tb_c8 128 rfl rfl⟩
theorem cv_Law_120 : CV "RatSortersLaw" 120 m_Rs_taughtAt 3 := ⟨ci_Rs_taughtAt, tb_c5 147 rfl rfl, tb_c5 148 rfl rfl, tb_c5 149 rfl rfl⟩
theorem cv_Law_123 : CV "RatSortersLaw" 123 m_Mo_taughtAt 3 := ⟨ci_Mo_taughtAt, tb_c8 138 rfl rfl, tb_c8 139 rfl rfl, tb_c8 140 rfl rfl⟩
theorem cv_Law_124 : CV "RatSortersLaw" 124 m_Rs_bestSwap 1 := ⟨ci_Rs_bestSwap, tb_c5 155 rfl rfl, tb_c5 156 rfl rfl, tb_c5 157 rfl rfl⟩
theorem cv_Law_127 : CV "RatSortersLaw" 127 m_Mo_bestSwap 1 := ⟨ci_Mo_bestSwap, tb_c8 142 rfl rfl, tb_c8 143 rfl rfl, tb_c8 144 rfl rfl⟩
theorem cv_Law_128 : CV "RatSortersLaw" 128 m_Rs_missed 2 := ⟨ci_Rs_missed, tb_c5 168 rfl rfl, tb_c5 169 rfl rfl, tb_c5 170 rfl rfl⟩
theorem cv_Law_131 : CV "RatSortersLaw" 131 m_Mo_missed 2 := ⟨ci_Mo_missed, tb_c8 146 rfl rfl, tb_c8 147 rfl rfl, tb_c8 148 rfl rfl⟩
theorem cv_Law_132 : CV "RatSortersLaw" 132 m_Rs_catAt 2 := ⟨ci_Rs_catAt, tb_c5 176 rfl rfl, tb_c5 177 rfl rfl, tb_c5 178 rfl rfl⟩
theorem cv_Law_135 : CV "RatSortersLaw" 135 m_Mo_catAt 2 := ⟨ci_Mo_catAt, tb_c8 150 rfl rfl, tb_c8 151 rfl rfl, tb_c8 152 rfl rfl⟩
theorem cv_Law_136 : CV "RatSortersLaw" 136 m_Rs_starves 1 := ⟨ci_Rs_starves, tb_c5 184 rfl rfl, tb_c5 185 rfl rfl, tb_c5 186 rfl rfl⟩
theorem cv_Law_139 : CV "RatSortersLaw" 139 m_Mo_starves 1 := ⟨ci_Mo_starves, tb_c8 154 rfl rfl, tb_c8 155 rfl rfl, tb_c8 156 rfl rfl⟩
theorem cv_Law_140 : CV "RatSortersLaw" 140 m_Rs_mean 2 := ⟨ci_Rs_mean, tb_c5 192 rfl rfl, tb_c5 193 rfl rfl, tb_c5 194 rfl rfl⟩
theorem cv_Law_143 : CV "RatSortersLaw" 143 m_Mo_mean 2 := ⟨ci_Mo_mean, tb_c8 158 rfl rfl, tb_c8 159 rfl rfl, tb_c8 160 rfl rfl⟩
theorem cv_Law_144 : CV "RatSortersLaw" 144 m_Rs_sales 1 := ⟨ci_Rs_sales, tb_c5 201 rfl rfl, tb_c5 202 rfl rfl, tb_c5 203 rfl rfl⟩
theorem cv_Law_147 : CV "RatSortersLaw" 147 m_Mo_sales 1 := ⟨ci_Mo_sales, tb_c8 60 rfl rfl, tb_c8 61 rfl rfl, tb_c8 62 rfl rfl⟩
theorem cv_Law_148 : CV "RatSortersLaw" 148 m_Rs_tell 4 := ⟨ci_Rs_tell, tb_c5 210 rfl rfl, tb_c5 211 rfl rfl, tb_c5 212 rfl rfl⟩
theorem cv_Law_152 : CV "RatSortersLaw" 152 m_Mo_tell 4 := ⟨ci_Mo_tell, tb_c8 162 rfl rfl, tb_c8 163 rfl rfl, tb_c8 164 rfl rfl⟩
theorem cv_Law_153 : CV "RatSortersLaw" 153 m_Rs_forget 0 := ⟨ci_Rs_forget, tb_c5 218 rfl rfl, tb_c5 219 rfl rfl, tb_c5 220 rfl rfl⟩
theorem cv_Law_156 : CV "RatSortersLaw" 156 m_Mo_forget 0 := ⟨ci_Mo_forget, tb_c8 166 rfl rfl, tb_c8 167 rfl rfl, tb_c8 168 rfl rfl⟩
theorem cv_Law_157 : CV "RatSortersLaw" 157 m_Rs_jokes 2 := ⟨ci_Rs_jokes, tb_c5 222 rfl rfl, tb_c5 223 rfl rfl, tb_c5 224 rfl rfl⟩
theorem cv_Law_160 : CV "RatSortersLaw" 160 m_Mo_jokes 2 := ⟨ci_Mo_jokes, tb_c8 170 rfl rfl, tb_c8 171 rfl rfl, tb_c8 172 rfl rfl⟩
theorem cv_Law_161 : CV "RatSortersLaw" 161 m_Rs_hold 1 := ⟨ci_Rs_hold, tb_c6 5 rfl rfl, tb_c6 6 rfl rfl, tb_c6 7 rfl rfl⟩
theorem cv_Law_164 : CV "RatSortersLaw" 164 m_Mo_hold 1 := ⟨ci_Mo_hold, tb_c8 178 rfl rfl, tb_c8 179 rfl rfl, tb_c8 180 rfl rfl⟩
theorem cv_Law_165 : CV "RatSortersLaw" 165 m_Rs_restore 1 := ⟨ci_Rs_restore, tb_c6 9 rfl rfl, tb_c6 10 rfl rfl, tb_c6 11 rfl rfl⟩
theorem cv_Law_168 : CV "RatSortersLaw" 168 m_Mo_restore 1 := ⟨ci_Mo_restore, tb_c8 182 rfl rfl, tb_c8 183 rfl rfl, tb_c8 184 rfl rfl⟩
theorem cv_Law_169 : CV "RatSortersLaw" 169 m_Rs_count 1 := ⟨ci_Rs_count, tb_c6 13 rfl rfl, tb_c6 14 rfl rfl, tb_c6 15 rfl rfl⟩
theorem cv_Law_172 : CV "RatSortersLaw" 172 m_Mo_count 1 := ⟨ci_Mo_count, tb_c8 186 rfl rfl, tb_c8 187 rfl rfl, tb_c8 188 rfl rfl⟩
theorem nc_Law_7 : NC "RatSortersLaw" 7 10 := ⟨cls_ok 10 (by decide), by decide, fun C T N h => by cases h; exact ⟨tb_c1 21 rfl rfl, tb_c1 22 rfl rfl, tb_c1 1 rfl rfl⟩⟩
theorem oi_Rs : Cond.methodLink "RatSorters" 1 objectInit ∈ TB := tb_c1 26 rfl rfl
theorem nc_Rs_13 : NC "RatSorters" 13 9 := ⟨cls_ok 9 (by decide), by decide, fun C T N h => by cases h; exact ⟨tb_c1 29 rfl rfl, tb_c1 30 rfl rfl, tb_c1 2 rfl rfl⟩⟩
theorem oi_Tokens : Cond.methodLink "RatSorters$Tokens" 3 objectInit ∈ TB := tb_c1 34 rfl rfl
theorem ac_char : Cond.arrayClass .char ∈ TB := tb_c1 53 rfl rfl
theorem ac_int : Cond.arrayClass .int ∈ TB := tb_c1 54 rfl rfl
theorem ac_long : Cond.arrayClass .long ∈ TB := tb_c1 55 rfl rfl
theorem nc_Rs_20 : NC "RatSorters" 20 1 := ⟨cls_ok 1 (by decide), by decide, fun C T N h => by cases h; exact ⟨tb_c1 56 rfl rfl, tb_c1 57 rfl rfl, tb_c1 3 rfl rfl⟩⟩
theorem oi_Grammar : Cond.methodLink "RatSorters$Grammar" 3 objectInit ∈ TB := tb_c1 61 rfl rfl
theorem nc_Rs_29 : NC "RatSorters" 29 5 := ⟨cls_ok 5 (by decide), by decide, fun C T N h => by cases h; exact ⟨tb_c1 76 rfl rfl, tb_c1 77 rfl rfl, tb_c1 4 rfl rfl⟩⟩
theorem oi_Planner : Cond.methodLink "RatSorters$Planner" 3 objectInit ∈ TB := tb_c1 81 rfl rfl
theorem nc_Planner_9 : NC "RatSorters$Planner" 9 2 := ⟨cls_ok 2 (by decide), by decide, fun C T N h => by cases h; exact ⟨tb_c1 82 rfl rfl, tb_c1 83 rfl rfl, tb_c1 5 rfl rfl⟩⟩
theorem oi_House : Cond.methodLink "RatSorters$House" 3 objectInit ∈ TB := tb_c1 87 rfl rfl
theorem nc_House_18 : NC "RatSorters$House" 18 6 := ⟨cls_ok 6 (by decide), by decide, fun C T N h => by cases h; exact ⟨tb_c1 88 rfl rfl, tb_c1 90 rfl rfl, tb_c1 6 rfl rfl⟩⟩
theorem oi_Rat : Cond.methodLink "RatSorters$Rat" 1 objectInit ∈ TB := tb_c1 94 rfl rfl
theorem nc_Rs_36 : NC "RatSorters" 36 0 := ⟨cls_ok 0 (by decide), by decide, fun C T N h => by cases h; exact ⟨tb_c1 224 rfl rfl, tb_c1 225 rfl rfl, tb_c1 7 rfl rfl⟩⟩
theorem oi_Facts : Cond.methodLink "RatSorters$Facts" 3 objectInit ∈ TB := tb_c1 229 rfl rfl
theorem nc_Facts_27 : NC "RatSorters$Facts" 27 2 := ⟨cls_ok 2 (by decide), by decide, fun C T N h => by cases h; exact ⟨tb_c1 230 rfl rfl, tb_c1 83 rfl rfl, tb_c1 5 rfl rfl⟩⟩
theorem nc_Rs_43 : NC "RatSorters" 43 2 := ⟨cls_ok 2 (by decide), by decide, fun C T N h => by cases h; exact ⟨tb_c2 18 rfl rfl, tb_c1 83 rfl rfl, tb_c1 5 rfl rfl⟩⟩
theorem nc_Rs_57 : NC "RatSorters" 57 8 := ⟨cls_ok 8 (by decide), by decide, fun C T N h => by cases h; exact ⟨tb_c2 21 rfl rfl, tb_c2 22 rfl rfl, tb_c1 8 rfl rfl⟩⟩
theorem oi_Text : Cond.methodLink "RatSorters$Text" 3 objectInit ∈ TB := tb_c2 26 rfl rfl
theorem nc_Text_42 : NC "RatSorters$Text" 42 3 := ⟨cls_ok 3 (by decide), by decide, fun C T N h => by cases h; exact ⟨tb_c2 27 rfl rfl, tb_c2 28 rfl rfl, tb_c1 9 rfl rfl⟩⟩
theorem oi_Laws : Cond.methodLink "RatSorters$Laws" 3 objectInit ∈ TB := tb_c2 32 rfl rfl
theorem nc_Rs_67 : NC "RatSorters" 67 7 := ⟨cls_ok 7 (by decide), by decide, fun C T N h => by cases h; exact ⟨tb_c2 159 rfl rfl, tb_c2 160 rfl rfl, tb_c1 10 rfl rfl⟩⟩
theorem oi_Teller : Cond.methodLink "RatSorters$Teller" 3 objectInit ∈ TB := tb_c2 164 rfl rfl
theorem nc_Rs_76 : NC "RatSorters" 76 4 := ⟨cls_ok 4 (by decide), by decide, fun C T N h => by cases h; exact ⟨tb_c2 191 rfl rfl, tb_c2 192 rfl rfl, tb_c1 11 rfl rfl⟩⟩
theorem oi_Mill : Cond.methodLink "RatSorters$Mill" 3 objectInit ∈ TB := tb_c2 196 rfl rfl
theorem kl_Tokens_81 : Cond.constantLong "RatSorters$Tokens" 81 27 ∈ TB := tb_c3 147 rfl rfl
theorem kl_Tokens_83 : Cond.constantLong "RatSorters$Tokens" 83 10 ∈ TB := tb_c3 151 rfl rfl
theorem kc_U16_227 : Cond.constant "java/lang/StringUTF16" 227 65536 ∈ TB := tb_c3 187 rfl rfl
theorem kc_Chr_110 : Cond.constant "java/lang/Character" 110 55232 ∈ TB := tb_c3 212 rfl rfl
theorem kc_Chr_76 : Cond.constant "java/lang/Character" 76 56320 ∈ TB := tb_c3 216 rfl rfl
theorem ac_byte : Cond.arrayClass .byte ∈ TB := tb_c4 103 rfl rfl
theorem kc_Mill_163 : Cond.constant "RatSorters$Mill" 163 1103515245 ∈ TB := tb_c4 225 rfl rfl
theorem kc_Int_265 : Cond.constant "java/lang/Integer" 265 1431655765 ∈ TB := tb_c5 119 rfl rfl
theorem kc_Int_266 : Cond.constant "java/lang/Integer" 266 858993459 ∈ TB := tb_c5 120 rfl rfl
theorem kc_Int_267 : Cond.constant "java/lang/Integer" 267 252645135 ∈ TB := tb_c5 121 rfl rfl
theorem nc_Law_10 : NC "RatSortersLaw" 10 11 := ⟨cls_ok 11 (by decide), by decide, fun C T N h => by cases h; exact ⟨tb_c6 22 rfl rfl, tb_c6 23 rfl rfl, tb_c1 13 rfl rfl⟩⟩
theorem oi_Mo : Cond.methodLink "RatSortersModel" 7 objectInit ∈ TB := tb_c6 27 rfl rfl
theorem kl_Mo_199 : Cond.constantLong "RatSortersModel" 199 27 ∈ TB := tb_c6 38 rfl rfl
theorem ac_boolean : Cond.arrayClass .boolean ∈ TB := tb_c7 36 rfl rfl
theorem kc_Mo_354 : Cond.constant "RatSortersModel" 354 1103515245 ∈ TB := tb_c8 7 rfl rfl
theorem oi_inst : Cond.instanceMethod objectInit ∈ TB := tb_c1 27 rfl rfl
theorem oi_code : Cond.code objectInit ⟨#[0xb1]⟩ 1 none ∈ TB := tb_c1 28 rfl rfl
