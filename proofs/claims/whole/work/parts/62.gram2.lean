/-! THE GRAMMAR of the class -/
section Gram2
variable {E : EN} {g : GS} {s : MS} {T : Nat → Nat} {L M : Nat}
def rwS : List (List Nat) := [[], [], [2, 3, 3, 24], [2, 3, 2, 24], [2, 2, 2, 3, 3, 24], [3, 24]]
def rwC (i j : Nat) : Nat := ([[], [], [110, 105, 105, 59], [110, 105, 110, 59], [110, 110, 110, 105, 105, 59], [105, 59]].getD i []).getD j 0
theorem rw_1 : ∀ i, i < 6 → 2 ≤ i → strN.getD i 0 = (rwS.getD i []).length ∧ (rwS.getD i []).length ≤ 6 ∧ (Int32.ofNat (strN.getD i 0)) >>> ((0 : Int32) &&& 31) = nI (rwS.getD i []).length := by decide +kernel
theorem rw_2 : ∀ i, i < 6 → 2 ≤ i → ∀ j, j < (rwS.getD i []).length → (((Int32.toUInt32 (((strBs.getD i []).getD j 0) &&& 255)) % 65536).toInt32) = nI (rwC i j) ∧ rwC i j < 256 ∧ (rwS.getD i []).getD j 0 = (if rwC i j = 110 then 2 else if rwC i j = 105 then 3 else 24) := by decide +kernel
theorem gRow_s {K : Nat → Nat} {q : Nat × Nat} {l : List Nat} {j : Nat} (hj : j < l.length) : gRow K (l.drop j) q = gRow K (l.drop (j + 1)) (gk K (l.getD j 0) q) := by
  rw [List.drop_eq_getElem_cons hj, gRow, List.getD_eq_getElem?_getD, List.getElem?_eq_getElem hj]; rfl
theorem f_G_row {R : MS → Prop} {q : Nat × Nat} {i : Nat} (hi : 2 ≤ i) (h6 : i < 6) (hS : SX g) (hk : g.2.2 22 0 = some 18) (hT : TkC T L M s) (hq : GQ q s) (h : ∀ u, GQ (gRow (kK T L M) (rwS.getD i []) q) u → FGp s u → R u) : GV E m_Grammar_checkRow [.ref 22, .ref (2 + i)] g s R := by
  obtain ⟨r1, r2, r3⟩ := rw_1 i h6 hi
  refine v_Grammar_checkRow (Q := qV g R) i ?_
  have len : ∀ (u : MS) (Rz : Int32 → MS → Prop), Rz (nI (rwS.getD i []).length) u → GI E m_Str_length [.ref (2 + i)] g u Rz := fun u Rz hz =>
    v_Str_length (Q := qI g Rz) i h6 (v_Str_coder (Q := qI g _) i h6 ⟨by decide +kernel, GI.r (by rw [r3]; exact GI.r hz)⟩)
  refine upto (P := fun j => ∀ u q', GQ q' u → FGp s u → gRow (kK T L M) ((rwS.getD i []).drop j) q' = gRow (kK T L M) (rwS.getD i []) q → AWP E m_Grammar_checkRow 2 0 0 [(0, .ref 22), (1, .ref (2 + i)), (2, .int (nI j))] [] (mk g u) (qV g R)) (rwS.getD i []).length ?_ ?_ 0 (Nat.zero_le _) s q hq (FGp.rf s) rfl
  · intro u q' a1 a2 a3
    rw [List.drop_length, gRow] at a3
    refine v_Grammar_checkRow_2 i _ hS h6 (len _ _ (pk_le (rwS.getD i []).length (rwS.getD i []).length (fun _ => GV.r (h u (by rw [← a3]; exact a1) a2)) (fun q => absurd q (by omega))))
  · intro j hj ih u q' a1 a2 a3
    obtain ⟨c1, c2, c3⟩ := rw_2 i h6 hi j hj
    rw [gRow_s hj, c3] at a3
    refine v_Grammar_checkRow_2 i _ hS h6 (len _ _ (pk_le (rwS.getD i []).length j (fun q => absurd q (by omega)) (fun _ => ?_)))
    refine f_charAt h6 (by omega) (by omega) c1 (nrw _ c2) ?_
    rw [nI_1 j]
    have pk : ∀ κ : Nat, κ < 33 → gRow (kK T L M) ((rwS.getD i []).drop (j + 1)) (gk (kK T L M) κ q') = gRow (kK T L M) (rwS.getD i []) q → GV E m_Grammar_passKind [.ref 22, .int (nI κ)] g u (fun t3_ => AWP E m_Grammar_checkRow 2 0 0 [(0, .ref 22), (1, .ref (2 + i)), (2, .int (nI (j + 1)))] [] (mk g t3_) (qV g R)) := fun κ hκ e =>
      f_G_passKind hκ hS hk (hT.gr a2.G) a1 (fun v v1 v2 => ih v _ v1 (a2.tr v2) e)
    refine pk_eq (rwC i j) 110 (fun z => pk 2 (by omega) (by rw [if_pos z] at a3; exact a3)) (fun z => pk_eq (rwC i j) 105 (fun z2 => pk 3 (by omega) (by rw [if_neg z, if_pos z2] at a3; exact a3)) (fun z2 => pk 24 (by omega) (by rw [if_neg z, if_neg z2] at a3; exact a3)) rfl rfl (by omega) (by omega)) rfl rfl (by omega) (by omega)
theorem f_G_wants {R : MS → Prop} {q : Nat × Nat} (hS : SX g) (hk : g.2.2 22 0 = some 18) (hT : TkC T L M s) (hq : GQ q s) (h : ∀ u, GQ (gWants (kK T L M) q) u → FGp s u → R u) : GV E m_Grammar_checkWants [.ref 22] g s R := by
  refine v_Grammar_checkWants (Q := qV g R) hS ?_
  refine f_G_passKind (κ := 3) (by omega) hS hk hT hq (fun u0 p1 p2 => ?_)
  unfold gWants at h
  have fin : ∀ u q', GQ q' u → FGp s u → q' = gW (kK T L M) 5 (gk (kK T L M) 3 q) → GV E m_Grammar_passKind [.ref 22, .int 24] g u (fun t1_ => qV g R none (mk g t1_)) := fun u q' a1 a2 a3 =>
    f_G_passKind (κ := 24) (by omega) hS hk (hT.gr a2.G) a1 (fun v v1 v2 => GV.r (h v (by rw [← a3]; exact v1) (a2.tr v2)))
  have lp : ∀ m, m ≤ 5 → ∀ u q', GQ q' u → FGp s u → gW (kK T L M) m q' = gW (kK T L M) 5 (gk (kK T L M) 3 q) → AWP E m_Grammar_checkWants 7 0 0 [(0, .ref 22), (1, .int (nI (5 - m)))] [] (mk g u) (qV g R) := by
    intro m
    induction m with
    | zero =>
      intro _ u q' a1 a2 a3
      exact v_Grammar_checkWants_7 _ hS (pk_lt 4 5 (fun _ => fin u q' a1 a2 a3) (fun w => absurd w (by omega)))
    | succ m ih =>
      intro hm u q' a1 a2 a3
      refine v_Grammar_checkWants_7 _ hS (pk_lt 4 (5 - (m + 1)) (fun w => absurd w (by omega)) (fun _ => ?_))
      rw [a1.2.1]
      rw [gW] at a3
      have l2 := a1.2.2.2
      refine pk_eq q'.2 0 (fun z => ?_) (fun z => fin u q' a1 a2 (by rw [if_neg (fun w => z w.1)] at a3; exact a3))
      refine f_G_kind hS hk (hT.gr a2.G) a1 ?_
      have kl := kK_lt T L M q'.1
      refine pk_eq _ 2 (fun z2 => ?_) (fun z2 => fin u q' a1 a2 (by rw [if_neg (fun w => z2 w.2)] at a3; exact a3)) rfl rfl (by omega) (by omega)
      rw [if_pos ⟨z, z2⟩] at a3
      rw [nI_1, show 5 - (m + 1) + 1 = 5 - m by omega]
      have go : ∀ x2, x2 = bI (decide (1 ≤ m)) → GV E m_Grammar_pass [.ref 22, .int 1, .int x2] g u (fun t3_ => GV E m_Grammar_passKind [.ref 22, .int 3] g t3_ (fun t4_ => AWP E m_Grammar_checkWants 7 0 0 [(0, .ref 22), (1, .int (nI (5 - m)))] [] (mk g t4_) (qV g R))) := fun x2 ex =>
        f_G_pass true (decide (1 ≤ m)) rfl (fun _ => ex) hS a1 (fun v v1 v2 => f_G_passKind (κ := 3) (by omega) hS hk (hT.gr (a2.tr v2).G) v1 (fun w w1 w2 => ih (by omega) w _ w1 ((a2.tr v2).tr w2) a3))
      refine pk_le 4 (5 - (m + 1)) (fun w => go 0 ?_) (fun w => go 1 ?_)
      · rw [decide_eq_false (by omega)]; rfl
      · rw [decide_eq_true (by omega)]; rfl
  exact lp 5 (by omega) u0 _ p1 p2 rfl
theorem gS_f {K : Nat → Nat} {e n o : Nat} {due : Bool} {q : Nat × Nat} (h : q.2 ≠ 0) : gS K e n o due q = q := by
  cases n with
  | zero => rfl
  | succ n => rw [gS, if_pos h]
theorem gp_nz {fits room : Bool} {q : Nat × Nat} (h : q.2 = 0) (k : fits = false ∨ room = false) : (gp fits room q).2 ≠ 0 := by
  unfold gp
  rw [if_neg (fun w => w h)]
  rcases k with k | k
  · rw [if_pos k]; show (1 : Nat) ≠ 0; omega
  · split
    · show (1 : Nat) ≠ 0; omega
    · rw [if_pos (Or.inl k)]; show (2 : Nat) ≠ 0; omega
theorem f_G_sum {R : MS → Prop} {q : Nat × Nat} {e : Nat} (he : e < 33) (hS : SX g) (hk : g.2.2 22 0 = some 18) (hT : TkC T L M s) (hq : GQ q s) (h : ∀ u, GQ (gSum (kK T L M) e q) u → FGp s u → R u) : GV E m_Grammar_checkSum [.ref 22, .int (nI e)] g s R := by
  refine v_Grammar_checkSum (Q := qV g R) _ ?_
  have lp : ∀ n, n ≤ 401 → ∀ u q' o due x2 x3, GQ q' u → FGp s u → x3 = bI due → (q'.2 = 0 → x2 = nI o ∧ o ≤ 6) → gS (kK T L M) e n o due q' = gSum (kK T L M) e q → AWP E m_Grammar_checkSum 7 0 0 [(0, .ref 22), (1, .int (nI e)), (2, .int x2), (3, .int x3), (4, .int (nI (401 - n)))] [] (mk g u) (qV g R) := by
    intro n
    induction n with
    | zero =>
      intro _ u q' o due x2 x3 a1 a2 a3 a4 a5
      exact v_Grammar_checkSum_7 _ _ _ _ hS (pk_lt 400 401 (fun _ => v_Grammar_checkSum_179 _ _ _ _ (GV.r (h u (by rw [← a5]; exact a1) a2))) (fun w => absurd w (by omega)))
    | succ n ih =>
      intro hn u q' o due x2 x3 a1 a2 a3 a4 a5
      have l2 := a1.2.2.2
      refine v_Grammar_checkSum_7 _ _ _ _ hS (pk_lt 400 (401 - (n + 1)) (fun w => absurd w (by omega)) (fun _ => ?_))
      rw [a1.2.1]
      refine pk_eq q'.2 0 (fun z => ?_) (fun z => v_Grammar_checkSum_179 _ _ _ _ (GV.r (h u (by rw [gS_f z] at a5; rw [← a5]; exact a1) a2)))
      obtain ⟨b1, b2⟩ := a4 z
      have tk := hT.gr a2.G
      refine f_G_kind hS hk tk a1 ?_
      have kl := kK_lt T L M q'.1
      rw [gS, if_neg (fun w => w z)] at a5
      generalize hκ : kK T L M q'.1 = κ at *
      have n1 : nI (401 - (n + 1)) + 1 = nI (401 - n) := by rw [nI_1]; congr 1; omega
      -- the next round
      have nx : ∀ v q2 o2 due2 y2 y3 y5, GQ q2 v → FGp u v → y3 = bI due2 → (q2.2 = 0 → y2 = nI o2 ∧ o2 ≤ 6) → gS (kK T L M) e n o2 due2 q2 = gSum (kK T L M) e q → AWP E m_Grammar_checkSum 173 0 0 [(0, .ref 22), (1, .int (nI e)), (2, .int y2), (3, .int y3), (4, .int (nI (401 - (n + 1)))), (5, .int y5)] [] (mk g v) (qV g R) := fun v q2 o2 due2 y2 y3 y5 c1 c2 c3 c4 c5 => by
        refine v_Grammar_checkSum_173 _ _ _ _ _ ?_
        rw [n1]
        exact ih (by omega) v q2 o2 due2 y2 y3 c1 (a2.tr c2) c3 c4 c5
      cases due with
      | false =>
        rw [if_neg (fun w => absurd w.1 (by decide)), if_neg (by decide)] at a5
        have x30 : x3 = 0 := a3
        refine ⟨fun _ => ?_, fun w => absurd x30 w⟩
        refine v_Grammar_checkSum_61 _ _ _ _ _ hS ⟨fun _ => ?_, fun w => absurd x30 w⟩
        rw [b1]
        refine pk_eq κ 32 (fun z2 => ?_) (fun z2 => ?_) rfl rfl (by omega) (by omega)
        · rw [if_pos z2] at a5
          refine pk_le o 0 (fun w => ?_) (fun w => ?_)
          · refine f_G_pass false true rfl (fun y => absurd y (by decide)) hS a1 (fun v v1 v2 => v_Grammar_checkSum_121 _ _ _ _ _ (nx v _ (o - 1) false _ _ _ v1 v2 a3 (fun y => absurd y (gp_nz z (Or.inl rfl))) ?_))
            rw [decide_eq_false (by omega)] at a5; exact a5
          · refine f_G_pass true true rfl (fun _ => rfl) hS a1 (fun v v1 v2 => v_Grammar_checkSum_121 _ _ _ _ _ (nx v _ (o - 1) false _ _ _ v1 v2 a3 (fun y => ⟨?_, by omega⟩) ?_))
            · rw [show nI o + (-1) = nI o - nI 1 by rw [Int32.sub_eq_add_neg]; rfl, pk_sub (by omega)]
            · rw [decide_eq_true w] at a5; exact a5
        · rw [if_neg z2] at a5
          have l152 : ¬ (26 ≤ κ ∧ κ ≤ 29) → AWP E m_Grammar_checkSum 152 0 0 [(0, .ref 22), (1, .int (nI e)), (2, .int (nI o)), (3, .int x3), (4, .int (nI (401 - (n + 1)))), (5, .int (nI κ))] [] (mk g u) (qV g R) := fun w => by
            rw [if_neg w] at a5
            have dn : ∀ v, GQ (gSum (kK T L M) e q) v → FGp u v → ∀ y2, AWP E m_Grammar_checkSum 172 0 0 [(0, .ref 22), (1, .int (nI e)), (2, .int y2), (3, .int x3), (4, .int (nI (401 - (n + 1)))), (5, .int (nI κ))] [] (mk g v) (qV g R) := fun v v1 v2 y2 => v_Grammar_checkSum_172 _ _ _ _ _ (GV.r (h v v1 (a2.tr v2)))
            refine v_Grammar_checkSum_152 _ _ _ _ _ hS (pk_eq o 0 (fun y => pk_eq κ e (fun y2 => ?_) (fun y2 => ?_) rfl rfl (by omega) (by omega)) (fun y => ?_))
            · rw [decide_eq_true (⟨y, y2⟩ : o = 0 ∧ κ = e)] at a5
              exact f_G_pass true true rfl (fun _ => rfl) hS a1 (fun v v1 v2 => dn v (by rw [← a5]; exact v1) v2 _)
            · rw [decide_eq_false (fun y3 : o = 0 ∧ κ = e => y2 y3.2)] at a5
              exact f_G_pass false true rfl (fun y => absurd y (by decide)) hS a1 (fun v v1 v2 => dn v (by rw [← a5]; exact v1) v2 _)
            · rw [decide_eq_false (fun y3 : o = 0 ∧ κ = e => y y3.1)] at a5
              exact f_G_pass false true rfl (fun y => absurd y (by decide)) hS a1 (fun v v1 v2 => dn v (by rw [← a5]; exact v1) v2 _)
          refine pk_lt κ 26 (fun w => l152 (by omega)) (fun w => pk_lt 29 κ (fun w2 => l152 (by omega)) (fun w2 => ?_) rfl rfl (by omega) (by omega)) rfl rfl (by omega) (by omega)
          rw [if_pos ⟨w, w2⟩] at a5
          exact f_G_pass true true rfl (fun _ => rfl) hS a1 (fun v v1 v2 => nx v _ o true _ _ _ v1 v2 rfl (fun _ => ⟨rfl, b2⟩) a5)
      | true =>
        have x31 : ¬ x3 = 0 := by rw [a3]; decide
        have l61 : κ ≠ 31 → AWP E m_Grammar_checkSum 61 0 0 [(0, .ref 22), (1, .int (nI e)), (2, .int x2), (3, .int x3), (4, .int (nI (401 - (n + 1)))), (5, .int (nI κ))] [] (mk g u) (qV g R) := fun w => by
          rw [if_neg (fun y => w y.2), if_pos rfl] at a5
          have dn : ∀ fits, fits = decide (κ = 3 ∨ (17 ≤ κ ∧ κ ≤ 23)) → ∀ x1, x1 = bI fits → GV E m_Grammar_pass [.ref 22, .int x1, .int 1] g u (fun t4_ => AWP E m_Grammar_checkSum 95 0 0 [(0, .ref 22), (1, .int (nI e)), (2, .int x2), (3, .int x3), (4, .int (nI (401 - (n + 1)))), (5, .int (nI κ))] [] (mk g t4_) (qV g R)) := fun fits ef x1 ex =>
            f_G_pass fits true ex (fun _ => rfl) hS a1 (fun v v1 v2 => v_Grammar_checkSum_95 _ _ _ _ _ (nx v _ o false _ _ _ v1 v2 rfl (fun _ => ⟨b1, b2⟩) (by rw [← ef] at a5; exact a5)))
          refine v_Grammar_checkSum_61 _ _ _ _ _ hS ⟨fun y => absurd y x31, fun _ => ?_⟩
          refine pk_eq κ 3 (fun y => dn true (decide_eq_true (Or.inl y)).symm 1 rfl) (fun y => pk_lt κ 17 (fun y2 => dn false (decide_eq_false (by omega)).symm 0 rfl) (fun y2 => pk_lt 23 κ (fun y3 => dn false (decide_eq_false (by omega)).symm 0 rfl) (fun y3 => dn true (decide_eq_true (Or.inr ⟨y2, y3⟩)).symm 1 rfl) rfl rfl (by omega) (by omega)) rfl rfl (by omega) (by omega)) rfl rfl (by omega) (by omega)
        refine ⟨fun w => absurd w x31, fun _ => ?_⟩
        refine pk_eq κ 31 (fun w => ?_) (fun w => l61 w) rfl rfl (by omega) (by omega)
        rw [if_pos ⟨rfl, w⟩] at a5
        rw [b1]
        refine pk_le 6 o (fun y => ?_) (fun y => ?_)
        · rw [decide_eq_false (by omega)] at a5
          exact f_G_pass true false rfl (fun _ => rfl) hS a1 (fun v v1 v2 => v_Grammar_checkSum_55 _ _ _ _ _ (nx v _ (o + 1) true _ _ _ v1 v2 a3 (fun y => absurd y (gp_nz z (Or.inr rfl))) a5))
        · rw [decide_eq_true (by omega)] at a5
          exact f_G_pass true true rfl (fun _ => rfl) hS a1 (fun v v1 v2 => v_Grammar_checkSum_55 _ _ _ _ _ (nx v _ (o + 1) true _ _ _ v1 v2 a3 (fun _ => ⟨nI_1 o, by omega⟩) a5))
  exact lp 401 (by omega) s q 0 true _ _ hq (FGp.rf s) rfl (fun _ => ⟨rfl, by omega⟩) rfl
end Gram2
