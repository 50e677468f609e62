/-! taught, taughtAt -/
def FrW (t : Nat) (s u : MS) : Prop := (∀ a, ¬ (28 ≤ a ∧ a < 56) → a ≠ t + 15 → u.1 a = s.1 a) ∧ u.2 = s.2 ∧ u.1 29 = s.1 29 ∧ ∀ j, j ≠ 4 → u.1 28 j = s.1 28 j
theorem FrW.rf (t : Nat) (s : MS) : FrW t s s := ⟨fun _ _ _ => rfl, rfl, rfl, fun _ _ => rfl⟩
theorem FrW.tr {t : Nat} {s u v : MS} (h : FrW t s u) (k : FrW t u v) : FrW t s v := ⟨fun a h1 h2 => (k.1 a h1 h2).trans (h.1 a h1 h2), k.2.1.trans h.2.1, k.2.2.1.trans h.2.2.1, fun j hj => (k.2.2.2 j hj).trans (h.2.2.2 j hj)⟩
theorem FrP.W {t : Nat} {s u : MS} (h : FrP t s u) : FrW t s u := ⟨h.1.1, h.1.2.2, h.2.1, h.2.2⟩
theorem FrW.w {t k : Nat} {s : MS} {v : Int32} : FrW t s (wi s 31 k v) := ⟨fun a h1 _ => wi_n s k v (by omega), rfl, wi_n s k v (by decide), fun j _ => by rw [wi_n s k v (by decide)]⟩
theorem KC.w {d : TD} {g : GS} {t : Nat} {f : Row} {sd : Int32} {s u : MS} (k : KC d g t f sd s) (h : FrW t s u) : KC d g t f sd u := by
  obtain ⟨k1, k2, k3, k4, k5, k6, k7, k8, k9, k10⟩ := k
  refine ⟨k1, k2, k3, k4, k5, k6.mv (fun a h1 h2 => h.1 a (by omega) (by omega)), fun j hj => ?_, ?_, fun j hj => ?_, k10⟩
  · rw [h.2.2.1]; exact k7 j hj
  · rw [h.2.2.2 2 (by decide)]; exact k8
  · rw [h.1 1 (by omega) (by omega)]; exact k9 j hj
theorem PC.w {d : TD} {g : GS} {t : Nat} {N : Row} {s u : MS} (h : FrW t s u) (k : PC d g t N s) : PC d g t N u := by
  have et := k.1.et
  refine ⟨k.1.w h, ?_, fun r hr' => ?_, k.2.2.2⟩
  · rw [hr_cg (s := s) (t := u) (b := 74) (fun a h1 h2 _ => h.1 a (by omega) (by omega))]; exact k.2.1
  · rw [h.1 (74 + 4 + r) (by omega) (by omega)]; exact k.2.2.1 r hr'
def gw (st G way r : Nat) : Int32 := nI (way / G ^ (pcn st 8 - pcn st (r + 1)) % G)
def pTd (st G way k : Nat) (N : Row) : Row := fun j => if 90 + k ≤ j ∧ j < 98 ∧ st.testBit (j - 90) = true then gw st G way (j - 90) else N j
def pTu (st G way k : Nat) (N : Row) : Row := fun j => if 90 ≤ j ∧ j < 90 + k ∧ st.testBit (j - 90) = true then gw st G way (j - 90) else N j
theorem pTd_8 {st G way : Nat} {N : Row} : pTd st G way 8 N = N := by
  funext j; rw [pTd, if_neg (by omega)]
theorem pTd_s {st G way k : Nat} {N : Row} (hk : k < 8) (hb : st.testBit k = true) : pTd st G way k N = upd (pTd st G way (k + 1) N) (90 + k) (gw st G way k) := by
  funext j
  rw [upd_a, pTd, pTd]
  by_cases e : j = 90 + k
  · subst e
    rw [if_pos ⟨by omega, by omega, by rw [show 90 + k - 90 = k by omega]; exact hb⟩, if_pos rfl, show 90 + k - 90 = k by omega]
  · rw [if_neg e]
    by_cases q : 90 + (k + 1) ≤ j ∧ j < 98 ∧ st.testBit (j - 90) = true
    · rw [if_pos q, if_pos ⟨by omega, q.2⟩]
    · rw [if_neg q, if_neg (fun w => q ⟨by omega, w.2⟩)]
theorem pTd_n {st G way k : Nat} {N : Row} (hb : ¬ st.testBit k = true) : pTd st G way k N = pTd st G way (k + 1) N := by
  funext j
  rw [pTd, pTd]
  by_cases e : j = 90 + k
  · subst e
    rw [if_neg (fun w => hb (by have := w.2.2; rw [show 90 + k - 90 = k by omega] at this; exact this)), if_neg (by omega)]
  · by_cases q : 90 + (k + 1) ≤ j ∧ j < 98 ∧ st.testBit (j - 90) = true
    · rw [if_pos q, if_pos ⟨by omega, q.2⟩]
    · rw [if_neg q, if_neg (fun w => q ⟨by omega, w.2⟩)]
theorem pTu_0 {st G way : Nat} {N : Row} : pTu st G way 0 N = N := by
  funext j; rw [pTu, if_neg (by omega)]
theorem pTu_s {st G way k : Nat} {N : Row} (hb : st.testBit k = true) : pTu st G way (k + 1) N = upd (pTu st G way k N) (90 + k) (gw st G way k) := by
  funext j
  rw [upd_a, pTu, pTu]
  by_cases e : j = 90 + k
  · subst e
    rw [if_pos ⟨by omega, by omega, by rw [show 90 + k - 90 = k by omega]; exact hb⟩, if_pos rfl, show 90 + k - 90 = k by omega]
  · rw [if_neg e]
    by_cases q : 90 ≤ j ∧ j < 90 + k ∧ st.testBit (j - 90) = true
    · rw [if_pos q, if_pos ⟨q.1, by omega, q.2.2⟩]
    · rw [if_neg q, if_neg (fun w => q ⟨w.1, by omega, w.2.2⟩)]
theorem pTu_n {st G way k : Nat} {N : Row} (hb : ¬ st.testBit k = true) : pTu st G way (k + 1) N = pTu st G way k N := by
  funext j
  rw [pTu, pTu]
  by_cases e : j = 90 + k
  · subst e
    rw [if_neg (fun w => hb (by have := w.2.2; rw [show 90 + k - 90 = k by omega] at this; exact this)), if_neg (by omega)]
  · by_cases q : 90 ≤ j ∧ j < 90 + k ∧ st.testBit (j - 90) = true
    · rw [if_pos q, if_pos ⟨q.1, by omega, q.2.2⟩]
    · rw [if_neg q, if_neg (fun w => q ⟨w.1, by omega, w.2.2⟩)]
theorem pTu_all {st G way n : Nat} {N : Row} (hn : n ≤ 8) (hst : st < 2 ^ n) : pTu st G way n N = pTd st G way 0 N := by
  funext j
  rw [pTu, pTd]
  by_cases q : 90 ≤ j ∧ j < 90 + n ∧ st.testBit (j - 90) = true
  · rw [if_pos q, if_pos ⟨by omega, by omega, q.2.2⟩]
  · rw [if_neg q, if_neg (fun w => q ⟨by omega, ?_, w.2.2⟩)]
    rcases Nat.lt_or_ge j (90 + n) with l | l
    · exact l
    · have : st.testBit (j - 90) = false := Nat.testBit_lt_two_pow (Nat.lt_of_lt_of_le hst (Nat.pow_le_pow_right (by omega) (by omega)))
      rw [w.2.2] at this; exact absurd this (by decide)
theorem pcn_s1 {st k : Nat} (hb : st.testBit k = true) : pcn st (k + 1) = pcn st k + 1 := by rw [pcn, if_pos hb]
theorem pcn_s0 {st k : Nat} (hb : ¬ st.testBit k = true) : pcn st (k + 1) = pcn st k := by rw [pcn, if_neg hb]; rfl
theorem pcn_mono {st : Nat} : ∀ {a b : Nat}, a ≤ b → pcn st a ≤ pcn st b := by
  intro a b h
  induction b with
  | zero => rw [show a = 0 by omega]; exact Nat.le_refl _
  | succ b ih =>
    by_cases e : a = b + 1
    · rw [e]; exact Nat.le_refl _
    · have := ih (by omega)
      have e1 : pcn st (b + 1) = pcn st b + (if st.testBit b then 1 else 0) := rfl
      omega
theorem RW.know {d : TD} {M : Nat} {N N' : Row} (hO : TOk d) (h1 : ∀ j, ¬ (90 ≤ j ∧ j < 98) → N' j = N j) (h2 : ∀ r, r < nR d → ∃ k, k < nG d ∧ N' (90 + r) = nI k) (w : RW d M N) : RW d M N' := by
  have h8 : eR (dE d) ≤ 8 := hO.r8
  obtain ⟨⟨w1, w2, w3⟩, w4, w5⟩ := w
  refine ⟨⟨fun x hx => ?_, ⟨fun k hk => by rw [h1 k (by omega)]; exact w2.1 k hk, by rw [h1 118 (by omega)]; exact w2.2.1, fun x hx => ?_⟩, fun k hk => by rw [h1 k (by omega)]; exact w3.1 k hk, by rw [h1 118 (by omega)]; exact w3.2.1, w3.2.2.1, fun x hx => ?_⟩, w4.cg (fun k hk => h1 k (by omega)) (fun x hx => h1 _ (by omega)), by rw [h1 114 (by omega)]; exact w5⟩
  · rw [h1 (106 + x) (by omega), h1 (58 + x) (by omega), h1 (66 + x) (by omega), h1 (42 + x) (by omega)]
    exact ⟨h2 x hx, (w1 x hx).2⟩
  · rw [h1 (58 + x) (by omega), h1 (74 + x) (by omega), h1 (42 + x) (by omega)]
    exact w2.2.2 x hx
  · rw [h1 (74 + x) (by omega), h1 (50 + x) (by omega), h1 (42 + x) (by omega)]
    exact w3.2.2.2 x hx
theorem RW.td {d : TD} {M st way : Nat} {N : Row} (hO : TOk d) (hG : 0 < nG d) (w : RW d M N) : RW d M (pTd st (nG d) way 0 N) := by
  refine RW.know hO (fun j hj => ?_) (fun r hr' => ?_) w
  · rw [pTd, if_neg (by omega)]
  · rw [pTd]
    split
    · exact ⟨_, Nat.mod_lt _ hG, rfl⟩
    · exact (w.1.1 r hr').1
def pTW (d : TD) (st n : Nat) (N : Row) (w : Nat) : Int32 := wAll d (pMins (dE d) n (pTd st (nG d) w 0 N)) (nH d)
def pTw (d : TD) (st n : Nat) (N : Row) : Nat → Int32 × Int32
  | 0 => (-1, -1)
  | w + 1 => if (pTw d st n N w).2 < pTW d st n N w then (nI w, pTW d st n N w) else pTw d st n N w
theorem pTw_1 (d : TD) (st n : Nat) (N : Row) : ∀ w, (w = 0 ∧ (pTw d st n N w).1 = -1 ∧ (pTw d st n N w).2 = -1) ∨ (pTw d st n N w).1 = -1 ∨ ∃ c, c < w ∧ (pTw d st n N w).1 = nI c
  | 0 => Or.inl ⟨rfl, rfl, rfl⟩
  | w + 1 => by
    rw [pTw]
    split
    · exact Or.inr (Or.inr ⟨w, by omega, rfl⟩)
    · rcases pTw_1 d st n N w with ⟨h1, h2, h3⟩ | h | ⟨c, h1, h2⟩
      · exact Or.inr (Or.inl h2)
      · exact Or.inr (Or.inl h)
      · exact Or.inr (Or.inr ⟨c, by omega, h2⟩)
theorem pTw_2 {d : TD} {st n M : Nat} {N : Row} (hO : TOk d) (hG : 0 < nG d) (hW : RW d M N) : ∀ w, 1 ≤ w → ∃ c, c < w ∧ (pTw d st n N w).1 = nI c
  | 0, h => by omega
  | w + 1, _ => by
    rw [pTw]
    have nn : 0 ≤ pTW d st n N w := wAll_nn hO (RW.mins (n := n) (sd := eSd (dE d)) hO hO.fa (RW.td hO hG hW))
    split
    · exact ⟨w, by omega, rfl⟩
    · rename_i c
      rcases Nat.eq_zero_or_pos w with z | z
      · subst z
        exact absurd (Int32.lt_of_lt_of_le (show (-1 : Int32) < 0 by decide) nn) c
      · obtain ⟨x, h1, h2⟩ := pTw_2 hO hG hW w z
        exact ⟨x, by omega, h2⟩
theorem pw6 {G c : Nat} (hG : G ≤ 6) (hc : c ≤ 4) : G ^ c ≤ 1296 := Nat.le_trans (Nat.pow_le_pow_left hG c) (Nat.le_trans (Nat.pow_le_pow_right (by omega) hc) (by decide))
def okT (d : TD) (x1 x2 : Int32) : Prop := ∃ st, 1 ≤ st ∧ st < 2 ^ nR d ∧ x1 = nI st ∧ pcn st 8 ≤ 4 ∧ (1 ≤ x2 ∧ x2 ≤ 300) ∧ 0 < nG d
/-- what the class remembers of the latest TAUGHT -/
def CW (d : TD) (N : Row) (s : MS) : Prop := s.1 31 4 = 0 ∨ ∃ st n, 1 ≤ st ∧ st < 2 ^ nR d ∧ pcn st 8 ≤ 4 ∧ n ≤ 300 ∧ 0 < nG d ∧ s.1 31 4 = nI st ∧ s.1 31 5 = nI n ∧ s.1 31 6 = (pTw d st n N (nG d ^ pcn st 8)).1 ∧ s.1 31 7 = (pTw d st n N (nG d ^ pcn st 8)).2
noncomputable def taughtA (d : TD) (N : Row) (x1 x2 : Int32) : Int32 := @ite _ (okT d x1 x2) (Classical.propDecidable _) (pTw d x1.toNatClampNeg x2.toNatClampNeg N (nG d ^ pcn x1.toNatClampNeg 8)).2 (-1)
noncomputable def taughtAtA (d : TD) (N : Row) (x1 x2 x3 : Int32) : Int32 := @ite _ (okT d x1 x2 ∧ 0 ≤ x3 ∧ x3 < nI (pcn x1.toNatClampNeg 8)) (Classical.propDecidable _) (nI ((pTw d x1.toNatClampNeg x2.toNatClampNeg N (nG d ^ pcn x1.toNatClampNeg 8)).1.toNatClampNeg / nG d ^ (pcn x1.toNatClampNeg 8 - 1 - x3.toNatClampNeg) % nG d)) (-1)
section Taught
variable {E : EN} {g : GS} {b t lv : Nat} {d : TD} {s : MS} {N : Row} {f : Row} {sd : Int32}
theorem f_Rs_canBeTaught {R : Int32 → MS → Prop} {x1 x2 : Int32} (K : KC d g t f sd s) (h0 : ¬ okT d x1 x2 → R 0 s) (h1 : okT d x1 x2 → R 1 s) : GI E m_Rs_canBeTaught [.ref 16, .int x1, .int x2] g s R := by
  have h8 := K.o.r8
  have g6 := K.o.g6
  have p8 := pw_le h8
  refine v_Rs_canBeTaught (Q := qI g R) _ _ t K.sx K.et K.ht ?_
  rw [K.tc.ra, bt_pow _ (by omega)]
  refine ⟨fun c => GI.r (h0 ?_), fun c => ⟨fun c2 => GI.r (h0 ?_), fun c2 => ?_⟩⟩
  · rintro ⟨st, a1, a2, rfl, -⟩
    exact absurd c (nI_nle (by omega) (by omega))
  · rintro ⟨st, a1, a2, rfl, -⟩
    have := (nI_leI (by omega) (by omega)).mp c2
    omega
  · obtain ⟨st, hst, rfl⟩ := lt_ex (by omega) ⟨Int32.le_of_lt (Int32.not_le.mp c), Int32.not_le.mp c2⟩
    have st1 : 1 ≤ st := by
      rcases Nat.eq_zero_or_pos st with z | z
      · subst z; exact absurd (by decide) c
      · exact z
    have same : ∀ st', nI st = nI st' → st' < 2 ^ nR d → st' = st := fun st' e q => ((nI_eq (by omega) (by omega)).mp e).symm
    refine f_Int_bitCount (by omega) ?_
    have pl := pcn_le st 8
    rw [K.tc.gr]
    refine pk_lt 4 (pcn st 8) (fun q => GI.r (h0 ?_)) (fun q => ⟨fun c3 => GI.r (h0 ?_), fun c3 => ⟨fun c4 => GI.r (h0 ?_), fun c4 => pk_le (nG d) 0 (fun q5 => GI.r (h0 ?_)) (fun q5 => GI.r (h1 ⟨st, st1, hst, rfl, q, ⟨Int32.not_lt.mp c3, Int32.not_lt.mp c4⟩, q5⟩))⟩⟩)
    · rintro ⟨st', a1, a2, a3, a4, -⟩
      rw [same st' a3 a2] at a4; omega
    · rintro ⟨st', a1, a2, a3, a4, a5, -⟩
      exact absurd c3 (Int32.not_lt.mpr a5.1)
    · rintro ⟨st', a1, a2, a3, a4, a5, -⟩
      exact absurd c4 (Int32.not_lt.mpr a5.2)
    · rintro ⟨st', a1, a2, a3, a4, a5, a6⟩
      omega
theorem f_Mo_isSet {R : Int32 → MS → Prop} {x1 x2 : Int32} (hS : SX g) (hO : TOk d) (K : KR d lv s) (h0 : ¬ okT d x1 x2 → R 0 s) (h1 : okT d x1 x2 → R 1 s) : GI E m_Mo_isSet [.ref 120, .int x1, .int x2] g s R := by
  have h8 := hO.r8
  have g6 := hO.g6
  have p8 := pw_le h8
  have p1 : 1 ≤ 2 ^ nR d := Nat.one_le_two_pow
  have hv := K.2.2.1
  refine v_Mo_isSet (Q := qI g R) _ _ hS ⟨by rw [K.2.1]; exact vp_in_nI hv (by omega), ?_⟩
  rw [K.2.1, tn_n (by omega), K.1.ra, bt_pow _ (by omega), show (1 : Int32) = nI 1 from rfl, pk_sub p1]
  refine f_Mo_in (fun q => ⟨fun _ => GI.r (h0 ?_), fun c => absurd rfl c⟩) (fun q => ⟨fun c => absurd c (by decide), fun _ => ?_⟩)
  · rintro ⟨st, a1, a2, rfl, -⟩
    exact q ⟨nI_le a1 (by omega), nI_le (by omega) (by omega)⟩
  · obtain ⟨st, hst, rfl⟩ := le_ex (by omega) rfl ⟨Int32.le_trans (by decide) q.1, q.2⟩
    have st1 : 1 ≤ st := (nI_leI (a := 1) (by omega) (by omega)).mp q.1
    have same : ∀ st', nI st = nI st' → st' < 2 ^ nR d → st' = st := fun st' e q => ((nI_eq (by omega) (by omega)).mp e).symm
    refine f_Mo_bits (by omega) ?_
    have pl := pcn_le st 8
    refine pk_le 5 (pcn st 8) (fun q => GI.r (h0 ?_)) (fun q => f_Mo_in (fun q3 => ⟨fun _ => GI.r (h0 ?_), fun c => absurd rfl c⟩) (fun q3 => ⟨fun c => absurd c (by decide), fun _ => ⟨by rw [K.2.1]; exact vp_in_nI hv (by omega), ?_⟩⟩))
    · rintro ⟨st', a1, a2, a3, a4, -⟩
      rw [same st' a3 a2] at a4; omega
    · rintro ⟨st', a1, a2, a3, a4, a5, -⟩
      exact q3 a5
    · rw [K.2.1, tn_n (by omega), K.1.gr]
      refine pk_le (nG d) 0 (fun q5 => GI.r (h0 ?_)) (fun q5 => GI.r (h1 ⟨st, st1, by omega, rfl, by omega, q3, q5⟩))
      rintro ⟨st', a1, a2, a3, a4, a5, a6⟩
      omega
theorem k_teachWay {R : MS → Prop} {st way : Nat} (hS : SX g) (hO : TOk d) (hG : 0 < nG d) (hst : st < 2 ^ nR d) (hw : way < 2000) (hN : nm (dE d) (hr s 32) = N) (hC : CH 32 s) (h : ∀ u, nm (dE d) (hr u 32) = pTd st (nG d) way 0 N → CH 32 u → FrH 32 s u → R u) : GV E m_Planner_teachWay [.ref 31, .int (nI (nG d)), .int (nI st), .int (nI way)] g s R := by
  have h8 : eR (dE d) ≤ 8 := hO.r8
  have h8' := hO.r8
  have g6 := hO.g6
  have p8 := pw_le h8'
  have bit8 : ∀ k, st.testBit k = true → k < eR (dE d) := by
    intro k hb
    rcases Nat.lt_or_ge k (eR (dE d)) with l | l
    · exact l
    · have : st.testBit k = false := Nat.testBit_lt_two_pow (Nat.lt_of_lt_of_le hst (Nat.pow_le_pow_right (by omega) l))
      rw [hb] at this; exact absurd this (by decide)
  refine v_Planner_teachWay (Q := qV g R) _ _ _ ?_
  have lp : ∀ k, k ≤ 8 → ∀ u, nm (dE d) (hr u 32) = pTd st (nG d) way k N → CH 32 u → FrH 32 s u → AWP E m_Planner_teachWay 7 0 0 [(0, .ref 31), (1, .int (nI (nG d))), (2, .int (nI st)), (3, .int (nI way)), (4, .int (nI (way / nG d ^ (pcn st 8 - pcn st k)))), (5, .int (nI k + (-1)))] [] (mk g u) (qV g R) := by
    intro k
    induction k with
    | zero =>
      intro _ u a1 a2 a3
      exact v_Planner_teachWay_7 _ _ _ _ _ hS ⟨fun _ => GV.r (h u a1 a2 a3), fun c => absurd (by decide) c⟩
    | succ k ih =>
      intro hk u a1 a2 a3
      have ih' := ih (by omega)
      have lw : way / nG d ^ (pcn st 8 - pcn st (k + 1)) < 2000 := Nat.lt_of_le_of_lt (Nat.div_le_self _ _) hw
      rw [pk_m1]
      refine v_Planner_teachWay_7 _ _ _ _ _ hS ⟨fun c => absurd c (nI_pos (by omega)), fun _ => ⟨fun c => ?_, fun c => ⟨fun c2 => absurd c2 (nI_nle hG (by omega)), fun _ => ⟨vp_in_nI (by omega) (by omega), nI_ne0 hG (by omega), fun v e1 => ⟨nI_ne0 hG (by omega), ?_⟩⟩⟩⟩⟩
      · have hb : ¬ st.testBit k = true := by rw [(bt_and st (by omega) k (by omega)).mp c]; decide
        rw [pTd_n hb, ← pcn_s0 hb] at ih'
        exact ih' u a1 a2 a3
      · have hb : st.testBit k = true := by
          cases q : st.testBit k
          · exact absurd ((bt_and st (by omega) k (by omega)).mpr q) c
          · rfl
        have pm : pcn st (k + 1) ≤ pcn st 8 := pcn_mono (by omega)
        have ps := pcn_s1 hb
        rw [pk_rem (by omega) hG (by omega), tn_n (by omega)] at e1
        rw [pk_div (by omega) hG (by omega), Nat.div_div_eq_div_mul, ← Nat.pow_succ, show (pcn st 8 - pcn st (k + 1)).succ = pcn st 8 - pcn st k by omega]
        refine ih' v ?_ ?_ (a3.tr (by rw [e1]; exact FrH.w (by omega) (by omega)))
        · have := bit8 k hb
          rw [pTd_s (by omega) hb, ← a1, ← nm_upd (lvb_of (by omega)), e1]
          exact congrArg (nm (dE d)) (hw_r6 u 32 (r := k) (by omega) _)
        · intro r hr'
          rw [e1]
          by_cases e : r = k
          · subst e
            rw [show (32 + 4 + r) = 36 + r by omega, wi_s, upd_n _ _ (by decide)]
            exact a2 r hr'
          · rw [wi_n _ _ _ (by omega)]; exact a2 r hr'
  have := lp 8 (Nat.le_refl _) s (by rw [pTd_8]; exact hN) hC (FrH.rf 32 s)
  rw [Nat.sub_self, Nat.pow_zero, Nat.div_one] at this
  exact this
theorem k_seekWay {R : MS → Prop} {st n : Nat} (P : PC d g t N s) (hG : 0 < nG d) (st1 : 1 ≤ st) (hst : st < 2 ^ nR d) (hp : pcn st 8 ≤ 4) (hn : n ≤ 300) (hc : CW d N s) (h : ∀ u, FrW t s u → CW d N u → u.1 31 4 = nI st → u.1 31 6 = (pTw d st n N (nG d ^ pcn st 8)).1 → u.1 31 7 = (pTw d st n N (nG d ^ pcn st 8)).2 → R u) : GV E m_Planner_seekWay [.ref 31, .ref 28, .ref 74, .int (nI st), .int (nI n)] g s R := by
  have hS := P.1.sx
  have hO := P.1.o
  have et := P.1.et
  have h8' := hO.r8
  have g6 := hO.g6
  have p8 := pw_le h8'
  have s256 : st < 256 := by omega
  have pw := pw6 g6 hp
  have pw1 : 1 ≤ nG d ^ pcn st 8 := Nat.pow_pos hG
  -- the search itself
  have go : AWP E m_Planner_seekWay 33 0 0 [(0, .ref 31), (1, .ref 28), (2, .ref 74), (3, .int (nI st)), (4, .int (nI n)), (5, .int (s.1 t 11)), (6, .int 1), (7, .int 0)] [] (mk g s) (qV g R) := by
    rw [P.1.tc.gr]
    have lp := upto (P := fun k => AWP E m_Planner_seekWay 33 0 0 [(0, .ref 31), (1, .ref 28), (2, .ref 74), (3, .int (nI st)), (4, .int (nI n)), (5, .int (nI (nG d))), (6, .int (nI (nG d ^ k))), (7, .int (nI k))] [] (mk g s) (qV g R)) (pcn st 8) ?_ ?_ 0 (Nat.zero_le _)
    · rw [Nat.pow_zero] at lp; exact lp
    · refine v_Planner_seekWay_33 74 _ _ _ _ _ hS (f_Int_bitCount s256 (pk_le (pcn st 8) (pcn st 8) (fun _ s2 e2 s3 e3 s4 e4 => ?_) (fun q => absurd q (by omega))))
      have F4 : FrW t s s4 := by rw [e4, e3, e2]; exact FrW.w.tr (FrW.w.tr FrW.w)
      refine upto (P := fun k => ∀ u, FrW t s u → u.1 31 4 = nI st → u.1 31 5 = nI n → ((k = 0 ∧ u.1 31 7 = -1) ∨ (1 ≤ k ∧ u.1 31 6 = (pTw d st n N k).1 ∧ u.1 31 7 = (pTw d st n N k).2)) → AWP E m_Planner_seekWay 74 0 0 [(0, .ref 31), (1, .ref 28), (2, .ref 74), (3, .int (nI st)), (4, .int (nI n)), (5, .int (nI (nG d))), (6, .int (nI (nG d ^ pcn st 8))), (7, .int (nI k))] [] (mk g u) (qV g R)) (nG d ^ pcn st 8) ?_ ?_ 0 (Nat.zero_le _) s4 F4 ?_ ?_ (Or.inl ⟨rfl, by rw [e4, wi_s, upd_s]⟩)
      · intro u a1 a2 a3 a4
        refine v_Planner_seekWay_74 74 _ _ _ _ _ t hS P.1.hm (pk_le (nG d ^ pcn st 8) (nG d ^ pcn st 8) (fun _ => GV.r ?_) (fun q => absurd q (by omega)))
        rcases a4 with ⟨z, -⟩ | ⟨-, z1, z2⟩
        · omega
        · exact h u a1 (Or.inr ⟨st, n, st1, hst, hp, hn, hG, a2, a3, z1, z2⟩) a2 z1 z2
      · intro k hk ih u a1 a2 a3 a4
        have Pu := P.w a1
        refine v_Planner_seekWay_74 74 _ _ _ _ _ t hS P.1.hm (pk_le (nG d ^ pcn st 8) k (fun q => absurd q (by omega)) (fun _ => ?_))
        refine k_takeH (HS32 hS) (HS74 hS) (by omega) Pu.2.1 Pu.2.2.1 (fun v b1 b2 b3 => ?_)
        refine k_teachWay hS hO hG hst (by omega) b1 b2 (fun w c1 c2 c3 => ?_)
        have FH := b3.tr c3
        have F3 : FrP t u w := FH.P (Or.inl rfl) et
        have Wt := RW.td (st := st) (way := k) hO hG P.2.2.2
        refine k_goOn (Pu.1.p F3) HB32 (HS32 hS) c2 c1 Wt (by omega) (by omega) (fun z z1 z2 z3 => ?_)
        have F5 : FrP t u z := F3.tr (z3.P (Or.inl rfl) et)
        have e31 : z.1 31 = u.1 31 := by rw [z3.1 31 (by omega) (by omega) (by omega) (by omega), FH.1 31 (by omega)]
        refine k_allWorth (Pu.1.p F5) (HS32 hS) (N := pMins (dE d) n (pTd st (nG d) k 0 N)) z1 ?_
        show (pTW d st n N k ≤ z.1 31 7 → _) ∧ (¬ pTW d st n N k ≤ z.1 31 7 → _)
        have nn : 0 ≤ pTW d st n N k := wAll_nn hO (RW.mins (n := n) (sd := eSd (dE d)) hO hO.fa Wt)
        rw [e31, nI_1]
        refine ⟨fun y1 => ?_, fun y1 z5 f5 z6 f6 => ?_⟩
        · refine ih z (a1.tr F5.W) (by rw [e31]; exact a2) (by rw [e31]; exact a3) (Or.inr ?_)
          rcases a4 with ⟨_, zz⟩ | ⟨zz, y2, y3⟩
          · rw [zz] at y1; exact absurd (Int32.le_trans nn y1) (by decide)
          · rw [y3] at y1
            rw [pTw, if_neg (Int32.not_lt.mpr y1), e31]
            exact ⟨by omega, y2, y3⟩
        · have lt : (pTw d st n N k).2 < pTW d st n N k := by
            rcases a4 with ⟨z0, zz⟩ | ⟨zz, y2, y3⟩
            · subst z0; exact Int32.lt_of_lt_of_le (show (-1 : Int32) < 0 by decide) nn
            · rw [y3] at y1; exact Int32.not_le.mp y1
          refine ih z6 (a1.tr (F5.W.tr (by rw [f6, f5]; exact FrW.w.tr FrW.w))) ?_ ?_ (Or.inr ?_)
          · rw [f6, wi_s, upd_n _ _ (by decide), f5, wi_s, upd_n _ _ (by decide), e31]; exact a2
          · rw [f6, wi_s, upd_n _ _ (by decide), f5, wi_s, upd_n _ _ (by decide), e31]; exact a3
          · rw [pTw, if_pos lt]
            refine ⟨by omega, ?_, ?_⟩
            · rw [f6, wi_s, upd_s]
            · rw [f6, wi_s, upd_n _ _ (by decide), f5, wi_s, upd_s]; rfl
      · rw [e4, wi_s, upd_n _ _ (by decide), e3, wi_s, upd_n _ _ (by decide), e2, wi_s, upd_s]
      · rw [e4, wi_s, upd_n _ _ (by decide), e3, wi_s, upd_s]
    · intro k hk ih
      have pl := pcn_le st 8
      refine v_Planner_seekWay_33 74 _ _ _ _ _ hS (f_Int_bitCount s256 (pk_le (pcn st 8) k (fun q => absurd q (by omega)) (fun _ => ?_)))
      rw [pk_mul, nI_1, ← Nat.pow_succ]; exact ih
  refine v_Planner_seekWay (Q := qV g R) 74 _ _ t hS et P.1.hm ⟨fun c1 => ⟨fun c2 => GV.r ?_, fun _ => go⟩, fun _ => go⟩
  rcases hc with z | ⟨st', n', q1, q2, q3, q4, q5, q6, q7, q8, q9⟩
  · rw [z] at c1; exact absurd c1.symm (nI_ne0 (by omega) (by omega))
  · have e1 : st' = st := (nI_eq (by omega) (by omega)).mp (q6.symm.trans c1)
    have e2 : n' = n := (nI_eq (by omega) (by omega)).mp (q7.symm.trans c2)
    subst e1
    subst e2
    exact h s (FrW.rf t s) (Or.inr ⟨st', n', q1, q2, q3, q4, q5, q6, q7, q8, q9⟩) q6 q8 q9
theorem okT_x2 {x2 : Int32} (h : 1 ≤ x2 ∧ x2 ≤ 300) : ∃ n, n ≤ 300 ∧ x2 = nI n := le_ex (n := 300) (by decide) rfl ⟨Int32.le_trans (by decide) h.1, h.2⟩
theorem c_taught {R : Int32 → MS → Prop} {x1 x2 : Int32} (P : PC d g t N s) (hc : CW d N s) (h : ∀ u, FrW t s u → CW d N u → R (taughtA d N x1 x2) u) : GI E m_Rs_taught [.ref 16, .int x1, .int x2] g s R := by
  refine v_Rs_taught (Q := qI g R) _ _ P.1.sx (f_Rs_canBeTaught P.1 (fun q => ⟨fun _ => GI.r ?_, fun c => absurd rfl c⟩) (fun q => ⟨fun c => absurd c (by decide), fun _ => ?_⟩))
  · have := h s (FrW.rf t s) hc
    rw [taughtA, if_neg q] at this
    exact this
  · have hh := fun u a1 a2 => h u a1 a2
    simp only [taughtA, if_pos q] at hh
    obtain ⟨st, a1, a2, rfl, a4, a5, a6⟩ := q
    obtain ⟨n, hn, rfl⟩ := okT_x2 a5
    have p8 := pw_le P.1.o.r8
    refine k_seekWay P a6 a1 a2 a4 hn hc (fun u b1 b2 b3 b4 b5 => GI.r ?_)
    have := hh u b1 b2
    rw [tn_n (by omega), tn_n (by omega)] at this
    rw [b5]; exact this
theorem c_taughtAt {R : Int32 → MS → Prop} {x1 x2 x3 : Int32} (P : PC d g t N s) (hc : CW d N s) (h : ∀ u, FrW t s u → CW d N u → R (taughtAtA d N x1 x2 x3) u) : GI E m_Rs_taughtAt [.ref 16, .int x1, .int x2, .int x3] g s R := by
  have g6 := P.1.o.g6
  have p8 := pw_le P.1.o.r8
  refine v_Rs_taughtAt (Q := qI g R) _ _ _ t P.1.sx P.1.et P.1.ht (f_Rs_canBeTaught P.1 (fun q => ⟨fun _ => GI.r ?_, fun c => absurd rfl c⟩) (fun q => ⟨fun c => absurd c (by decide), fun _ => ?_⟩))
  · have := h s (FrW.rf t s) hc
    rw [taughtAtA, if_neg (fun w => q w.1)] at this
    exact this
  · have q' := q
    obtain ⟨st, a1, a2, rfl, a4, a5, a6⟩ := q
    obtain ⟨n, hn, rfl⟩ := okT_x2 a5
    have pl := pcn_le st 8
    have pw := pw6 g6 a4
    have pw1 : 1 ≤ nG d ^ pcn st 8 := Nat.pow_pos a6
    refine f_Int_bitCount (by omega) (f_Rs_isOf (fun q2 => ⟨fun _ => GI.r ?_, fun c => absurd rfl c⟩) (fun q2 => ⟨fun c => absurd c (by decide), fun _ => ?_⟩))
    · have := h s (FrW.rf t s) hc
      rw [taughtAtA, if_neg (fun w => q2 (by have := w.2; rw [tn_n (by omega)] at this; exact this))] at this
      exact this
    · obtain ⟨i, hi, rfl⟩ := lt_ex (by omega) q2
      refine k_seekWay P a6 a1 a2 a4 hn hc (fun u b1 b2 b3 b4 b5 => ?_)
      have hh := h u b1 b2
      rw [taughtAtA, if_pos ⟨q', by rw [tn_n (by omega)]; exact q2⟩, tn_n (by omega), tn_n (by omega), tn_n (by omega)] at hh
      obtain ⟨c, hcl, hce⟩ := pTw_2 (st := st) (n := n) P.1.o a6 P.2.2.2 _ pw1
      rw [hce, tn_n (by omega)] at hh
      rw [(P.w b1).1.tc.gr]
      refine v_Planner_grainOf (Q := qI g _) _ _ P.1.sx ?_
      rw [b3, b4, hce]
      refine f_Int_bitCount (by omega) ?_
      rw [show (1 : Int32) = nI 1 from rfl, pk_sub (by omega)]
      have lp : ∀ m, i ≤ m → m ≤ pcn st 8 - 1 → AWP E m_Planner_grainOf 16 0 0 [(0, .ref 31), (1, .int (nI i)), (2, .int (nI (nG d))), (3, .int (nI (c / nG d ^ (pcn st 8 - 1 - m)))), (4, .int (nI m))] [] (mk g u) (qI g fun y5_ t5_ => qI g R (some (.int y5_)) (mk g t5_)) := by
        intro m
        induction m with
        | zero =>
          intro h1 h2
          have lc : c / nG d ^ (pcn st 8 - 1 - 0) < 2000 := Nat.lt_of_le_of_lt (Nat.div_le_self _ _) (by omega)
          refine v_Planner_grainOf_16 _ _ _ _ (pk_le 0 i (fun _ => ⟨fun q => absurd q (nI_nle a6 (by omega)), fun _ => ⟨nI_ne0 a6 (by omega), GI.r (GI.r ?_)⟩⟩) (fun q => absurd q (by omega)))
          rw [pk_rem (by omega) a6 (by omega)]
          rw [show i = 0 by omega] at hh; exact hh
        | succ m ih =>
          intro h1 h2
          have lc : c / nG d ^ (pcn st 8 - 1 - (m + 1)) < 2000 := Nat.lt_of_le_of_lt (Nat.div_le_self _ _) (by omega)
          refine v_Planner_grainOf_16 _ _ _ _ (pk_le (m + 1) i (fun q => ⟨fun q => absurd q (nI_nle a6 (by omega)), fun _ => ⟨nI_ne0 a6 (by omega), GI.r (GI.r ?_)⟩⟩) (fun q => ⟨fun q => absurd q (nI_nle a6 (by omega)), fun _ => ⟨nI_ne0 a6 (by omega), ?_⟩⟩))
          · rw [pk_rem (by omega) a6 (by omega)]
            rw [show i = m + 1 by omega] at hh; exact hh
          · rw [pk_div (by omega) a6 (by omega), Nat.div_div_eq_div_mul, ← Nat.pow_succ, show (pcn st 8 - 1 - (m + 1)).succ = pcn st 8 - 1 - m by omega, pk_m1]
            exact ih (by omega) (by omega)
      have := lp (pcn st 8 - 1) (by omega) (Nat.le_refl _)
      rw [Nat.sub_self, Nat.pow_zero, Nat.div_one] at this
      exact this
end Taught
