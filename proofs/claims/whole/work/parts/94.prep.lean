/-! BEFORE AND AFTER THE READING -/
/-- the grammar never goes behind the text's end -/
theorem gp_M {T : Nat → Nat} {L M : Nat} {f r : Bool} {p : Nat × Nat} (h : p.1 ≤ M) (hf : f = true → kK T L M p.1 ≠ 0) : (gp f r p).1 ≤ M := by
  unfold gp
  split
  · exact h
  · split
    · exact h
    · rename_i y
      split
      · exact h
      · have : f = true := by cases f with
          | true => rfl
          | false => exact absurd rfl y
        have := kK_M.mpr (hf this)
        show p.1 + 1 ≤ M; omega
theorem gk_M {T : Nat → Nat} {L M κ : Nat} {p : Nat × Nat} (h0 : κ ≠ 0) (h : p.1 ≤ M) : (gk (kK T L M) κ p).1 ≤ M := by
  unfold gk
  refine gp_M (T := T) (L := L) h (fun y => ?_)
  have : kK T L M p.1 = κ := by simpa using y
  omega
theorem gRow_M {T : Nat → Nat} {L M : Nat} : ∀ (l : List Nat) (p : Nat × Nat), (∀ x, x ∈ l → x ≠ 0) → p.1 ≤ M → (gRow (kK T L M) l p).1 ≤ M
  | [], _, _, h => h
  | x :: l, p, hx, h => gRow_M l _ (fun y hy => hx y (List.mem_cons_of_mem _ hy)) (gk_M (hx x (List.mem_cons_self ..)) h)
theorem gW_M {T : Nat → Nat} {L M : Nat} : ∀ (m : Nat) (p : Nat × Nat), p.1 ≤ M → (gW (kK T L M) m p).1 ≤ M
  | 0, _, h => h
  | m + 1, p, h => by
    rw [gW]
    split
    · rename_i y
      exact gW_M m _ (gk_M (by omega) (gp_M (T := T) (L := L) h (fun _ => by omega)))
    · exact h
theorem gE_M {T : Nat → Nat} {L M : Nat} : ∀ (n o : Nat) (due : Bool) (p : Nat × Nat), p.1 ≤ M → (gE (kK T L M) n o due p).1 ≤ M
  | 0, _, _, _, h => h
  | n + 1, o, due, p, h => by
    rw [gE]
    split
    · exact h
    · split
      · rename_i y; exact gE_M n _ _ _ (gp_M (T := T) (L := L) h (fun _ => by omega))
      · split
        · refine gE_M n _ _ _ (gp_M (T := T) (L := L) h (fun y => ?_))
          have : kK T L M p.1 = 3 ∨ (17 ≤ kK T L M p.1 ∧ kK T L M p.1 ≤ 23) := by simpa using y
          omega
        · split
          · rename_i y; exact gE_M n _ _ _ (gp_M (T := T) (L := L) h (fun _ => by omega))
          · split
            · rename_i y; exact gE_M n _ _ _ (gp_M (T := T) (L := L) h (fun _ => by omega))
            · split
              · exact h
              · exact h
theorem gSum_M {T : Nat → Nat} {L M e : Nat} {p : Nat × Nat} (he : e = 30 ∨ e = 15 ∨ e = 16 ∨ e = 24) (h4 : p.1 ≤ 400) (h : p.1 ≤ M) : (gSum (kK T L M) e p).1 ≤ M := by
  rw [(gSum_le he h4).1]
  exact gk_M (by omega) (gE_M _ _ _ _ h)
theorem gL_M {T : Nat → Nat} {L M : Nat} : ∀ (m : Nat) (p : Nat × Nat), p.1 ≤ 400 → p.1 ≤ M → (gL (kK T L M) m p).1 ≤ M
  | 0, _, _, h => h
  | m + 1, p, h4, h => by
    rw [gL]
    split
    · rename_i y
      have l0 := gp_le (fits := true) (room := decide (1 ≤ m)) h4
      have l1 := (gSum_le (K := kK T L M) (e := 30) (by omega) l0).2
      have l2 := (gSum_le (K := kK T L M) (e := 15) (by omega) l1).2
      have l3 := (gSum_le (K := kK T L M) (e := 16) (by omega) l2).2
      exact gL_M m _ l3 (gSum_M (by omega) l2 (gSum_M (by omega) l1 (gSum_M (by omega) l0 (gp_M (T := T) (L := L) h (fun _ => by omega)))))
    · exact h
theorem gBody_M {T : Nat → Nat} {L M w : Nat} {p : Nat × Nat} (h4 : p.1 ≤ 400) (h : p.1 ≤ M) : (gBody (kK T L M) w p).1 ≤ M := by
  unfold gBody
  split
  · exact gRow_M _ _ (by simp) h
  · split
    · exact gRow_M _ _ (by simp) h
    · split
      · exact gRow_M _ _ (by simp) h
      · split
        · unfold gLaw
          have l0 : (gk (kK T L M) 25 p).1 ≤ 400 := gp_le h4
          exact gSum_M (by omega) (gL_bd 5 _ l0).2 (gL_M 5 _ l0 (gk_M (by omega) h))
        · split
          · unfold gWants; exact gk_M (by omega) (gW_M _ _ (gk_M (by omega) h))
          · exact gRow_M _ _ (by simp) h
theorem gAll_M {T : Nat → Nat} {L M : Nat} : ∀ (n : Nat) (c : Nat → Nat) (p : Nat × Nat), p.1 ≤ 400 → p.1 ≤ M → (gAll (kK T L M) n c p).1 ≤ M
  | 0, _, _, _, h => h
  | n + 1, c, p, h4, h => by
    rw [gAll]
    split
    · rename_i y
      have b1 : (gBeg (kK T L M) c p).1 ≤ M := by unfold gBeg; exact gp_M (T := T) (L := L) h (fun _ => y.2)
      have b2 : (gBeg (kK T L M) c p).1 ≤ 400 := by unfold gBeg; exact gp_le h4
      have t1 : (gTell (kK T L M) c p).1 ≤ M := by
        unfold gTell
        split
        · exact b1
        · exact gBody_M b2 b1
      by_cases z : (gTell (kK T L M) c p).2 = 0
      · exact gAll_M n _ _ (gTell_bd z).2 t1
      · rw [gAll_f z]; exact t1
    · exact h
theorem RB.up2 {u v : MS} {b lo hi : Nat} {q : Br} (h : RB u b q) (hh : RRg u lo hi b) (h8 : hi ≤ 840) (e : ∀ a, 152 ≤ a → a ≤ 156 → v.1 a b = u.1 a b) (c : ∀ j, lo ≤ j → j < hi → v.1 157 j = u.1 157 j ∧ v.1 158 j = u.1 158 j) : RB v b q := by
  obtain ⟨i1, i2, i3, i4, a1, a2, a3, a4, a5, a6, a7⟩ := h
  obtain ⟨j1, j3, j4, b1, b2, b3, b4, b5, b6⟩ := hh
  have e4 : i4 = j4 := (nI_eq (by omega) (by omega)).mp (a2.symm.trans b2)
  have e3 : i3 = j3 := (nI_eq (by omega) (by omega)).mp (a1.symm.trans b1)
  refine ⟨i1, i2, i3, i4, by rw [e 155 (by omega) (by omega)]; exact a1, by rw [e 156 (by omega) (by omega)]; exact a2, a3, a4, RC.up _ _ (fun j x1 x2 => c j (by omega) (by omega)) a5, fun z => by rw [e 152 (by omega) (by omega)]; exact a6 z, fun z => ?_⟩
  obtain ⟨d1, d2, d3, d4, d5, d6, d7⟩ := a7 z
  obtain ⟨k1, k2, k3⟩ := b6 d1
  have e1 : i1 = j1 := (nI_eq (by omega) (by omega)).mp (d2.symm.trans k1)
  exact ⟨by rw [e 152 (by omega) (by omega)]; exact d1, by rw [e 153 (by omega) (by omega)]; exact d2, by rw [e 154 (by omega) (by omega)]; exact d3, d4, d5, RC.up _ _ (fun j x1 x2 => c j (by omega) (by omega)) d6, RC.up _ _ (fun j x1 x2 => c j (by omega) (by omega)) d7⟩
theorem RL.up2 {u v : MS} {lo hi : Nat} (h8 : hi ≤ 840) (c : ∀ j, lo ≤ j → j < hi → v.1 157 j = u.1 157 j ∧ v.1 158 j = u.1 158 j) : ∀ (l : List Br) (f : Nat), RRl u lo hi f l.length → (∀ a, 152 ≤ a → a ≤ 156 → ∀ j, f ≤ j → j < f + l.length → v.1 a j = u.1 a j) → RL u f l → RL v f l
  | [], _, _, _, _ => trivial
  | q :: l, f, hr, e, h => by
    refine ⟨h.1.up2 (lo := lo) (hi := hi) (hr 0 (by simp)) h8 (fun a a1 a2 => e a a1 a2 f (Nat.le_refl _) (by simp)) c, RL.up2 (lo := lo) h8 c l (f + 1) (fun i hi' => ?_) (fun a a1 a2 j j1 j2 => e a a1 a2 j (by omega) (by simp; omega)) h.2⟩
    have := hr (i + 1) (by simp; omega)
    rw [show f + (i + 1) = f + 1 + i by omega] at this
    exact this
/-- the live text stands while the other side is written -/
theorem TR.os {d : TD} {lv : Nat} {s u : MS} (hO : TOk d) (hv : lv < 2) (h : TR d lv s) (k : OS lv s u) : TR d lv u := by
  obtain ⟨k1, k2, k3, k4, k5, k6, k7, k8⟩ := k
  have r8 := hO.r8
  have g6 := hO.g6
  have h6' := hO.h6
  have m5 := hO.m5
  obtain ⟨h1, h2, h3, h4, h5, h6, h7, h8, ⟨h9, h9'⟩, h10, h11, h12, h13, h14⟩ := h
  refine ⟨by rw [k1 131 (by omega)]; exact h1, by rw [k1 134 (by omega)]; exact h2, by rw [k1 137 (by omega)]; exact h3, by rw [k1 142 (by omega)]; exact h4, by rw [k1 147 (by omega)]; exact h5, by rw [k1 148 (by omega)]; exact h6, by rw [k1 149 (by omega)]; exact h7, fun j hj => ?_, ⟨fun j hj => by rw [k2 135 (by omega) j hj]; exact h9 j hj, h9'⟩, fun j hj => by rw [k2 136 (by omega) j (by omega)]; exact h10 j hj, fun r hr => ?_, fun m hm => ?_, fun k' hk' => ?_, fun k' hk' => ?_⟩
  · rw [k2 132 (by omega) j (by omega), k2 133 (by omega) j (by omega)]; exact h8 j hj
  · rw [k3 138 (by omega) (by omega) r (by omega), k3 139 (by omega) (by omega) r (by omega), k3 140 (by omega) (by omega) r (by omega), k3 141 (by omega) (by omega) r (by omega)]; exact h11 r hr
  · obtain ⟨q1, n, q2, q3, q4⟩ := h12 m hm
    refine ⟨by rw [k4 143 (by omega) m (by omega)]; exact q1, n, q2, by rw [k4 144 (by omega) m (by omega)]; exact q3, fun k' hk' => ?_⟩
    rw [wsum_cg n (A := s.1 145) (B := s.1 146) (fun i hi => ?_)]
    · exact q4 k' hk'
    · rw [show 4 * (5 * lv + m) + i = 20 * lv + (4 * m + i) by omega]
      exact ⟨k5 145 (by omega) _ (by omega), k5 146 (by omega) _ (by omega)⟩
  · obtain ⟨f, r1, r2, r3, r4, r5⟩ := h13 k' hk'
    refine ⟨f, by rw [k6 150 (by omega) k' hk']; exact r1, by rw [k6 151 (by omega) k' hk']; exact r2, r3, ?_, r5⟩
    rcases h14 k' hk' with e | ⟨f0, g1, g2, g3, g4⟩
    · rw [e]; exact trivial
    · have ef : f = f0 := (nI_eq (by omega) (by omega)).mp (r1.symm.trans g1)
      subst ef
      refine RL.up2 (lo := 420 * lv) (hi := 420 * lv + 420) (by omega) (fun j j1 j2 => ?_) _ _ g4 (fun a a1 a2 j j1 j2 => ?_) r4
      · have e1 := k8 157 (by omega) (j - 420 * lv) (by omega)
        have e2 := k8 158 (by omega) (j - 420 * lv) (by omega)
        rw [show 420 * lv + (j - 420 * lv) = j by omega] at e1 e2
        exact ⟨e1, e2⟩
      · have e1 := k7 a a1 a2 (j - 130 * lv) (by omega)
        rw [show 130 * lv + (j - 130 * lv) = j by omega] at e1
        exact e1
  · rcases h14 k' hk' with e | ⟨f0, g1, g2, g3, g4⟩
    · exact Or.inl e
    · refine Or.inr ⟨f0, by rw [k6 150 (by omega) k' hk']; exact g1, g2, g3, fun i hi => ?_⟩
      have ee : ∀ a, 152 ≤ a → a ≤ 156 → u.1 a (f0 + i) = s.1 a (f0 + i) := fun a a1 a2 => by
        have e1 := k7 a a1 a2 (f0 + i - 130 * lv) (by omega)
        rw [show 130 * lv + (f0 + i - 130 * lv) = f0 + i by omega] at e1
        exact e1
      rw [ee 152 (by omega) (by omega), ee 153 (by omega) (by omega), ee 155 (by omega) (by omega), ee 156 (by omega) (by omega)]
      exact g4 i hi
/-- nothing is told -/
def d0 (fa : Row) : TD := ((0, 0, 0, 9999, 50, fun _ => 0, fa, 0, lawOf (fun _ => [])), (fun _ => []), (fun _ => 0), (fun _ => 0), (fun _ => 0), (fun _ => 0), (fun _ => 0), (fun _ => 0), 0, (fun _ => 0), fun _ _ => 0)
theorem d0_PI (fa : Row) : PIv (d0 fa) [] := by
  refine ⟨⟨⟨⟨Nat.zero_le _, Nat.zero_le _, Nat.zero_le _, fun r hr => absurd hr (Nat.not_lt_zero _)⟩, ⟨9999, Nat.le_refl _, rfl⟩, fun h hh => absurd hh (Nat.not_lt_zero _)⟩, rfl, fun k q hq => absurd hq (by show ¬ q ∈ ([] : List Br); simp), fun h hh => absurd hh (Nat.not_lt_zero _), fun h hh => absurd hh (Nat.not_lt_zero _), fun h hh => absurd hh (Nat.not_lt_zero _), fun h hh => absurd hh (Nat.not_lt_zero _), Nat.zero_le _, ⟨50, by omega, by omega, rfl⟩, fun h hh => absurd hh (Nat.not_lt_zero _), fun m k hm => absurd hm (Nat.not_lt_zero _)⟩, fun m k _ => rfl, fun v i e => ?_, fun v i e => ?_, rfl⟩
  · rw [nlF] at e; exact absurd e (by simp)
  · rw [nlF] at e; exact absurd e (by simp)
theorem d0_CN (fa : Row) : CNt (fun _ => 0) (d0 fa) := ⟨rfl, rfl, rfl, rfl⟩
section Prep
variable {E : EN} {g : GS} {s : MS} {T : Nat → Nat} {L M sd lv t w : Nat}
theorem f_Laws_clear {R : MS → Prop} (hW : LW g w) (h : ∀ u, u.1 w = upd (s.1 w) 4 0 → (∀ k, k < 3 → u.1 (w + 2) k = -1) → (∀ a, a ≠ w → a ≠ w + 2 → u.1 a = s.1 a) → u.2 = s.2 → R u) : GV E m_Laws_clear [.ref w] g s R := by
  refine v_Laws_clear (Q := qV g R) w hW (fun s1 e1 => ?_)
  refine upto (P := fun k => ∀ v, v.1 w = upd (s.1 w) 4 0 → (∀ j, j < k → v.1 (w + 2) j = -1) → (∀ a, a ≠ w → a ≠ w + 2 → v.1 a = s.1 a) → v.2 = s.2 → AWP E m_Laws_clear 7 0 0 [(0, .ref w), (1, .int (nI k))] [] (mk g v) (qV g R)) 3 ?_ ?_ 0 (Nat.zero_le _) s1 (by rw [e1, wi_s]) (fun j hj => absurd hj (by omega)) (fun a h1 h2 => by rw [e1, wi_n _ _ _ h1]) (by rw [e1, wi_2])
  · intro v a1 a2 a3 a4
    exact v_Laws_clear_7 w _ hW (pk_le 3 3 (fun _ => GV.r (h v a1 a2 a3 a4)) (fun z => absurd z (by omega)))
  · intro k hk ih v a1 a2 a3 a4
    refine v_Laws_clear_7 w _ hW ?_
    rw [tn_n (by omega), nI_1 k]
    refine pk_le 3 k (fun z => absurd z (by omega)) (fun _ => ⟨vp_in_nI (by omega) (by omega), fun z e => ih z ?_ (fun j hj => ?_) (fun a h1 h2 => ?_) ?_⟩)
    · rw [e, wi_n _ _ _ (by omega)]; exact a1
    · rw [e, wi_s, upd_a]
      by_cases q : j = k
      · rw [if_pos q]
      · rw [if_neg q]; exact a2 j (by omega)
    · rw [e, wi_n _ _ _ h2]; exact a3 a h1 h2
    · rw [e, wi_2]; exact a4
theorem f_Text_clear {R : MS → Prop} (fa : Row) (hS : SX g) (et : t = 88 ∨ t = 104) (h : ∀ u, TCf (d0 fa) t u → u.1 (t + 11) 4 = nI 0 → (∀ a, (a < t ∨ t + 14 ≤ a) → u.1 a = s.1 a) → u.2 = s.2 → R u) : GV E m_Text_clear [.ref t] g s R := by
  have hW : LW g (t + 11) := (TS.of hS et).l
  refine v_Text_clear (Q := qV g R) t hS et (fun s1 e1 s2 e2 s3 e3 s4 e4 s5 e5 s6 e6 s7 e7 => ?_)
  have t7 : s7.1 t = upd (upd (upd (upd (upd (upd (upd (s.1 t) 11 0) 12 0) 13 0) 14 0) 15 9999) 16 50) 17 0 := by rw [e7, wi_s, e6, wi_s, e5, wi_s, e4, wi_s, e3, wi_s, e2, wi_s, e1, wi_s]
  have o7 : ∀ a, a ≠ t → s7.1 a = s.1 a := fun a ha => by rw [e7, wi_n _ _ _ ha, e6, wi_n _ _ _ ha, e5, wi_n _ _ _ ha, e4, wi_n _ _ _ ha, e3, wi_n _ _ _ ha, e2, wi_n _ _ _ ha, e1, wi_n _ _ _ ha]
  have l7 : s7.2 = s.2 := by rw [e7, wi_2, e6, wi_2, e5, wi_2, e4, wi_2, e3, wi_2, e2, wi_2, e1, wi_2]
  refine upto (P := fun k => ∀ v, (∀ j, j < k → v.1 (t + 10) j = 0) → (∀ a, a ≠ t + 10 → v.1 a = s7.1 a) → v.2 = s7.2 → AWP E m_Text_clear 40 0 0 [(0, .ref t), (1, .int (nI k))] [] (mk g v) (qV g R)) 30 ?_ ?_ 0 (Nat.zero_le _) s7 (fun j hj => absurd hj (by omega)) (fun _ _ => rfl) rfl
  · intro v a1 a2 a3
    refine v_Text_clear_40 t _ hS et (pk_le 30 30 (fun _ => f_Laws_clear hW (fun u b1 b2 b3 b4 => GV.r (h u ?_ ?_ (fun a ha => ?_) ?_))) (fun z => absurd z (by omega)))
    · have ut : u.1 t = s7.1 t := by rw [b3 t (by omega) (by omega), a2 t (by omega)]
      refine ⟨⟨?_, ?_, ?_, ?_, ?_, ?_, ?_, fun j hj => absurd hj (Nat.not_lt_zero _), fun j hj => absurd hj (Nat.not_lt_zero _), fun j hj => absurd hj (Nat.not_lt_zero _), fun j hj => absurd hj (Nat.not_lt_zero _), fun k hk => Or.inl ⟨rfl, b2 k hk⟩⟩, fun m k hm hk => ?_⟩
      · rw [ut, t7, upd_n _ _ (by decide), upd_n _ _ (by decide), upd_n _ _ (by decide), upd_n _ _ (by decide), upd_n _ _ (by decide), upd_n _ _ (by decide), upd_s]; rfl
      · rw [ut, t7, upd_n _ _ (by decide), upd_n _ _ (by decide), upd_n _ _ (by decide), upd_n _ _ (by decide), upd_n _ _ (by decide), upd_s]; rfl
      · rw [ut, t7, upd_n _ _ (by decide), upd_n _ _ (by decide), upd_n _ _ (by decide), upd_n _ _ (by decide), upd_s]; rfl
      · rw [ut, t7, upd_n _ _ (by decide), upd_n _ _ (by decide), upd_n _ _ (by decide), upd_s]; rfl
      · rw [ut, t7, upd_n _ _ (by decide), upd_n _ _ (by decide), upd_s]; rfl
      · rw [ut, t7, upd_n _ _ (by decide), upd_s]; rfl
      · rw [ut, t7, upd_s]; rfl
      · rw [b3 (t + 10) (by omega) (by omega), a1 _ (by omega), if_neg (show ¬ m < dM (d0 fa) from Nat.not_lt_zero _)]
    · rw [b1, upd_s]; rfl
    · rw [b3 a (by omega) (by omega), a2 a (by omega), o7 a (by omega)]
    · rw [b4, a3, l7]
  · intro k hk ih v a1 a2 a3
    refine v_Text_clear_40 t _ hS et ?_
    rw [tn_n (by omega), nI_1 k]
    refine pk_le 30 k (fun z => absurd z (by omega)) (fun _ => ⟨vp_in_nI (by omega) (by omega), fun z e => ih z (fun j hj => ?_) (fun a ha => ?_) ?_⟩)
    · rw [e, wi_s, upd_a]
      by_cases q : j = k
      · rw [if_pos q]
      · rw [if_neg q]; exact a1 j (by omega)
    · rw [e, wi_n _ _ _ ha]; exact a2 a ha
    · rw [e, wi_2]; exact a3
theorem f_Mo_plain {R : MS → Prop} {x : Int32} (ex : x = nI sd) (hsd : sd < 2) (hS : SX g) (h : ∀ u, (u.1 131 sd = 0 ∧ u.1 134 sd = 0 ∧ u.1 137 sd = 0 ∧ u.1 142 sd = 0 ∧ u.1 147 sd = 9999 ∧ u.1 148 sd = 50 ∧ u.1 149 sd = 0 ∧ ∀ k, k < 3 → u.1 150 (3 * sd + k) = 0 ∧ u.1 151 (3 * sd + k) = 0) → (∀ lv, lv + sd = 1 → OS lv s u) → (∀ a, a ≠ 131 → a ≠ 134 → a ≠ 137 → a ≠ 142 → ¬ (147 ≤ a ∧ a < 152) → u.1 a = s.1 a) → u.2 = s.2 → R u) : GV E m_Mo_plain [.ref 120, .int x] g s R := by
  subst ex
  refine v_Mo_plain (Q := qV g R) _ hS ?_
  rw [tn_n (by omega)]
  refine ⟨vp_in_nI hsd (by omega), fun s1 e1 s2 e2 s3 e3 s4 e4 s5 e5 s6 e6 s7 e7 => ?_⟩
  have o7 : ∀ a, a ≠ 131 → a ≠ 134 → a ≠ 137 → a ≠ 142 → ¬ (147 ≤ a ∧ a < 150) → s7.1 a = s.1 a := fun a h1 h2 h3 h4 h5 => by rw [e7, wi_n _ _ _ (by omega), e6, wi_n _ _ _ (by omega), e5, wi_n _ _ _ (by omega), e4, wi_n _ _ _ h4, e3, wi_n _ _ _ h3, e2, wi_n _ _ _ h2, e1, wi_n _ _ _ h1]
  have l7 : s7.2 = s.2 := by rw [e7, wi_2, e6, wi_2, e5, wi_2, e4, wi_2, e3, wi_2, e2, wi_2, e1, wi_2]
  have O7 : ∀ lv, lv + sd = 1 → OS lv s s7 := fun lv hl => by
    have w : ∀ (x : MS) (a : Nat) (v : Int32), (a = 131 ∨ a = 134 ∨ a = 137 ∨ a = 142 ∨ a = 147 ∨ a = 148 ∨ a = 149) → OS lv x (wi x a sd v) := fun x a v ha => OS.w hl (by unfold own; omega)
    rw [e7, e6, e5, e4, e3, e2, e1]
    exact (w _ 131 _ (by omega)).tr ((w _ 134 _ (by omega)).tr ((w _ 137 _ (by omega)).tr ((w _ 142 _ (by omega)).tr ((w _ 147 _ (by omega)).tr ((w _ 148 _ (by omega)).tr (w _ 149 _ (by omega)))))))
  refine upto (P := fun k => ∀ v, (∀ j, j < k → v.1 150 (3 * sd + j) = 0 ∧ v.1 151 (3 * sd + j) = 0) → (∀ lv, lv + sd = 1 → OS lv s v) → (∀ a, a ≠ 150 → a ≠ 151 → v.1 a = s7.1 a) → v.2 = s7.2 → AWP E m_Mo_plain 54 0 0 [(0, .ref 120), (1, .int (nI sd)), (2, .int (nI k))] [] (mk g v) (qV g R)) 3 ?_ ?_ 0 (Nat.zero_le _) s7 (fun j hj => absurd hj (by omega)) O7 (fun _ _ _ => rfl) rfl
  · intro v a1 a2 a3 a4
    refine v_Mo_plain_54 _ _ hS (pk_le 3 3 (fun _ => GV.r (h v ⟨?_, ?_, ?_, ?_, ?_, ?_, ?_, a1⟩ a2 (fun a h1 h2 h3 h4 h5 => by rw [a3 a (by omega) (by omega), o7 a h1 h2 h3 h4 (by omega)]) (by rw [a4, l7]))) (fun z => absurd z (by omega)))
    · rw [a3 131 (by decide) (by decide), e7, wi_n _ _ _ (by decide), e6, wi_n _ _ _ (by decide), e5, wi_n _ _ _ (by decide), e4, wi_n _ _ _ (by decide), e3, wi_n _ _ _ (by decide), e2, wi_n _ _ _ (by decide), e1, wi_s, upd_s]
    · rw [a3 134 (by decide) (by decide), e7, wi_n _ _ _ (by decide), e6, wi_n _ _ _ (by decide), e5, wi_n _ _ _ (by decide), e4, wi_n _ _ _ (by decide), e3, wi_n _ _ _ (by decide), e2, wi_s, upd_s]
    · rw [a3 137 (by decide) (by decide), e7, wi_n _ _ _ (by decide), e6, wi_n _ _ _ (by decide), e5, wi_n _ _ _ (by decide), e4, wi_n _ _ _ (by decide), e3, wi_s, upd_s]
    · rw [a3 142 (by decide) (by decide), e7, wi_n _ _ _ (by decide), e6, wi_n _ _ _ (by decide), e5, wi_n _ _ _ (by decide), e4, wi_s, upd_s]
    · rw [a3 147 (by decide) (by decide), e7, wi_n _ _ _ (by decide), e6, wi_n _ _ _ (by decide), e5, wi_s, upd_s]
    · rw [a3 148 (by decide) (by decide), e7, wi_n _ _ _ (by decide), e6, wi_s, upd_s]
    · rw [a3 149 (by decide) (by decide), e7, wi_s, upd_s]
  · intro k hk ih v a1 a2 a3 a4
    refine v_Mo_plain_54 _ _ hS ?_
    rw [y3, tn_n (by omega), nI_1 k]
    refine pk_le 3 k (fun z => absurd z (by omega)) (fun _ => ⟨vp_in_nI (by omega) (by omega), fun z1 f1 z2 f2 => ih z2 (fun j hj => ?_) (fun lv hl => (a2 lv hl).tr ?_) (fun a h1 h2 => ?_) ?_⟩)
    · rw [f2, wi_s, wi_n _ _ _ (by decide), f1, wi_s, wi_n _ _ _ (by decide), upd_a, upd_a]
      by_cases q : 3 * sd + j = 3 * sd + k
      · rw [if_pos q, if_pos q]; exact ⟨rfl, rfl⟩
      · rw [if_neg q, if_neg q]; exact a1 j (by omega)
    · rw [f2, f1]
      exact (OS.w (sd := sd) hl (by unfold own; omega)).tr (OS.w (sd := sd) hl (by unfold own; omega))
    · rw [f2, wi_n _ _ _ h2, f1, wi_n _ _ _ h1]; exact a3 a h1 h2
    · rw [f2, wi_2, f1, wi_2]; exact a4
theorem d0_TR {u : MS} {fa : Row} (hsd : sd < 2) (h : u.1 131 sd = 0 ∧ u.1 134 sd = 0 ∧ u.1 137 sd = 0 ∧ u.1 142 sd = 0 ∧ u.1 147 sd = 9999 ∧ u.1 148 sd = 50 ∧ u.1 149 sd = 0 ∧ ∀ k, k < 3 → u.1 150 (3 * sd + k) = 0 ∧ u.1 151 (3 * sd + k) = 0) (hf : ∀ j, j < 6 → u.1 135 (6 * sd + j) = fa j) (hf2 : ∀ j, 6 ≤ j → fa j = 0) : TR (d0 fa) sd u := by
  obtain ⟨h1, h2, h3, h4, h5, h6, h7, h8⟩ := h
  exact ⟨h1, h2, h3, h4, h5, h6, h7, fun j hj => absurd hj (Nat.not_lt_zero _), ⟨hf, hf2⟩, fun j hj => absurd hj (Nat.not_lt_zero _), fun j hj => absurd hj (Nat.not_lt_zero _), fun j hj => absurd hj (Nat.not_lt_zero _), fun k hk => ⟨0, (h8 k hk).1, (h8 k hk).2, by show 0 + 0 ≤ 260; omega, trivial, fun q hq => absurd hq (by show ¬ q ∈ ([] : List Br); simp)⟩, fun k hk => Or.inl rfl⟩
theorem f_T_place {R : Int32 → MS → Prop} {a : Nat} (hS : SX g) (hT : TkC T L M s) (ha : a ≤ M) (h : R (nI (pl T L M a)) s) : GI E m_Tokens_placeOf [.ref 18, .int (nI a)] g s R := by
  obtain ⟨t1, t2, t3, t4, t5, t6⟩ := hT
  refine v_Tokens_placeOf (Q := qI g R) _ hS ⟨fun z => absurd z (nI_pos (by omega)), fun _ => ?_⟩
  rw [t1, tn_n (by omega)]
  refine pk_lt M a (fun z => absurd z (by omega)) (fun _ => ⟨vp_in_nI (by omega) (by omega), GI.r ?_⟩)
  unfold pl at h
  by_cases z : a < M
  · rw [if_pos z] at h
    rw [(t3 a z).2.2.1]; exact h
  · have e : a = M := by omega
    rw [if_neg z] at h
    rw [e, t5]; exact h
end Prep
