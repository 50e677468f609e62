/-! A LAW, pure: its branches; the class's Laws.write -/
def ceC (K V : Nat → Nat) (a : Nat) : Cd := gC K V 401 0 true a [] []
def lB (K V : Nat → Nat) : Nat → Nat × Nat → List Br
  | 0, _ => []
  | m + 1, q => if q.2 = 0 ∧ K q.1 = 14 then (true, ceC K V (q.1 + 1), ceC K V (gSum K 30 (gp true (decide (1 ≤ m)) q)).1, ceC K V (gSum K 15 (gSum K 30 (gp true (decide (1 ≤ m)) q))).1) :: lB K V m (gSum K 16 (gSum K 15 (gSum K 30 (gp true (decide (1 ≤ m)) q)))) else [(false, [], [], ceC K V q.1)]
def sLaw (K V : Nat → Nat) (f : Nat) : List Br := lB K V 5 (f + 1, 0)
theorem YI.nil : YI true [] [] 0 := ⟨trivial, rfl, by omega, rfl⟩
theorem gC_ok {K V : Nat → Nat} (hV : ∀ j, K j = 3 → V j ≤ 9999) : ∀ (n o : Nat) (due : Bool) (a : Nat) (W : List Nat) (C : Cd), 401 ≤ a + n → a ≤ 400 → (gE K n o due (a, 0)).2 = 0 → YI due W C o → wfc 31 (gC K V n o due a W C) 0 1 ∧ (gC K V n o due a W C).length + a ≤ C.length + oW W + (gE K n o due (a, 0)).1
  | 0, _, _, a, _, _, h1, h2, _, _ => absurd h1 (by omega)
  | n + 1, o, due, a, W, C, h1, h2, hg, hY => by
    rcases gE_st (V := V) (W := W) (C := C) h1 hg hY (hV a) with ⟨rfl, k, a4, g1, g2, y⟩ | ⟨rfl, k, a4, g1, g2, y⟩ | ⟨rfl, k, o0, a4, g1, W', e1, g2, y⟩ | ⟨rfl, k, a4, g1, g2, y⟩ | ⟨rfl, o0, k, g1, g2, y⟩
    · rw [g1] at hg ⊢
      rw [g2]
      have := gC_ok hV n _ _ (a + 1) _ _ (by omega) (by omega) hg y
      rw [oW, if_pos rfl] at this
      exact ⟨this.1, by omega⟩
    · rw [g1] at hg ⊢
      rw [g2]
      have := gC_ok hV n _ _ (a + 1) _ _ (by omega) (by omega) hg y
      rw [List.length_append] at this
      exact ⟨this.1, by have := this.2; simp only [List.length_cons, List.length_nil] at this; omega⟩
    · rw [g1] at hg ⊢
      rw [g2]
      have := gC_ok hV n _ _ (a + 1) _ _ (by omega) (by omega) hg y
      have lens := (yF_ok false W C 2 hY.1 (by have := hY.2.2.2; rw [if_neg (by decide)] at this; exact this)).2.2.2
      rw [e1, oW, if_pos rfl] at lens
      exact ⟨this.1, by omega⟩
    · rw [g1] at hg ⊢
      rw [g2]
      have := gC_ok hV n _ _ (a + 1) _ _ (by omega) (by omega) hg y
      have lens := (yF_ok (decide (28 ≤ K a)) W C 2 hY.1 (by have := hY.2.2.2; rw [if_neg (by decide)] at this; exact this)).2.2.2
      rw [oW, if_neg (by omega)] at this
      exact ⟨this.1, by omega⟩
    · rw [g1, g2]
      have := y.en
      exact ⟨this.2.1, by rw [this.2.2]; exact Nat.le_refl _⟩
theorem gp_ge (f r : Bool) (q : Nat × Nat) : q.1 ≤ (gp f r q).1 := by
  unfold gp
  split
  · exact Nat.le_refl _
  · split
    · exact Nat.le_refl _
    · split
      · exact Nat.le_refl _
      · exact Nat.le_succ _
theorem gE_ge {K : Nat → Nat} : ∀ (n o : Nat) (due : Bool) (q : Nat × Nat), q.1 ≤ (gE K n o due q).1
  | 0, _, _, _ => Nat.le_refl _
  | n + 1, o, due, q => by
    rw [gE]
    split
    · exact Nat.le_refl _
    · split
      · exact Nat.le_trans (gp_ge _ _ _) (gE_ge n _ _ _)
      · split
        · exact Nat.le_trans (gp_ge _ _ _) (gE_ge n _ _ _)
        · split
          · exact Nat.le_trans (gp_ge _ _ _) (gE_ge n _ _ _)
          · split
            · exact Nat.le_trans (gp_ge _ _ _) (gE_ge n _ _ _)
            · split
              · exact Nat.le_refl _
              · exact Nat.le_refl _
theorem gE_gt {K : Nat → Nat} {n o : Nat} {q : Nat × Nat} (h : (gE K (n + 1) o true q).2 = 0) : q.1 < (gE K (n + 1) o true q).1 := by
  have z := gE_z h
  rw [gE, if_neg (show ¬ q.2 ≠ 0 from fun y => y z)] at h ⊢
  by_cases c : true = true ∧ K q.1 = 31
  · rw [if_pos c] at h ⊢
    have := gp_nx (gE_z h)
    have := gE_ge (K := K) n (o + 1) true (gp true (decide (o < 6)) q)
    omega
  · rw [if_neg c, if_pos rfl] at h ⊢
    have := gp_nx (gE_z h)
    have := gE_ge (K := K) n o false (gp (decide (K q.1 = 3 ∨ (17 ≤ K q.1 ∧ K q.1 ≤ 23))) true q)
    omega
/-- an expression that the grammar lets pass, and what ends it -/
theorem gSum_ok {K V : Nat → Nat} {e : Nat} {q : Nat × Nat} (hV : ∀ j, K j = 3 → V j ≤ 9999) (he : e = 30 ∨ e = 15 ∨ e = 16 ∨ e = 24) (h4 : q.1 ≤ 400) (h : (gSum K e q).2 = 0) : q = (q.1, 0) ∧ ∃ a', gE K 401 0 true (q.1, 0) = (a', 0) ∧ K a' = e ∧ a' < 400 ∧ q.1 < a' ∧ gSum K e q = (a' + 1, 0) ∧ wfc 31 (ceC K V q.1) 0 1 ∧ (ceC K V q.1).length + q.1 ≤ a' := by
  unfold gSum at h ⊢
  rw [gS_E (by omega) 401 0 true q (by omega) h4] at h ⊢
  obtain ⟨g1, g2, g3, g4⟩ := gk_ok h
  have z := gE_z g1
  have qe : q = (q.1, 0) := by rw [← z]
  rw [qe] at g1
  have gt := gE_gt g1
  have ck := gC_ok hV 401 0 true q.1 [] [] (by omega) h4 g1 YI.nil
  rw [← qe] at g1 gt ck
  refine ⟨qe, (gE K 401 0 true q).1, ?_, g2, g3, gt, g4, ck.1, ?_⟩
  · rw [← qe]; exact Prod.ext rfl g1
  · have := ck.2
    simp only [List.length_nil, oW] at this
    unfold ceC; omega
theorem gSum_f {K : Nat → Nat} {e : Nat} {q : Nat × Nat} (h : q.2 ≠ 0) : gSum K e q = q := gS_f h
theorem gL_f {K : Nat → Nat} {q : Nat × Nat} (h : q.2 ≠ 0) : ∀ m, gL K m q = q
  | 0 => rfl
  | m + 1 => by rw [gL, if_neg (fun w => h w.1)]
theorem gSum_z {K : Nat → Nat} {e : Nat} {q : Nat × Nat} (h : (gSum K e q).2 = 0) : q.2 = 0 := by
  by_cases z : q.2 = 0
  · exact z
  · rw [gSum_f z] at h; exact h
theorem gL_z {K : Nat → Nat} {m : Nat} {q : Nat × Nat} (h : (gL K m q).2 = 0) : q.2 = 0 := by
  by_cases z : q.2 = 0
  · exact z
  · rw [gL_f z] at h; exact h
def eOk (K V : Nat → Nat) (a a' e : Nat) : Prop := gE K 401 0 true (a, 0) = (a', 0) ∧ K a' = e ∧ a' < 400 ∧ a < a' ∧ gSum K e (a, 0) = (a' + 1, 0) ∧ wfc 31 (ceC K V a) 0 1 ∧ (ceC K V a).length + a ≤ a'
theorem gL_br {K V : Nat → Nat} (hV : ∀ j, K j = 3 → V j ≤ 9999) {m : Nat} {q : Nat × Nat} (h4 : q.1 ≤ 400) (kif : q.2 = 0 ∧ K q.1 = 14) (h : (gSum K 24 (gL K (m + 1) q)).2 = 0) : ∃ m' a1 a2 a3, m = m' + 1 ∧ q.1 < 400 ∧ eOk K V (q.1 + 1) a1 30 ∧ eOk K V (a1 + 1) a2 15 ∧ eOk K V (a2 + 1) a3 16 ∧ gL K (m + 1) q = gL K (m' + 1) (a3 + 1, 0) ∧ lB K V (m + 1) q = (true, ceC K V (q.1 + 1), ceC K V (a1 + 1), ceC K V (a2 + 1)) :: lB K V (m' + 1) (a3 + 1, 0) ∧ (gSum K 24 (gL K (m' + 1) (a3 + 1, 0))).2 = 0 := by
  have z1 := gSum_z h
  have z1' := z1
  rw [gL, if_pos kif] at z1
  have z2 := gL_z z1
  have z3 := gSum_z z2
  have z4 := gSum_z z3
  have z5 := gSum_z z4
  obtain ⟨-, -, p3, p4, p5⟩ := gp_ok z5
  have m1 : 1 ≤ m := by simpa using p3
  obtain ⟨m', rfl⟩ : ∃ m', m = m' + 1 := ⟨m - 1, by omega⟩
  rw [p5] at z2 z3 z4
  obtain ⟨-, a1, b1, b2, b3, b4, b5, b6, b7⟩ := gSum_ok (V := V) hV (Or.inl rfl) (by show q.1 + 1 ≤ 400; omega) z4
  have b5' : gSum K 30 (q.1 + 1, 0) = (a1 + 1, 0) := b5
  rw [b5'] at z2 z3
  obtain ⟨-, a2, c1, c2, c3, c4, c5, c6, c7⟩ := gSum_ok (V := V) hV (Or.inr (Or.inl rfl)) (by show a1 + 1 ≤ 400; omega) z3
  have c5' : gSum K 15 (a1 + 1, 0) = (a2 + 1, 0) := c5
  rw [c5'] at z2
  obtain ⟨-, a3, d1, d2, d3, d4, d5, d6, d7⟩ := gSum_ok (V := V) hV (Or.inr (Or.inr (Or.inl rfl))) (by show a2 + 1 ≤ 400; omega) z2
  have d5' : gSum K 16 (a2 + 1, 0) = (a3 + 1, 0) := d5
  have eg : gL K (m' + 1 + 1) q = gL K (m' + 1) (a3 + 1, 0) := by rw [gL, if_pos kif, p5, b5', c5', d5']
  refine ⟨m', a1, a2, a3, rfl, p4, ⟨b1, b2, b3, b4, b5, b6, b7⟩, ⟨c1, c2, c3, c4, c5, c6, c7⟩, ⟨d1, d2, d3, d4, d5, d6, d7⟩, eg, ?_, by rw [← eg]; exact h⟩
  rw [lB, if_pos kif, p5, b5', c5', d5']
theorem SB.up {A A' : Row} {i : Nat} {q : Br} (h : ∀ j, i ≤ j → j < i + bl q → A' j = A j) (k : SB A i q) : SB A' i q := by
  unfold SB bl at *
  by_cases z : q.1 = true
  · rw [if_pos z] at k h ⊢
    rw [if_pos z] at k ⊢
    obtain ⟨k1, k2, k3, k4, k5, k6⟩ := k
    refine ⟨SC.up _ _ (fun j h1 h2 => h j (by omega) (by omega)) k1, SC.up _ _ (fun j h1 h2 => h j (by omega) (by omega)) k2, ?_, ?_, SC.up _ _ (fun j h1 h2 => h j (by omega) (by omega)) k5, ?_⟩
    · rw [h _ (by omega) (by omega)]; exact k3
    · rw [h _ (by omega) (by omega)]; exact k4
    · rw [h _ (by omega) (by omega)]; exact k6
  · rw [if_neg z] at k h ⊢
    refine ⟨SC.up _ _ (fun j h1 h2 => h j (by omega) (by omega)) k.1, ?_⟩
    rw [h _ (by omega) (by omega)]; exact k.2
theorem bl_t {c1 c2 c3 : Cd} {i : Nat} : i + bl (true, c1, c2, c3) = i + c1.length + c2.length + 2 + c3.length + 1 := by
  show i + (if true = true then c1.length + c2.length + 2 + c3.length + 1 else c3.length + 1) = _
  rw [if_pos rfl]; omega
theorem SB_mk {A : Row} {i : Nat} {c1 c2 c3 : Cd} (h1 : SC A i c1) (h2 : SC A (i + c1.length) c2) (h3 : A (i + c1.length + c2.length) = -15) (h4 : A (i + c1.length + c2.length + 1) = nI (i + c1.length + c2.length + 2 + c3.length + 1)) (h5 : SC A (i + c1.length + c2.length + 2) c3) (h6 : A (i + c1.length + c2.length + 2 + c3.length) = -24) : SB A i (true, c1, c2, c3) := by
  rw [← bl_t] at h4
  unfold SB
  rw [if_pos rfl]
  exact ⟨h1, h2, h3, h4, h5, h6⟩
theorem SL.up {A A' : Row} : ∀ (l : List Br) (i n : Nat), (∀ j, i ≤ j → j < n → A' j = A j) → SL A i l n → SL A' i l n
  | [], _, _, _, h => h
  | q :: l, i, n, h, k => by
    have := SL.le l _ n k.2
    exact ⟨SB.up (fun j h1 h2 => h j h1 (by omega)) k.1, SL.up l _ n (fun j h1 h2 => h j (by omega) h2) k.2⟩
section CLawN
variable {E : EN} {g : GS} {s : MS} {w : Nat} {T : Nat → Nat} {L M : Nat}
def FLj (w i0 : Nat) (s u : MS) : Prop := (∀ a, a ≠ w → a ≠ w + 1 → a ≠ w + 3 → u.1 a = s.1 a) ∧ (∀ j, j < i0 → u.1 (w + 1) j = s.1 (w + 1) j) ∧ u.2 = s.2
theorem FLw.j {i0 : Nat} {u : MS} (h : FLw w i0 s u) : FLj w i0 s u := ⟨h.1, h.2.2.1, h.2.2.2⟩
theorem FLj.tr {i0 : Nat} {s u v : MS} (h : FLj w i0 s u) (k : FLj w i0 u v) : FLj w i0 s v := ⟨fun a h1 h2 h3 => (k.1 a h1 h2 h3).trans (h.1 a h1 h2 h3), fun j hj => (k.2.1 j hj).trans (h.2.1 j hj), k.2.2.trans h.2.2⟩
theorem FLj.le {i0 i1 : Nat} {s u : MS} (h : FLj w i1 s u) (k : i0 ≤ i1) : FLj w i0 s u := ⟨h.1, fun j hj => h.2.1 j (by omega), h.2.2⟩
theorem TkC.j {i0 : Nat} {u : MS} (hw : 32 ≤ w) (h : TkC T L M s) (k : FLj w i0 s u) : TkC T L M u := h.mv (k.1 18 (by omega) (by omega) (by omega)) (k.1 19 (by omega) (by omega) (by omega)) (k.1 20 (by omega) (by omega) (by omega)) (by rw [k.2.2])
theorem CL.nx {i : Nat} {c : Cd} {v : MS} (h : CL w i [] c v) : CL w (i + c.length) [] [] v := ⟨h.1, trivial, h.2.2.1, trivial⟩
theorem hVk : ∀ j, kK T L M j = 3 → vV T L j ≤ 9999 := fun j k => tkV_4 (kK_m k (by omega)).2
/-- from where nothing waits to behind an expression's flush -/
theorem l_C_flush {R : MS → Prop} {i0 a' : Nat} {W' : List Nat} {C' c : Cd} {v : MS} (hW : LW g w) (y : YI false W' C' 0) (e : c = (yF false W' C').2) (hC : CL w i0 W' C' v) (hb : i0 + C'.length + oW W' ≤ a') (ha : a' < 400) (h : ∀ u, CL w i0 [] c u → FLw w i0 v u → R u) : GV E m_Laws_writeWaiting [.ref w, .int 0] g v R := by
  have l := y.len
  refine f_Laws_wait (rk0 := 0) (st := false) rfl hW (Or.inr ⟨rfl, by omega⟩) hC y.1 (by omega) (by omega) (fun u u1 u2 => h u ?_ u2)
  rw [y.en.1, ← e] at u1
  exact u1
theorem l_C_end {R : Int32 → MS → Prop} {x2 x3 : Int32} {q : Nat × Nat} {i : Nat} {u : MS} (hS : SX g) (hW : LW g w) (hw : 32 ≤ w) (hg : (gSum (kK T L M) 24 q).2 = 0) (h4 : q.1 ≤ 400) (hT : TkC T L M u) (hC : CL w i [] [] u) (hi : i ≤ q.1) (h : ∀ a' n v, gSum (kK T L M) 24 q = (a' + 1, 0) → SL (v.1 (w + 1)) i [(false, [], [], ceC (kK T L M) (vV T L) q.1)] n → wfc 31 (ceC (kK T L M) (vV T L) q.1) 0 1 → v.1 w 4 = nI n → n ≤ a' + 1 → a' < 400 → FLj w i u v → R (nI a') v) : AWP E m_Laws_write 41 0 0 [(0, .ref w), (1, .ref 18), (2, .int x2), (3, .int x3), (4, .int (nI q.1))] [] (mk g u) (qI g R) := by
  obtain ⟨-, a', b1, b2, b3, b4, b5, b6, b7⟩ := gSum_ok (V := vV T L) hVk (Or.inr (Or.inr (Or.inr rfl))) h4 hg
  refine l_C_exp hS hW hw hT 401 0 true q.1 [] [] u (by omega) h4 (by rw [b1]) YI.nil hC (FLw.rf w i u) (by simp only [List.length_nil, oW]; omega) (fun a'' W' C' v g1 y g2 v1 v2 v3 => ?_)
  rw [b1] at g1
  injection g1 with g1 _
  subst g1
  have TV := hT.x hw v2
  obtain ⟨jm, kk⟩ := kK_m b2 (by omega)
  refine v_Laws_write_41 w _ _ _ hS hW ?_
  have e19 : v.1 19 a' = nI 24 := by rw [(TV.2.2.1 a' jm).2.1, kk]
  have m4 := TV.2.1
  rw [TV.1, tn_n (by omega), e19]
  refine pk_le M a' (fun z => absurd z (by omega)) (fun _ => ⟨vp_in_nI (by omega) (by omega), fun _ => ?_, fun z => absurd rfl z⟩)
  refine tk_24 (Q := qV g _) hW (l_C_flush hW y (c := ceC (kK T L M) (vV T L) q.1) g2 v1 v3 b3 (fun u1 c1 c2 => f_Laws_add hW c1.2.2.1 (by omega) (fun u2 d1 d2 d3 d4 => v_Laws_writeToken_297 w _ _ (GV.r (GI.r (h a' (i + (ceC (kK T L M) (vV T L) q.1).length + 1) u2 b5 ⟨?_, ?_⟩ b6 ?_ (by omega) b3 ?_))))))
  · show SC (u2.1 (w + 1)) i (ceC (kK T L M) (vV T L) q.1) ∧ u2.1 (w + 1) (i + (ceC (kK T L M) (vV T L) q.1).length) = -24
    exact ⟨SC.up _ _ (fun j h1 h2 => by rw [d2, upd_n _ _ (by omega)]) c1.2.2.2, by rw [d2, upd_s]⟩
  · rfl
  · rw [d1, upd_s]
  · exact (v2.tr c2).j.tr (FLw.add (by omega) d1 d2 d3 d4).j
theorem l_C_law {R : Int32 → MS → Prop} {x2 x3 : Int32} (hS : SX g) (hW : LW g w) (hw : 32 ≤ w) : ∀ (m : Nat) (q : Nat × Nat) (i : Nat) (u : MS), (gSum (kK T L M) 24 (gL (kK T L M) (m + 1) q)).2 = 0 → q.1 ≤ 400 → TkC T L M u → CL w i [] [] u → i ≤ q.1 → (∀ a' n v, gSum (kK T L M) 24 (gL (kK T L M) (m + 1) q) = (a' + 1, 0) → SL (v.1 (w + 1)) i (lB (kK T L M) (vV T L) (m + 1) q) n → lst (lB (kK T L M) (vV T L) (m + 1) q) → wfl (lB (kK T L M) (vV T L) (m + 1) q) → v.1 w 4 = nI n → n ≤ a' + 1 → a' < 400 → FLj w i u v → R (nI a') v) → AWP E m_Laws_write 41 0 0 [(0, .ref w), (1, .ref 18), (2, .int x2), (3, .int x3), (4, .int (nI q.1))] [] (mk g u) (qI g R)
  | m, q, i, u, hg, h4, hT, hC, hi, h => by
    by_cases kif : q.2 = 0 ∧ kK T L M q.1 = 14
    · obtain ⟨m', a1, a2, a3, em, q4, ⟨b1, b2, b3, b4, b5, b6, b7⟩, ⟨c1, c2, c3, c4, c5, c6, c7⟩, ⟨d1, d2, d3, d4, d5, d6, d7⟩, eg, el, hg'⟩ := gL_br (V := vV T L) hVk h4 kif hg
      subst em
      rw [eg, el] at h
      -- if
      refine l_C_tok hS hW hT q4 (by omega) (by omega) ?_
      rw [kif.2]
      refine tk_14 (Q := qV g _) hW (GV.r ?_)
      -- the first E
      refine l_C_exp hS hW hw hT 401 0 true (q.1 + 1) [] [] u (by omega) (by omega) (by rw [b1]) YI.nil hC (FLw.rf w i u) (by simp only [List.length_nil, oW]; omega) (fun a' W' C' vA g1 y g2 w1 w2 w3 => ?_)
      rw [b1] at g1
      injection g1 with g1 _
      subst g1
      refine l_C_tok hS hW (hT.x hw w2) b3 (by omega) (by omega) ?_
      rw [b2]
      refine tk_30 (Q := qV g _) hW (l_C_flush hW y (c := ceC (kK T L M) (vV T L) (q.1 + 1)) g2 w1 w3 b3 (fun v1 x1 x2 => v_Laws_writeToken_297 w _ _ (GV.r ?_)))
      have F1 := w2.tr x2
      have T1 := hT.x hw F1
      -- the second E
      refine l_C_exp (i0 := i + (ceC (kK T L M) (vV T L) (q.1 + 1)).length) hS hW hw T1 401 0 true (a1 + 1) [] [] v1 (by omega) (by omega) (by rw [c1]) YI.nil x1.nx (FLw.rf w _ v1) (by simp only [List.length_nil, oW]; omega) (fun a' W' C' vB g1 y g2 w1 w2 w3 => ?_)
      rw [c1] at g1
      injection g1 with g1 _
      subst g1
      refine l_C_tok hS hW (T1.x hw w2) c3 (by omega) (by omega) ?_
      rw [c2]
      refine tk_15 (Q := qV g _) hW (l_C_flush hW y (c := ceC (kK T L M) (vV T L) (a1 + 1)) g2 w1 w3 c3 (fun v2 y1 y2 => ?_))
      have F2 := w2.tr y2
      refine f_Laws_add hW y1.2.2.1 (by omega) (fun v3 z1 z2 z3 z4 s15 e15 => ?_)
      have n3 : s15.1 w 4 = nI (i + (ceC (kK T L M) (vV T L) (q.1 + 1)).length + (ceC (kK T L M) (vV T L) (a1 + 1)).length + 1) := by rw [e15, wi_s, upd_n _ _ (by decide), z1, upd_s]
      refine f_Laws_add hW n3 (by omega) (fun v4 o1 o2 o3 o4 => v_Laws_writeToken_297 w _ _ (GV.r ?_))
      have A4 : v4.1 (w + 1) = upd (upd (v2.1 (w + 1)) (i + (ceC (kK T L M) (vV T L) (q.1 + 1)).length + (ceC (kK T L M) (vV T L) (a1 + 1)).length) (-15)) (i + (ceC (kK T L M) (vV T L) (q.1 + 1)).length + (ceC (kK T L M) (vV T L) (a1 + 1)).length + 1) 0 := by rw [o2, e15, wi_n _ _ _ (by omega), z2]
      have F4 : FLj w (i + (ceC (kK T L M) (vV T L) (q.1 + 1)).length + (ceC (kK T L M) (vV T L) (a1 + 1)).length) v2 v4 := ⟨fun a h1 h2 h3 => by rw [o3 a h1 h2, e15, wi_n _ _ _ h1, z3 a h1 h2], fun j hj => by rw [A4, upd_n _ _ (by omega), upd_n _ _ (by omega)], by rw [o4, e15, wi_2, z4]⟩
      have C4 : CL w (i + (ceC (kK T L M) (vV T L) (q.1 + 1)).length + (ceC (kK T L M) (vV T L) (a1 + 1)).length + 2) [] [] v4 := ⟨by rw [o1, upd_n _ _ (by decide), e15, wi_s, upd_n _ _ (by decide), z1, upd_n _ _ (by decide)]; exact y1.1, trivial, by rw [o1, upd_s]; rfl, trivial⟩
      have j4 : v4.1 w 6 = nI (i + (ceC (kK T L M) (vV T L) (q.1 + 1)).length + (ceC (kK T L M) (vV T L) (a1 + 1)).length + 1) := by rw [o1, upd_n _ _ (by decide), e15, wi_s, upd_s, z1, upd_s]
      have T2 := T1.x hw F2
      have T4 := T2.j hw F4
      -- the third E
      refine l_C_exp (i0 := i + (ceC (kK T L M) (vV T L) (q.1 + 1)).length + (ceC (kK T L M) (vV T L) (a1 + 1)).length + 2) hS hW hw T4 401 0 true (a2 + 1) [] [] v4 (by omega) (by omega) (by rw [d1]) YI.nil C4 (FLw.rf w _ v4) (by simp only [List.length_nil, oW]; omega) (fun a' W' C' vC g1 y g2 w1 w2 w3 => ?_)
      rw [d1] at g1
      injection g1 with g1 _
      subst g1
      refine l_C_tok hS hW (T4.x hw w2) d3 (by omega) (by omega) ?_
      rw [d2]
      refine tk_16 (Q := qV g _) hW (l_C_flush hW y (c := ceC (kK T L M) (vV T L) (a2 + 1)) g2 w1 w3 d3 (fun v5 r1 r2 => ?_))
      have F5 := w2.tr r2
      refine f_Laws_add hW r1.2.2.1 (by omega) (fun v6 k1 k2 k3 k4 => ?_)
      have j6 : v6.1 w 6 = nI (i + (ceC (kK T L M) (vV T L) (q.1 + 1)).length + (ceC (kK T L M) (vV T L) (a1 + 1)).length + 1) := by rw [k1, upd_n _ _ (by decide), F5.2.1 6 (by decide) (by decide)]; exact j4
      rw [j6, k1, upd_s, tn_n (by omega)]
      refine pk_le 400 _ (fun z => absurd z (by omega)) (fun _ => ⟨vp_in_nI (by omega) (by omega), fun s19 e19 => v_Laws_writeToken_297 w _ _ (GV.r ?_)⟩) rfl rfl (by omega) (by omega)
      -- the rest
      have A7 : s19.1 (w + 1) = upd (upd (v5.1 (w + 1)) (i + (ceC (kK T L M) (vV T L) (q.1 + 1)).length + (ceC (kK T L M) (vV T L) (a1 + 1)).length + 2 + (ceC (kK T L M) (vV T L) (a2 + 1)).length) (-24)) (i + (ceC (kK T L M) (vV T L) (q.1 + 1)).length + (ceC (kK T L M) (vV T L) (a1 + 1)).length + 1) (nI (i + (ceC (kK T L M) (vV T L) (q.1 + 1)).length + (ceC (kK T L M) (vV T L) (a1 + 1)).length + 2 + (ceC (kK T L M) (vV T L) (a2 + 1)).length + 1)) := by rw [e19, wi_s, k2]
      have A5 : ∀ j, j < i + (ceC (kK T L M) (vV T L) (q.1 + 1)).length + (ceC (kK T L M) (vV T L) (a1 + 1)).length + 2 → v5.1 (w + 1) j = v4.1 (w + 1) j := fun j hj => F5.2.2.1 j hj
      have F7 : FLj w (i + (ceC (kK T L M) (vV T L) (q.1 + 1)).length + (ceC (kK T L M) (vV T L) (a1 + 1)).length) v4 s19 := ⟨fun a h1 h2 h3 => by rw [e19, wi_n _ _ _ h2, k3 a h1 h2, F5.1 a h1 h2 h3], fun j hj => by rw [A7, upd_n _ _ (by omega), upd_n _ _ (by omega), A5 j (by omega)], by rw [e19, wi_2, k4, F5.2.2.2]⟩
      have C7 : CL w (i + (ceC (kK T L M) (vV T L) (q.1 + 1)).length + (ceC (kK T L M) (vV T L) (a1 + 1)).length + 2 + (ceC (kK T L M) (vV T L) (a2 + 1)).length + 1) [] [] s19 := ⟨by rw [e19, wi_n _ _ _ (by omega), k1, upd_n _ _ (by decide)]; exact r1.1, trivial, by rw [e19, wi_n _ _ _ (by omega), k1, upd_s]; rfl, trivial⟩
      have F0 : FLj w i u s19 := ((F1.j.tr (F2.j.le (by omega))).tr (F4.le (by omega))).tr (F7.le (by omega))
      -- the branch
      have sb : SB (s19.1 (w + 1)) i (true, ceC (kK T L M) (vV T L) (q.1 + 1), ceC (kK T L M) (vV T L) (a1 + 1), ceC (kK T L M) (vV T L) (a2 + 1)) := by
        refine SB_mk (SC.up _ _ (fun j h1 h2 => ?_) x1.2.2.2) (SC.up _ _ (fun j h1 h2 => ?_) y1.2.2.2) ?_ ?_ (SC.up _ _ (fun j h1 h2 => ?_) r1.2.2.2) ?_
        · rw [F7.2.1 j (by omega), F4.2.1 j (by omega), F2.2.2.1 j h2]
        · rw [F7.2.1 j h2, F4.2.1 j h2]
        · rw [A7, upd_n _ _ (by omega), upd_n _ _ (by omega), A5 _ (by omega), A4, upd_n _ _ (by omega), upd_s]
        · rw [A7, upd_s]
        · rw [A7, upd_n _ _ (by omega), upd_n _ _ (by omega)]
        · rw [A7, upd_n _ _ (by omega), upd_s]
      have nb : i + bl (true, ceC (kK T L M) (vV T L) (q.1 + 1), ceC (kK T L M) (vV T L) (a1 + 1), ceC (kK T L M) (vV T L) (a2 + 1)) = i + (ceC (kK T L M) (vV T L) (q.1 + 1)).length + (ceC (kK T L M) (vV T L) (a1 + 1)).length + 2 + (ceC (kK T L M) (vV T L) (a2 + 1)).length + 1 := bl_t
      refine l_C_law hS hW hw m' (a3 + 1, 0) _ s19 hg' (by show a3 + 1 ≤ 400; omega) (T4.j hw F7) C7 (by show _ ≤ a3 + 1; omega) (fun a' n v t1 t2 t3 t4 t5 t6 t7 t8 => h a' n v t1 ⟨SB.up (fun j h1 h2 => ?_) sb, ?_⟩ ?_ ?_ t5 t6 t7 (F0.tr (t8.le (by omega))))
      · rw [nb] at h2; rw [t8.2.1 j h2]
      · rw [nb]; exact t2
      · obtain ⟨l', x, e1, e2, e3⟩ := t3
        refine ⟨_ :: l', x, by rw [e1]; rfl, e2, fun y hy => ?_⟩
        rcases List.mem_cons.mp hy with rfl | hy
        · rfl
        · exact e3 y hy
      · intro y hy
        rcases List.mem_cons.mp hy with rfl | hy
        · exact ⟨fun _ => ⟨b6, c6⟩, d6⟩
        · exact t4 y hy
    · have eg : gL (kK T L M) (m + 1) q = q := by rw [gL, if_neg kif]
      have el : lB (kK T L M) (vV T L) (m + 1) q = [(false, [], [], ceC (kK T L M) (vV T L) q.1)] := by rw [lB, if_neg kif]
      rw [eg] at hg
      rw [eg, el] at h
      refine l_C_end hS hW hw hg h4 hT hC hi (fun a' n v t1 t2 t3 t4 t5 t6 t7 => h a' n v t1 t2 ⟨[], _, rfl, rfl, fun y hy => absurd hy (by simp)⟩ (fun y hy => ?_) t4 t5 t6 t7)
      rw [List.mem_singleton] at hy
      rw [hy]
      exact ⟨fun z => absurd (show false = true from z) (by decide), t3⟩
theorem f_C_law {R : Int32 → MS → Prop} {f k ms : Nat} {ld : Nat → List Br} {x3 : Int32} (ex : x3 = nI k) (hk : k < 3) (hS : SX g) (hW : LW g w) (hw : 32 ≤ w) (hT : TkC T L M s) (hms : s.1 w 4 = nI ms) (hb : ms ≤ f) (hf : f ≤ 400) (hg : (gLaw (kK T L M) (f, 0)).2 = 0) (hd : ∀ k, k < 3 → CLaw s w k (ld k))
    (h : ∀ u a' n, gLaw (kK T L M) (f, 0) = (a' + 1, 0) → (∀ k', k' < 3 → CLaw u w k' (if k' = k then sLaw (kK T L M) (vV T L) f else ld k')) → wfl (sLaw (kK T L M) (vV T L) f) → u.1 w 4 = nI n → n ≤ a' + 1 → a' < 400 → (∀ a, a ≠ w → a ≠ w + 1 → a ≠ w + 2 → a ≠ w + 3 → u.1 a = s.1 a) → u.2 = s.2 → R (nI a') u) : GI E m_Laws_write [.ref w, .ref 18, .int (nI f), .int x3] g s R := by
  subst ex
  have hg0 := hg
  unfold gLaw at hg
  have z1 := gSum_z hg
  have z2 := gL_z z1
  obtain ⟨-, k25, f4, e25⟩ := gk_ok z2
  have k25' : kK T L M f = 25 := k25
  have e25' : gk (kK T L M) 25 (f, 0) = (f + 1, 0) := e25
  rw [e25'] at hg
  refine v_Laws_write (Q := qI g R) w _ _ hW ?_
  rw [tn_n (by omega), hms]
  refine ⟨fun z => absurd z (nI_pos (by omega)), fun _ => pk_lt k 3 (fun _ => ⟨vp_in_nI hk (by omega), fun s1 e1 s2 e2 s3 e3 => ?_⟩) (fun z => absurd z (by omega))⟩
  have a1 : s3.1 w 4 = nI ms := by rw [e3, wi_s, upd_n _ _ (by decide), e2, wi_s, upd_n _ _ (by decide), e1, wi_n _ _ _ (by omega)]; exact hms
  have a2 : s3.1 w 5 = nI 0 := by rw [e3, wi_s, upd_n _ _ (by decide), e2, wi_s, upd_s]; rfl
  have a3 : s3.1 (w + 1) = s.1 (w + 1) := by rw [e3, wi_n _ _ _ (by omega), e2, wi_n _ _ _ (by omega), e1, wi_n _ _ _ (by omega)]
  have a4 : s3.1 (w + 2) = upd (s.1 (w + 2)) k (nI ms) := by rw [e3, wi_n _ _ _ (by omega), e2, wi_n _ _ _ (by omega), e1, wi_s]
  have a5 : ∀ a, a ≠ w → a ≠ w + 2 → s3.1 a = s.1 a := fun a h1 h2 => by rw [e3, wi_n _ _ _ h1, e2, wi_n _ _ _ h1, e1, wi_n _ _ _ h2]
  have a6 : s3.2 = s.2 := by rw [e3, wi_2, e2, wi_2, e1, wi_2]
  have T3 : TkC T L M s3 := hT.mv (a5 18 (by omega) (by omega)) (a5 19 (by omega) (by omega)) (a5 20 (by omega) (by omega)) (by rw [a6])
  refine l_C_tok hS hW T3 f4 (by omega) (by omega) ?_
  rw [k25']
  refine tk_25 (Q := qV g _) hW (GV.r ?_)
  refine l_C_law hS hW hw 4 (f + 1, 0) ms s3 hg (by show f + 1 ≤ 400; omega) T3 ⟨a2, trivial, a1, trivial⟩ (by show ms ≤ f + 1; omega) (fun a' n v t1 t2 t3 t4 t5 t6 t7 t8 => h v a' n ?_ (fun k' hk' => ?_) t4 t5 t6 t7 (fun a h1 h2 h3 h4 => by rw [t8.1 a h1 h2 h4, a5 a h1 h3]) (by rw [t8.2.2, a6]))
  · unfold gLaw; rw [e25']; exact t1
  · have v2 : v.1 (w + 2) = upd (s.1 (w + 2)) k (nI ms) := by rw [t8.1 (w + 2) (by omega) (by omega) (by omega), a4]
    have msn := SL.le _ _ _ t2
    by_cases z : k' = k
    · rw [if_pos z]
      exact Or.inr ⟨t3, ms, n, n, by rw [v2, z, upd_s], t2, Nat.le_refl _, by omega, t5, t4⟩
    · rw [if_neg z]
      rcases hd k' hk' with ⟨d1, d2⟩ | ⟨d1, i, n', m, d2, d3, d4, d5, d6, d7⟩
      · exact Or.inl ⟨d1, by rw [v2, upd_n _ _ z]; exact d2⟩
      · have em : m = ms := (nI_eq (by omega) (by omega)).mp (d6.symm.trans hms)
        refine Or.inr ⟨d1, i, n', n, by rw [v2, upd_n _ _ z]; exact d2, SL.up _ _ _ (fun j h1 h2 => ?_) d3, by omega, by omega, t5, d7⟩
        rw [t8.2.1 j (by omega), a3]
end CLawN
