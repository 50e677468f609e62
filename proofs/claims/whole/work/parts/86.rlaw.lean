/-! THE REFERENCE tells a law -/
section RLawN
variable {E : EN} {g : GS} {s : MS} {T : Nat → Nat} {L M sd lv k : Nat}
def FLr (sd k cB cC : Nat) (u v : MS) : Prop := (∀ a, a ≠ 120 → ¬ (150 ≤ a ∧ a < 160) → v.1 a = u.1 a) ∧ (∀ j, ¬ (11 ≤ j ∧ j < 15) → j ≠ 45 → j ≠ 51 → j ≠ 55 → v.1 120 j = u.1 120 j) ∧ (∀ j, j ≠ 3 * sd + k → v.1 150 j = u.1 150 j ∧ v.1 151 j = u.1 151 j) ∧ (∀ a, 152 ≤ a → a ≤ 156 → ∀ j, (j < cB ∨ 130 * sd + 130 ≤ j) → v.1 a j = u.1 a j) ∧ (∀ j, (j < cC ∨ 420 * sd + 420 ≤ j) → v.1 157 j = u.1 157 j ∧ v.1 158 j = u.1 158 j) ∧ v.2 = u.2
theorem FLr.rf (sd k cB cC : Nat) (s : MS) : FLr sd k cB cC s s := ⟨fun _ _ _ => rfl, fun _ _ _ _ _ => rfl, fun _ _ => ⟨rfl, rfl⟩, fun _ _ _ _ _ => rfl, fun _ _ => ⟨rfl, rfl⟩, rfl⟩
theorem FLr.tr {cB cC : Nat} {s u v : MS} (h : FLr sd k cB cC s u) (q : FLr sd k cB cC u v) : FLr sd k cB cC s v := ⟨fun a h1 h2 => (q.1 a h1 h2).trans (h.1 a h1 h2), fun j h1 h2 h3 h4 => (q.2.1 j h1 h2 h3 h4).trans (h.2.1 j h1 h2 h3 h4), fun j hj => ⟨(q.2.2.1 j hj).1.trans (h.2.2.1 j hj).1, (q.2.2.1 j hj).2.trans (h.2.2.1 j hj).2⟩, fun a a1 a2 j hj => (q.2.2.2.1 a a1 a2 j hj).trans (h.2.2.2.1 a a1 a2 j hj), fun j hj => ⟨(q.2.2.2.2.1 j hj).1.trans (h.2.2.2.2.1 j hj).1, (q.2.2.2.2.1 j hj).2.trans (h.2.2.2.2.1 j hj).2⟩, q.2.2.2.2.2.trans h.2.2.2.2.2⟩
theorem FLr.le {cB cC cB' cC' : Nat} {u v : MS} (h : FLr sd k cB' cC' u v) (h1 : cB ≤ cB') (h2 : cC ≤ cC') : FLr sd k cB cC u v := ⟨h.1, h.2.1, h.2.2.1, fun a a1 a2 j hj => h.2.2.2.1 a a1 a2 j (by omega), fun j hj => h.2.2.2.2.1 j (by omega), h.2.2.2.2.2⟩
theorem FRy.r {cB c0 : Nat} {u v : MS} (h : FRy c0 (420 * sd + 401) u v) : FLr sd k cB c0 u v := ⟨fun a h1 h2 => h.1 a h1 (by omega) (by omega) (by omega), fun j h1 _ h3 h4 => h.2.1 j h1 h3 h4, fun j _ => by rw [h.1 150 (by decide) (by decide) (by decide) (by decide), h.1 151 (by decide) (by decide) (by decide) (by decide)]; exact ⟨rfl, rfl⟩, fun a a1 a2 j _ => by rw [h.1 a (by omega) (by omega) (by omega) (by omega)], fun j hj => h.2.2.1 j (by omega), h.2.2.2⟩
theorem FRp.r {cB c0 : Nat} {u v : MS} (h : FRp u v) : FLr sd k cB c0 u v := FRy.r h.y
theorem FLr.w {cB cC a j : Nat} {u : MS} {v : Int32} (ha : 152 ≤ a ∧ a ≤ 156) (hj : cB ≤ j ∧ j < 130 * sd + 130) : FLr sd k cB cC u (wi u a j v) := ⟨fun x _ h2 => wi_n _ _ _ (by omega), fun i _ _ _ _ => by rw [wi_n _ _ _ (by omega)], fun i _ => by rw [wi_n _ _ _ (by omega), wi_n _ _ _ (by omega)]; exact ⟨rfl, rfl⟩, fun x _ _ i hi => by
  by_cases e : x = a
  · subst e; rw [wi_s, upd_n _ _ (by omega)]
  · rw [wi_n _ _ _ e], fun i _ => by rw [wi_n _ _ _ (by omega), wi_n _ _ _ (by omega)]; exact ⟨rfl, rfl⟩, wi_2 _ _ _ _⟩
theorem FLr.w45 {cB cC : Nat} {u : MS} {v : Int32} : FLr sd k cB cC u (wi u 120 45 v) := ⟨fun x h1 _ => wi_n _ _ _ h1, fun i _ h2 _ _ => by rw [wi_s, upd_n _ _ h2], fun i _ => by rw [wi_n _ _ _ (by decide), wi_n _ _ _ (by decide)]; exact ⟨rfl, rfl⟩, fun x _ _ i _ => by rw [wi_n _ _ _ (by omega)], fun i _ => by rw [wi_n _ _ _ (by decide), wi_n _ _ _ (by decide)]; exact ⟨rfl, rfl⟩, wi_2 _ _ _ _⟩
theorem TkR.r {cB cC : Nat} {u : MS} (h : TkR T L M s) (q : FLr sd k cB cC s u) : TkR T L M u := h.mv (q.1 123 (by decide) (by omega)) (q.1 124 (by decide) (by omega)) (q.1 125 (by decide) (by omega)) (by rw [q.2.2.2.2.2])
/-- what a term leaves -/
def TmP (T : Nat → Nat) (L M sd k cB cC : Nat) (s : MS) (qe : Nat × Nat) (code : Cd) (u : MS) : Prop := RQ T L M qe u ∧ FLr sd k cB cC s u ∧ u.1 120 45 = nI (cB + 1) ∧ (∃ c1, u.1 120 51 = nI c1 ∧ cC ≤ c1 ∧ c1 ≤ 420 * sd + 401) ∧ (∀ a, 152 ≤ a → a ≤ 154 → u.1 a = s.1 a) ∧ (qe.2 = 0 → u.1 120 12 = 0 ∧ u.1 120 51 = nI (cC + code.length) ∧ RC (u.1 157) (u.1 158) cC code ∧ u.1 155 cB = nI cC ∧ u.1 156 cB = nI (cC + code.length))
theorem f_M_term {R : MS → Prop} {q : Nat × Nat} {cB cC : Nat} (hsd : sd < 2) (hS : SX g) (hT : TkR T L M s) (hq : RQ T L M q s) (h12 : q.2 = 0 → s.1 120 12 = 0) (h45 : s.1 120 45 = nI cB) (hB : cB < 130 * sd + 130) (h51 : s.1 120 51 = nI cC) (hc : q.2 = 0 → cC ≤ 420 * sd + q.1) (hc2 : cC ≤ 420 * sd + 401) (h : ∀ u, TmP T L M sd k cB cC s (gE (kK T L M) 401 0 true q) (ceC (kK T L M) (vV T L) q.1) u → R u) : GV E m_Mo_term [.ref 120] g s R := by
  have q7 := hq.2.2.2.2.2.2
  refine v_Mo_term (Q := qV g R) hS ?_
  rw [h45, tn_n (by omega), h51, nI_1]
  refine ⟨vp_in_nI (by omega) (by omega), fun s1 e1 => ?_⟩
  have c1 : s1.1 120 = s.1 120 := by rw [e1, wi_n _ _ _ (by decide)]
  have F1 : FLr sd k cB cC s s1 := by rw [e1]; exact FLr.w (by omega) (by omega)
  rw [hq.1]
  refine pk_eq q.2 0 (fun z => ?_) (fun z s5 e5 s6 e6 => GV.r (h s6 ?_)) rfl rfl (by omega) (by omega)
  · refine f_M_exp (c0 := cC) hsd hS (hT.r F1) (hq.m c1) (fun _ => by rw [c1]; exact h12 z) (by rw [c1]; exact h51) hc hc2 (fun t2 xp => ?_)
    obtain ⟨x1, x2, ⟨cc, x3, x3', x3''⟩, x4⟩ := xp
    have t45 : t2.1 120 45 = nI cB := by rw [x2.2.1 45 (by omega) (by decide) (by decide), c1]; exact h45
    rw [t45, tn_n (by omega), nI_1]
    refine ⟨vp_in_nI (by omega) (by omega), fun s3 e3 s4 e4 => GV.r (h s4 ?_)⟩
    have F4 : FLr sd k cB cC t2 s4 := by rw [e4, e3]; exact (FLr.w (by omega) (by omega)).tr FLr.w45
    refine ⟨x1.sl (by rw [e4, wi_s, upd_n _ _ (by decide), e3, wi_n _ _ _ (by decide)]) (by rw [e4, wi_s, upd_n _ _ (by decide), e3, wi_n _ _ _ (by decide)]) (by rw [e4, wi_s, upd_n _ _ (by decide), e3, wi_n _ _ _ (by decide)]), F1.tr (x2.r.tr F4), by rw [e4, wi_s, upd_s], ⟨cc, by rw [e4, wi_s, upd_n _ _ (by decide), e3, wi_n _ _ _ (by decide)]; exact x3, x3', x3''⟩, fun a a1 a2 => ?_, fun zf => ?_⟩
    · rw [e4, wi_n _ _ _ (by omega), e3, wi_n _ _ _ (by omega), x2.1 a (by omega) (by omega) (by omega) (by omega), e1, wi_n _ _ _ (by omega)]
    · obtain ⟨y1, y2, y3⟩ := x4 zf
      refine ⟨by rw [e4, wi_s, upd_n _ _ (by decide), e3, wi_n _ _ _ (by decide)]; exact y1, by rw [e4, wi_s, upd_n _ _ (by decide), e3, wi_n _ _ _ (by decide)]; exact y2, ?_, ?_, ?_⟩
      · rw [e4, wi_n _ _ _ (by decide), wi_n _ _ _ (by decide), e3, wi_n _ _ _ (by decide), wi_n _ _ _ (by decide)]; exact y3
      · rw [e4, wi_n _ _ _ (by decide), e3, wi_n _ _ _ (by decide), x2.1 155 (by decide) (by decide) (by decide) (by decide), e1, wi_s, upd_s]
      · rw [e4, wi_n _ _ _ (by decide), e3, wi_s, upd_s]; exact y2
  · rw [gE_f z]
    refine ⟨hq.sl (by rw [e6, wi_s, upd_n _ _ (by decide), e5, wi_n _ _ _ (by decide), c1]) (by rw [e6, wi_s, upd_n _ _ (by decide), e5, wi_n _ _ _ (by decide), c1]) (by rw [e6, wi_s, upd_n _ _ (by decide), e5, wi_n _ _ _ (by decide), c1]), F1.tr (by rw [e6, e5]; exact (FLr.w (by omega) (by omega)).tr FLr.w45), by rw [e6, wi_s, upd_s], ⟨cC, by rw [e6, wi_s, upd_n _ _ (by decide), e5, wi_n _ _ _ (by decide), c1]; exact h51, Nat.le_refl _, hc2⟩, fun a a1 a2 => ?_, fun zf => absurd zf z⟩
    rw [e6, wi_n _ _ _ (by omega), e5, wi_n _ _ _ (by omega), e1, wi_n _ _ _ (by omega)]
/-- where a branch's codes lie -/
def RRg (s : MS) (lo hi b : Nat) : Prop := ∃ i1 i3 i4, s.1 155 b = nI i3 ∧ s.1 156 b = nI i4 ∧ i4 ≤ hi ∧ lo ≤ i3 ∧ i3 ≤ i4 ∧ (s.1 152 b = 1 → s.1 153 b = nI i1 ∧ lo ≤ i1 ∧ i1 ≤ i3)
theorem RRg.up {u v : MS} {lo hi lo' hi' b : Nat} (h : RRg u lo hi b) (h1 : lo' ≤ lo) (h2 : hi ≤ hi') (e : ∀ a, 152 ≤ a → a ≤ 156 → v.1 a b = u.1 a b) : RRg v lo' hi' b := by
  obtain ⟨i1, i3, i4, a1, a2, a3, a4, a5, a6⟩ := h
  refine ⟨i1, i3, i4, by rw [e 155 (by omega) (by omega)]; exact a1, by rw [e 156 (by omega) (by omega)]; exact a2, by omega, by omega, a5, fun z => ?_⟩
  rw [e 152 (by omega) (by omega)] at z
  obtain ⟨b1, b2, b3⟩ := a6 z
  exact ⟨by rw [e 153 (by omega) (by omega)]; exact b1, by omega, b3⟩
/-- a branch stands where its rows and codes stand -/
theorem RB.up {u v : MS} {b hi : Nat} {q : Br} (h : RB u b q) (hh : ∃ i4, u.1 156 b = nI i4 ∧ i4 ≤ hi) (h8 : hi ≤ 840) (e : ∀ a, 152 ≤ a → a ≤ 156 → v.1 a b = u.1 a b) (c : ∀ j, j < hi → v.1 157 j = u.1 157 j ∧ v.1 158 j = u.1 158 j) : RB v b q := by
  obtain ⟨i1, i2, i3, i4, a1, a2, a3, a4, a5, a6, a7⟩ := h
  obtain ⟨i4', b1, b2⟩ := hh
  have ei : i4 = i4' := (nI_eq (by omega) (by omega)).mp (a2.symm.trans b1)
  refine ⟨i1, i2, i3, i4, by rw [e 155 (by omega) (by omega)]; exact a1, by rw [e 156 (by omega) (by omega)]; exact a2, a3, a4, RC.up _ _ (fun j j1 j2 => c j (by omega)) a5, fun z => by rw [e 152 (by omega) (by omega)]; exact a6 z, fun z => ?_⟩
  obtain ⟨d1, d2, d3, d4, d5, d6, d7⟩ := a7 z
  exact ⟨by rw [e 152 (by omega) (by omega)]; exact d1, by rw [e 153 (by omega) (by omega)]; exact d2, by rw [e 154 (by omega) (by omega)]; exact d3, d4, d5, RC.up _ _ (fun j j1 j2 => c j (by omega)) d6, RC.up _ _ (fun j j1 j2 => c j (by omega)) d7⟩
def RRl (s : MS) (lo hi : Nat) (f n : Nat) : Prop := ∀ i, i < n → RRg s lo hi (f + i)
theorem RL.up {u v : MS} {lo hi : Nat} (h8 : hi ≤ 840) (c : ∀ j, j < hi → v.1 157 j = u.1 157 j ∧ v.1 158 j = u.1 158 j) : ∀ (l : List Br) (f : Nat), RRl u lo hi f l.length → (∀ a, 152 ≤ a → a ≤ 156 → ∀ j, f ≤ j → j < f + l.length → v.1 a j = u.1 a j) → RL u f l → RL v f l
  | [], _, _, _, _ => trivial
  | q :: l, f, hr, e, h => by
    refine ⟨h.1.up (hi := hi) ?_ h8 (fun a a1 a2 => e a a1 a2 f (Nat.le_refl _) (by simp)) c, RL.up (lo := lo) h8 c l (f + 1) (fun i hi' => ?_) (fun a a1 a2 j j1 j2 => e a a1 a2 j (by omega) (by simp; omega)) h.2⟩
    · obtain ⟨-, -, i4, -, b2, b3, -⟩ := hr 0 (by simp)
      exact ⟨i4, b2, b3⟩
    · have := hr (i + 1) (by simp; omega)
      rw [show f + (i + 1) = f + 1 + i by omega] at this
      exact this
theorem gSum_le {K : Nat → Nat} {e : Nat} {q : Nat × Nat} (he : e = 30 ∨ e = 15 ∨ e = 16 ∨ e = 24) (h : q.1 ≤ 400) : gSum K e q = gk K e (gE K 401 0 true q) ∧ (gSum K e q).1 ≤ 400 := by
  have := gS_E (K := K) (e := e) (by omega) 401 0 true q (by omega) h
  refine ⟨this, ?_⟩
  unfold gSum; rw [this]; exact gp_le (gE_le _ _ _ _ h)
/-- an expression that passed, as both tell it -/
theorem gSum_e {K V : Nat → Nat} {e : Nat} {q : Nat × Nat} (hV : ∀ j, K j = 3 → V j ≤ 9999) (he : e = 30 ∨ e = 15 ∨ e = 16 ∨ e = 24) (h4 : q.1 ≤ 400) (h : (gSum K e q).2 = 0) : ∃ a', eOk K V q.1 a' e ∧ gE K 401 0 true q = (a', 0) ∧ q.2 = 0 ∧ gSum K e q = (a' + 1, 0) := by
  obtain ⟨qe, a', b1, b2, b3, b4, b5, b6, b7⟩ := gSum_ok (V := V) hV he h4 h
  have z : q.2 = 0 := by rw [qe]
  have b1' : gE K 401 0 true q = (a', 0) := by rw [← qe] at b1; exact b1
  have b5' : gSum K e (q.1, 0) = (a' + 1, 0) := by rw [← qe]; exact b5
  exact ⟨a', ⟨b1, b2, b3, b4, b5', b6, b7⟩, b1', z, b5⟩
end RLawN
