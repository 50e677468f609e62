/-! THE GRAMMAR of the reference: is, fail, goesOn, must, roomFor, wrong -/
section RGram
variable {E : EN} {g : GS} {s : MS} {T : Nat → Nat} {L M : Nat}
theorem rk_inj : ∀ a, a < 33 → ∀ b, b < 33 → (rk a = rk b ↔ a = b) := by decide +kernel
theorem rk_lt : ∀ a, a < 33 → rk a < 40 := by decide +kernel
theorem bp_mono (T : Nat → Nat) (L j : Nat) : bp T L j < bp T L (j + 1) := by
  rw [bp]
  have h1 := runT_ge isB T L (endT T L (bp T L j))
  have h2 := endT_gt T L (bp T L j)
  omega
theorem bp_lt (T : Nat → Nat) (L : Nat) : ∀ {i j : Nat}, i < j → bp T L i < bp T L j := by
  intro i j h
  induction j with
  | zero => omega
  | succ j ih =>
    have := bp_mono T L j
    rcases Nat.lt_or_ge i j with q | q
    · have := ih q; omega
    · have : i = j := by omega
      subst this; omega
/-- where token j is, the text's end behind them all -/
def pl (T : Nat → Nat) (L M j : Nat) : Nat := if j < M then bp T L j else L
def RQ (T : Nat → Nat) (L M : Nat) (q : Nat × Nat) (s : MS) : Prop := s.1 120 13 = nI q.2 ∧ (q.2 = 0 → s.1 120 11 = nI q.1) ∧ (q.2 ≠ 0 → s.1 120 14 = nI (pl T L M q.1)) ∧ (∃ t', t' ≤ 400 ∧ s.1 120 11 = nI t') ∧ q.1 ≤ 400 ∧ q.1 ≤ M ∧ q.2 ≤ 2
def FRp (s u : MS) : Prop := (∀ a, a ≠ 120 → u.1 a = s.1 a) ∧ (∀ j, j ≠ 11 → j ≠ 13 → j ≠ 14 → u.1 120 j = s.1 120 j) ∧ u.2 = s.2
theorem FRp.rf (s : MS) : FRp s s := ⟨fun _ _ => rfl, fun _ _ _ _ => rfl, rfl⟩
theorem FRp.tr {s u v : MS} (h : FRp s u) (k : FRp u v) : FRp s v := ⟨fun a ha => (k.1 a ha).trans (h.1 a ha), fun j h1 h2 h3 => (k.2.1 j h1 h2 h3).trans (h.2.1 j h1 h2 h3), k.2.2.trans h.2.2⟩
theorem FRp.w {j : Nat} {v : Int32} (h : j = 11 ∨ j = 13 ∨ j = 14) : FRp s (wi s 120 j v) := ⟨fun a ha => wi_n _ _ _ ha, fun i h1 h2 h3 => by rw [wi_s, upd_n _ _ (by omega)], wi_2 _ _ _ _⟩
theorem TkR.mv {u : MS} (h : TkR T L M s) (a : u.1 123 = s.1 123) (b : u.1 124 = s.1 124) (c : u.1 125 = s.1 125) (e : u.2 126 = s.2 126) : TkR T L M u := by
  unfold TkR; rw [a, b, c, e]; exact h
theorem TkR.p {u : MS} (h : TkR T L M s) (k : FRp s u) : TkR T L M u := h.mv (k.1 123 (by decide)) (k.1 124 (by decide)) (k.1 125 (by decide)) (by rw [k.2.2])
theorem TkR.k (h : TkR T L M s) {j : Nat} (h1 : j ≤ 400) (h2 : j ≤ M) : s.1 123 j = nI (rk (kK T L M j)) ∧ s.1 124 j = nI (pl T L M j) := by
  unfold kK pl
  by_cases q : j < M
  · rw [if_pos q, if_pos q]
    exact ⟨(h.2.1 j q).2.1, (h.2.1 j q).2.2.1⟩
  · have e : j = M := by omega
    rw [if_neg q, if_neg q, e]
    exact h.2.2.1 (by omega)
theorem f_M_is {R : Int32 → MS → Prop} {q : Nat × Nat} {κ : Nat} {x : Int32} (ex : x = nI (rk κ)) (hκ : κ < 33) (hS : SX g) (hT : TkR T L M s) (hq : RQ T L M q s) (h0 : ¬ (q.2 = 0 ∧ kK T L M q.1 = κ) → R 0 s) (h1 : q.2 = 0 ∧ kK T L M q.1 = κ → R 1 s) : GI E m_Mo_is [.ref 120, .int x] g s R := by
  obtain ⟨q1, q2, q3, q4, q5, q6, q7⟩ := hq
  refine v_Mo_is (Q := qI g R) _ hS ?_
  rw [q1]
  refine pk_eq q.2 0 (fun z => ?_) (fun z => GI.r (h0 fun w => z w.1))
  have kl := kK_lt T L M q.1
  have r1 := rk_lt _ kl
  have r2 := rk_lt _ hκ
  rw [q2 z, tn_n (by omega), (hT.k q5 q6).1, ex]
  refine ⟨vp_in_nI (by omega) (by omega), pk_eq (rk (kK T L M q.1)) (rk κ) (fun w => GI.r (h1 ⟨z, (rk_inj _ kl _ hκ).mp w⟩)) (fun w => GI.r (h0 fun y => w ((rk_inj _ kl _ hκ).mpr y.2))) rfl rfl (by omega) (by omega)⟩
theorem f_M_fail {R : MS → Prop} {q : Nat × Nat} {c : Nat} {x : Int32} (ex : x = nI c) (hc : c = 1 ∨ c = 2) (hS : SX g) (hT : TkR T L M s) (hq : RQ T L M q s) (h : ∀ u, RQ T L M (if q.2 = 0 then (q.1, c) else q) u → FRp s u → R u) : GV E m_Mo_fail [.ref 120, .int x] g s R := by
  have hq' := hq
  obtain ⟨q1, q2, q3, ⟨t', q4, q4'⟩, q5, q6, q7⟩ := hq
  refine v_Mo_fail (Q := qV g R) _ hS ?_
  rw [q1, q4', tn_n (by omega)]
  refine pk_le q.2 0 (fun z s1 e1 => ⟨vp_in_nI (by omega) (by omega), fun s2 e2 => GV.r ?_⟩) (fun z => GV.r (h s (by rw [if_neg (by omega)]; exact hq') (FRp.rf s)))
  have z' : q.2 = 0 := by omega
  have et : t' = q.1 := by
    have := q2 z'
    rw [q4'] at this
    exact (nI_eq (by omega) (by omega)).mp this
  rw [if_pos z'] at h
  refine h s2 ⟨?_, fun w => ?_, fun _ => ?_, ⟨t', q4, ?_⟩, q5, q6, by show c ≤ 2; omega⟩ ?_
  · rw [e2, wi_s, upd_n _ _ (by decide), e1, wi_s, upd_s]; exact ex
  · have : c = 0 := w
    omega
  · rw [e2, wi_s, upd_s, et]; exact (hT.k q5 q6).2
  · rw [e2, wi_s, upd_n _ _ (by decide), e1, wi_s, upd_n _ _ (by decide)]; exact q4'
  · rw [e2, e1]; exact (FRp.w (by omega)).tr (FRp.w (by omega))
theorem f_M_goesOn {R : MS → Prop} {q : Nat × Nat} (hS : SX g) (hT : TkR T L M s) (hq : RQ T L M q s) (hl : q.2 = 0 → kK T L M q.1 ≠ 0) (h : ∀ u, RQ T L M (gp true true q) u → FRp s u → R u) : GV E m_Mo_goesOn [.ref 120] g s R := by
  have hq' := hq
  obtain ⟨q1, q2, q3, ⟨t', q4, q4'⟩, q5, q6, q7⟩ := hq
  refine v_Mo_goesOn (Q := qV g R) hS ?_
  rw [q4']
  unfold gp at h
  refine pk_eq t' 400 (fun z => f_M_fail rfl (Or.inr rfl) hS hT hq' (fun u u1 u2 => GV.r (h u ?_ u2))) (fun z s2 e2 => GV.r ?_)
  · by_cases y : q.2 = 0
    · have et : t' = q.1 := by
        have := q2 y
        rw [q4'] at this
        exact (nI_eq (by omega) (by omega)).mp this
      rw [if_pos y] at u1
      rw [if_neg (fun w => w y), if_neg (by decide), if_pos (Or.inr (by omega))]; exact u1
    · rw [if_neg y] at u1
      rw [if_pos y]; exact u1
  · rw [nI_1] at e2
    by_cases y : q.2 = 0
    · have et : t' = q.1 := by
        have := q2 y
        rw [q4'] at this
        exact (nI_eq (by omega) (by omega)).mp this
      rw [if_neg (fun w => w y), if_neg (by decide), if_neg (fun w => w.elim (fun w => absurd w (by decide)) (fun w => by omega))] at h
      have lm : q.1 < M := by
        have := hl y
        unfold kK at this
        by_cases w : q.1 < M
        · exact w
        · rw [if_neg w] at this; exact absurd rfl this
      refine h s2 ⟨?_, fun _ => ?_, fun w => absurd rfl w, ⟨t' + 1, by omega, ?_⟩, by show q.1 + 1 ≤ 400; omega, by show q.1 + 1 ≤ M; omega, by show 0 ≤ 2; omega⟩ ?_
      · rw [e2, wi_s, upd_n _ _ (by decide), q1, y]
      · rw [e2, wi_s, upd_s, et]
      · rw [e2, wi_s, upd_s]
      · rw [e2]; exact FRp.w (by omega)
    · rw [if_pos y] at h
      refine h s2 ⟨?_, fun w => absurd w y, fun _ => ?_, ⟨t' + 1, by omega, ?_⟩, q5, q6, q7⟩ ?_
      · rw [e2, wi_s, upd_n _ _ (by decide)]; exact q1
      · rw [e2, wi_s, upd_n _ _ (by decide)]; exact q3 y
      · rw [e2, wi_s, upd_s]
      · rw [e2]; exact FRp.w (by omega)
theorem f_M_must {R : MS → Prop} {q : Nat × Nat} {κ : Nat} {x : Int32} (ex : x = nI (rk κ)) (hκ : κ < 33) (h0 : κ ≠ 0) (hS : SX g) (hT : TkR T L M s) (hq : RQ T L M q s) (h : ∀ u, RQ T L M (gk (kK T L M) κ q) u → FRp s u → R u) : GV E m_Mo_must [.ref 120, .int x] g s R := by
  refine v_Mo_must (Q := qV g R) _ hS ?_
  unfold gk at h
  refine f_M_is ex hκ hS hT hq (fun z => ⟨fun _ => f_M_fail rfl (Or.inl rfl) hS hT hq (fun u u1 u2 => GV.r (h u ?_ u2)), fun w => absurd rfl w⟩) (fun z => ⟨fun w => absurd w (by decide), fun _ => f_M_goesOn hS hT hq (fun _ => by rw [z.2]; exact h0) (fun u u1 u2 => GV.r (h u ?_ u2))⟩)
  · unfold gp
    by_cases y : q.2 = 0
    · rw [if_pos y] at u1
      rw [if_neg (fun w => w y), decide_eq_false (fun w => z ⟨y, w⟩), if_pos rfl]; exact u1
    · rw [if_neg y] at u1
      rw [if_pos y]; exact u1
  · rw [decide_eq_true z.2]; exact u1
theorem f_M_roomFor {R : MS → Prop} {q : Nat × Nat} {c m : Nat} {x1 x2 : Int32} (e1 : x1 = nI c) (e2 : x2 = nI m) (hc : c ≤ m) (hm : m ≤ 400) (hS : SX g) (hT : TkR T L M s) (hq : RQ T L M q s) (hz : q.2 = 0) (hl : kK T L M q.1 ≠ 0) (h : ∀ u, RQ T L M (gp true (decide (c < m)) q) u → FRp s u → R u) : GV E m_Mo_roomFor [.ref 120, .int x1, .int x2] g s R := by
  refine v_Mo_roomFor (Q := qV g R) _ _ hS ?_
  rw [e1, e2]
  refine pk_eq c m (fun z => f_M_fail rfl (Or.inr rfl) hS hT hq (fun u u1 u2 => ?_)) (fun z => ⟨fun _ => f_M_goesOn hS hT hq (fun _ => hl) (fun u u1 u2 => GV.r (h u ?_ u2)), fun w => absurd (by rw [hq.1, hz]; rfl) w⟩)
  · rw [if_pos hz] at u1
    refine ⟨fun w => ?_, fun w => GV.r (h u ?_ u2)⟩
    · rw [u1.1] at w; exact absurd (show nI 2 = 0 from w) (by decide)
    · unfold gp
      rw [if_neg (fun w => w hz), if_neg (by decide), decide_eq_false (by omega), if_pos (Or.inl rfl)]; exact u1
  · rw [decide_eq_true (by omega)]; exact u1
/-- the first wrong one, and where -/
def WQ (T : Nat → Nat) (L M : Nat) (b : Option (Nat × Nat)) (s : MS) : Prop := match b with
  | none => s.1 120 15 = 0
  | some (c, j) => s.1 120 15 = nI c ∧ 1 ≤ c ∧ c ≤ 9 ∧ j < M ∧ j ≤ 400 ∧ s.1 120 16 = nI (bp T L j)
def wrg (c j : Nat) (b : Option (Nat × Nat)) : Option (Nat × Nat) := match b with
  | none => some (c, j)
  | some x => some x
def FRw (s u : MS) : Prop := (∀ a, a ≠ 120 → u.1 a = s.1 a) ∧ (∀ j, j ≠ 15 → j ≠ 16 → u.1 120 j = s.1 120 j) ∧ u.2 = s.2
theorem FRw.rf (s : MS) : FRw s s := ⟨fun _ _ => rfl, fun _ _ _ => rfl, rfl⟩
theorem FRw.tr {s u v : MS} (h : FRw s u) (k : FRw u v) : FRw s v := ⟨fun a ha => (k.1 a ha).trans (h.1 a ha), fun j h1 h2 => (k.2.1 j h1 h2).trans (h.2.1 j h1 h2), k.2.2.trans h.2.2⟩
theorem RQ.w {u : MS} {q : Nat × Nat} (h : RQ T L M q s) (k : FRw s u) : RQ T L M q u := by
  unfold RQ; rw [k.2.1 13 (by decide) (by decide), k.2.1 11 (by decide) (by decide), k.2.1 14 (by decide) (by decide)]; exact h
theorem TkR.w {u : MS} (h : TkR T L M s) (k : FRw s u) : TkR T L M u := h.mv (k.1 123 (by decide)) (k.1 124 (by decide)) (k.1 125 (by decide)) (by rw [k.2.2])
theorem WQ.p {u : MS} {b : Option (Nat × Nat)} (h : WQ T L M b s) (k : FRp s u) : WQ T L M b u := by
  unfold WQ at *
  rw [k.2.1 15 (by decide) (by decide) (by decide), k.2.1 16 (by decide) (by decide) (by decide)]; exact h
theorem f_M_wrong {R : MS → Prop} {q : Nat × Nat} {c j : Nat} {b : Option (Nat × Nat)} {x1 x2 : Int32} (e1 : x1 = nI c) (e2 : x2 = nI j) (hc : 1 ≤ c ∧ c ≤ 9) (hj : j < M) (hj4 : j ≤ 400) (hL : L ≤ 2000) (hS : SX g) (hT : TkR T L M s) (hq : RQ T L M q s) (hw : WQ T L M b s) (hb : q.2 = 0 → ∀ c' j', b = some (c', j') → j' < j ∨ (j' = j ∧ c' ≤ c)) (h : ∀ u, WQ T L M (if q.2 = 0 then wrg c j b else b) u → FRw s u → R u) : GV E m_Mo_wrong [.ref 120, .int x1, .int x2] g s R := by
  have pj := (hT.2.1 j hj).1
  have p4 := (hT.2.1 j hj).2.2.1
  have q7 := hq.2.2.2.2.2.2
  refine v_Mo_wrong (Q := qV g R) _ _ hS ?_
  rw [hq.1, e1, e2, tn_n (by omega), p4]
  refine ⟨vp_in_nI (by omega) (by omega), pk_lt 0 q.2 (fun z => GV.r (h s (by rw [if_neg (by omega)]; exact hw) (FRw.rf s))) (fun z => ?_)⟩
  rw [if_pos (show q.2 = 0 by omega)] at h
  have W : ∀ u, u = wi (wi s 120 15 (nI c)) 120 16 (nI (bp T L j)) → WQ T L M (some (c, j)) u ∧ FRw s u := fun u eu => by
    refine ⟨⟨?_, hc.1, hc.2, hj, hj4, ?_⟩, ⟨fun a ha => ?_, fun i h1 h2 => ?_, ?_⟩⟩
    · rw [eu, wi_s, upd_n _ _ (by decide), wi_s, upd_s]
    · rw [eu, wi_s, upd_s]
    · rw [eu, wi_n _ _ _ ha, wi_n _ _ _ ha]
    · rw [eu, wi_s, upd_n _ _ h2, wi_s, upd_n _ _ h1]
    · rw [eu, wi_2, wi_2]
  cases b with
  | none =>
    have w0 : s.1 120 15 = 0 := hw
    refine ⟨fun _ s1 f1 s2 f2 => GV.r ?_, fun y => absurd w0 y⟩
    have := W s2 (by rw [f2, f1])
    exact h s2 this.1 this.2
  | some x =>
    obtain ⟨c', j'⟩ := x
    have hb' := hb (by omega) c' j' rfl
    have fin : R s := h s hw (FRw.rf s)
    obtain ⟨w1, w2, w3, w4, w5, w6⟩ := hw
    have pj' := (hT.2.1 j' w4).1
    rw [w1, w6]
    refine pk_eq c' 0 (fun y => absurd y (by omega)) (fun _ => pk_lt (bp T L j') (bp T L j) (fun _ => GV.r fin) (fun y => ?_) rfl rfl (by omega) (by omega)) rfl rfl (by omega) (by omega)
    have ej : j' = j ∧ c' ≤ c := hb'.resolve_left (fun w => by have := bp_lt T L w; omega)
    refine pk_eq (bp T L j) (bp T L j') (fun _ => pk_lt c c' (fun w => absurd w (by omega)) (fun _ => GV.r fin) rfl rfl (by omega) (by omega)) (fun w => absurd (by rw [ej.1]) w) rfl rfl (by omega) (by omega)
end RGram
