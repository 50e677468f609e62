/-! THE GRAMMAR, pure: (at, fault) over kinds; the class's Grammar.check -/
def gp (fits room : Bool) (q : Nat × Nat) : Nat × Nat := if q.2 ≠ 0 then q else if fits = false then (q.1, 1) else if room = false ∨ 400 ≤ q.1 then (q.1, 2) else (q.1 + 1, 0)
def gk (K : Nat → Nat) (κ : Nat) (q : Nat × Nat) : Nat × Nat := gp (decide (K q.1 = κ)) true q
def gRow (K : Nat → Nat) : List Nat → Nat × Nat → Nat × Nat
  | [], q => q
  | κ :: l, q => gRow K l (gk K κ q)
def gW (K : Nat → Nat) : Nat → Nat × Nat → Nat × Nat
  | 0, q => q
  | m + 1, q => if q.2 = 0 ∧ K q.1 = 2 then gW K m (gk K 3 (gp true (decide (1 ≤ m)) q)) else q
def gWants (K : Nat → Nat) (q : Nat × Nat) : Nat × Nat := gk K 24 (gW K 5 (gk K 3 q))
def gS (K : Nat → Nat) (e : Nat) : Nat → Nat → Bool → Nat × Nat → Nat × Nat
  | 0, _, _, q => q
  | n + 1, o, due, q => if q.2 ≠ 0 then q
    else if due = true ∧ K q.1 = 31 then gS K e n (o + 1) due (gp true (decide (o < 6)) q)
    else if due = true then gS K e n o false (gp (decide (K q.1 = 3 ∨ (17 ≤ K q.1 ∧ K q.1 ≤ 23))) true q)
    else if K q.1 = 32 then gS K e n (o - 1) due (gp (decide (0 < o)) true q)
    else if 26 ≤ K q.1 ∧ K q.1 ≤ 29 then gS K e n o true (gp true true q)
    else gp (decide (o = 0 ∧ K q.1 = e)) true q
def gSum (K : Nat → Nat) (e : Nat) (q : Nat × Nat) : Nat × Nat := gS K e 401 0 true q
def gL (K : Nat → Nat) : Nat → Nat × Nat → Nat × Nat
  | 0, q => q
  | m + 1, q => if q.2 = 0 ∧ K q.1 = 14 then gL K m (gSum K 16 (gSum K 15 (gSum K 30 (gp true (decide (1 ≤ m)) q)))) else q
def gLaw (K : Nat → Nat) (q : Nat × Nat) : Nat × Nat := gSum K 24 (gL K 5 (gk K 25 q))
def gMost (w : Nat) : Nat := if w = 4 ∨ w = 5 then 6 else if w = 6 then 8 else if w = 10 then 5 else 400
def gBeg (K : Nat → Nat) (c : Nat → Nat) (q : Nat × Nat) : Nat × Nat := gp (decide (4 ≤ K q.1 ∧ K q.1 ≤ 13)) (decide ((4 ≤ K q.1 ∧ K q.1 ≤ 13) ∧ c (K q.1) < gMost (K q.1))) q
def gBody (K : Nat → Nat) (w : Nat) (q : Nat × Nat) : Nat × Nat := if w = 4 then gRow K [2, 3, 3, 24] q else if w = 5 then gRow K [2, 3, 2, 24] q else if w = 6 then gRow K [2, 2, 2, 3, 3, 24] q else if w = 7 ∨ w = 8 ∨ w = 9 then gLaw K q else if w = 10 then gWants K q else gRow K [3, 24] q
def gTell (K : Nat → Nat) (c : Nat → Nat) (q : Nat × Nat) : Nat × Nat := if (gBeg K c q).2 ≠ 0 then gBeg K c q else gBody K (K q.1) (gBeg K c q)
def gInc (c : Nat → Nat) (w : Nat) : Nat → Nat := fun x => if x = w then c x + 1 else c x
def gAll (K : Nat → Nat) : Nat → (Nat → Nat) → Nat × Nat → Nat × Nat
  | 0, _, q => q
  | n + 1, c, q => if q.2 = 0 ∧ K q.1 ≠ 0 then gAll K n (gInc c (K q.1)) (gTell K c q) else q
theorem gp_le {fits room : Bool} {q : Nat × Nat} (h : q.1 ≤ 400) : (gp fits room q).1 ≤ 400 := by
  unfold gp
  split
  · exact h
  · split
    · exact h
    · split
      · exact h
      · show q.1 + 1 ≤ 400; omega
theorem gp_f {fits room : Bool} {q : Nat × Nat} (h : q.2 ≤ 2) : (gp fits room q).2 ≤ 2 := by
  unfold gp
  split
  · exact h
  · split
    · show 1 ≤ 2; omega
    · split
      · show 2 ≤ 2; omega
      · show 0 ≤ 2; omega
section Gram
variable {E : EN} {g : GS} {s : MS} {T : Nat → Nat} {L M : Nat}
def kK (T : Nat → Nat) (L M : Nat) (j : Nat) : Nat := if j < M then tkK T L (bp T L j) else 0
def GQ (q : Nat × Nat) (s : MS) : Prop := s.1 22 1 = nI q.1 ∧ s.1 22 2 = nI q.2 ∧ q.1 ≤ 400 ∧ q.2 ≤ 2
def FGr (s u : MS) : Prop := (∀ a, a ≠ 22 → a ≠ 23 → u.1 a = s.1 a) ∧ (∀ j, j ≠ 1 → j ≠ 2 → u.1 22 j = s.1 22 j) ∧ u.2 = s.2
def FGp (s u : MS) : Prop := (∀ a, a ≠ 22 → u.1 a = s.1 a) ∧ (∀ j, j ≠ 1 → j ≠ 2 → u.1 22 j = s.1 22 j) ∧ u.2 = s.2
theorem FGp.rf (s : MS) : FGp s s := ⟨fun _ _ => rfl, fun _ _ _ => rfl, rfl⟩
theorem FGp.tr {s u v : MS} (h : FGp s u) (k : FGp u v) : FGp s v := ⟨fun a ha => (k.1 a ha).trans (h.1 a ha), fun j h1 h2 => (k.2.1 j h1 h2).trans (h.2.1 j h1 h2), k.2.2.trans h.2.2⟩
theorem FGp.G {s u : MS} (h : FGp s u) : FGr s u := ⟨fun a h1 _ => h.1 a h1, h.2.1, h.2.2⟩
theorem FGr.rf (s : MS) : FGr s s := ⟨fun _ _ _ => rfl, fun _ _ _ => rfl, rfl⟩
theorem FGr.tr {s u v : MS} (h : FGr s u) (k : FGr u v) : FGr s v := ⟨fun a h1 h2 => (k.1 a h1 h2).trans (h.1 a h1 h2), fun j h1 h2 => (k.2.1 j h1 h2).trans (h.2.1 j h1 h2), k.2.2.trans h.2.2⟩
theorem TkC.mv {u : MS} (h : TkC T L M s) (a : u.1 18 = s.1 18) (b : u.1 19 = s.1 19) (c : u.1 20 = s.1 20) (e : u.2 21 = s.2 21) : TkC T L M u := by
  unfold TkC; rw [a, b, c, e]; exact h
theorem TkC.gr {u : MS} (h : TkC T L M s) (k : FGr s u) : TkC T L M u := h.mv (k.1 18 (by decide) (by decide)) (k.1 19 (by decide) (by decide)) (k.1 20 (by decide) (by decide)) (by rw [k.2.2])
theorem tkK_lt (T : Nat → Nat) (L i : Nat) : tkK T L i < 33 := by
  unfold tkK
  split
  · split
    · omega
    · split <;> omega
  · split
    · split <;> omega
    · split <;> omega
theorem kK_lt (T : Nat → Nat) (L M j : Nat) : kK T L M j < 33 := by
  unfold kK
  split
  · exact tkK_lt _ _ _
  · omega
theorem f_T_kindOf {R : Int32 → MS → Prop} {a : Nat} (hS : SX g) (ha : a ≤ 401) (hT : TkC T L M s) (h : R (nI (kK T L M a)) s) : GI E m_Tokens_kindOf [.ref 18, .int (nI a)] g s R := by
  obtain ⟨t1, t2, t3, t4, t5, t6⟩ := hT
  unfold kK at h
  refine v_Tokens_kindOf (Q := qI g R) _ hS ⟨fun q => absurd q (nI_pos (by omega)), fun _ => ?_⟩
  rw [t1]
  refine pk_lt M a (fun q => GI.r ?_) (fun q => ⟨vp_in_nI (by omega) (by omega), GI.r ?_⟩)
  · rw [if_neg (by omega)] at h; exact h
  · rw [tn_n (by omega)]
    by_cases z : a < M
    · rw [if_pos z] at h
      rw [(t3 a z).2.1]; exact h
    · have e : a = M := by omega
      rw [if_neg z] at h
      rw [e, t4]; exact h
theorem f_G_kind {R : Int32 → MS → Prop} {q : Nat × Nat} (hS : SX g) (hk : g.2.2 22 0 = some 18) (hT : TkC T L M s) (hq : GQ q s) (h : R (nI (kK T L M q.1)) s) : GI E m_Grammar_kind [.ref 22] g s R := by
  refine v_Grammar_kind (Q := qI g R) hS hk ?_
  rw [hq.1]
  exact f_T_kindOf hS (by have := hq.2.2.1; omega) hT (GI.r h)
def bI (b : Bool) : Int32 := if b = true then 1 else 0
theorem f_G_pass {R : MS → Prop} {q : Nat × Nat} {x1 x2 : Int32} (fits room : Bool) (e1 : x1 = bI fits) (e2 : fits = true → x2 = bI room) (hS : SX g) (hq : GQ q s) (h : ∀ u, GQ (gp fits room q) u → FGp s u → R u) : GV E m_Grammar_pass [.ref 22, .int x1, .int x2] g s R := by
  have l4 := hq.2.2.1
  have l2 := hq.2.2.2
  have FW : ∀ (j : Nat) (v : Int32), j = 1 ∨ j = 2 → FGp s (wi s 22 j v) := fun j v hj => ⟨fun a ha => wi_n _ _ _ ha, fun i h1 h2 => by rw [wi_s, upd_n _ _ (by omega)], wi_2 _ _ _ _⟩
  refine v_Grammar_pass (Q := qV g R) _ _ hS ?_
  rw [hq.1, hq.2.1]
  unfold gp at h
  refine pk_eq q.2 0 (fun z => ?_) (fun z => GV.r (h s (by rw [if_pos z]; exact hq) (FGp.rf s)))
  rw [if_neg (fun w => w z)] at h
  have f1 : ∀ v : Nat, v ≤ 2 → GQ (q.1, v) (wi s 22 2 (nI v)) := fun v hv => ⟨by rw [wi_s, upd_n _ _ (by decide)]; exact hq.1, by rw [wi_s, upd_s], l4, hv⟩
  cases fits with
  | false =>
    rw [if_pos rfl] at h
    rw [e1]
    refine ⟨fun _ s1 es => GV.r ?_, fun w => absurd rfl w⟩
    rw [es]; exact h _ (f1 1 (by omega)) (FW 2 _ (Or.inr rfl))
  | true =>
    rw [if_neg (by decide)] at h
    rw [e1, e2 rfl]
    refine ⟨fun w => absurd w (by decide), fun _ => ?_⟩
    cases room with
    | false =>
      rw [if_pos (Or.inl rfl)] at h
      refine ⟨fun _ s1 es => GV.r ?_, fun w => absurd rfl w⟩
      rw [es]; exact h _ (f1 2 (by omega)) (FW 2 _ (Or.inr rfl))
    | true =>
      refine ⟨fun w => absurd w (by decide), fun _ => ?_⟩
      refine pk_lt q.1 400 (fun w s1 es => GV.r ?_) (fun w s1 es => GV.r ?_)
      · rw [if_neg (fun y => y.elim (fun y => absurd y (by decide)) (fun y => by omega))] at h
        rw [es, nI_1]
        exact h _ ⟨by rw [wi_s, upd_s], by rw [wi_s, upd_n _ _ (by decide), hq.2.1, z], by show q.1 + 1 ≤ 400; omega, by show 0 ≤ 2; omega⟩ (FW 1 _ (Or.inl rfl))
      · rw [if_pos (Or.inr (by omega))] at h
        rw [es]; exact h _ (f1 2 (by omega)) (FW 2 _ (Or.inr rfl))
theorem f_G_passKind {R : MS → Prop} {q : Nat × Nat} {κ : Nat} (hκ : κ < 33) (hS : SX g) (hk : g.2.2 22 0 = some 18) (hT : TkC T L M s) (hq : GQ q s) (h : ∀ u, GQ (gk (kK T L M) κ q) u → FGp s u → R u) : GV E m_Grammar_passKind [.ref 22, .int (nI κ)] g s R := by
  refine v_Grammar_passKind (Q := qV g R) _ hS ?_
  refine f_G_kind hS hk hT hq ?_
  have := kK_lt T L M q.1
  unfold gk at h
  refine pk_eq _ κ (fun z => f_G_pass true true rfl (fun _ => rfl) hS hq (fun u u1 u2 => GV.r (h u ?_ u2))) (fun z => f_G_pass false true rfl (fun w => absurd w (by decide)) hS hq (fun u u1 u2 => GV.r (h u ?_ u2))) rfl rfl (by omega) (by omega)
  · rw [decide_eq_true z]; exact u1
  · rw [decide_eq_false z]; exact u1
end Gram
