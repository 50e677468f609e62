/-! WHAT IS TOLD: a text that grows; the class's takeNewName, fillGrain, fillHole, fillRat -/
def aGr (d : TD) (po pe : Int32) : TD := ((d.1.1, d.1.2.1 + 1, d.1.2.2), d.2.1, upd (dPo d) (nG d) po, upd (dPe d) (nG d) pe, d.2.2.2.2)
def aHo (d : TD) (fa : Int32) (ow : Nat) : TD := ((d.1.1, d.1.2.1, d.1.2.2.1 + 1, d.1.2.2.2.1, d.1.2.2.2.2.1, d.1.2.2.2.2.2.1, upd (eFa (dE d)) (nH d) fa, d.1.2.2.2.2.2.2.2), d.2.1, d.2.2.1, d.2.2.2.1, (fun k => if k = nH d then ow else dOw d k), d.2.2.2.2.2)
def aRa (d : TD) (kn wh : Nat) (ft fe : Int32) : TD := ((d.1.1 + 1, d.1.2.1, d.1.2.2.1, d.1.2.2.2.1, d.1.2.2.2.2.1, (fun k => if k = nR d then wh else eWh (dE d) k), d.1.2.2.2.2.2.2), d.2.1, d.2.2.1, d.2.2.2.1, d.2.2.2.2.1, (fun k => if k = nR d then kn else dKn d k), upd (dFt d) (nR d) ft, upd (dFe d) (nR d) fe, d.2.2.2.2.2.2.2.2)
abbrev SR : Type := (Nat × Nat) ⊕ (TD × NL)
def sGrain (T : Nat → Nat) (L a : Nat) (d : TD) (nl : NL) : SR := if nlH (vV T L a) nl = true then .inl (3, a) else if ¬ (0 ≤ vV T L (a + 1) ∧ vV T L (a + 1) ≤ 9999) then .inl (5, a + 1) else if ¬ (0 ≤ vV T L (a + 2) ∧ vV T L (a + 2) ≤ 99) then .inl (5, a + 2) else .inr (aGr d (nI (vV T L (a + 1))) (nI (vV T L (a + 2))), nl ++ [(vV T L a, 0, nG d)])
def sHole (T : Nat → Nat) (L a : Nat) (d : TD) (nl : NL) : SR := if nlH (vV T L a) nl = true then .inl (3, a) else if ¬ (1 ≤ vV T L (a + 1) ∧ vV T L (a + 1) ≤ 30) then .inl (5, a + 1) else match nlF (vV T L (a + 2)) 0 nl with
  | none => .inl (4, a + 2)
  | some i => .inr (aHo d (nI (vV T L (a + 1))) i, nl ++ [(vV T L a, 1, nH d)])
def sRat (T : Nat → Nat) (L a : Nat) (d : TD) (nl : NL) : SR := if nlH (vV T L a) nl = true then .inl (3, a) else match nlF (vV T L (a + 1)) 0 nl with
  | none => .inl (4, a + 1)
  | some i => match nlF (vV T L (a + 2)) 1 nl with
    | none => .inl (4, a + 2)
    | some j => if ¬ (0 ≤ vV T L (a + 3) ∧ vV T L (a + 3) ≤ 9) then .inl (5, a + 3) else if ¬ (0 ≤ vV T L (a + 4) ∧ vV T L (a + 4) ≤ 99) then .inl (5, a + 4) else .inr (aRa d i j (nI (vV T L (a + 3))) (nI (vV T L (a + 4))), nl ++ [(vV T L a, 2, nR d)])
/-- a name of another sort makes no difference -/
theorem nlF_app {v sort : Nat} {x : Nat × Nat × Nat} (h : x.2.1 ≠ sort) : ∀ nl : NL, nlF v sort (nl ++ [x]) = nlF v sort nl
  | [] => by rw [List.nil_append, nlF, nlF, nlF, if_neg (fun w => h w.2)]
  | y :: l => by rw [List.cons_append, nlF, nlF, nlF_app h l]
def DI (d : TD) : Prop := ∀ m k, nG d ≤ k → dWa d m k = 0
/-- the text as the class fills it -/
def TCf (d : TD) (t : Nat) (s : MS) : Prop := TC d t s ∧ ∀ m k, m < 5 → k < 6 → s.1 (t + 10) (6 * m + k) = if m < dM d then dWa d m k else 0
section Fill
variable {E : EN} {g : GS} {s : MS} {T : Nat → Nat} {L M : Nat} {d : TD} {nl : NL} {t : Nat}
theorem TCf.gr {u : MS} {po pe : Int32} (hD : DI d) (h6 : nG d < 6) (h5 : dM d ≤ 5) (h : TCf d t s) (a : u.1 t 11 = nI (nG d + 1)) (b : ∀ j, j ≠ 11 → u.1 t j = s.1 t j) (c : u.1 (t + 1) = upd (s.1 (t + 1)) (nG d) po) (e : u.1 (t + 2) = upd (s.1 (t + 2)) (nG d) pe) (f : ∀ x, t + 3 ≤ x → x < t + 14 → u.1 x = s.1 x) : TCf (aGr d po pe) t u := by
  obtain ⟨⟨h1, h2, h3, h4, h5', h6', h7, h8, h9, h10, h11, h12⟩, hw⟩ := h
  refine ⟨⟨a, ?_, ?_, ?_, ?_, ?_, ?_, fun j hj => ?_, fun j hj => ?_, fun r hr => ?_, fun m hm => ⟨?_, fun k hk => ?_⟩, fun k hk => ?_⟩, fun m k hm hk => ?_⟩
  · rw [b 12 (by decide)]; exact h2
  · rw [b 13 (by decide)]; exact h3
  · rw [b 14 (by decide)]; exact h4
  · rw [b 15 (by decide)]; exact h5'
  · rw [b 16 (by decide)]; exact h6'
  · rw [b 17 (by decide)]; exact h7
  · have hj' : j < nG d + 1 := hj
    show u.1 (t + 1) j = upd (dPo d) (nG d) po j ∧ u.1 (t + 2) j = upd (dPe d) (nG d) pe j
    rw [c, e]
    by_cases z : j = nG d
    · subst z; rw [upd_s, upd_s, upd_s, upd_s]; exact ⟨rfl, rfl⟩
    · rw [upd_n _ _ z, upd_n _ _ z, upd_n _ _ z, upd_n _ _ z]; exact h8 j (by omega)
  · rw [f (t + 3) (by omega) (by omega), f (t + 4) (by omega) (by omega)]; exact h9 j hj
  · rw [f (t + 5) (by omega) (by omega), f (t + 6) (by omega) (by omega), f (t + 7) (by omega) (by omega), f (t + 8) (by omega) (by omega)]; exact h10 r hr
  · rw [f (t + 9) (by omega) (by omega)]; exact (h11 m hm).1
  · have hm' : m < dM d := hm
    have hk' : k < nG d + 1 := hk
    rw [f (t + 10) (by omega) (by omega), hw m k (by omega) (by omega), if_pos hm']; rfl
  · exact (h12 k hk).mv (f (t + 11) (by omega) (by omega)) (f (t + 11 + 1) (by omega) (by omega)) (f (t + 11 + 2) (by omega) (by omega))
  · rw [f (t + 10) (by omega) (by omega)]; exact hw m k hm hk
theorem TCf.ho {u : MS} {fa : Int32} {ow : Nat} (h6 : nH d < 6) (h : TCf d t s) (a : u.1 t 12 = nI (nH d + 1)) (b : ∀ j, j ≠ 12 → u.1 t j = s.1 t j) (c : u.1 (t + 3) = upd (s.1 (t + 3)) (nH d) fa) (e : u.1 (t + 4) = upd (s.1 (t + 4)) (nH d) (nI ow)) (f : ∀ x, t + 1 ≤ x → x < t + 14 → x ≠ t + 3 → x ≠ t + 4 → u.1 x = s.1 x) : TCf (aHo d fa ow) t u := by
  obtain ⟨⟨h1, h2, h3, h4, h5', h6', h7, h8, h9, h10, h11, h12⟩, hw⟩ := h
  refine ⟨⟨?_, a, ?_, ?_, ?_, ?_, ?_, fun j hj => ?_, fun j hj => ?_, fun r hr => ?_, fun m hm => ⟨?_, fun k hk => ?_⟩, fun k hk => ?_⟩, fun m k hm hk => ?_⟩
  · rw [b 11 (by decide)]; exact h1
  · rw [b 13 (by decide)]; exact h3
  · rw [b 14 (by decide)]; exact h4
  · rw [b 15 (by decide)]; exact h5'
  · rw [b 16 (by decide)]; exact h6'
  · rw [b 17 (by decide)]; exact h7
  · rw [f (t + 1) (by omega) (by omega) (by omega) (by omega), f (t + 2) (by omega) (by omega) (by omega) (by omega)]; exact h8 j hj
  · have hj' : j < nH d + 1 := hj
    show u.1 (t + 3) j = upd (eFa (dE d)) (nH d) fa j ∧ u.1 (t + 4) j = nI (if j = nH d then ow else dOw d j)
    rw [c, e]
    by_cases z : j = nH d
    · subst z; rw [upd_s, upd_s, upd_s, if_pos rfl]; exact ⟨rfl, rfl⟩
    · rw [upd_n _ _ z, upd_n _ _ z, upd_n _ _ z, if_neg z]; exact h9 j (by omega)
  · rw [f (t + 5) (by omega) (by omega) (by omega) (by omega), f (t + 6) (by omega) (by omega) (by omega) (by omega), f (t + 7) (by omega) (by omega) (by omega) (by omega), f (t + 8) (by omega) (by omega) (by omega) (by omega)]; exact h10 r hr
  · rw [f (t + 9) (by omega) (by omega) (by omega) (by omega)]; exact (h11 m hm).1
  · rw [f (t + 10) (by omega) (by omega) (by omega) (by omega)]; exact (h11 m hm).2 k hk
  · exact (h12 k hk).mv (f (t + 11) (by omega) (by omega) (by omega) (by omega)) (f (t + 11 + 1) (by omega) (by omega) (by omega) (by omega)) (f (t + 11 + 2) (by omega) (by omega) (by omega) (by omega))
  · rw [f (t + 10) (by omega) (by omega) (by omega) (by omega)]; exact hw m k hm hk
theorem TCf.ra {u : MS} {kn wh : Nat} {ft fe : Int32} (h8' : nR d < 8) (h : TCf d t s) (a : u.1 t 13 = nI (nR d + 1)) (b : ∀ j, j ≠ 13 → u.1 t j = s.1 t j) (c5 : u.1 (t + 5) = upd (s.1 (t + 5)) (nR d) (nI kn)) (c6 : u.1 (t + 6) = upd (s.1 (t + 6)) (nR d) (nI wh)) (c7 : u.1 (t + 7) = upd (s.1 (t + 7)) (nR d) ft) (c8 : u.1 (t + 8) = upd (s.1 (t + 8)) (nR d) fe) (f : ∀ x, t + 1 ≤ x → x < t + 14 → (x < t + 5 ∨ t + 9 ≤ x) → u.1 x = s.1 x) : TCf (aRa d kn wh ft fe) t u := by
  obtain ⟨⟨h1, h2, h3, h4, h5', h6', h7, h8, h9, h10, h11, h12⟩, hw⟩ := h
  refine ⟨⟨?_, ?_, a, ?_, ?_, ?_, ?_, fun j hj => ?_, fun j hj => ?_, fun r hr => ?_, fun m hm => ⟨?_, fun k hk => ?_⟩, fun k hk => ?_⟩, fun m k hm hk => ?_⟩
  · rw [b 11 (by decide)]; exact h1
  · rw [b 12 (by decide)]; exact h2
  · rw [b 14 (by decide)]; exact h4
  · rw [b 15 (by decide)]; exact h5'
  · rw [b 16 (by decide)]; exact h6'
  · rw [b 17 (by decide)]; exact h7
  · rw [f (t + 1) (by omega) (by omega) (by omega), f (t + 2) (by omega) (by omega) (by omega)]; exact h8 j hj
  · rw [f (t + 3) (by omega) (by omega) (by omega), f (t + 4) (by omega) (by omega) (by omega)]; exact h9 j hj
  · have hr' : r < nR d + 1 := hr
    show u.1 (t + 5) r = nI (if r = nR d then kn else dKn d r) ∧ u.1 (t + 6) r = nI (if r = nR d then wh else eWh (dE d) r) ∧ u.1 (t + 7) r = upd (dFt d) (nR d) ft r ∧ u.1 (t + 8) r = upd (dFe d) (nR d) fe r
    rw [c5, c6, c7, c8]
    by_cases z : r = nR d
    · subst z; rw [upd_s, upd_s, upd_s, upd_s, upd_s, upd_s, if_pos rfl, if_pos rfl]; exact ⟨rfl, rfl, rfl, rfl⟩
    · rw [upd_n _ _ z, upd_n _ _ z, upd_n _ _ z, upd_n _ _ z, upd_n _ _ z, upd_n _ _ z, if_neg z, if_neg z]; exact h10 r (by omega)
  · rw [f (t + 9) (by omega) (by omega) (by omega)]; exact (h11 m hm).1
  · rw [f (t + 10) (by omega) (by omega) (by omega)]; exact (h11 m hm).2 k hk
  · exact (h12 k hk).mv (f (t + 11) (by omega) (by omega) (by omega)) (f (t + 11 + 1) (by omega) (by omega) (by omega)) (f (t + 11 + 2) (by omega) (by omega) (by omega))
  · rw [f (t + 10) (by omega) (by omega) (by omega)]; exact hw m k hm hk
/-- what the teller may change -/
def FTl (t : Nat) (s u : MS) : Prop := (∀ a, ¬ (24 ≤ a ∧ a < 28) → ¬ (t ≤ a ∧ a < t + 11) → u.1 a = s.1 a) ∧ ∀ a, a ≠ 25 → u.2 a = s.2 a
theorem FTl.rf (t : Nat) (s : MS) : FTl t s s := ⟨fun _ _ _ => rfl, fun _ _ => rfl⟩
theorem FTl.tr {s u v : MS} (h : FTl t s u) (k : FTl t u v) : FTl t s v := ⟨fun a h1 h2 => (k.1 a h1 h2).trans (h.1 a h1 h2), fun a ha => (k.2 a ha).trans (h.2 a ha)⟩
theorem FTa.l {s u : MS} (h : FTa s u) : FTl t s u := ⟨fun a h1 _ => h.1 a (by omega), fun a _ => by rw [h.2.2]⟩
theorem FTl.w {a k : Nat} {v : Int32} (h : t ≤ a ∧ a < t + 11) : FTl t s (wi s a k v) := ⟨fun x _ h2 => wi_n _ _ _ (by omega), fun _ _ => by rw [wi_2]⟩
theorem TkC.l {u : MS} (et : t = 88 ∨ t = 104) (h : TkC T L M s) (k : FTl t s u) : TkC T L M u := h.mv (k.1 18 (by omega) (by omega)) (k.1 19 (by omega) (by omega)) (k.1 20 (by omega) (by omega)) (k.2 21 (by decide))
theorem f_L_new {R : MS → Prop} {a sort idx : Nat} {x1 x2 : Int32} (e1 : x1 = nI (4 + sort)) (e2 : x2 = nI idx) (hs : sort < 3) (hS : SX g) (hy : g.2.2 24 4 = some 18) (hT : TkC T L M s) (hq : LQ a 0 s) (hk : kK T L M a = 2) (hN : NCl nl s) (n20 : nl.length < 20)
    (h : ∀ u, (∀ x, ¬ (24 ≤ x ∧ x < 28) → u.1 x = s.1 x) → (∀ x, x ≠ 25 → u.2 x = s.2 x) → (nlH (vV T L a) nl = true → LQ a 3 u) → (¬ nlH (vV T L a) nl = true → LQ (a + 1) 0 u ∧ NCl (nl ++ [(vV T L a, sort, idx)]) u) → R u) : GV E m_Teller_takeNewName [.ref 24, .int x1, .int x2] g s R := by
  refine v_Teller_takeNewName (Q := qV g R) _ _ hS hy ?_
  obtain ⟨n1, n2, n3⟩ := hN
  obtain ⟨jm, kk⟩ := kK_m hk (by omega)
  have m4 := hT.2.1
  have v63 : vV T L a < 2 ^ 63 := tkV_63 _ _ _
  have ev : s.2 21 a = lN (vV T L a) := (hT.2.2.1 a jm).2.2.2
  rw [hq.2.1, hq.1, hT.1, n1, e1, e2]
  refine ⟨fun _ => pk_le M a (fun w => absurd w (by omega)) (fun _ => pk_lt nl.length 20 (fun _ => ?_) (fun w => absurd w (by omega))), fun w => absurd rfl w⟩
  refine upto (P := fun i => nlH (vV T L a) nl = nlH (vV T L a) (nl.drop i) → AWP E m_Teller_takeNewName 33 0 0 [(0, .ref 24), (1, .int (nI (4 + sort))), (2, .int (nI idx)), (3, .int (nI i))] [] (mk g s) (qV g R)) nl.length ?_ ?_ 0 (Nat.zero_le _) rfl
  · intro e
    rw [List.drop_length, nlH] at e
    refine v_Teller_takeNewName_33 _ _ _ hS hy ?_
    rw [n1, hq.1, tn_n (by omega), tn_n (by omega), ev, nI_1, nI_1]
    refine pk_le nl.length nl.length (fun _ => ⟨vp_in_nI (by omega) (by omega), vp_in_nI (by omega) (by omega), fun s1 f1 s2 f2 s3 f3 s4 f4 s5 f5 => GV.r (h s5 ?_ ?_ ?_ ?_)⟩) (fun w => absurd w (by omega))
    · intro x hx
      rw [f5, wi_n _ _ _ (by omega), f4, wi_n _ _ _ (by omega), f3, wi_n _ _ _ (by omega), f2, wi_n _ _ _ (by omega), f1, wl_1]
    · intro x hx
      rw [f5, wi_2, f4, wi_2, f3, wi_2, f2, wi_2, f1, wl_n _ _ _ hx]
    · intro w; rw [e] at w; exact absurd w (by decide)
    · intro _
      have c24 : s5.1 24 = upd (upd (s.1 24) 3 (nI (nl.length + 1))) 6 (nI (a + 1)) := by rw [f5, wi_s, f4, wi_s, f3, wi_n _ _ _ (by decide), f2, wi_n _ _ _ (by decide), f1, wl_1]
      refine ⟨⟨by rw [c24, upd_s], by rw [c24, upd_n _ _ (by decide), upd_n _ _ (by decide)]; exact hq.2.1, by omega, by omega⟩, ?_, ?_, fun i hi => ?_⟩
      · rw [c24, upd_n _ _ (by decide), upd_s, List.length_append]; rfl
      · rw [List.length_append]; show nl.length + 1 ≤ 20; omega
      · have a2 : s5.2 25 = vp_updL (s.2 25) nl.length (lN (vV T L a)) := by rw [f5, wi_2, f4, wi_2, f3, wi_2, f2, wi_2, f1, wl_s]
        have a3 : s5.1 26 = upd (s.1 26) nl.length (nI (4 + sort)) := by rw [f5, wi_n _ _ _ (by decide), f4, wi_n _ _ _ (by decide), f3, wi_n _ _ _ (by decide), f2, wi_s, f1, wl_1]
        have a4 : s5.1 27 = upd (s.1 27) nl.length (nI idx) := by rw [f5, wi_n _ _ _ (by decide), f4, wi_n _ _ _ (by decide), f3, wi_s, f2, wi_n _ _ _ (by decide), f1, wl_1]
        rw [a2, a3, a4]
        by_cases z : i = nl.length
        · subst z
          have ge : (nl ++ [(vV T L a, sort, idx)])[nl.length] = (vV T L a, sort, idx) := by
            rw [List.getElem_append_right (by omega)]; simp
          rw [ge, updL_s, upd_s, upd_s]
          exact ⟨rfl, v63, rfl, hs, rfl⟩
        · have hi' : i < nl.length := by simp at hi; omega
          have ge : (nl ++ [(vV T L a, sort, idx)])[i] = nl[i] := List.getElem_append_left hi'
          rw [ge, updL_n _ _ z, upd_n _ _ z, upd_n _ _ z]; exact n3 i hi'
  · intro i hi ih e
    obtain ⟨b1, b2, b3, b4, b5⟩ := n3 i hi
    rw [nl_step hi] at e
    refine v_Teller_takeNewName_33 _ _ _ hS hy ?_
    rw [n1, hq.1, tn_n (n := i) (by omega), tn_n (n := a) (by omega), ev, b1, nI_1 i]
    refine pk_le nl.length i (fun w => absurd w (by omega)) (fun _ => ⟨vp_in_nI (by omega) (by omega), vp_in_nI (by omega) (by omega), fun w s6 f6 => GV.r ?_, fun w => ih ?_⟩)
    · have x1 : nl[i].1 = vV T L a := (lN_eq' b2 v63).mp ((lg_cmp_eq _ _).mp w)
      rw [if_pos x1] at e
      rw [f6]
      exact h _ (fun x hx => wi_n _ _ _ (by omega)) (fun x _ => by rw [wi_2]) (fun _ => hq.w7 (by omega)) (fun w => absurd e w)
    · rw [if_neg (fun y => w ((lg_cmp_eq _ _).mpr (by rw [y])))] at e; exact e
end Fill
