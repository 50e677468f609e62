/-! THE CLASS's fillTell -/
section FillT
variable {E : EN} {g : GS} {s : MS} {T : Nat → Nat} {L M t : Nat} {d : TD} {nl : NL}
def FTL (t : Nat) (s u : MS) : Prop := (∀ a, ¬ (24 ≤ a ∧ a < 28) → ¬ (t ≤ a ∧ a < t + 16) → u.1 a = s.1 a) ∧ ∀ a, a ≠ 25 → u.2 a = s.2 a
theorem FTL.rf (t : Nat) (s : MS) : FTL t s s := ⟨fun _ _ _ => rfl, fun _ _ => rfl⟩
theorem FTL.tr {s u v : MS} (h : FTL t s u) (k : FTL t u v) : FTL t s v := ⟨fun a h1 h2 => (k.1 a h1 h2).trans (h.1 a h1 h2), fun a ha => (k.2 a ha).trans (h.2 a ha)⟩
theorem FTl.LL {s u : MS} (h : FTl t s u) : FTL t s u := ⟨fun a h1 h2 => h.1 a h1 (by omega), h.2⟩
theorem FTL.w {a k : Nat} {v : Int32} (h : (24 ≤ a ∧ a < 28) ∨ (t ≤ a ∧ a < t + 16)) : FTL t s (wi s a k v) := ⟨fun x h1 h2 => wi_n _ _ _ (by omega), fun _ _ => by rw [wi_2]⟩
theorem TkC.LL {u : MS} (et : t = 88 ∨ t = 104) (h : TkC T L M s) (k : FTL t s u) : TkC T L M u := h.mv (k.1 18 (by omega) (by omega)) (k.1 19 (by omega) (by omega)) (k.1 20 (by omega) (by omega)) (k.2 21 (by decide))
theorem TCf.law {u : MS} {k : Nat} {l : List Br} (h : TCf d t s) (f : ∀ x, t ≤ x → x < t + 11 → u.1 x = s.1 x) (hl : ∀ k', k' < 3 → CLaw u (t + 11) k' (if k' = k then l else dL d k')) : TCf (aLaw d k l) t u := by
  obtain ⟨⟨h1, h2, h3, h4, h5, h6, h7, h8, h9, h10, h11, h12⟩, hw⟩ := h
  have ft := f t (by omega) (by omega)
  refine ⟨⟨by rw [ft]; exact h1, by rw [ft]; exact h2, by rw [ft]; exact h3, by rw [ft]; exact h4, by rw [ft]; exact h5, by rw [ft]; exact h6, by rw [ft]; exact h7, ?_, ?_, ?_, ?_, hl⟩, ?_⟩
  · rw [f (t + 1) (by omega) (by omega), f (t + 2) (by omega) (by omega)]; exact h8
  · rw [f (t + 3) (by omega) (by omega), f (t + 4) (by omega) (by omega)]; exact h9
  · rw [f (t + 5) (by omega) (by omega), f (t + 6) (by omega) (by omega), f (t + 7) (by omega) (by omega), f (t + 8) (by omega) (by omega)]; exact h10
  · rw [f (t + 9) (by omega) (by omega), f (t + 10) (by omega) (by omega)]; exact h11
  · rw [f (t + 10) (by omega) (by omega)]; exact hw
theorem TCf.mv' {u : MS} (h : TCf d t s) (k : ∀ a, t ≤ a → a < t + 14 → u.1 a = s.1 a) : TCf d t u := ⟨h.1.mv k, by rw [k (t + 10) (by omega) (by omega)]; exact h.2⟩
/-- what fillTell leaves -/
def LtP (t a' : Nat) (r : SR) (u : MS) : Prop := match r with
  | .inl x => LQ x.2 x.1 u ∧ x.1 ≠ 0
  | .inr y => LQ a' 0 u ∧ TCf y.1 t u ∧ NCl y.2 u ∧ ∃ ms, u.1 (t + 11) 4 = nI ms ∧ ms ≤ a'
theorem f_L_tell {R : MS → Prop} {q : Nat × Nat} {c : Nat → Nat} {ms : Nat} (hS : SX g) (et : t = 88 ∨ t = 104) (hy : g.2.2 24 4 = some 18) (hx : g.2.2 24 5 = some t) (hT : TkC T L M s) (hq : LQ q.1 0 s) (hg : (gTell (kK T L M) c q).2 = 0) (hN : NCl nl s) (hP : PIv d nl) (hcn : CNt c d) (hC : TCf d t s) (hms : s.1 (t + 11) 4 = nI ms) (hm : ms ≤ q.1)
    (h : ∀ u, FTL t s u → LtP t (gTell (kK T L M) c q).1 (sTell T L (kK T L M) q.1 d nl) u → R u) : GV E m_Teller_fillTell [.ref 24] g s R := by
  obtain ⟨g1, g2, g3, g4, g5, g6⟩ := gTell_ok hg
  have kl := kK_lt T L M q.1
  obtain ⟨c1, c2, c3, c4⟩ := hcn
  have tO := hP.1
  have r8 := tO.r8
  have g6' := tO.g6
  have h6 := tO.h6
  have m5 := tO.m5
  have nlen := hP.2.2.2.2
  have hW : LW g (t + 11) := (TS.of hS et).l
  refine v_Teller_fillTell (Q := qV g R) t hS et hy hx ?_
  rw [hq.1]
  refine f_T_kindOf hS (by omega) hT (fun s2 e2 => ?_)
  rw [hq.1, nI_1] at e2
  rw [hq.1, nI_1]
  have q2 : LQ (q.1 + 1) 0 s2 := by rw [e2]; exact hq.w6 (by omega)
  have F2 : FTL t s s2 := by rw [e2]; exact FTL.w (by omega)
  have T2 := hT.LL et F2
  have N2 : NCl nl s2 := hN.mv (by rw [e2, wi_s, upd_n _ _ (by decide)]) (by rw [e2, wi_2]) (by rw [e2, wi_n _ _ _ (by decide)]) (by rw [e2, wi_n _ _ _ (by decide)])
  have C2 : TCf d t s2 := hC.mv' (fun a a1 a2 => by rw [e2, wi_n _ _ _ (by omega)])
  have m2 : s2.1 (t + 11) 4 = nI ms := by rw [e2, wi_n _ _ _ (by omega)]; exact hms
  -- the end
  have fin : ∀ (a f : Nat) (x : Int32) (u : MS), LQ a f u → a < 401 → (∀ v, (f = 0 → v = wi u 24 6 (nI (a + 1)) ∧ LQ (a + 1) 0 v) → (f ≠ 0 → v = u) → R v) → AWP E m_Teller_fillTell 183 0 0 [(0, .ref 24), (1, .int x)] [] (mk g u) (qV g R) := fun a f x u u1 u2 hh => by
    refine v_Teller_fillTell_183 _ hS ?_
    have f5 := u1.2.2.1
    rw [u1.2.1, u1.1, nI_1]
    refine pk_eq f 0 (fun z s1 e1 => v_Teller_fillTell_200 _ (GV.r (hh s1 (fun _ => ⟨e1, by rw [e1]; rw [z] at u1; exact u1.w6 (by omega)⟩) (fun w => absurd z w)))) (fun z => v_Teller_fillTell_200 _ (GV.r (hh u (fun w => absurd w z) (fun _ => rfl)))) rfl rfl (by omega) (by omega)
  -- a statement that SRok tells of
  have srk : ∀ (a' : Nat) (x : Int32) (u : MS), FTl t s2 u → SRok t a' (sTell T L (kK T L M) q.1 d nl) u → a' + 1 = (gTell (kK T L M) c q).1 → a' < 401 → q.1 ≤ a' → AWP E m_Teller_fillTell 183 0 0 [(0, .ref 24), (1, .int x)] [] (mk g u) (qV g R) := fun a' x u u1 u2 ea ha hqa => by
    have m3 : u.1 (t + 11) 4 = nI ms := by rw [u1.1 (t + 11) (by omega) (by omega)]; exact m2
    cases hs : sTell T L (kK T L M) q.1 d nl with
    | inl y =>
      rw [hs] at u2 h
      obtain ⟨u3, u4⟩ := u2
      have := (sTell_in hg hs)
      refine fin y.2 y.1 x u u3 (by omega) (fun v v1 v2 => ?_)
      rw [v2 u4]
      exact h u (F2.tr u1.LL) ⟨u3, u4⟩
    | inr y =>
      rw [hs] at u2 h
      obtain ⟨u3, u4, u5⟩ := u2
      refine fin a' 0 x u u3 ha (fun v v1 v2 => ?_)
      obtain ⟨v3, v4⟩ := v1 rfl
      refine h v (F2.tr (u1.LL.tr (by rw [v3]; exact FTL.w (by omega)))) ⟨by rw [← ea]; exact v4, u4.mv' (fun a a1 a2 => by rw [v3, wi_n _ _ _ (by omega)]), u5.mv (by rw [v3, wi_s, upd_n _ _ (by decide)]) (by rw [v3, wi_2]) (by rw [v3, wi_n _ _ _ (by decide)]) (by rw [v3, wi_n _ _ _ (by decide)]), ms, by rw [v3, wi_n _ _ _ (by omega)]; exact m3, by omega⟩
  -- numbers
  have num : ∀ (lo hi sl : Nat) (x1 x2 xk : Int32) (f : TD → Int32 → TD), x1 = nI lo → x2 = nI hi → lo ≤ 1 → hi ≤ 9999 → sTell T L (kK T L M) q.1 d nl = sNum T L lo hi (q.1 + 1) f d nl → gTell (kK T L M) c q = gRow (kK T L M) [3, 24] (q.1 + 1, 0) → (∀ v (u : MS) (s' : MS), TCf d t s' → u.1 t = upd (s'.1 t) sl v → (∀ x, t + 1 ≤ x → x < t + 14 → u.1 x = s'.1 x) → TCf (f d v) t u) → GI E m_Teller_takeNumber [.ref 24, .int x1, .int x2] g s2 (fun y15_ t15_ => (∀ s16_, s16_ = wi t15_ t sl y15_ → AWP E m_Teller_fillTell 183 0 0 [(0, .ref 24), (1, .int xk)] [] (mk g s16_) (qV g R))) := by
    intro lo hi sl x1 x2 xk f ex1 ex2 hlo hhi es eg hf
    rw [eg] at hg
    obtain ⟨-, ⟨k1, k2⟩, p5, r2⟩ := gRow2 hg
    have le2 : q.1 + 1 < 400 := by
      have : (gk (kK T L M) 3 (q.1 + 1, 0)).2 = 0 := by rw [p5]
      exact (gk_ok this).2.2.1
    have k1' : kK T L M (q.1 + 1) = 3 := k1
    refine f_L_number ex1 ex2 hlo hhi hS hy T2 q2 (fun _ => k1') (fun y a' f' u u1 u2 _ u4 s3 e3 => ?_)
    have u4 := u4 rfl
    refine srk (q.1 + 2) xk s3 (u2.l.tr (by rw [e3]; exact FTl.w (by omega))) ?_ ?_ (by omega) (by omega)
    · rw [es]
      unfold sNum
      by_cases r : lo ≤ vV T L (q.1 + 1) ∧ vV T L (q.1 + 1) ≤ hi
      · rw [if_pos r] at u4 ⊢
        obtain ⟨o1, o2, o3⟩ := u4
        rw [o1, o2] at u1
        refine ⟨u1.mv (by rw [e3, wi_n _ _ _ (by omega)]), hf _ s3 s2 C2 ?_ (fun x h1 h2 => ?_), ?_⟩
        · rw [e3, wi_s, u2.1 t (by omega), o3]
        · rw [e3, wi_n _ _ _ (by omega), u2.1 x (by omega)]
        · rw [e3]; exact (N2.a u2).w (by omega)
      · rw [if_neg r] at u4 ⊢
        obtain ⟨o1, o2, o3⟩ := u4
        rw [o1, o2] at u1
        exact ⟨u1.mv (by rw [e3, wi_n _ _ _ (by omega)]), by show (5 : Nat) ≠ 0; omega⟩
    · rw [eg, r2]
  -- laws
  have law : ∀ (k : Nat) (xk x3 : Int32), kK T L M q.1 = 7 + k → k < 3 → x3 = nI k → GI E m_Laws_write [.ref (t + 11), .ref 18, .int (nI (q.1 + 1)), .int x3] g s2 (fun y3_ t3_ => (∀ s4_, s4_ = wi t3_ 24 6 y3_ → AWP E m_Teller_fillTell 183 0 0 [(0, .ref 24), (1, .int xk)] [] (mk g s4_) (qV g R))) := by
    intro k xk x3 ek k3 ex
    have eg : gTell (kK T L M) c q = gLaw (kK T L M) (q.1 + 1, 0) := by rw [g6]; unfold gBody; rw [if_neg (by omega), if_neg (by omega), if_neg (by omega), if_pos (by omega)]
    rw [eg] at hg
    have es : sTell T L (kK T L M) q.1 d nl = .inr (aLaw d k (sLaw (kK T L M) (vV T L) (q.1 + 1)), nl) := by
      unfold sTell
      rw [if_neg (by omega), if_neg (by omega), if_neg (by omega), if_neg (by omega), if_neg (by omega), if_neg (by omega), if_neg (by omega), ek, show 7 + k - 7 = k by omega]
    refine f_C_law (ld := dL d) ex k3 hS hW (by omega) T2 m2 (by omega) (by omega) hg C2.1.lw (fun u a' n u1 u2 u3 u4 u5 u6 u7 u8 s4 e4 => ?_)
    have l4 : LQ a' 0 s4 := ⟨by rw [e4, wi_s, upd_s], by rw [e4, wi_s, upd_n _ _ (by decide), u7 24 (by omega) (by omega) (by omega) (by omega)]; exact q2.2.1, by omega, by omega⟩
    refine fin a' 0 xk s4 l4 (by omega) (fun v v1 _ => ?_)
    obtain ⟨v3, v4⟩ := v1 rfl
    have au : ∀ a, a ≠ 24 → v.1 a = u.1 a := fun a ha => by rw [v3, wi_n _ _ _ ha, e4, wi_n _ _ _ ha]
    have v2' : v.2 = s2.2 := by rw [v3, wi_2, e4, wi_2, u8]
    rw [es] at h
    refine h v ⟨fun a h1 h2 => ?_, fun a ha => ?_⟩ ⟨?_, C2.law (fun x x1 x2 => ?_) (fun k' hk' => (u2 k' hk').mv (au _ (by omega)) (au _ (by omega)) (au _ (by omega))), ?_, n, ?_, ?_⟩
    · rw [au a (by omega), u7 a (by omega) (by omega) (by omega) (by omega), F2.1 a h1 h2]
    · rw [v2', F2.2 a ha]
    · rw [eg, u1]; exact v4
    · rw [au x (by omega), u7 x (by omega) (by omega) (by omega) (by omega)]
    · refine N2.mv ?_ (by rw [v2']) ?_ ?_
      · rw [v3, wi_s, upd_n _ _ (by decide), e4, wi_s, upd_n _ _ (by decide), u7 24 (by omega) (by omega) (by omega) (by omega)]
      · rw [au 26 (by decide), u7 26 (by omega) (by omega) (by omega) (by omega)]
      · rw [au 27 (by decide), u7 27 (by omega) (by omega) (by omega) (by omega)]
    · rw [au (t + 11) (by omega)]; exact u4
    · rw [eg, u1]; exact u5
  have cases_ : kK T L M q.1 = 4 ∨ kK T L M q.1 = 5 ∨ kK T L M q.1 = 6 ∨ kK T L M q.1 = 7 ∨ kK T L M q.1 = 8 ∨ kK T L M q.1 = 9 ∨ kK T L M q.1 = 10 ∨ kK T L M q.1 = 11 ∨ kK T L M q.1 = 12 ∨ kK T L M q.1 = 13 := by omega
  rcases cases_ with k | k | k | k | k | k | k | k | k | k
  · have es : sTell T L (kK T L M) q.1 d nl = sGrain T L (q.1 + 1) d nl := by unfold sTell; rw [if_pos k]
    have eg : gTell (kK T L M) c q = gRow (kK T L M) [2, 3, 3, 24] (q.1 + 1, 0) := by rw [g6]; unfold gBody; rw [if_pos k]
    rw [es] at srk
    rw [k] at g4 ⊢
    have g4' : c 4 < 6 := g4
    have hg' := hg
    rw [eg] at hg'
    obtain ⟨-, ⟨k1, k2, k3, k4⟩, -, -, p5, r2⟩ := gRow4 hg'
    have le4 : q.1 + 1 + 2 < 400 := by
      have : (gk (kK T L M) 3 (q.1 + 1 + 2, 0)).2 = 0 := by rw [p5]
      exact (gk_ok this).2.2.1
    refine ⟨fun z => absurd z (by decide), fun _ => f_L_grain hS et hy hx T2 q2 k1 k2 k3 N2 (by omega) hP.2.1 (by omega) m5 C2 (fun u u1 u2 => srk (q.1 + 1 + 3) _ u u1 u2 (by rw [eg, r2]) (by omega) (by omega)), fun z => absurd z (by decide), fun z => absurd z (by decide), fun z => absurd z (by decide), fun z => absurd z (by decide), fun z => absurd z (by decide), fun z => absurd z (by decide), fun z => absurd z (by decide), fun z => absurd z (by decide), fun z => absurd z (by decide)⟩
  · have es : sTell T L (kK T L M) q.1 d nl = sHole T L (q.1 + 1) d nl := by unfold sTell; rw [if_neg (by omega), if_pos k]
    have eg : gTell (kK T L M) c q = gRow (kK T L M) [2, 3, 2, 24] (q.1 + 1, 0) := by rw [g6]; unfold gBody; rw [if_neg (by omega), if_pos k]
    rw [es] at srk
    rw [k] at g4 ⊢
    have g4' : c 5 < 6 := g4
    have hg' := hg
    rw [eg] at hg'
    obtain ⟨-, ⟨k1, k2, k3, k4⟩, -, -, p5, r2⟩ := gRow4 hg'
    have le4 : q.1 + 1 + 2 < 400 := by
      have : (gk (kK T L M) 2 (q.1 + 1 + 2, 0)).2 = 0 := by rw [p5]
      exact (gk_ok this).2.2.1
    refine ⟨fun z => absurd z (by decide), fun z => absurd z (by decide), fun _ => f_L_hole hS et hy hx T2 q2 k1 k2 k3 N2 (by omega) (by omega) C2 (fun u u1 u2 => srk (q.1 + 1 + 3) _ u u1 u2 (by rw [eg, r2]) (by omega) (by omega)), fun z => absurd z (by decide), fun z => absurd z (by decide), fun z => absurd z (by decide), fun z => absurd z (by decide), fun z => absurd z (by decide), fun z => absurd z (by decide), fun z => absurd z (by decide), fun z => absurd z (by decide)⟩
  · have es : sTell T L (kK T L M) q.1 d nl = sRat T L (q.1 + 1) d nl := by unfold sTell; rw [if_neg (by omega), if_neg (by omega), if_pos k]
    have eg : gTell (kK T L M) c q = gRow (kK T L M) [2, 2, 2, 3, 3, 24] (q.1 + 1, 0) := by rw [g6]; unfold gBody; rw [if_neg (by omega), if_neg (by omega), if_pos k]
    rw [es] at srk
    rw [k] at g4 ⊢
    have g4' : c 6 < 8 := g4
    have hg' := hg
    rw [eg] at hg'
    obtain ⟨⟨k1, k2, k3, k4, k5, k6⟩, -, -, -, -, p5, r2⟩ := gRow6 hg'
    have le6 : q.1 + 1 + 5 < 401 := by
      have : (gk (kK T L M) 3 (q.1 + 1 + 4, 0)).2 = 0 := by rw [p5]
      have := (gk_ok this).2.2.1
      have : q.1 + 1 + 4 < 400 := this
      omega
    refine ⟨fun z => absurd z (by decide), fun z => absurd z (by decide), fun z => absurd z (by decide), fun _ => f_L_rat hS et hy hx T2 q2 k1 k2 k3 k4 k5 N2 (by omega) (by omega) C2 (fun u u1 u2 => srk (q.1 + 1 + 5) _ u u1 u2 (by rw [eg, r2]) (by omega) (by omega)), fun z => absurd z (by decide), fun z => absurd z (by decide), fun z => absurd z (by decide), fun z => absurd z (by decide), fun z => absurd z (by decide), fun z => absurd z (by decide), fun z => absurd z (by decide)⟩
  · have lw := law 0 (nI 7) (nI 7 - 7) (by omega) (by omega) rfl
    rw [k]
    exact ⟨fun z => absurd z (by decide), fun z => absurd z (by decide), fun z => absurd z (by decide), fun z => absurd z (by decide), fun _ => lw, fun z => absurd z (by decide), fun z => absurd z (by decide), fun z => absurd z (by decide), fun z => absurd z (by decide), fun z => absurd z (by decide), fun z => absurd z (by decide)⟩
  · have lw := law 1 (nI 8) (nI 8 - 7) (by omega) (by omega) rfl
    rw [k]
    exact ⟨fun z => absurd z (by decide), fun z => absurd z (by decide), fun z => absurd z (by decide), fun z => absurd z (by decide), fun z => absurd z (by decide), fun _ => lw, fun z => absurd z (by decide), fun z => absurd z (by decide), fun z => absurd z (by decide), fun z => absurd z (by decide), fun z => absurd z (by decide)⟩
  · have lw := law 2 (nI 9) (nI 9 - 7) (by omega) (by omega) rfl
    rw [k]
    exact ⟨fun z => absurd z (by decide), fun z => absurd z (by decide), fun z => absurd z (by decide), fun z => absurd z (by decide), fun z => absurd z (by decide), fun z => absurd z (by decide), fun _ => lw, fun z => absurd z (by decide), fun z => absurd z (by decide), fun z => absurd z (by decide), fun z => absurd z (by decide)⟩
  · have es : sTell T L (kK T L M) q.1 d nl = sMer T L (kK T L M) (q.1 + 1) d nl := by unfold sTell; rw [if_neg (by omega), if_neg (by omega), if_neg (by omega), if_pos k]
    have eg : gTell (kK T L M) c q = gWants (kK T L M) (q.1 + 1, 0) := by rw [g6]; unfold gBody; rw [if_neg (by omega), if_neg (by omega), if_neg (by omega), if_neg (by omega), if_pos k]
    rw [es] at srk
    rw [k] at g4 ⊢
    have g4' : c 10 < 5 := g4
    have hg' := hg
    rw [eg] at hg'
    have hg2 := hg'
    unfold gWants at hg2
    obtain ⟨p1, p2, p3, p4, p5, p6, p7⟩ := gWants_ok hg'
    have le4 : q.1 + 1 + 1 + 2 * wn (kK T L M) 4 (q.1 + 1 + 1) < 400 := by
      rw [p3] at hg2
      have p5' : gW (kK T L M) 5 (q.1 + 1 + 1, 0) = (q.1 + 1 + 1 + 2 * wn (kK T L M) 4 (q.1 + 1 + 1), 0) := p5
      have hg3 : (gk (kK T L M) 24 (gW (kK T L M) 5 (q.1 + 1 + 1, 0))).2 = 0 := hg2
      rw [p5'] at hg3
      exact (gk_ok hg3).2.2.1
    refine ⟨fun z => absurd z (by decide), fun z => absurd z (by decide), fun z => absurd z (by decide), fun z => absurd z (by decide), fun z => absurd z (by decide), fun z => absurd z (by decide), fun z => absurd z (by decide), fun _ => f_L_mer hS et hy hx T2 q2 p2 p4 N2 (fun v i e => by have := hP.2.2.1 v i e; omega) (by omega) g6' C2 (fun u u1 u2 => srk (q.1 + 1 + 1 + 2 * wn (kK T L M) 4 (q.1 + 1 + 1)) _ u u1 u2 (by rw [eg, p7]) (by omega) (by omega)), fun z => absurd z (by decide), fun z => absurd z (by decide), fun z => absurd z (by decide)⟩
  · have n := num 0 9999 15 0 9999 (nI 11) aLm rfl rfl (by omega) (by omega) (by unfold sTell; rw [k]; rfl) (by rw [g6]; unfold gBody; rw [k]; rfl) (fun v u s' a1 a2 a3 => a1.lm a2 a3)
    rw [k]
    exact ⟨fun z => absurd z (by decide), fun z => absurd z (by decide), fun z => absurd z (by decide), fun z => absurd z (by decide), fun z => absurd z (by decide), fun z => absurd z (by decide), fun z => absurd z (by decide), fun z => absurd z (by decide), fun _ => n, fun z => absurd z (by decide), fun z => absurd z (by decide)⟩
  · have n := num 1 99 16 1 99 (nI 12) aOd rfl rfl (by omega) (by omega) (by unfold sTell; rw [k]; rfl) (by rw [g6]; unfold gBody; rw [k]; rfl) (fun v u s' a1 a2 a3 => a1.od a2 a3)
    rw [k]
    exact ⟨fun z => absurd z (by decide), fun z => absurd z (by decide), fun z => absurd z (by decide), fun z => absurd z (by decide), fun z => absurd z (by decide), fun z => absurd z (by decide), fun z => absurd z (by decide), fun z => absurd z (by decide), fun z => absurd z (by decide), fun _ => n, fun z => absurd z (by decide)⟩
  · have n := num 0 9999 17 0 9999 (nI 13) aSe rfl rfl (by omega) (by omega) (by unfold sTell; rw [k]; rfl) (by rw [g6]; unfold gBody; rw [k]; rfl) (fun v u s' a1 a2 a3 => a1.se a2 a3)
    rw [k]
    exact ⟨fun z => absurd z (by decide), fun z => absurd z (by decide), fun z => absurd z (by decide), fun z => absurd z (by decide), fun z => absurd z (by decide), fun z => absurd z (by decide), fun z => absurd z (by decide), fun z => absurd z (by decide), fun z => absurd z (by decide), fun z => absurd z (by decide), fun _ => n⟩
end FillT
