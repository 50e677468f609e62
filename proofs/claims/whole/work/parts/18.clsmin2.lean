/-! THE CLASS: a rat at the heap, a minute -/
theorem i_hun {x : Int32} (h0 : 0 ≤ x) (h9 : x ≤ 99) : (if x + 1 < 99 then x + 1 else 99) = (if 99 ≤ x then x else x + 1) := by
  obtain ⟨a, ha, rfl⟩ := i_nn h0
  have ha9 : a ≤ 99 := (nI_leI (b := 99) ha (by decide)).mp h9
  rw [nI_1, show (99 : Int32) = nI 99 from rfl]
  by_cases c : 99 ≤ a
  · rw [if_pos (nI_le c ha), if_neg (nI_nlt (by omega) (by omega)), show a = 99 by omega]
  · rw [if_neg (nI_ge (by omega) (by omega))]
    by_cases d : a + 1 < 99
    · rw [if_pos (nI_lt d (by omega))]
    · rw [if_neg (nI_nlt (by omega) (by omega)), show a + 1 = 99 by omega]
theorem i_cat {x : Int32} (h0 : 0 ≤ x) : (if 0 < x - 1 then x - 1 else 0) = (if x ≤ 0 then x else x - 1) := by
  obtain ⟨a, ha, rfl⟩ := i_nn h0
  rcases Nat.eq_zero_or_pos a with z | z
  · subst z; decide
  · rw [show (1 : Int32) = nI 1 from rfl, pk_sub z, show (0 : Int32) = nI 0 from rfl, if_neg (nI_ge z ha)]
    by_cases d : 1 < a
    · rw [if_pos (nI_lt (by omega) (by omega))]
    · rw [if_neg (nI_nlt (by omega) (by omega)), show a = 1 by omega]
theorem hr_hun {s : MS} {b r : Nat} (hr8 : r < 8) (h0 : 0 ≤ hr s b (74 + r)) (h9 : hr s b (74 + r) ≤ 99) : hr (wi s (b + 4 + r) 4 (if s.1 (b + 4 + r) 4 + 1 < 99 then s.1 (b + 4 + r) 4 + 1 else 99)) b = pHun r (hr s b) := by
  rw [hw_r4 _ _ hr8, ← hr74 s b hr8, i_hun h0 h9, pHun]
  split
  · rw [upd_self]
  · rfl
theorem LB0 : LB 0 (fun _ => 0) := by
  intro k hk
  rw [bit0 _ (by omega)]
  simp
section ClsMin2
variable {E : EN} {g : GS} {b t r : Nat} {e : PE}
theorem f_Mill_beAtHeap {s : MS} {R : MS → Prop} (hS : SX g) (hH : HS g b) (et : t = 88 ∨ t = 104) (hm : g.2.2 28 0 = some t) (hb : HB b) (hE : EC e t s) (hV : ValOK E g e b t s) (hLv : LvC e) (hr8 : r < 8) (hre : r < eR e) (hC : CH b s) (hW : WF2 e (hr s b)) {kk : Nat} (hk6 : kk < 6) (hkn : hr s b (90 + r) = nI kk) (h0 : hr s b (42 + r) = 0) {L : Row} (hL : LB (s.1 28 4) L)
    (h : ∀ u, hr u b = (pHeap e r (hr s b, L)).1 → LB (u.1 28 4) (pHeap e r (hr s b, L)).2 → CH b u → FrC b t s u → R u) : GV E m_Mill_beAtHeap [.ref 28, .ref b, .ref (b + 4 + r), .int (nI r)] g s R := by
  have hOG : OG g (b + 4 + r) 6 := (hH.2.2.2.2.2.2.2 r hr8).2
  have b32 := hb.le
  have hkk : (hr s b (90 + r)).toNatClampNeg = kk := by rw [hkn, tn_lt6 hk6]
  have hs90 : s.1 (b + 4 + r) 6 = nI kk := by rw [← hr90 s b hr8]; exact hkn
  have H : (hr s b kk = 0 ∨ eLa e ≤ hr s b 114 ∨ ¬ hr s b 118 ≤ 0) → ((hr s b (74 + r) < eOd e → qV g R none (mk g s)) ∧ (¬ hr s b (74 + r) < eOd e → GV E m_Mill_nibble [.ref 28, .ref b, .ref (b + 4 + r)] g s (fun u => qV g R none (mk g u)))) := by
    intro hc
    have e1 : pHeap e r (hr s b, L) = (if hr s b (74 + r) < eOd e then hr s b else pNib e r (hr s b), L) := by
      rw [pHeap]
      simp only [hkk]
      rw [if_pos hc]
    rw [e1] at h
    refine ⟨fun c => GV.r (h s ?_ hL hC (FrC.rf b t s)), fun c => f_Mill_nibble hS hH et hm hb hE hr8 hW hC (fun u q1 q2 q3 q4 => GV.r (h u ?_ ?_ q3 q4))⟩
    · rw [if_pos c]
    · rw [if_neg c]; exact q1
    · rw [q2]; exact hL
  refine v_Mill_beAtHeap (Q := qV g R) b (b + 4 + r) (nI r) t hS hH hOG et hm ?_
  rw [hs90, tn_lt6 hk6, hE.2.2.2.1, hE.2.2.2.2.1, ← hr_hp s b hk6, ← hr114 s b, ← hr118 s b, ← hr119 s b, ← hr74 s b hr8]
  refine ⟨fun c => H (Or.inr (Or.inl c)), fun c => ⟨fun c2 => ⟨vp_in_nI hk6 (by omega), fun c3 => H (Or.inl (Int32.le_antisymm c3 (hW.1 kk hk6))), fun c3 => ⟨fun c4 => ?_, fun c4 s1 e1 => GV.r (h s1 ?_ ?_ ?_ ?_)⟩⟩, fun c2 => H (Or.inr (Or.inr (fun z => c2 (Int32.le_antisymm z hW.2.1))))⟩⟩
  · have hmu : ¬ hr s b kk = 0 := fun z => c3 (by rw [z]; decide)
    have e2 : pHeap e r (hr s b, L) = (pLoad e r (hr s b), upd L kk 1) := by
      rw [pHeap]
      simp only [hkk]
      rw [if_neg (by rintro (q | q | q) <;> first | exact hmu q | exact c q | exact q (by rw [c2]; decide)), if_pos ((hL kk hk6).mp c4)]
    rw [e2] at h
    exact f_Mill_load hS hH et hm hb hE hV hLv hr8 hre hC hW hk6 hkn h0 hmu hL (fun u q1 q2 q3 q4 => GV.r (h u q1 q2 q3 q4))
  all_goals
    have hmu : ¬ hr s b kk = 0 := fun z => c3 (by rw [z]; decide)
    have e2 : pHeap e r (hr s b, L) = (upd (hr s b) 119 (hr s b 119 + 1), L) := by
      rw [pHeap]
      simp only [hkk]
      rw [if_neg (by rintro (q | q | q) <;> first | exact hmu q | exact c q | exact q (by rw [c2]; decide)), if_neg (fun z => c4 ((hL kk hk6).mpr z))]
  · rw [e2, e1, hw_119]
  · rw [e2, e1, wi_n _ _ _ (by omega)]; exact hL
  · intro x hx
    rw [e1, wi_n _ _ _ (by omega)]; exact hC x hx
  · rw [e1]; exact FrC.in hb (by omega) (by omega)
theorem l_Mill_goMinute {s : MS} {R : MS → Prop} (hS : SX g) (hH : HS g b) (et : t = 88 ∨ t = 104) (hm : g.2.2 28 0 = some t) (hb : HB b) (hE : EC e t s) (hV : ValOK E g e b t s) (hLv : LvC e) (hF : WFr e (hr s b)) (hW : WF2 e (hr s b)) (h : ∀ u, hr u b = pMin e (hr s b) → CH b u → FrC b t s u → R u) :
    ∀ (m k : Nat), eR e - k = m → k ≤ eR e → ∀ u, hr u b = (pRats e k (hr s b, fun _ => 0)).1 → LB (u.1 28 4) (pRats e k (hr s b, fun _ => 0)).2 → CH b u → FrC b t s u → AWP E m_Mill_goMinute 7 0 0 [(0, .ref 28), (1, .ref b), (2, .int (nI k))] [] (mk g u) (qV g R) := by
  have hO := hE.2.2.2.2.2.2.2.2
  have h8 := hO.1
  have b32 := hb.le
  intro m
  induction m with
  | zero =>
    intro k hk hk1 u hu hL hC hFu
    have hke : k = eR e := by omega
    have hEu := hE.mv et hb hFu
    have hWu : WF2 e (hr u b) := by rw [hu]; exact WF2.rats (q := (hr s b, fun _ => 0)) hO hF hW k hk1
    refine v_Mill_goMinute_7 b (nI k) t hS hH et hm ?_
    rw [hEu.1]
    refine ⟨fun _ s1 e1 s2 e2 => GV.r (h s2 ?_ ?_ ?_), fun c => absurd ((nI_leI (by omega) (by omega)).mpr (by omega)) c⟩
    · have hR1 : hr s1 b = (if hr u b 118 ≤ 0 then hr u b else upd (hr u b) 118 (hr u b 118 - 1)) := by
        rw [e1, hw_118, ← hr118 u b, i_cat hWu.2.1]
        split
        · rw [upd_self]
        · rfl
      rw [e2, hw_114, ← hr114 s1 b, hR1, pMin, ← hke, ← hu, pEnd]
      split
      · rfl
      · rfl
    · intro x hx
      rw [e2, wi_n _ _ _ (by omega), e1, wi_n _ _ _ (by omega)]; exact hC x hx
    · rw [e2, e1]; exact (hFu.tr (FrC.in hb (by omega) (by omega))).tr (FrC.in hb (by omega) (by omega))
  | succ m ih =>
    intro k hk hk1 u hu hL hC hFu
    have hkr : k < eR e := by omega
    have hr8 : k < 8 := by omega
    have hEu := hE.mv et hb hFu
    have hWu : WF2 e (hr u b) := by rw [hu]; exact WF2.rats (q := (hr s b, fun _ => 0)) hO hF hW k hk1
    have hFr : WFr e (hr u b) := by rw [hu]; exact WFr.rats (q := (hr s b, fun _ => 0)) hO hF k hk1
    have hn : nI k + 1 = nI (k + 1) := nI_1 k
    generalize hL2 : (pRats e k (hr s b, fun _ => 0)).2 = L at hL
    have hq : pRats e k (hr s b, fun _ => 0) = (hr u b, L) := Prod.ext hu.symm hL2
    have go : ∀ v, hr v b = (pRat e k (hr u b, L)).1 → LB (v.1 28 4) (pRat e k (hr u b, L)).2 → CH b v → FrC b t u v → AWP E m_Mill_goMinute 7 0 0 [(0, .ref 28), (1, .ref b), (2, .int (nI k + 1))] [] (mk g v) (qV g R) := by
      intro v q1 q2 q3 q4
      rw [hn]
      have e1 : pRats e (k + 1) (hr s b, fun _ => 0) = pRat e k (hr u b, L) := by rw [← hq]; rfl
      exact ih (k + 1) (by omega) (by omega) v (by rw [e1]; exact q1) (by rw [e1]; exact q2) q3 (hFu.tr q4)
    have h42 : u.1 (b + 4 + k) 0 = hr u b (42 + k) := (hr42 u b hr8).symm
    obtain ⟨w0, w1, w2, w3⟩ := hWu.2.2 k hkr
    refine v_Mill_goMinute_7 b (nI k) t hS hH et hm ?_
    rw [hEu.1, tn_n (Nat.lt_of_lt_of_le hr8 (by decide)), h42]
    refine ⟨fun c => absurd ((nI_leI (by omega) (by omega)).mp c) (by omega), fun _ => ⟨vp_in_nI hr8 (by omega), fun c3 => ?_, fun c3 s1 e1 => ?_⟩⟩
    · have e1 : pRat e k (hr u b, L) = (hr u b, L) := by rw [pRat]; simp only [if_pos c3]
      exact go u (by rw [e1]) (by rw [e1]; exact hL) hC (FrC.rf b t u)
    · have hR1 : hr s1 b = pHun k (hr u b) := by rw [e1]; exact hr_hun hr8 w2 w3
      have F1 : FrC b t u s1 := by rw [e1]; exact FrC.in hb (by omega) (by omega)
      have E1 := hEu.mv et hb F1
      have C1 : CH b s1 := by
        intro x hx
        by_cases ex : x = k
        · subst ex; rw [e1, wi_s, upd_n _ _ (by omega)]; exact hC x hx
        · rw [e1, wi_n _ _ _ (by omega)]; exact hC x hx
      have L1 : LB (s1.1 28 4) L := by rw [e1, wi_n _ _ _ (by omega)]; exact hL
      have W1 : WF2 e (hr s1 b) := by rw [hR1]; exact hWu.hun hO hkr
      have Fr1 : WFr e (hr s1 b) := by rw [hR1]; exact hFr.hun hO hkr
      have w42 : hr s1 b (42 + k) = hr u b (42 + k) := by rw [hR1, pHun_o (by omega)]
      have c42 : s1.1 (b + 4 + k) 0 = hr u b (42 + k) := by rw [← w42, hr42 _ _ hr8]
      obtain ⟨⟨kk, hkg, hkn⟩, -⟩ := Fr1 k hkr
      have h2 := hO.2.1
      rw [c42]
      refine ⟨fun c0 => ?_, fun c0 => ?_⟩
      · have e2 : pRat e k (hr u b, L) = pHeap e k (hr s1 b, L) := by rw [pRat, hR1]; simp only [if_neg c3, if_pos c0]
        exact f_Mill_beAtHeap hS hH et hm hb E1 (hV.mv (hFu.tr F1)) hLv hr8 hkr C1 W1 (by omega) hkn (by rw [w42]; exact c0) L1 (fun v q1 q2 q3 q4 => go v (by rw [e2]; exact q1) (by rw [e2]; exact q2) q3 (F1.tr q4))
      · have e2 : pRat e k (hr u b, L) = (pWalk e k (hr s1 b) (hr u b (42 + k)), L) := by rw [pRat, hR1]; simp only [if_neg c3, if_neg c0]
        refine f_Mill_walk hS hH hb E1 hr8 hkr W1 Fr1 C1 ?_ (fun v q1 q2 q3 q4 => go v (by rw [e2, q1, w42]) (by rw [e2, q2]; exact L1) q3 (F1.tr q4))
        rw [w42]
        rcases w0 with q | q | q | q
        · exact absurd q c0
        · exact Or.inl q
        · exact Or.inr q
        · exact absurd q c3
theorem f_Mill_goMinute {s : MS} {R : MS → Prop} (hS : SX g) (hH : HS g b) (et : t = 88 ∨ t = 104) (hm : g.2.2 28 0 = some t) (hb : HB b) (hE : EC e t s) (hV : ValOK E g e b t s) (hLv : LvC e) (hC : CH b s) (hF : WFr e (hr s b)) (hW : WF2 e (hr s b)) (h : ∀ u, hr u b = pMin e (hr s b) → CH b u → FrC b t s u → R u) : GV E m_Mill_goMinute [.ref 28, .ref b] g s R := by
  have b32 := hb.le
  refine v_Mill_goMinute (Q := qV g R) b hS (fun s1 e1 => ?_)
  have hR1 : hr s1 b = hr s b := by rw [e1, hr_out (by omega)]
  have F1 : FrC b t s s1 := by rw [e1]; exact FrC.w284
  have := l_Mill_goMinute (E := E) hS hH et hm hb (hE.mv et hb F1) (hV.mv F1) hLv (by rw [hR1]; exact hF) (by rw [hR1]; exact hW) (R := R) (fun u q1 q2 q3 => h u (by rw [q1, hR1]) q2 (F1.tr q3)) (eR e) 0 (by omega) (by omega) s1 rfl (by rw [e1, wi_s, upd_s]; exact LB0) (fun x hx => by rw [e1, wi_n _ _ _ (by omega)]; exact hC x hx) (FrC.rf b t s1)
  exact this
end ClsMin2
