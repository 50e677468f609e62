/-! THE CLASS'S LOAD, and its minute -/
theorem i_cl1 (y : Int32) : (if 1 < (if y < 99 then y else 99) then (if y < 99 then y else 99) else 1) = hold y 1 99 := by
  have t1 : (1 : Int32).toInt = 1 := by decide
  have t99 : (99 : Int32).toInt = 99 := by decide
  unfold hold
  repeat' split
  all_goals first | rfl | (apply Int32.toInt_inj.mp; simp only [Int32.lt_iff_toInt_lt, t1, t99] at *; omega) | (exfalso; simp only [Int32.lt_iff_toInt_lt, t1, t99] at *; omega)
theorem i_min (a c : Int32) : (if a < c then a else c) = (if c ≤ a then c else a) := by
  by_cases h : c ≤ a
  · rw [if_pos h, if_neg (Int32.not_lt.mpr h)]
  · rw [if_neg h, if_pos (Int32.not_le.mp h)]
theorem i_eat {y N : Int32} (h0 : 0 ≤ N) (h9 : N ≤ 99) : (if 0 < (if y < N then y else N) then (if y < N then y else N) else 0) = (if hold y 0 99 ≤ N then hold y 0 99 else N) := by
  have t0 : (0 : Int32).toInt = 0 := by decide
  have t99 : (99 : Int32).toInt = 99 := by decide
  simp only [Int32.le_iff_toInt_le, t0, t99] at h0 h9
  unfold hold
  repeat' split
  all_goals first | rfl | (apply Int32.toInt_inj.mp; simp only [Int32.lt_iff_toInt_lt, Int32.le_iff_toInt_le, t0, t99] at *; omega) | (exfalso; simp only [Int32.lt_iff_toInt_lt, Int32.le_iff_toInt_le, t0, t99] at *; omega)
theorem i_dark (d : Int32) : (if 0 < d then d else 0) = (if d < 0 then 0 else d) := by
  have t0 : (0 : Int32).toInt = 0 := by decide
  repeat' split
  all_goals first | rfl | (apply Int32.toInt_inj.mp; simp only [Int32.lt_iff_toInt_lt, t0] at *; omega) | (exfalso; simp only [Int32.lt_iff_toInt_lt, t0] at *; omega)
theorem lotP_rg (sd w : Int32) : ∃ q, q < 100 ∧ lotP sd w = nI q := by
  unfold lotP
  have h := pk_ushr (mixP (mixP sd 39) w) 1 1 (by decide)
  generalize ((mixP (mixP sd 39) w).toUInt32 >>> ((1 : Int32).toUInt32 &&& Int32.toUInt32 31)).toInt32 = z at h
  have hz : z.toBitVec.toNat < 2 ^ 31 := by
    rw [h]
    have := (mixP (mixP sd 39) w).toBitVec.isLt
    omega
  have hzn : z = nI z.toBitVec.toNat := by
    apply Int32.toBitVec_inj.mp
    apply BitVec.eq_of_toNat_eq
    rw [pk_tn (by omega)]
  obtain ⟨q, hq, rfl⟩ : ∃ q, q < 2 ^ 31 ∧ z = nI q := ⟨_, hz, hzn⟩
  refine ⟨q % 100, Nat.mod_lt _ (by decide), ?_⟩
  exact pk_rem (d := 100) hq (by decide) (by decide)
theorem i_errs {y : Int32} {sd w : Int32} : (y ≤ lotP sd w) ↔ hold y 0 100 ≤ lotP sd w := by
  obtain ⟨q, hq, e⟩ := lotP_rg sd w
  rw [e]
  have t0 : (0 : Int32).toInt = 0 := by decide
  have t100 : (100 : Int32).toInt = 100 := by decide
  have tq : (nI q).toInt = q := nI_toInt (by omega)
  unfold hold
  repeat' split
  all_goals (simp only [Int32.lt_iff_toInt_lt, Int32.le_iff_toInt_le, t0, t100, tq] at * <;> omega)
theorem i_left {N X : Int32} (h0 : 0 ≤ X) (h : X ≤ N) : (N - X ≤ 0) ↔ N ≤ X := by
  obtain ⟨a, ha, rfl⟩ := i_nn (Int32.le_trans h0 h)
  obtain ⟨c, hc, rfl⟩ := i_nn h0
  have hca := (nI_leI hc ha).mp h
  rw [pk_sub hca, show (0 : Int32) = nI 0 from rfl, nI_leI (by omega) (by omega), nI_leI ha hc]
  omega
theorem pV0 (e : PE) (r : Nat) (R : Row) (m : Int32) : pVars e r R m 0 = R (74 + r) := rfl
theorem pV1 (e : PE) (r : Nat) (R : Row) (m : Int32) : pVars e r R m 1 = R (82 + r) := rfl
theorem pV2 (e : PE) (r : Nat) (R : Row) (m : Int32) : pVars e r R m 2 = m := rfl
theorem pV3 (e : PE) (r : Nat) (R : Row) (m : Int32) : pVars e r R m 3 = if eLa e - R 114 < 0 then 0 else eLa e - R 114 := rfl
theorem pV4 (e : PE) (r : Nat) (R : Row) (m : Int32) : pVars e r R m 4 = eFa e (eWh e r) := rfl
theorem pV5 (e : PE) (r : Nat) (R : Row) (m : Int32) : pVars e r R m 5 = R (90 + r) := rfl
theorem pV6 (e : PE) (r : Nat) (R : Row) (m : Int32) : pVars e r R m 6 = R (98 + r) := rfl
section ClsLoad
variable {E : EN} {g : GS} {b t r : Nat} {e : PE}
theorem f_Mill_stir {s : MS} {R : Int32 → MS → Prop} (x y : Int32) (h : R (mixP x y) s) : GI E m_Mill_stir [.int x, .int y] g s R := v_Mill_stir x y (GI.r h)
theorem f_Mill_lot {s : MS} {R : Int32 → MS → Prop} (x y : Int32) (h : R (lotP x y) s) : GI E m_Mill_lot [.int 100, .int x, .int y] g s R :=
  v_Mill_lot 100 x y (f_Mill_stir _ _ (f_Mill_stir _ _ ⟨fun c => absurd c (by decide), fun _ => ⟨by decide, GI.r h⟩⟩))
theorem f_Mill_know {s : MS} {R : MS → Prop} (hS : SX g) (hH : HS g b) (et : t = 88 ∨ t = 104) (hm : g.2.2 28 0 = some t) (hb : HB b) (hE : EC e t s) (hr8 : r < 8) (hre : r < eR e)
    (h : ∀ u, (∀ (much : Int32) (i : Nat), i < 7 → i ≠ 2 → u.1 30 i = pVars e r (hr s b) much i) → (∀ a, a ≠ 30 → u.1 a = s.1 a) → u.2 = s.2 → R u) : GV E m_Mill_know [.ref 28, .ref b, .ref (b + 4 + r), .int (nI (eWh e r))] g s R := by
  have hOG : OG g (b + 4 + r) 6 := (hH.2.2.2.2.2.2.2 r hr8).2
  have b32 := hb.le
  have hw6 : eWh e r < 6 := by have := hE.2.2.2.2.2.2.2.2.2.2.2 r hre; have := hE.2.2.2.2.2.2.2.2.2.2.1; omega
  refine v_Mill_know (Q := qV g R) b (b + 4 + r) (nI (eWh e r)) t hS hH hOG et hm (fun s1 e1 s2 e2 s3 e3 => ⟨vp_in_nI hw6 (by omega), fun s4 e4 s5 e5 s6 e6 => GV.r (h s6 ?_ ?_ ?_)⟩)
  · have o1 : ∀ a, a ≠ 30 → s1.1 a = s.1 a := fun a ha => by rw [e1, wi_n _ _ _ ha]
    have o2 : ∀ a, a ≠ 30 → s2.1 a = s.1 a := fun a ha => by rw [e2, wi_n _ _ _ ha, o1 a ha]
    have o4 : ∀ a, a ≠ 30 → s4.1 a = s.1 a := fun a ha => by rw [e4, wi_n _ _ _ ha, e3, wi_n _ _ _ ha, o2 a ha]
    have o5 : ∀ a, a ≠ 30 → s5.1 a = s.1 a := fun a ha => by rw [e5, wi_n _ _ _ ha, o4 a ha]
    have q : s6.1 30 = upd (upd (upd (upd (upd (upd (s.1 30) 0 (s.1 (b + 4 + r) 4)) 1 (s.1 (b + 4 + r) 5)) 3 (if 0 < s.1 t 15 - s.1 b 3 then s.1 t 15 - s.1 b 3 else 0)) 4 (s.1 29 (eWh e r))) 5 (s.1 (b + 4 + r) 6)) 6 (s.1 (b + 4 + r) 7) := by
      rw [e6, wi_s, o5 (b + 4 + r) (by omega), e5, wi_s, o4 (b + 4 + r) (by omega), e4, wi_s, tn_lt6 hw6, e3, wi_s, o2 t (by omega), o2 b (by omega), e2, wi_s, o1 (b + 4 + r) (by omega), e1, wi_s]
    intro much i hi hi2
    rw [q]
    match i, hi, hi2 with
    | 0, _, _ => exact (hr74 s b hr8).symm
    | 1, _, _ => exact (hr82 s b hr8).symm
    | 3, _, _ =>
      show (if 0 < s.1 t 15 - s.1 b 3 then s.1 t 15 - s.1 b 3 else 0) = if eLa e - hr s b 114 < 0 then 0 else eLa e - hr s b 114
      rw [i_dark, hE.2.2.2.1, hr114]
    | 4, _, _ => exact hE.2.2.2.2.2.2.1 _ (hE.2.2.2.2.2.2.2.2.2.2.2 r hre)
    | 5, _, _ => exact (hr90 s b hr8).symm
    | 6, _, _ => exact (hr98 s b hr8).symm
  · intro a ha
    rw [e6, wi_n _ _ _ ha, e5, wi_n _ _ _ ha, e4, wi_n _ _ _ ha, e3, wi_n _ _ _ ha, e2, wi_n _ _ _ ha, e1, wi_n _ _ _ ha]
  · rw [e6, e5, e4, e3, e2, e1]; rfl
/-- the end of a load: writes in the house and in the rat -/
theorem l_Mill_load {s : MS} {R : MS → Prop} (hS : SX g) (hH : HS g b) (et : t = 88 ∨ t = 104) (hm : g.2.2 28 0 = some t) (hb : HB b) (hE : EC e t s) (hr8 : r < 8) (hre : r < eR e) (hC : CH b s) {R0 : Row} {kk : Nat} (hk6 : kk < 6) (hkn : R0 (90 + r) = nI kk) (h0 : R0 (42 + r) = 0) (hW0 : hr s b = if pLoadE e r R0 ≤ 0 then R0 else upd R0 (74 + r) 0) (hn : 0 ≤ pLoadE e r R0) {L : Row} (hL : LB (s.1 28 4) L) (x5 x6 x9 : Int32) (sy : Nat) (hsy : (sy = 0 ∧ pTo e r R0 = eWh e r) ∨ (sy = 1 ∧ pTo e r R0 = pNext e r))
    (h : ∀ u, hr u b = pLoad e r R0 → LB (u.1 28 4) (upd L kk 1) → CH b u → FrC b t s u → R u) :
    AWP E m_Mill_load 182 0 0 [(0, .ref 28), (1, .ref b), (2, .ref (b + 4 + r)), (3, .int (nI r)), (4, .int (nI (eWh e r))), (5, .int x5), (6, .int x6), (7, .int (pLoadN e r R0)), (8, .int (pLoadE e r R0)), (9, .int x9), (10, .int (nI sy))] [] (mk g s) (qV g R) := by
  have hOG : OG g (b + 4 + r) 6 := (hH.2.2.2.2.2.2.2 r hr8).2
  have b32 := hb.le
  have hO := hE.2.2.2.2.2.2.2.2
  have hwh := hO.2.2.2 r hre
  have h3 := hO.2.2.1
  have hkk : (R0 (90 + r)).toNatClampNeg = kk := by rw [hkn, tn_lt6 hk6]
  have hs90 : s.1 (b + 4 + r) 6 = nI kk := by
    rw [← hr90 s b hr8, hW0]
    split
    · exact hkn
    · rw [upd_n _ _ (by omega)]; exact hkn
  have hs42 : s.1 (b + 4 + r) 0 = 0 := by
    rw [← hr42 s b hr8, hW0]
    split
    · exact h0
    · rw [upd_n _ _ (by omega)]; exact h0
  -- behind target
  have fin : ∀ s1 s2 s3 s4 s5 s6 (to : Nat), s1 = wi s 28 4 (s.1 28 4 ||| ((1 : Int32) <<< (s.1 (b + 4 + r) 6 &&& 31))) → s2 = wi s1 (b + 1) (s1.1 (b + 4 + r) 6).toNatClampNeg (s1.1 (b + 1) (s1.1 (b + 4 + r) 6).toNatClampNeg - pLoadN e r R0) → s3 = wi s2 b 5 (s2.1 b 5 + pLoadE e r R0) → s4 = wi s3 (b + 4 + r) 2 (pLoadN e r R0 - pLoadE e r R0) → s5 = wi s4 (b + 4 + r) 3 (s4.1 (b + 4 + r) 6) → s6 = wi s5 (b + 4 + r) 8 (nI to) → to = pTo e r R0 → to < 6 → ∀ x10, AWP E m_Mill_load 275 0 0 [(0, .ref 28), (1, .ref b), (2, .ref (b + 4 + r)), (3, .int (nI r)), (4, .int (nI (eWh e r))), (5, .int x5), (6, .int x6), (7, .int (pLoadN e r R0)), (8, .int (pLoadE e r R0)), (9, .int x9), (10, .int x10)] [] (mk g s6) (qV g R) := by
    intro s1 s2 s3 s4 s5 s6 to e1 e2 e3 e4 e5 e6 hto ht6 x10
    have r1 : s1.1 (b + 4 + r) = s.1 (b + 4 + r) := by rw [e1, wi_n _ _ _ (by omega)]
    have k1 : (s1.1 (b + 4 + r) 6).toNatClampNeg = kk := by rw [r1, hs90, tn_lt6 hk6]
    rw [k1] at e2
    have r3 : s3.1 (b + 4 + r) = s.1 (b + 4 + r) := by rw [e3, wi_n _ _ _ (by omega), e2, wi_n _ _ _ (by omega), r1]
    have r4 : s4.1 (b + 4 + r) 6 = nI kk := by rw [e4, wi_s, upd_n _ _ (by omega), r3, hs90]
    refine v_Mill_load_275 b (b + 4 + r) _ _ _ _ _ _ _ _ hS hOG (fun w1 f1 => ?_)
    have t1 : w1.1 (b + 4 + r) 8 = nI to := by rw [f1, wi_s, upd_n _ _ (by omega), e6, wi_s, upd_s]
    have fa : w1.1 29 = s.1 29 := by rw [f1, wi_n _ _ _ (by omega), e6, wi_n _ _ _ (by omega), e5, wi_n _ _ _ (by omega), e4, wi_n _ _ _ (by omega), e3, wi_n _ _ _ (by omega), e2, wi_n _ _ _ (by omega), e1, wi_n _ _ _ (by omega)]
    rw [t1, tn_lt6 ht6]
    refine ⟨vp_in_nI ht6 (by omega), fun w2 f2 => GV.r (h w2 ?_ ?_ ?_ ?_)⟩
    · have hR1 : hr s1 b = hr s b := by rw [e1, hr_out (by omega)]
      have hR2 : hr s2 b = pL2 e r R0 := by
        rw [e2, hw_hp _ _ hk6, ← hr_hp s1 b hk6, hR1, hW0, pL2, pL1, hkk]
        split
        · rfl
        · rw [upd_n _ _ (by omega), upd_cm _ _ _ (by omega)]
      have hR3 : hr s3 b = upd (pL2 e r R0) 115 (pL2 e r R0 115 + pLoadE e r R0) := by rw [e3, hw_115, ← hr115 s2 b, hR2]
      have c4 : s4.1 (b + 4 + r) 2 = pLoadN e r R0 - pLoadE e r R0 := by rw [e4, wi_s, upd_s]
      have c5 : s5.1 (b + 4 + r) 0 = 0 := by rw [e5, wi_s, upd_n _ _ (by omega), e4, wi_s, upd_n _ _ (by omega), r3, hs42]
      have c6 : s6.1 (b + 4 + r) 8 = nI to := by rw [e6, wi_s, upd_s]
      have hx : (if pLoadN e r R0 - pLoadE e r R0 ≤ 0 then -2 else nI kk) = (if pLoadN e r R0 ≤ pLoadE e r R0 then -2 else R0 (90 + r)) := by
        rw [hkn]
        by_cases c : pLoadN e r R0 ≤ pLoadE e r R0
        · rw [if_pos c, if_pos ((i_left hn (pLoadE_le e r R0)).mpr c)]
        · rw [if_neg c, if_neg (fun q => c ((i_left hn (pLoadE_le e r R0)).mp q))]
      rw [f2, hw_r1 _ _ hr8, fa, hE.2.2.2.2.2.2.1 to (by rw [hto]; exact pTo_lt R0 hwh), f1, hw_r0 _ _ hr8, c6, if_pos rfl, e6, hw_r8 _ _ hr8, c5, if_neg (show ¬ (0 : Int32) = 1 by decide), e5, hw_r3 _ _ hr8, c4, r4, hx, e4, hw_r2 _ _ hr8, hR3, pLoad, ← hto, pGo, pL3]
      generalize (if pLoadN e r R0 ≤ pLoadE e r R0 then -2 else R0 (90 + r)) = X
      generalize (if pLoadN e r R0 - pLoadE e r R0 ≤ 0 then -2 else s3.1 (b + 4 + r) 3) = Y
      generalize upd (upd (pL2 e r R0) 115 (pL2 e r R0 115 + pLoadE e r R0)) (58 + r) (pLoadN e r R0 - pLoadE e r R0) = P
      funext j
      simp only [upd_a]
      repeat' split
      all_goals first | rfl | (exfalso; omega)
    · have m2 : w2.1 28 = upd (s.1 28) 4 (s.1 28 4 ||| ((1 : Int32) <<< (nI kk &&& 31))) := by
        rw [f2, wi_n _ _ _ (by omega), f1, wi_n _ _ _ (by omega), e6, wi_n _ _ _ (by omega), e5, wi_n _ _ _ (by omega), e4, wi_n _ _ _ (by omega), e3, wi_n _ _ _ (by omega), e2, wi_n _ _ _ (by omega), e1, wi_s, hs90]
      rw [m2, upd_s]
      exact hL.or hk6
    · intro x hx
      by_cases ex : x = r
      · subst ex
        refine ⟨kk, hk6, ?_⟩
        rw [f2, wi_s, upd_n _ _ (by omega), f1, wi_s, upd_n _ _ (by omega), e6, wi_s, upd_n _ _ (by omega), e5, wi_s, upd_s, r4]
      · rw [f2, wi_n _ _ _ (by omega), f1, wi_n _ _ _ (by omega), e6, wi_n _ _ _ (by omega), e5, wi_n _ _ _ (by omega), e4, wi_n _ _ _ (by omega), e3, wi_n _ _ _ (by omega), e2, wi_n _ _ _ (by omega), e1, wi_n _ _ _ (by omega)]
        exact hC x hx
    · rw [f2, f1, e6, e5, e4, e3, e2, e1]
      exact (((((((FrC.w284.tr (FrC.in hb (by omega) (by omega))).tr (FrC.in hb (by omega) (by omega))).tr (FrC.in hb (by omega) (by omega))).tr (FrC.in hb (by omega) (by omega))).tr (FrC.in hb (by omega) (by omega))).tr (FrC.in hb (by omega) (by omega))).tr (FrC.in hb (by omega) (by omega)))
  refine v_Mill_load_182 b (b + 4 + r) _ _ _ _ _ _ _ _ t hS hH hOG et hm (fun s1 e1 => ⟨?_, fun s2 e2 s3 e3 s4 e4 s5 e5 => ?_⟩)
  · rw [e1, wi_n _ _ _ (by omega), hs90]; exact vp_in_nI hk6 (by omega)
  · have h12 : s5.1 t 12 = nI (eHo e) := by
      unfold HB at hb
      rw [e5, wi_n _ _ _ (by omega), e4, wi_n _ _ _ (by omega), e3, wi_n _ _ _ (by omega), e2, wi_n _ _ _ (by omega), e1, wi_n _ _ _ (by omega)]
      exact hE.2.2.1
    rw [h12, nI_1]
    refine ⟨fun c s6 e6 => fin s1 s2 s3 s4 s5 s6 (eWh e r) e1 e2 e3 e4 e5 e6 ?_ (by omega) _, fun c => ⟨fun c2 s6 e6 => fin s1 s2 s3 s4 s5 s6 0 e1 e2 e3 e4 e5 e6 ?_ (by omega) _, fun c2 s6 e6 => fin s1 s2 s3 s4 s5 s6 (eWh e r + 1) e1 e2 e3 e4 e5 e6 ?_ ?_ _⟩⟩
    · rcases hsy with ⟨_, q⟩ | ⟨q, _⟩
      · exact q.symm
      · rw [q] at c; exact absurd c (by decide)
    · rcases hsy with ⟨q, _⟩ | ⟨_, q⟩
      · rw [q] at c; exact absurd rfl c
      · rw [q, pNext, if_neg (by have := (nI_leI (by omega) (by omega)).mp c2; omega)]
    · rcases hsy with ⟨q, _⟩ | ⟨_, q⟩
      · rw [q] at c; exact absurd rfl c
      · rw [q, pNext, if_pos (by have q9 : ¬ eHo e ≤ eWh e r + 1 := fun z => c2 ((nI_leI (by omega) (by omega)).mpr z); omega)]
    · have q9 : ¬ eHo e ≤ eWh e r + 1 := fun z => c2 ((nI_leI (by omega) (by omega)).mpr z)
      omega
theorem l_Mill_errs {s w : MS} {R : MS → Prop} (hS : SX g) (hH : HS g b) (et : t = 88 ∨ t = 104) (hm : g.2.2 28 0 = some t) (hb : HB b) (hE : EC e t s) (hV : ValOK E g e b t s) (hLv : LvC e) (hr8 : r < 8) (hre : r < eR e) (hC : CH b s) {kk : Nat} (hk6 : kk < 6) (hkn : hr s b (90 + r) = nI kk) (h0 : hr s b (42 + r) = 0) (e0 : 0 ≤ pLoadE e r (hr s b)) {L : Row} (hL : LB (s.1 28 4) L) (x6 : Int32)
    (h : ∀ u, hr u b = pLoad e r (hr s b) → LB (u.1 28 4) (upd L kk 1) → CH b u → FrC b t s u → R u) (v8 : ∀ i, i < 7 → w.1 30 i = pVars e r (pL1 e r (hr s b)) (pLoadN e r (hr s b)) i)
    (hw1 : ∀ a, b ≤ a → a < b + 12 → a ≠ b + 4 + r → w.1 a = s.1 a) (hw2 : ∀ j, j ≠ 4 → w.1 (b + 4 + r) j = s.1 (b + 4 + r) j) (hw3 : w.1 28 = s.1 28) (hw5 : FrC b t s w) (hw6 : hr w b = (if pLoadE e r (hr s b) ≤ 0 then hr s b else upd (hr s b) (74 + r) 0)) :
    AWP E m_Mill_load 117 0 0 [(0, .ref 28), (1, .ref b), (2, .ref (b + 4 + r)), (3, .int (nI r)), (4, .int (nI (eWh e r))), (5, .int (hr s b kk)), (6, .int x6), (7, .int (pLoadN e r (hr s b))), (8, .int (pLoadE e r (hr s b)))] [] (mk g w) (qV g R) := by
  have hOG : OG g (b + 4 + r) 6 := (hH.2.2.2.2.2.2.2 r hr8).2
  have b32 := hb.le
  have hkk : (hr s b (90 + r)).toNatClampNeg = kk := by rw [hkn, tn_lt6 hk6]
  have nb : ∀ a, b ≤ a → a < b + 12 → a ≠ 30 := fun a _ _ => by omega
  refine v_Mill_load_117 b (b + 4 + r) _ _ _ _ _ _ t hS hH hOG et hm (fun s1 e1 s2 e2 => ?_)
  have Fs2 : FrC b t s s2 := by rw [e2, e1]; exact (hw5.tr FrC.w30).tr FrC.w30
  have hun : s1.1 (b + 4 + r) 4 = pL3 e r (hr s b) (74 + r) := by
    rw [e1, wi_n _ _ _ (nb _ (by omega) (by omega)), ← hr74 w b hr8, hw6, pL3, upd_n _ _ (by omega), upd_n _ _ (by omega), upd_n _ _ (by omega), pL2]
    split
    · rw [pL1, hkk, upd_n _ _ (by omega)]
    · rw [upd_s, upd_s]
  have o3 : ∀ j, 42 ≤ j → j ≠ 74 + r → j ≠ 115 → j ≠ 58 + r → j ≠ 66 + r → pL3 e r (hr s b) j = hr s b j := by
    intro j j1 j2 j3 j4 j5
    rw [pL3, upd_n _ _ j5, upd_n _ _ j4, upd_n _ _ j3, pL2]
    split
    · rw [pL1, hkk, upd_n _ _ (by omega)]
    · rw [upd_n _ _ j2, pL1, hkk, upd_n _ _ (by omega)]
  have v2 : ∀ i, i < 7 → s2.1 30 i = pVars e r (pL3 e r (hr s b)) (hr s b kk) i := by
    intro i hi
    rw [e2, wi_s, upd_a]
    split
    · rename_i q; rw [q, pV0]; exact hun
    · rename_i q
      rw [e1, wi_s, upd_a]
      split
      · rename_i q2; rw [q2, pV2]
      · rename_i q2
        rw [v8 i hi]
        match i, hi, q, q2 with
        | 1, _, _, _ =>
          rw [pV1, pV1, o3 _ (by omega) (by omega) (by omega) (by omega) (by omega), pL1, hkk, upd_n _ _ (by omega)]
        | 3, _, _, _ =>
          rw [pV3, pV3, o3 _ (by omega) (by omega) (by omega) (by omega) (by omega), pL1, hkk, upd_n _ _ (by omega)]
        | 4, _, _, _ => rw [pV4, pV4]
        | 5, _, _, _ =>
          rw [pV5, pV5, o3 _ (by omega) (by omega) (by omega) (by omega) (by omega), pL1, hkk, upd_n _ _ (by omega)]
        | 6, _, _, _ =>
          rw [pV6, pV6, o3 _ (by omega) (by omega) (by omega) (by omega) (by omega), pL1, hkk, upd_n _ _ (by omega)]
  refine hV s2 Fs2 2 _ (by decide) (fun u4 h4a h4b h4c F4' => f_Mill_lot _ _ ?_)
  have Fu4 := Fs2.tr F4'
  have blk4 : ∀ a, b ≤ a → a < b + 12 → u4.1 a = w.1 a := fun a ha1 ha2 => by rw [h4c a ha1 ha2, e2, wi_n _ _ _ (nb a ha1 ha2), e1, wi_n _ _ _ (nb a ha1 ha2)]
  have sd4 : u4.1 28 2 = eSd e := by rw [Fu4.2.1 2 (by decide)]; exact hE.2.2.2.2.2.2.2.1
  have m4 : u4.1 28 = s.1 28 := by rw [h4b, e2, wi_n _ _ _ (by decide), e1, wi_n _ _ _ (by decide), hw3]
  have mi4 : u4.1 b 3 = pL3 e r (hr s b) 114 := by
    rw [o3 _ (by omega) (by omega) (by omega) (by omega) (by omega), blk4 b (by omega) (by omega), hw1 b (by omega) (by omega) (by omega), hr114]
  have hR4 : hr u4 b = (if pLoadE e r (hr s b) ≤ 0 then hr s b else upd (hr s b) (74 + r) 0) := by rw [← hw6]; exact hr_cg (fun a ha1 ha2 _ => blk4 a ha1 ha2)
  have C4 : CH b u4 := by
    intro x hx
    rw [blk4 _ (by omega) (by omega)]
    by_cases ex : x = r
    · subst ex; rw [hw2 3 (by decide)]; exact hC x hx
    · rw [hw1 _ (by omega) (by omega) (by omega)]; exact hC x hx
  have E4 := hE.mv et hb Fu4
  have L4 : LB (u4.1 28 4) L := by rw [m4]; exact hL
  rw [sd4, mi4]
  refine ⟨fun c => ?_, fun c => ?_⟩
  · refine l_Mill_load hS hH et hm hb E4 hr8 hre C4 hk6 hkn h0 hR4 e0 L4 _ _ _ 0 (Or.inl ⟨rfl, ?_⟩) (fun u q1 q2 q3 q4 => h u q1 q2 q3 (Fu4.tr q4))
    rw [pTo, hkk, if_pos (i_errs.mp (by rw [← hLv 2 _ _ v2]; exact c))]
  · refine l_Mill_load hS hH et hm hb E4 hr8 hre C4 hk6 hkn h0 hR4 e0 L4 _ _ _ 1 (Or.inr ⟨rfl, ?_⟩) (fun u q1 q2 q3 q4 => h u q1 q2 q3 (Fu4.tr q4))
    rw [pTo, hkk, if_neg (fun q => c (by rw [hLv 2 _ _ v2]; exact i_errs.mpr q))]
theorem f_Mill_load {s : MS} {R : MS → Prop} (hS : SX g) (hH : HS g b) (et : t = 88 ∨ t = 104) (hm : g.2.2 28 0 = some t) (hb : HB b) (hE : EC e t s) (hV : ValOK E g e b t s) (hLv : LvC e) (hr8 : r < 8) (hre : r < eR e) (hC : CH b s) (hW : WF2 e (hr s b)) {kk : Nat} (hk6 : kk < 6) (hkn : hr s b (90 + r) = nI kk) (h0 : hr s b (42 + r) = 0) (hmu : ¬ hr s b kk = 0) {L : Row} (hL : LB (s.1 28 4) L)
    (h : ∀ u, hr u b = pLoad e r (hr s b) → LB (u.1 28 4) (upd L kk 1) → CH b u → FrC b t s u → R u) : GV E m_Mill_load [.ref 28, .ref b, .ref (b + 4 + r), .int (nI r)] g s R := by
  have hOG : OG g (b + 4 + r) 6 := (hH.2.2.2.2.2.2.2 r hr8).2
  have b32 := hb.le
  have hO := hE.2.2.2.2.2.2.2.2
  have hwh := hO.2.2.2 r hre
  have h3 := hO.2.2.1
  have hkk : (hr s b (90 + r)).toNatClampNeg = kk := by rw [hkn, tn_lt6 hk6]
  have hs90 : s.1 (b + 4 + r) 6 = nI kk := by rw [← hr90 s b hr8]; exact hkn
  obtain ⟨n1, n2, n3⟩ := pLoadN_ge (e := e) (r := r) hkk (hW.1 kk hk6) hmu
  have n0 : 0 ≤ pLoadN e r (hr s b) := Int32.le_trans (by decide) n1
  have e0 := pLoadE_ge (e := e) (r := r) (R := hr s b) n0
  have nb : ∀ a, b ≤ a → a < b + 12 → a ≠ 30 := fun a _ _ => by omega
  refine v_Mill_load (Q := qV g R) b (b + 4 + r) (nI r) t hS hH hOG et hm ?_
  rw [hs90, tn_n (Nat.lt_of_lt_of_le hr8 (by decide)), tn_lt6 hk6, hE.2.2.2.2.2.1 r hre, ← hr_hp s b hk6]
  refine ⟨vp_in_nI hr8 (by omega), fun x4 ex4 => ⟨vp_in_nI hk6 (by omega), fun x5 ex5 => ?_⟩⟩
  rw [ex4]
  refine f_Mill_know hS hH et hm hb hE hr8 hre (fun u3 hv3 ho3 hl3 s4 f4 => ?_)
  have F3 : FrC b t s u3 := ⟨fun a _ _ h30 _ => ho3 a h30, fun j _ => by rw [ho3 28 (by decide)], hl3⟩
  have F4 : FrC b t s s4 := by rw [f4]; exact F3.tr FrC.w30
  have v4 : ∀ i, i < 7 → s4.1 30 i = pVars e r (hr s b) (hr s b kk) i := by
    intro i hi
    rw [f4, wi_s, upd_a]
    split
    · rename_i q; rw [q, ex5, pV2]
    · rename_i q; exact hv3 _ i hi q
  refine hV s4 F4 0 _ (by decide) (fun u5 h5a h5b h5c F5 => ?_)
  intro x6 ex6 x7 ex7 s8 f8
  have hx7 : x7 = pLoadN e r (hr s b) := by
    rw [ex7, ex6, i_cl1, ex5, i_min, pLoadN, hkk, hLv 0 _ _ v4]
  have F8 : FrC b t s s8 := by rw [f8]; exact (F4.tr F5).tr FrC.w30
  have pv1 : ∀ (m : Int32) i, i < 7 → i ≠ 2 → pVars e r (hr s b) m i = pVars e r (pL1 e r (hr s b)) m i := by
    intro m i hi hi2
    have o : ∀ j, 6 ≤ j → pL1 e r (hr s b) j = hr s b j := fun j hj => by rw [pL1, hkk, upd_n _ _ (by omega)]
    match i, hi, hi2 with
    | 0, _, _ => rw [pV0, pV0, o _ (by omega)]
    | 1, _, _ => rw [pV1, pV1, o _ (by omega)]
    | 3, _, _ => rw [pV3, pV3, o _ (by omega)]
    | 4, _, _ => rw [pV4, pV4]
    | 5, _, _ => rw [pV5, pV5, o _ (by omega)]
    | 6, _, _ => rw [pV6, pV6, o _ (by omega)]
  have v8 : ∀ i, i < 7 → s8.1 30 i = pVars e r (pL1 e r (hr s b)) (pLoadN e r (hr s b)) i := by
    intro i hi
    rw [f8, wi_s, upd_a]
    split
    · rename_i q; rw [q, hx7, pV2]
    · rename_i q
      rw [h5a, v4 i hi, ← pv1 _ i hi q]
      match i, hi, q with
      | 0, _, _ => rw [pV0, pV0]
      | 1, _, _ => rw [pV1, pV1]
      | 3, _, _ => rw [pV3, pV3]
      | 4, _, _ => rw [pV4, pV4]
      | 5, _, _ => rw [pV5, pV5]
      | 6, _, _ => rw [pV6, pV6]
  refine hV s8 F8 1 _ (by decide) (fun u9 h9a h9b h9c F9 => ?_)
  intro x8 ex8
  have hx8 : x8 = pLoadE e r (hr s b) := by
    rw [ex8, hx7, i_eat n0 n3, pLoadE, hLv 1 _ _ v8]
  have blk9 : ∀ a, b ≤ a → a < b + 12 → u9.1 a = s.1 a := by
    intro a ha1 ha2
    have h30 := nb a ha1 ha2
    rw [h9c a ha1 ha2, f8, wi_n _ _ _ h30, h5c a ha1 ha2, f4, wi_n _ _ _ h30, ho3 a h30]
  have m9 : u9.1 28 = s.1 28 := by rw [h9b, f8, wi_n _ _ _ (by decide), h5b, f4, wi_n _ _ _ (by decide), ho3 28 (by decide)]
  have F99 : FrC b t s u9 := F8.tr F9
  rw [hx7, hx8, ex5]
  refine ⟨fun c => l_Mill_errs hS hH et hm hb hE hV hLv hr8 hre hC hk6 hkn h0 e0 hL _ h (fun i hi => by rw [h9a]; exact v8 i hi) (fun a a1 a2 _ => blk9 a a1 a2) (fun j _ => by rw [blk9 _ (by omega) (by omega)]) m9 F99 ?_, fun c s11 e11 => l_Mill_errs hS hH et hm hb hE hV hLv hr8 hre hC hk6 hkn h0 e0 hL _ h (fun i hi => ?_) (fun a a1 a2 a3 => ?_) (fun j hj => ?_) ?_ ?_ ?_⟩
  · rw [if_pos c]; exact hr_cg (fun a a1 a2 _ => blk9 a a1 a2)
  · rw [e11, wi_n _ _ _ (by omega), h9a]; exact v8 i hi
  · rw [e11, wi_n _ _ _ a3]; exact blk9 a a1 a2
  · rw [e11, wi_s, upd_n _ _ hj, blk9 _ (by omega) (by omega)]
  · rw [e11, wi_n _ _ _ (by omega)]; exact m9
  · rw [e11]; exact F99.tr (FrC.in hb (by omega) (by omega))
  · rw [if_neg c, e11, hw_r4 _ _ hr8, hr_cg (fun a a1 a2 _ => blk9 a a1 a2)]
end ClsLoad
