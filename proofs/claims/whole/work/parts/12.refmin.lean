/-! THE REFERENCE'S MINUTE as a pure function of its row -/
def hold (v lo hi : Int32) : Int32 := if v < lo then lo else if hi < v then hi else v
def mixP (h v : Int32) : Int32 := (((h ^^^ v) * 1103515245) + 12345) ^^^ (((((h ^^^ v) * 1103515245) + 12345).toUInt32 >>> ((15 : Int32).toUInt32 &&& Int32.toUInt32 31)).toInt32)
def remP (x y : Int32) : Int32 := x - x / y * y
def lotP (sd w : Int32) : Int32 := remP ((mixP (mixP sd 39) w).toUInt32 >>> ((1 : Int32).toUInt32 &&& Int32.toUInt32 31)).toInt32 100
/-- what a minute goes by: RATS, GRAINS, HOLES, LAMP, ODD, whose HOLE, how FAR, SEED, LAWS -/
abbrev PE : Type := Nat × Nat × Nat × Int32 × Int32 × (Nat → Nat) × Row × Int32 × (Nat → Row → Int32)
def eR (e : PE) : Nat := e.1
def eG (e : PE) : Nat := e.2.1
def eHo (e : PE) : Nat := e.2.2.1
def eLa (e : PE) : Int32 := e.2.2.2.1
def eOd (e : PE) : Int32 := e.2.2.2.2.1
def eWh (e : PE) : Nat → Nat := e.2.2.2.2.2.1
def eFa (e : PE) : Row := e.2.2.2.2.2.2.1
def eSd (e : PE) : Int32 := e.2.2.2.2.2.2.2.1
def eLv (e : PE) : Nat → Row → Int32 := e.2.2.2.2.2.2.2.2
def pBest (R : Row) : Nat → Nat
  | 0 => 0
  | n + 1 => if R n ≤ R (pBest R n) then pBest R n else n
def pNib (e : PE) (r : Nat) (R : Row) : Row := if R (pBest R (eG e)) = 0 then R else upd (upd (upd R (pBest R (eG e)) (R (pBest R (eG e)) - 1)) 115 (upd R (pBest R (eG e)) (R (pBest R (eG e)) - 1) 115 + 1)) (74 + r) 0
def pDrop1 (r : Nat) (R : Row) : Row := if R (58 + r) ≤ 0 then R else upd (upd R (((6 + (6 * R (106 + r))) + R (66 + r))).toNatClampNeg (R (((6 + (6 * R (106 + r))) + R (66 + r))).toNatClampNeg + R (58 + r))) (98 + r) (upd R (((6 + (6 * R (106 + r))) + R (66 + r))).toNatClampNeg (R (((6 + (6 * R (106 + r))) + R (66 + r))).toNatClampNeg + R (58 + r)) (98 + r) + 1)
def pDrop (e : PE) (r : Nat) (R : Row) : Row := upd (upd (upd (upd (upd (pDrop1 r R) (58 + r) 0) (66 + r) (-2)) (106 + r) (-2)) (42 + r) 2) (50 + r) (eFa e (R (106 + r)).toNatClampNeg)
def pVars (e : PE) (r : Nat) (R : Row) (much : Int32) : Row := fun i => match i with
  | 0 => R (74 + r)
  | 1 => R (82 + r)
  | 2 => much
  | 3 => if eLa e - R 114 < 0 then 0 else eLa e - R 114
  | 4 => eFa e (eWh e r)
  | 5 => R (90 + r)
  | _ => R (98 + r)
def pNext (e : PE) (r : Nat) : Nat := if eWh e r + 1 < eHo e then eWh e r + 1 else 0
def pGo (e : PE) (r to : Nat) (R : Row) : Row := upd (upd (upd R (42 + r) 1) (50 + r) (eFa e to)) (106 + r) (nI to)
/-- a load: the row behind LOAD, behind EATS, and where it goes -/
def pLoadN (e : PE) (r : Nat) (R : Row) : Int32 := if hold (eLv e 0 (pVars e r R (R (R (90 + r)).toNatClampNeg))) 1 99 ≤ R (R (90 + r)).toNatClampNeg then hold (eLv e 0 (pVars e r R (R (R (90 + r)).toNatClampNeg))) 1 99 else R (R (90 + r)).toNatClampNeg
def pL1 (e : PE) (r : Nat) (R : Row) : Row := upd R (R (90 + r)).toNatClampNeg (R (R (90 + r)).toNatClampNeg - pLoadN e r R)
def pLoadE (e : PE) (r : Nat) (R : Row) : Int32 := if hold (eLv e 1 (pVars e r (pL1 e r R) (pLoadN e r R))) 0 99 ≤ pLoadN e r R then hold (eLv e 1 (pVars e r (pL1 e r R) (pLoadN e r R))) 0 99 else pLoadN e r R
def pL2 (e : PE) (r : Nat) (R : Row) : Row := if pLoadE e r R ≤ 0 then pL1 e r R else upd (pL1 e r R) (74 + r) 0
def pL3 (e : PE) (r : Nat) (R : Row) : Row := upd (upd (upd (pL2 e r R) 115 (pL2 e r R 115 + pLoadE e r R)) (58 + r) (pLoadN e r R - pLoadE e r R)) (66 + r) (if pLoadN e r R ≤ pLoadE e r R then -2 else R (90 + r))
def pTo (e : PE) (r : Nat) (R : Row) : Nat := if hold (eLv e 2 (pVars e r (pL3 e r R) (R (R (90 + r)).toNatClampNeg))) 0 100 ≤ lotP (eSd e) (8 * pL3 e r R 114 + nI r) then eWh e r else pNext e r
def pLoad (e : PE) (r : Nat) (R : Row) : Row := pGo e r (pTo e r R) (pL3 e r R)
/-- a rat at the heap: (row, loaded) -/
def pHeap (e : PE) (r : Nat) (q : Row × Row) : Row × Row :=
  if q.1 (q.1 (90 + r)).toNatClampNeg = 0 ∨ eLa e ≤ q.1 114 ∨ ¬ q.1 118 ≤ 0 then (if q.1 (74 + r) < eOd e then q.1 else pNib e r q.1, q.2)
  else if q.2 (q.1 (90 + r)).toNatClampNeg = 0 then (pLoad e r q.1, upd q.2 (q.1 (90 + r)).toNatClampNeg 1)
  else (upd q.1 119 (q.1 119 + 1), q.2)
def pHun (r : Nat) (R : Row) : Row := if 99 ≤ R (74 + r) then R else upd R (74 + r) (R (74 + r) + 1)
def pWalk (e : PE) (r : Nat) (R : Row) (is : Int32) : Row := if upd R (50 + r) (R (50 + r) - 1) (50 + r) ≤ 0 then (if is = 1 then pDrop e r (upd R (50 + r) (R (50 + r) - 1)) else upd (upd R (50 + r) (R (50 + r) - 1)) (42 + r) 0) else upd R (50 + r) (R (50 + r) - 1)
def pRat (e : PE) (r : Nat) (q : Row × Row) : Row × Row :=
  if q.1 (42 + r) = 3 then q
  else if q.1 (42 + r) = 0 then pHeap e r (pHun r q.1, q.2) else (pWalk e r (pHun r q.1) (q.1 (42 + r)), q.2)
def pRats (e : PE) : Nat → Row × Row → Row × Row
  | 0, q => q
  | n + 1, q => pRat e n (pRats e n q)
def pEnd (R : Row) : Row := if R 118 ≤ 0 then upd R 114 (R 114 + 1) else upd (upd R 118 (R 118 - 1)) 114 (upd R 118 (R 118 - 1) 114 + 1)
def pMin (e : PE) (R : Row) : Row := pEnd (pRats e (eR e) (R, fun _ => 0)).1
def pMins (e : PE) : Nat → Row → Row
  | 0, R => R
  | n + 1, R => pMins e n (pMin e R)
/-- nothing but the row, what was loaded, the laws' rows and isBroken changes -/
def FrA (s t : MS) : Prop := (∀ a, a ≠ 163 → a ≠ 165 → a ≠ 160 → a ≠ 161 → a ≠ 120 → t.1 a = s.1 a) ∧ (∀ j, j ≠ 58 → t.1 120 j = s.1 120 j) ∧ t.2 = s.2
theorem FrA.rf (s : MS) : FrA s s := ⟨fun _ _ _ _ _ _ => rfl, fun _ _ => rfl, rfl⟩
theorem FrA.tr {s t u : MS} (h : FrA s t) (k : FrA t u) : FrA s u := ⟨fun a h1 h2 h3 h4 h5 => (k.1 a h1 h2 h3 h4 h5).trans (h.1 a h1 h2 h3 h4 h5), fun j hj => (k.2.1 j hj).trans (h.2.1 j hj), k.2.2.trans h.2.2⟩
theorem FrA.si163 (s : MS) (f : Row) : FrA s (si s 163 f) := ⟨fun a h1 _ _ _ _ => si_1n s f h1, fun j _ => by rw [si_1n s f (by decide)], rfl⟩
theorem FrA.si165 (s : MS) (f : Row) : FrA s (si s 165 f) := ⟨fun a _ h2 _ _ _ => si_1n s f h2, fun j _ => by rw [si_1n s f (by decide)], rfl⟩
section RefMin
variable {E : EN} {g : GS}
theorem f_Mo_held {s : MS} {R : Int32 → MS → Prop} (v lo hi : Int32) (h : R (hold v lo hi) s) : GI E m_Mo_held [.int v, .int lo, .int hi] g s R := by
  refine v_Mo_held v lo hi ⟨fun c => ⟨fun d => GI.r ?_, fun d => GI.r ?_⟩, fun c => GI.r ?_⟩
  · rw [hold, if_neg (Int32.not_lt.mpr c), if_neg (Int32.not_lt.mpr d)] at h; exact h
  · rw [hold, if_neg (Int32.not_lt.mpr c), if_pos (Int32.not_le.mp d)] at h; exact h
  · rw [hold, if_pos (Int32.not_le.mp c)] at h; exact h
theorem f_Mo_mixed {s : MS} {R : Int32 → MS → Prop} (x y : Int32) (h : R (mixP x y) s) : GI E m_Mo_mixed [.int x, .int y] g s R := v_Mo_mixed x y (GI.r h)
theorem f_Mo_lotOf {s : MS} {R : Int32 → MS → Prop} (hS : SX g) (x : Int32) (h : R (lotP (s.1 120 61) (8 * s.1 163 114 + x)) s) : GI E m_Mo_lotOf [.ref 120, .int x] g s R :=
  v_Mo_lotOf x hS (f_Mo_mixed _ _ (f_Mo_mixed _ _ (GI.r h)))
/-- the text of the reference, as a minute sees it -/
def EV0 (e : PE) (lv : Nat) (s : MS) : Prop := s.1 120 18 = nI lv ∧ lv < 2 ∧ (s.1 137 lv = nI (eR e) ∧ eR e ≤ 8) ∧ (s.1 131 lv = nI (eG e) ∧ eG e ≤ 6) ∧ (s.1 134 lv = nI (eHo e) ∧ eHo e ≤ 6) ∧ s.1 147 lv = eLa e ∧ s.1 148 lv = eOd e ∧ (∀ r, r < eR e → s.1 139 (8 * lv + r) = nI (eWh e r) ∧ eWh e r < eHo e) ∧ s.1 164 = eFa e ∧ s.1 120 61 = eSd e
theorem EV0.mv {e : PE} {lv : Nat} {s t : MS} (h : EV0 e lv s) (k : FrA s t) : EV0 e lv t := by
  obtain ⟨h1, h2, h3, h4, h5, h6, h7, h8, h9, h10⟩ := h
  have k1 := k.1
  refine ⟨by rw [k.2.1 18 (by decide)]; exact h1, h2, ?_, ?_, ?_, ?_, ?_, fun r hr => ?_, ?_, by rw [k.2.1 61 (by decide)]; exact h10⟩
  · rw [k1 137 (by decide) (by decide) (by decide) (by decide) (by decide)]; exact h3
  · rw [k1 131 (by decide) (by decide) (by decide) (by decide) (by decide)]; exact h4
  · rw [k1 134 (by decide) (by decide) (by decide) (by decide) (by decide)]; exact h5
  · rw [k1 147 (by decide) (by decide) (by decide) (by decide) (by decide)]; exact h6
  · rw [k1 148 (by decide) (by decide) (by decide) (by decide) (by decide)]; exact h7
  · rw [k1 139 (by decide) (by decide) (by decide) (by decide) (by decide)]; exact h8 r hr
  · rw [k1 164 (by decide) (by decide) (by decide) (by decide) (by decide)]; exact h9
theorem pBest_lt (R : Row) : ∀ n, pBest R n < n ∨ pBest R n = 0
  | 0 => Or.inr rfl
  | n + 1 => by
    rw [pBest]
    rcases pBest_lt R n with h | h <;> split <;> omega
/-- the reference's nibble -/
theorem l_Mo_nibbles {s : MS} {R : MS → Prop} (hS : SX g) {e : PE} {lv r : Nat} (hE : EV0 e lv s) (hr : r < 8) (h : R (si s 163 (pNib e r (s.1 163)))) :
    ∀ (m k : Nat), eG e - k = m → 1 ≤ k → (k ≤ eG e ∨ k = 1) → AWP E m_Mo_nibbles 4 0 0 [(0, .ref 120), (1, .int (nI r)), (2, .int (nI (pBest (s.1 163) k))), (3, .int (nI k))] [] (mk g s) (qV g R) := by
  obtain ⟨h1, h2, h3, h4, h5, h6, h7, h8, h9, h10⟩ := hE
  have hlv : (nI lv).toNatClampNeg = lv := tn_n (by omega)
  intro m
  induction m with
  | zero =>
    intro k hk hk1 hk2
    have hb : pBest (s.1 163) k < 6 := by rcases pBest_lt (s.1 163) k with q | q <;> omega
    have hbe : pBest (s.1 163) k = pBest (s.1 163) (eG e) := by
      rcases hk2 with q | q
      · rw [show k = eG e by omega]
      · by_cases q2 : eG e = 0
        · rw [q, q2]; simp [pBest]
        · rw [show k = eG e by omega]
    refine v_Mo_nibbles_4 (nI r) (nI (pBest (s.1 163) k)) (nI k) hS ?_
    simp only [h1, hlv, h4.1, tn_lt6 hb, ix74 hr]
    refine ⟨vp_in_nI h2 (by omega), fun _ => ⟨vi_6_120 hb, fun c => GV.r ?_, fun c s1 e1 s2 e2 => ⟨vi74 hr, fun s3 e3 => GV.r ?_⟩⟩, fun c => absurd ((nI_leI (by omega) (by omega)).mpr (by omega)) c⟩
    · rw [pNib, ← hbe, if_pos c, si_self] at h
      exact h
    · rw [pNib, ← hbe, if_neg c] at h
      rw [e3, e2, e1, wi_def s, wi_si, wi_si, si_1s]
      exact h
  | succ m ih =>
    intro k hk hk1 hk2
    have hb : pBest (s.1 163) k < 6 := by rcases pBest_lt (s.1 163) k with q | q <;> omega
    have hk6 : k < 6 := by omega
    refine v_Mo_nibbles_4 (nI r) (nI (pBest (s.1 163) k)) (nI k) hS ?_
    simp only [h1, hlv, h4.1, tn_lt6 hb, tn_lt6 hk6]
    have hn : nI k + 1 = nI (k + 1) := nI_1 k
    have ih' := ih (k + 1) (by omega) (by omega) (Or.inl (by omega))
    rw [pBest] at ih'
    refine ⟨vp_in_nI h2 (by omega), fun c => absurd ((nI_leI (by omega) (by omega)).mp c) (by omega), fun _ => ⟨vi_6_120 hk6, vi_6_120 hb, fun c => ?_, fun c => ?_⟩⟩
    · rw [if_pos c] at ih'
      rw [hn]
      exact ih'
    · rw [if_neg c] at ih'
      rw [hn]
      exact ih'
theorem f_Mo_nibbles {s : MS} {R : MS → Prop} (hS : SX g) {e : PE} {lv r : Nat} (hE : EV0 e lv s) (hr : r < 8) (h : R (si s 163 (pNib e r (s.1 163)))) : GV E m_Mo_nibbles [.ref 120, .int (nI r)] g s R := by
  refine v_Mo_nibbles (nI r) ?_
  have := l_Mo_nibbles (E := E) hS hE hr h (eG e - 1) 1 rfl (Nat.le_refl 1) (Or.inr rfl)
  rw [show pBest (s.1 163) 1 = 0 by simp [pBest]] at this
  exact this
theorem f_Mo_drops {s : MS} {R : MS → Prop} (hS : SX g) {e : PE} {lv r : Nat} (hE : EV0 e lv s) (hr : r < 8) (hh : vp_in (s.1 163 (106 + r)) 6) (hc : ¬ s.1 163 (58 + r) ≤ 0 → vp_in ((6 + (6 * s.1 163 (106 + r))) + s.1 163 (66 + r)) 120) (h : R (si s 163 (pDrop e r (s.1 163)))) : GV E m_Mo_drops [.ref 120, .int (nI r)] g s R := by
  obtain ⟨h1, h2, h3, h4, h5, h6, h7, h8, h9, h10⟩ := hE
  refine v_Mo_drops (Q := qV g R) (nI r) hS ?_
  simp only [ix106 hr, ix58 hr, ix66 hr, ix42 hr, ix50 hr, ix98 hr]
  refine ⟨vi106 hr, vi58 hr, fun c s1 e1 => ⟨vi66 hr, fun s2 e2 s3 e3 => ⟨vi42 hr, fun s4 e4 => ⟨hh, vi50 hr, fun s5 e5 => GV.r ?_⟩⟩⟩, fun c => ⟨vi66 hr, hc c, fun s6 e6 => ⟨vi98 hr, fun s7 e7 s8 e8 s9 e9 s10 e10 => ⟨vi42 hr, fun s11 e11 => ⟨hh, vi50 hr, fun s12 e12 => GV.r ?_⟩⟩⟩⟩⟩
  · rw [pDrop, pDrop1, if_pos c] at h
    rw [e5, e4, e3, e2, e1, wi_def s, wi_si, wi_si, wi_si, wi_si, h9]
    exact h
  · rw [pDrop, pDrop1, if_neg c] at h
    rw [e12, e11, e10, e9, e8, e7, e6, wi_def s, wi_si, wi_si, wi_si, wi_si, wi_si, wi_si, si_1s, h9]
    exact h
/-- what LAWS tell, as the reference has them -/
def TellsOK (E : EN) (g : GS) (e : PE) (s0 : MS) : Prop := ∀ (t : MS), FrA s0 t → ∀ (k r : Nat) (much plain lo hi : Int32) (R : Int32 → MS → Prop), r < eR e → ((k = 0 ∧ plain = 5 ∧ lo = 1 ∧ hi = 99) ∨ (k = 1 ∧ plain = 0 ∧ lo = 0 ∧ hi = 99) ∨ (k = 2 ∧ plain = 0 ∧ lo = 0 ∧ hi = 100)) → (∀ u, FrA t u → u.1 163 = t.1 163 → u.1 165 = t.1 165 → R (hold (eLv e k (pVars e r (t.1 163) much)) lo hi) u) → GI E m_Mo_tells [.ref 120, .int (nI k), .int (nI r), .int much, .int plain, .int lo, .int hi] g t R
theorem TellsOK.mv {e : PE} {s t : MS} (h : TellsOK E g e s) (k : FrA s t) : TellsOK E g e t := fun u hu => h u (k.tr hu)
theorem pNext_lt (e : PE) (r : Nat) (h : eWh e r < eHo e) : pNext e r < eHo e := by
  rw [pNext]; split <;> omega
theorem pNext_rem {e : PE} {r : Nat} (h : eWh e r < eHo e) (h6 : eHo e ≤ 6) : (nI (eWh e r) + 1) - (nI (eWh e r) + 1) / nI (eHo e) * nI (eHo e) = nI (pNext e r) := by
  rw [nI_1, pk_rem (by omega) (by omega) (by omega), pNext]
  by_cases q : eWh e r + 1 < eHo e
  · rw [if_pos q, Nat.mod_eq_of_lt q]
  · rw [if_neg q, show eWh e r + 1 = eHo e by omega, Nat.mod_self]
/-- the reference's load, from behind LOAD on -/
theorem l_Mo_load {s s0 : MS} {R : MS → Prop} (hS : SX g) {e : PE} {lv r : Nat} (hE : EV0 e lv s) (hT : TellsOK E g e s) (hr : r < eR e) {kk : Nat} (hk : kk < 6) (hkn : s0.1 163 (90 + r) = nI kk) (hrow : s.1 163 = s0.1 163) (hF : FrA s0 s) (L : Row) (hL : s.1 165 = L)
    (h : ∀ t, t.1 163 = pLoad e r (s0.1 163) → t.1 165 = L → FrA s0 t → R t) :
    AWP E m_Mo_atHeap 127 0 0 [(0, .ref 120), (1, .int (nI r)), (2, .int (nI kk)), (3, .int (s0.1 163 kk)), (4, .int (pLoadN e r (s0.1 163)))] [] (mk g s) (qV g R) := by
  have h8' : r < 8 := by have := hE.2.2.1.2; omega
  have h6' := hE.2.2.2.2.1.2
  have hkk : (s0.1 163 (90 + r)).toNatClampNeg = kk := by rw [hkn, tn_lt6 hk]
  -- behind ERRS
  have H277 : ∀ (t : MS) (to : Nat), to < eHo e → to = pTo e r (s0.1 163) → EV0 e lv t → t.1 163 = pL3 e r (s0.1 163) → t.1 165 = L → FrA s0 t → ∀ x5, AWP E m_Mo_atHeap 277 0 0 [(0, .ref 120), (1, .int (nI r)), (2, .int (nI kk)), (3, .int (s0.1 163 kk)), (4, .int (pLoadN e r (s0.1 163))), (5, .int x5), (6, .int (nI to))] [] (mk g t) (qV g R) := by
    intro t to hto hte hEt hrt hLt hFt x5
    refine v_Mo_atHeap_277 _ _ _ _ _ _ hS ?_
    have ht6 : to < 6 := by omega
    simp only [ix42 h8', ix50 h8', ix106 h8', tn_lt6 ht6]
    refine ⟨vi42 h8', fun s1 e1 => ⟨vp_in_nI ht6 (by omega), vi50 h8', fun s2 e2 => ⟨vi106 h8', fun s3 e3 => GV.r ?_⟩⟩⟩
    rw [e3, e2, e1, wi_def t, wi_si, wi_si, hEt.2.2.2.2.2.2.2.2.1]
    refine h _ ?_ ?_ (hFt.tr (FrA.si163 t _))
    · rw [si_1s, hrt, hte]; rfl
    · rw [si_1n t _ (by decide)]; exact hLt
  -- behind EATS' writes
  have H226 : ∀ (t : MS), EV0 e lv t → TellsOK E g e t → t.1 163 = pL3 e r (s0.1 163) → t.1 165 = L → FrA s0 t → ∀ x5, AWP E m_Mo_atHeap 226 0 0 [(0, .ref 120), (1, .int (nI r)), (2, .int (nI kk)), (3, .int (s0.1 163 kk)), (4, .int (pLoadN e r (s0.1 163))), (5, .int x5)] [] (mk g t) (qV g R) := by
    intro t hEt hTt hrt hLt hFt x5
    refine v_Mo_atHeap_226 _ _ _ _ _ hS ?_
    have e8 : (8 * t.1 120 18) + nI r = nI (8 * lv + r) := by rw [hEt.1, show (8 : Int32) = nI 8 from rfl, pk_mul, nI_add]
    have hlv2 : lv < 2 := hEt.2.1
    rw [e8, tn_n (by omega), (hEt.2.2.2.2.2.2.2.1 r hr).1]
    have hwh := (hEt.2.2.2.2.2.2.2.1 r hr).2
    refine ⟨vp_in_nI (by omega) (by omega), f_Mo_lotOf hS _ ?_⟩
    refine hTt t (FrA.rf t) 2 r _ _ _ _ _ hr (Or.inr (Or.inr ⟨rfl, rfl, rfl, rfl⟩)) (fun u hu hu1 hu2 => ?_)
    have hEu := hEt.mv hu
    have hlot : lotP (t.1 120 61) (8 * t.1 163 114 + nI r) = lotP (eSd e) (8 * pL3 e r (s0.1 163) 114 + nI r) := by rw [hEt.2.2.2.2.2.2.2.2.2, hrt]
    have hms : s0.1 163 kk = s0.1 163 (s0.1 163 (90 + r)).toNatClampNeg := by rw [hkk]
    have hcond : hold (eLv e 2 (pVars e r (t.1 163) (s0.1 163 kk))) 0 100 = hold (eLv e 2 (pVars e r (pL3 e r (s0.1 163)) (s0.1 163 (s0.1 163 (90 + r)).toNatClampNeg))) 0 100 := by rw [hrt, hkk]
    rw [hlot, hcond]
    refine ⟨fun c => H277 u _ hwh ?_ hEu (hu1.trans hrt) (hu2.trans hLt) (hFt.tr hu) x5, fun c => ?_⟩
    · rw [pTo, if_pos c]
    · have hlu : u.1 120 18 = nI lv := hEu.1
      rw [hlu, tn_n (by omega), hEu.2.2.2.2.1.1, pNext_rem hwh h6']
      refine ⟨vp_in_nI hlv2 (by omega), nI_ne0 (by omega) (by omega), H277 u _ (pNext_lt e r hwh) ?_ hEu (hu1.trans hrt) (hu2.trans hLt) (hFt.tr hu) x5⟩
      rw [pTo, if_neg c]
  have H178 : ∀ (t : MS), EV0 e lv t → TellsOK E g e t → t.1 163 = pL2 e r (s0.1 163) → t.1 165 = L → FrA s0 t → AWP E m_Mo_atHeap 178 0 0 [(0, .ref 120), (1, .int (nI r)), (2, .int (nI kk)), (3, .int (s0.1 163 kk)), (4, .int (pLoadN e r (s0.1 163))), (5, .int (pLoadE e r (s0.1 163)))] [] (mk g t) (qV g R) := by
    intro t hEt hTt hrt hLt hFt
    refine v_Mo_atHeap_178 _ _ _ _ _ hS ?_
    simp only [ix58 h8', ix66 h8']
    have fin : ∀ (v : Int32), v = (if pLoadN e r (s0.1 163) ≤ pLoadE e r (s0.1 163) then -2 else s0.1 163 (90 + r)) → ∀ s1 s2 s3, s1 = wi t 163 115 (t.1 163 115 + pLoadE e r (s0.1 163)) → s2 = wi s1 163 (58 + r) (pLoadN e r (s0.1 163) - pLoadE e r (s0.1 163)) → s3 = wi s2 163 (66 + r) v → AWP E m_Mo_atHeap 226 0 0 [(0, .ref 120), (1, .int (nI r)), (2, .int (nI kk)), (3, .int (s0.1 163 kk)), (4, .int (pLoadN e r (s0.1 163))), (5, .int (pLoadE e r (s0.1 163)))] [] (mk g s3) (qV g R) := by
      intro v hv s1 s2 s3 e1 e2 e3
      rw [e3, e2, e1, wi_def t, wi_si, wi_si, hrt, hv]
      refine H226 _ (hEt.mv (FrA.si163 t _)) (hTt.mv (FrA.si163 t _)) ?_ ?_ (hFt.tr (FrA.si163 t _)) _
      · rw [si_1s]; rfl
      · rw [si_1n t _ (by decide)]; exact hLt
    refine fun s1 e1 => ⟨vi58 h8', fun s2 e2 => ⟨fun c => ⟨vi66 h8', fun s3 e3 => fin _ ?_ s1 s2 s3 e1 e2 e3⟩, fun c => ⟨vi66 h8', fun s3 e3 => fin _ ?_ s1 s2 s3 e1 e2 e3⟩⟩⟩
    · rw [if_pos c]
    · rw [if_neg c, hkn]
  have H163 : ∀ (t : MS), EV0 e lv t → TellsOK E g e t → t.1 163 = pL1 e r (s0.1 163) → t.1 165 = L → FrA s0 t → AWP E m_Mo_atHeap 163 0 0 [(0, .ref 120), (1, .int (nI r)), (2, .int (nI kk)), (3, .int (s0.1 163 kk)), (4, .int (pLoadN e r (s0.1 163))), (5, .int (pLoadE e r (s0.1 163)))] [] (mk g t) (qV g R) := by
    intro t hEt hTt hrt hLt hFt
    refine v_Mo_atHeap_163 _ _ _ _ _ hS ?_
    simp only [ix74 h8']
    refine ⟨fun c => H178 t hEt hTt ?_ hLt hFt, fun c => ⟨vi74 h8', fun s1 e1 => ?_⟩⟩
    · rw [pL2, if_pos c]; exact hrt
    · rw [e1, wi_def t]
      refine H178 _ (hEt.mv (FrA.si163 t _)) (hTt.mv (FrA.si163 t _)) ?_ ?_ (hFt.tr (FrA.si163 t _))
      · rw [si_1s, pL2, if_neg c, hrt]
      · rw [si_1n t _ (by decide)]; exact hLt
  refine v_Mo_atHeap_127 _ _ _ _ hS ?_
  simp only [tn_lt6 hk]
  refine ⟨vi_6_120 hk, fun s1 e1 => ?_⟩
  rw [e1, wi_def s]
  have hE1 := hE.mv (FrA.si163 s (upd (s.1 163) kk (s.1 163 kk - pLoadN e r (s0.1 163))))
  have hT1 := hT.mv (FrA.si163 s (upd (s.1 163) kk (s.1 163 kk - pLoadN e r (s0.1 163))))
  have hr1 : (si s 163 (upd (s.1 163) kk (s.1 163 kk - pLoadN e r (s0.1 163)))).1 163 = pL1 e r (s0.1 163) := by rw [si_1s, pL1, hkk, hrow]
  refine hT1 _ (FrA.rf _) 1 r _ _ _ _ _ hr (Or.inr (Or.inl ⟨rfl, rfl, rfl, rfl⟩)) (fun u hu hu1 hu2 => ?_)
  have hLu : u.1 165 = L := hu2.trans (by rw [si_1n s _ (by decide)]; exact hL)
  have hru := hu1.trans hr1
  have hFu := (hF.tr (FrA.si163 s _)).tr hu
  rw [hr1]
  have key : ∀ x5, x5 = pLoadE e r (s0.1 163) → AWP E m_Mo_atHeap 163 0 0 [(0, .ref 120), (1, .int (nI r)), (2, .int (nI kk)), (3, .int (s0.1 163 kk)), (4, .int (pLoadN e r (s0.1 163))), (5, .int x5)] [] (mk g u) (qV g R) := by
    intro x5 hx
    rw [hx]
    exact H163 u (hE1.mv hu) (hT1.mv hu) hru hLu hFu
  refine ⟨fun c => key _ ?_, fun c => key _ ?_⟩
  · rw [pLoadE, if_pos c]
  · rw [pLoadE, if_neg c]
/-- a rat of the reference AT THE HEAP -/
theorem f_Mo_atHeap {s : MS} {R : MS → Prop} (hS : SX g) {e : PE} {lv r : Nat} (hE : EV0 e lv s) (hT : TellsOK E g e s) (hr : r < eR e) {kk : Nat} (hk : kk < 6) (hkn : s.1 163 (90 + r) = nI kk)
    (h : ∀ t, t.1 163 = (pHeap e r (s.1 163, s.1 165)).1 → t.1 165 = (pHeap e r (s.1 163, s.1 165)).2 → FrA s t → R t) : GV E m_Mo_atHeap [.ref 120, .int (nI r)] g s R := by
  have h8' : r < 8 := by have := hE.2.2.1.2; omega
  have hlv2 : lv < 2 := hE.2.1
  have hkk : (s.1 163 (90 + r)).toNatClampNeg = kk := by rw [hkn, tn_lt6 hk]
  have hlv : (nI lv).toNatClampNeg = lv := tn_n (by omega)
  have H50 : (s.1 163 kk = 0 ∨ eLa e ≤ s.1 163 114 ∨ ¬ s.1 163 118 ≤ 0) → AWP E m_Mo_atHeap 50 0 0 [(0, .ref 120), (1, .int (nI r)), (2, .int (nI kk)), (3, .int (s.1 163 kk))] [] (mk g s) (qV g R) := by
    intro hc
    have e1 : pHeap e r (s.1 163, s.1 165) = (if s.1 163 (74 + r) < eOd e then s.1 163 else pNib e r (s.1 163), s.1 165) := by
      rw [pHeap]
      simp only [hkk]
      rw [if_pos hc]
    rw [e1] at h
    refine v_Mo_atHeap_50 _ _ _ hS ?_
    simp only [ix74 h8', hE.1, hlv, hE.2.2.2.2.2.2.1]
    refine ⟨vi74 h8', vp_in_nI hlv2 (by omega), fun c => v_Mo_atHeap_76 _ _ _ (GV.r (h s ?_ rfl (FrA.rf s))), fun c => f_Mo_nibbles hS hE h8' (v_Mo_atHeap_76 _ _ _ (GV.r (h _ ?_ ?_ (FrA.si163 s _))))⟩
    · rw [if_pos c]
    · rw [if_neg c, si_1s]
    · rw [si_1n s _ (by decide)]
  refine v_Mo_atHeap (Q := qV g R) (nI r) hS ?_
  simp only [ix90 h8', hkn, tn_lt6 hk, hE.1, hlv, hE.2.2.2.2.2.1]
  refine ⟨vi90 h8', vi_6_120 hk, fun c => H50 (Or.inl c), fun c => ⟨vp_in_nI hlv2 (by omega), fun c2 => H50 (Or.inr (Or.inl c2)), fun c2 => ⟨fun c3 => ⟨vp_in_nI hk (by omega), fun c4 s1 e1 => ?_, fun c4 s3 e3 => GV.r (h s3 ?_ ?_ ?_)⟩, fun c3 => H50 (Or.inr (Or.inr c3))⟩⟩⟩
  · have e2 : pHeap e r (s.1 163, s.1 165) = (pLoad e r (s.1 163), upd (s.1 165) kk 1) := by
      rw [pHeap]
      simp only [hkk]
      rw [if_neg (by rintro (q | q | q) <;> first | exact c q | exact c2 q | exact q c3), if_pos c4]
    rw [e2] at h
    rw [e1, wi_def s]
    have hF := FrA.si165 s (upd (s.1 165) kk (vp_nar .boolean 1))
    have hE1 := hE.mv hF
    have hT1 := hT.mv hF
    have hr1 : (si s 165 (upd (s.1 165) kk (vp_nar .boolean 1))).1 163 = s.1 163 := si_1n s _ (by decide)
    refine hT1 _ (FrA.rf _) 0 r _ _ _ _ _ hr (Or.inl ⟨rfl, rfl, rfl, rfl⟩) (fun u hu hu1 hu2 => ?_)
    have key : ∀ x4, x4 = pLoadN e r (s.1 163) → AWP E m_Mo_atHeap 127 0 0 [(0, .ref 120), (1, .int (nI r)), (2, .int (nI kk)), (3, .int (s.1 163 kk)), (4, .int x4)] [] (mk g u) (qV g R) := by
      intro x4 hx
      rw [hx]
      refine l_Mo_load hS (hE1.mv hu) (hT1.mv hu) hr hk hkn (hu1.trans hr1) (hF.tr hu) (upd (s.1 165) kk 1) ?_ (fun t q1 q2 q3 => h t q1 q2 q3)
      rw [hu2, si_1s]
      rfl
    rw [hr1]
    refine ⟨fun c => key _ ?_, fun c => key _ ?_⟩
    · rw [pLoadN, hkk, if_pos c]
    · rw [pLoadN, hkk, if_neg c]
  all_goals
    have e2 : pHeap e r (s.1 163, s.1 165) = (upd (s.1 163) 119 (s.1 163 119 + 1), s.1 165) := by
      rw [pHeap]
      simp only [hkk]
      rw [if_neg (by rintro (q | q | q) <;> first | exact c q | exact c2 q | exact q c3), if_neg c4]
    rw [e3, wi_def s]
  · rw [e2, si_1s]
  · rw [e2, si_1n s _ (by decide)]
  · exact FrA.si163 s _
end RefMin
