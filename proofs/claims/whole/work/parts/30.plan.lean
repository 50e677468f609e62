/-! WHAT WOULD BE: frames, ranges; then, lies, clean, starves, mean -/
def FrG (t : Nat) (s u : MS) : Prop := (∀ a, ¬ (28 ≤ a ∧ a < 56) → a ≠ t + 15 → u.1 a = s.1 a) ∧ (∀ j, 4 ≤ j → u.1 31 j = s.1 31 j) ∧ u.2 = s.2
def FrP (t : Nat) (s u : MS) : Prop := FrG t s u ∧ u.1 29 = s.1 29 ∧ ∀ j, j ≠ 4 → u.1 28 j = s.1 28 j
theorem FrG.rf (t : Nat) (s : MS) : FrG t s s := ⟨fun _ _ _ => rfl, fun _ _ => rfl, rfl⟩
theorem FrG.tr {t : Nat} {s u v : MS} (h : FrG t s u) (k : FrG t u v) : FrG t s v := ⟨fun a h1 h2 => (k.1 a h1 h2).trans (h.1 a h1 h2), fun j hj => (k.2.1 j hj).trans (h.2.1 j hj), k.2.2.trans h.2.2⟩
theorem FrP.rf (t : Nat) (s : MS) : FrP t s s := ⟨FrG.rf t s, rfl, fun _ _ => rfl⟩
theorem FrP.tr {t : Nat} {s u v : MS} (h : FrP t s u) (k : FrP t u v) : FrP t s v := ⟨h.1.tr k.1, k.2.1.trans h.2.1, fun j hj => (k.2.2 j hj).trans (h.2.2 j hj)⟩
theorem FrC.P {b t : Nat} {s u : MS} (hb : b = 32 ∨ b = 44) (h : FrC b t s u) (et : t = 88 ∨ t = 104) : FrP t s u := by
  refine ⟨⟨fun a h1 h2 => h.1 a (by omega) (by omega) (by omega) h2, fun j _ => ?_, h.2.2⟩, h.1 29 (by omega) (by omega) (by omega) (by omega), h.2.1⟩
  rw [h.1 31 (by omega) (by omega) (by omega) (by omega)]
theorem FrH.P {b t : Nat} {s u : MS} (hb : b = 32 ∨ b = 44) (h : FrH b s u) (et : t = 88 ∨ t = 104) : FrP t s u := FrC.P hb (FrH.C (by unfold HB; omega) h) et
theorem FrP.w {t k : Nat} {s : MS} {v : Int32} (hk : k < 4) : FrP t s (wi s 31 k v) :=
  ⟨⟨fun a h1 _ => wi_n s k v (by omega), fun j hj => by rw [wi_s, upd_n _ _ (by omega)], rfl⟩, wi_n s k v (by decide), fun j _ => by rw [wi_n s k v (by decide)]⟩
theorem HS32 {g : GS} (h : SX g) : HS g 32 := HS.of h (by decide)
theorem HS44 {g : GS} (h : SX g) : HS g 44 := HS.of h (by decide)
theorem HS62 {g : GS} (h : SX g) : HS g 62 := HS.of h (by decide)
theorem HS74 {g : GS} (h : SX g) : HS g 74 := HS.of h (by decide)
theorem HB32 : HB 32 := Or.inl rfl
theorem HB44 : HB 44 := Or.inr (Or.inl rfl)
theorem HB62 : HB 62 := Or.inr (Or.inr (Or.inl rfl))
theorem HB74 : HB 74 := Or.inr (Or.inr (Or.inr (Or.inl rfl)))
theorem KC.g {d : TD} {g : GS} {t : Nat} {f f' : Row} {sd sd' : Int32} {s u : MS} (k : KC d g t f sd s) (h : FrG t s u) (h1 : ∀ j, j < nH d → u.1 29 j = f' j) (h2 : u.1 28 2 = sd') (h3 : ∀ h, h < nH d → ∃ x, 1 ≤ x ∧ x ≤ 30 ∧ f' h = nI x) : KC d g t f' sd' u := by
  obtain ⟨k1, k2, k3, k4, k5, k6, k7, k8, k9, k10⟩ := k
  refine ⟨k1, k2, k3, k4, k5, k6.mv (fun a h1 h2 => h.1 a (by omega) (by omega)), h1, h2, fun j hj => ?_, h3⟩
  rw [h.1 1 (by omega) (by omega)]; exact k9 j hj
theorem KC.p {d : TD} {g : GS} {t : Nat} {f : Row} {sd : Int32} {s u : MS} (k : KC d g t f sd s) (h : FrP t s u) : KC d g t f sd u :=
  k.g h.1 (fun j hj => by rw [h.2.1]; exact k.2.2.2.2.2.2.1 j hj) (by rw [h.2.2 2 (by decide)]; exact k.2.2.2.2.2.2.2.1) k.2.2.2.2.2.2.2.2.2
/-- the class reading, the reference reading -/
def PC (d : TD) (g : GS) (t : Nat) (N : Row) (s : MS) : Prop := KC d g t (eFa (dE d)) (eSd (dE d)) s ∧ nm (dE d) (hr s 74) = N ∧ CH 74 s ∧ RW d 400000 N
def PR (d : TD) (lv : Nat) (N : Row) (s : MS) : Prop := KR d lv s ∧ nm (dE d) (s.1 162) = N
theorem FrG.h74 {t : Nat} {s u : MS} (et : t = 88 ∨ t = 104) (h : FrG t s u) : hr u 74 = hr s 74 := hr_cg (fun a h1 h2 _ => h.1 a (by omega) (by omega))
theorem FrG.c74 {t : Nat} {s u : MS} (et : t = 88 ∨ t = 104) (h : FrG t s u) (k : CH 74 s) : CH 74 u := fun r hr' => by
  rw [h.1 (74 + 4 + r) (by omega) (by omega)]; exact k r hr'
theorem PC.mv {d : TD} {g : GS} {t : Nat} {N : Row} {s u : MS} (h : FrP t s u) (k : PC d g t N s) : PC d g t N u :=
  ⟨k.1.p h, by rw [h.1.h74 k.1.et]; exact k.2.1, h.1.c74 k.1.et k.2.2.1, k.2.2.2⟩
theorem PR.mv {d : TD} {lv : Nat} {N : Row} {s u : MS} (h : FrR s u) (k : PR d lv N s) : PR d lv N u :=
  ⟨k.1.mv h, by rw [h.1 162 (by decide) (by decide) (by decide) (by decide) (by decide) (by decide)]; exact k.2⟩
section Ranges
variable {E : EN} {g : GS} {s : MS} {R : Int32 → MS → Prop}
theorem f_Rs_isOf {x m : Int32} (h0 : ¬ (0 ≤ x ∧ x < m) → R 0 s) (h1 : 0 ≤ x ∧ x < m → R 1 s) : GI E m_Rs_isOf [.int x, .int m] g s R := by
  refine v_Rs_isOf (Q := qI g R) _ _ ⟨fun c => GI.r (h0 fun q => ?_), fun c => ⟨fun c2 => GI.r (h0 fun q => ?_), fun c2 => GI.r (h1 ⟨Int32.not_lt.mp c, Int32.not_le.mp c2⟩)⟩⟩
  · exact absurd c (Int32.not_lt.mpr q.1)
  · exact absurd c2 (Int32.not_le.mpr q.2)
theorem f_Rs_isMinutes {x : Int32} (h0 : ¬ (0 ≤ x ∧ x ≤ 600) → R 0 s) (h1 : 0 ≤ x ∧ x ≤ 600 → R 1 s) : GI E m_Rs_isMinutes [.int x] g s R := by
  refine v_Rs_isMinutes (Q := qI g R) _ ⟨fun c => GI.r (h0 fun q => ?_), fun c => ⟨fun c2 => GI.r (h0 fun q => ?_), fun c2 => GI.r (h1 ⟨Int32.not_lt.mp c, Int32.not_lt.mp c2⟩)⟩⟩
  · exact absurd c (Int32.not_lt.mpr q.1)
  · exact absurd c2 (Int32.not_lt.mpr q.2)
theorem f_Mo_in {x lo hi : Int32} (h0 : ¬ (lo ≤ x ∧ x ≤ hi) → R 0 s) (h1 : lo ≤ x ∧ x ≤ hi → R 1 s) : GI E m_Mo_in [.int x, .int lo, .int hi] g s R := by
  refine v_Mo_in (Q := qI g R) _ _ _ ⟨fun c => GI.r (h0 fun q => ?_), fun c => ⟨fun c2 => GI.r (h0 fun q => ?_), fun c2 => GI.r (h1 ⟨Int32.not_lt.mp c, Int32.not_lt.mp c2⟩)⟩⟩
  · exact absurd c (Int32.not_lt.mpr q.1)
  · exact absurd c2 (Int32.not_lt.mpr q.2)
theorem f_Mo_isLong {x : Int32} (h0 : ¬ (0 ≤ x ∧ x ≤ 600) → R 0 s) (h1 : 0 ≤ x ∧ x ≤ 600 → R 1 s) : GI E m_Mo_isLong [.int x] g s R :=
  v_Mo_isLong (Q := qI g R) _ (f_Mo_in (fun q => ⟨Or.inl rfl, GI.r (h0 q)⟩) (fun q => ⟨Or.inr rfl, GI.r (h1 q)⟩))
theorem lt_pred {x : Int32} {n : Nat} (hn : n < 2 ^ 30) : (0 ≤ x ∧ x ≤ nI n - 1) ↔ (0 ≤ x ∧ x < nI n) := by
  constructor
  · rintro ⟨h1, h2⟩
    refine ⟨h1, ?_⟩
    obtain ⟨j, hj, rfl⟩ := i_nn h1
    rcases Nat.eq_zero_or_pos n with z | z
    · subst z
      exact absurd (Int32.le_trans h1 h2) (by decide)
    · rw [show (1 : Int32) = nI 1 from rfl, pk_sub z] at h2
      have := (nI_leI hj (by omega)).mp h2
      exact nI_lt (by omega) (by omega)
  · rintro ⟨h1, h2⟩
    refine ⟨h1, ?_⟩
    obtain ⟨j, hj, rfl⟩ := i_nn h1
    have := (nI_ltI hj (by omega)).mp h2
    rw [show (1 : Int32) = nI 1 from rfl, pk_sub (by omega)]
    exact nI_le (by omega) (by omega)
theorem lt_ex {x : Int32} {n : Nat} (hn : n < 2 ^ 30) (h : 0 ≤ x ∧ x < nI n) : ∃ j, j < n ∧ x = nI j := by
  obtain ⟨h1, h2⟩ := h
  obtain ⟨j, hj, rfl⟩ := i_nn h1
  exact ⟨j, (nI_ltI hj (by omega)).mp h2, rfl⟩
theorem le_ex {x hi : Int32} {n : Nat} (hn : n < 2 ^ 30) (e : hi = nI n) (h : 0 ≤ x ∧ x ≤ hi) : ∃ j, j ≤ n ∧ x = nI j := by
  obtain ⟨h1, h2⟩ := h
  obtain ⟨j, hj, rfl⟩ := i_nn h1
  subst e
  exact ⟨j, (nI_leI hj (by omega)).mp h2, rfl⟩
theorem f_Mo_isX {x : Int32} {lv n : Nat} (hl : s.1 120 18 = nI lv) (hv : lv < 2) (hn : n < 2 ^ 30) {a : Nat} (ha : s.1 a lv = nI n) (h0 : ¬ (0 ≤ x ∧ x < nI n) → R 0 s) (h1 : 0 ≤ x ∧ x < nI n → R 1 s) : vp_in (s.1 120 18) 2 ∧ GI E m_Mo_in [.int x, .int 0, .int ((s.1 a (((s.1 120 18)).toNatClampNeg)) - 1)] g s (fun y1_ t1_ => (y1_ = 0 ∨ y1_ = 1) ∧ qI g R (some (.int y1_)) (mk g t1_)) := by
  rw [hl, tn_n (by omega), ha]
  exact ⟨vp_in_nI hv (by omega), f_Mo_in (fun q => ⟨Or.inl rfl, GI.r (h0 fun w => q ((lt_pred hn).mpr w))⟩) (fun q => ⟨Or.inr rfl, GI.r (h1 ((lt_pred hn).mp q))⟩)⟩
theorem f_Mo_isGrain {d : TD} {x : Int32} {lv : Nat} (hS : SX g) (hO : TOk d) (K : KR d lv s) (h0 : ¬ (0 ≤ x ∧ x < nI (nG d)) → R 0 s) (h1 : 0 ≤ x ∧ x < nI (nG d) → R 1 s) : GI E m_Mo_isGrain [.ref 120, .int x] g s R :=
  v_Mo_isGrain (Q := qI g R) _ hS (f_Mo_isX K.2.1 K.2.2.1 (by have := hO.g6; omega) K.1.gr h0 h1)
theorem f_Mo_isHole {d : TD} {x : Int32} {lv : Nat} (hS : SX g) (hO : TOk d) (K : KR d lv s) (h0 : ¬ (0 ≤ x ∧ x < nI (nH d)) → R 0 s) (h1 : 0 ≤ x ∧ x < nI (nH d) → R 1 s) : GI E m_Mo_isHole [.ref 120, .int x] g s R :=
  v_Mo_isHole (Q := qI g R) _ hS (f_Mo_isX K.2.1 K.2.2.1 (by have := hO.h6; omega) K.1.ho h0 h1)
theorem f_Mo_isRat {d : TD} {x : Int32} {lv : Nat} (hS : SX g) (hO : TOk d) (K : KR d lv s) (h0 : ¬ (0 ≤ x ∧ x < nI (nR d)) → R 0 s) (h1 : 0 ≤ x ∧ x < nI (nR d) → R 1 s) : GI E m_Mo_isRat [.ref 120, .int x] g s R :=
  v_Mo_isRat (Q := qI g R) _ hS (f_Mo_isX K.2.1 K.2.2.1 (by have := hO.r8; omega) K.1.ra h0 h1)
end Ranges
/-! pure answers -/
def thenA (d : TD) (N : Row) (x1 x2 : Int32) : Int32 := if (0 ≤ x1 ∧ x1 ≤ 600) ∧ 0 ≤ x2 ∧ x2 < 6 then
    (if x2 = 0 then wAll d (pMins (dE d) x1.toNatClampNeg N) (nH d) else if x2 = 1 then pMins (dE d) x1.toNatClampNeg N 115 else if x2 = 2 then rsum (pMins (dE d) x1.toNatClampNeg N) 0 6 else if x2 = 3 then thr d (pMins (dE d) x1.toNatClampNeg N) (nH d) else if x2 = 4 then mis d (pMins (dE d) x1.toNatClampNeg N) (nH d) else pMins (dE d) x1.toNatClampNeg N 119) else -1
def liesA (d : TD) (N : Row) (x1 x2 x3 : Int32) : Int32 := if (0 ≤ x1 ∧ x1 ≤ 600) ∧ (0 ≤ x3 ∧ x3 < nI (nG d)) ∧ (x2 = -1 ∨ (0 ≤ x2 ∧ x2 < nI (nH d))) then (if x2 = -1 then pMins (dE d) x1.toNatClampNeg N x3.toNatClampNeg else pMins (dE d) x1.toNatClampNeg N (6 + 6 * x2.toNatClampNeg + x3.toNatClampNeg)) else -1
noncomputable def pCB (e : PE) : Nat → Nat → Row → Int32
  | 0, _, _ => -2
  | n + 1, k, N => @ite _ (cln e False N) (Classical.propDecidable _) (nI k) (pCB e n (k + 1) (pMin e N))
def pSt (e : PE) (r : Nat) : Nat → Nat → Row → Int32
  | 0, _, _ => -2
  | n + 1, k, N => if N (74 + r) = 99 then nI k else pSt e r n (k + 1) (pMin e N)
def pMe (d : TD) (n : Nat) (N : Row) : Nat → Int32
  | 0 => 0
  | k + 1 => pMe d n N k + mis d (pMins (eV (dE d) (eFa (dE d)) (eSd (dE d) + nI k)) n N) (nH d)
theorem hsum_thr {d : TD} {P : Row} (hO : TOk d) {B : Nat} (hW : WF4 (dE d) B P) : hsum P 6 - mis d P (nH d) = thr d P (nH d) := by
  rw [hsum_z (m := nH d) hW.2.2.2 6 hO.h6 (Nat.le_refl _), hsum_mt (d := d)]
  grind
section Plan
variable {E : EN} {g : GS} {b t lv : Nat} {d : TD} {s : MS} {f : Row} {sd : Int32} {N : Row}
theorem CH.of {u : MS} {b2 : Nat} (h : ∀ r, r < 8 → u.1 (b + 4 + r) 3 = s.1 (b2 + 4 + r) 3) (k : CH b2 s) : CH b u := fun r hr' => by rw [h r hr']; exact k r hr'
theorem k_take32 {R : MS → Prop} (hS : SX g) (et : t = 88 ∨ t = 104) (hN : nm (dE d) (hr s 74) = N) (hC : CH 74 s) (h : ∀ u, nm (dE d) (hr u 32) = N → CH 32 u → FrP t s u → R u) : GV E m_House_take [.ref 32, .ref 74] g s R :=
  f_House_take (HS32 hS) (HS74 hS) (by omega) (fun u h1 h2 h3 => h u (by rw [h1]; exact hN) (CH.of h2 hC) (h3.P (Or.inl rfl) et))
theorem k_ahead {R : Nat → MS → Prop} {n : Nat} (P : PC d g t N s) (hn : n ≤ 600) (h : ∀ u, nm (dE d) (hr u 32) = pMins (dE d) n N → FrP t s u → R 32 u) : GA E m_Planner_ahead [.ref 31, .ref 28, .ref 74, .int (nI n)] g s R := by
  have hS := P.1.sx
  refine v_Planner_ahead (Q := qA g R) 74 _ hS (k_take32 hS P.1.et P.2.1 P.2.2.1 (fun u h1 h2 h3 => ?_))
  refine k_goOn (P.1.p h3) HB32 (HS32 hS) h2 h1 P.2.2.2 (by omega) (by omega) (fun v w1 w2 w3 => GA.r (h v w1 (h3.tr (w3.P (Or.inl rfl) P.1.et))))
theorem k_allWorth {R : Int32 → MS → Prop} (K : KC d g t f sd s) (hH : HS g b) (hN : nm (dE d) (hr s b) = N) (h : R (wAll d N (nH d)) s) : GI E m_House_allWorth [.ref b, .ref t] g s R := f_House_allWorth K.sx hH K.et K.o K.tc (by rw [q_wAll K.o hN]; exact h)
theorem k_misplaced {R : Int32 → MS → Prop} (K : KC d g t f sd s) (hH : HS g b) (hN : nm (dE d) (hr s b) = N) (h : R (mis d N (nH d)) s) : GI E m_House_misplaced [.ref b, .ref t] g s R := f_House_misplaced K.sx hH K.et K.o K.tc (by rw [q_mis K.o hN]; exact h)
theorem k_worthAll {R : Int32 → MS → Prop} (hS : SX g) (hO : TOk d) (K : KR d lv s) (hN : nm (dE d) (s.1 163) = N) (h : R (wAll d N (nH d)) s) : GI E m_Mo_worthAll [.ref 120] g s R := f_Mo_worthAll hS hO K.1 K.2.1 K.2.2.1 (by rw [q_wAll hO hN]; exact h)
theorem sw5 {x : Int32} (h : 0 ≤ x ∧ x < 6) : x = 0 ∨ x = 1 ∨ x = 2 ∨ x = 3 ∨ x = 4 ∨ x = 5 := by
  obtain ⟨j, hj, rfl⟩ := lt_ex (n := 6) (by decide) h
  rcases (by omega : j = 0 ∨ j = 1 ∨ j = 2 ∨ j = 3 ∨ j = 4 ∨ j = 5) with rfl | rfl | rfl | rfl | rfl | rfl <;> simp [nI] 
theorem c_then {R : Int32 → MS → Prop} {x1 x2 : Int32} (P : PC d g t N s) (h : ∀ u, FrP t s u → R (thenA d N x1 x2) u) : GI E m_Rs_then [.ref 16, .int x1, .int x2] g s R := by
  have hS := P.1.sx
  refine v_Rs_then (Q := qI g R) _ _ t hS P.1.ht (f_Rs_isMinutes (fun q => ⟨fun _ => GI.r ?_, fun c => absurd rfl c⟩) (fun q => ⟨fun c => absurd c (by decide), fun _ => f_Rs_isOf (fun q2 => ⟨fun _ => GI.r ?_, fun c => absurd rfl c⟩) (fun q2 => ⟨fun c => absurd c (by decide), fun _ => ?_⟩)⟩))
  · have := h s (FrP.rf t s)
    rw [thenA, if_neg (fun w => q w.1)] at this
    exact this
  · have := h s (FrP.rf t s)
    rw [thenA, if_neg (fun w => q2 w.2)] at this
    exact this
  · obtain ⟨n, hn, rfl⟩ := le_ex (n := 600) (by decide) rfl q
    refine k_ahead P hn (fun u h1 h2 => ⟨rfl, ?_⟩)
    have K := P.1.p h2
    have hh := h u h2
    rw [thenA, if_pos ⟨q, q2⟩, tn_n (by omega)] at hh
    have hW := RW.mins (n := n) (sd := eSd (dE d)) P.1.o P.1.o.fa P.2.2.2
    have hW4 : WF4 (dE d) 5300000 (pMins (dE d) n N) := hW.2.1
    refine ⟨fun c => ?_, fun c => ?_, fun c => ?_, fun c => ?_, fun c => ?_, fun c => ?_⟩
    · have : x2 = 5 := by
        rcases sw5 q2 with w | w | w | w | w | w
        all_goals first | exact w | (subst w; revert c; decide)
      subst this
      simp only [if_neg (show ¬ (5 : Int32) = 0 by decide), if_neg (show ¬ (5 : Int32) = 1 by decide), if_neg (show ¬ (5 : Int32) = 2 by decide), if_neg (show ¬ (5 : Int32) = 3 by decide), if_neg (show ¬ (5 : Int32) = 4 by decide)] at hh
      rw [← hr119, q_at h1 (lvb_of (by omega))]
      exact GI.r hh
    · subst c
      exact k_allWorth K (HS32 hS) h1 (GI.r hh)
    · subst c
      rw [← hr115, q_at h1 (lvb_of (by omega))]
      exact GI.r hh
    · subst c
      exact f_House_allInHeap (HS32 hS) (by rw [q_heap h1]; exact GI.r hh)
    · subst c
      refine f_House_allInHoles (HS32 hS) (k_misplaced K (HS32 hS) h1 (GI.r ?_))
      rw [q_hsum h1, hsum_thr K.o hW4]
      exact hh
    · subst c
      exact k_misplaced K (HS32 hS) h1 (GI.r hh)
theorem r_then {R : Int32 → MS → Prop} {x1 x2 : Int32} (hS : SX g) (hO : TOk d) (P : PR d lv N s) (hW : RW d 400000 N) (h : ∀ u, FrR s u → R (thenA d N x1 x2) u) : GI E m_Mo_then [.ref 120, .int x1, .int x2] g s R := by
  refine v_Mo_then (Q := qI g R) _ _ hS (f_Mo_isLong (fun q => ⟨fun _ => GI.r ?_, fun c => absurd rfl c⟩) (fun q => ⟨fun c => absurd c (by decide), fun _ => f_Mo_in (fun q2 => ⟨fun _ => GI.r ?_, fun c => absurd rfl c⟩) (fun q2' => ⟨fun c => absurd c (by decide), fun _ => ?_⟩)⟩))
  · have := h s (FrR.rf s)
    rw [thenA, if_neg (fun w => q w.1)] at this
    exact this
  · have := h s (FrR.rf s)
    rw [thenA, if_neg (fun w => q2 ((lt_pred (n := 6) (by decide)).mpr w.2))] at this
    exact this
  · have q2 := (lt_pred (n := 6) (by decide)).mp q2'
    obtain ⟨n, hn, rfl⟩ := le_ex (n := 600) (by decide) rfl q
    refine k_copies hS P.1 P.2 (fun v a1 a2 a3 a4 => ?_)
    refine k_goes hS hO (P.1.mv a4) a1 a2 a3 hW.1 (by omega) (fun u h1' h2' => ?_)
    have h1 : nm (dE d) (u.1 163) = pMins (dE d) n N := h1'
    have h2 := a4.tr h2'.R
    have K := P.1.mv h2
    have hh := h u h2
    rw [thenA, if_pos ⟨q, q2⟩, tn_n (by omega)] at hh
    refine ⟨fun c => ?_, fun c => ?_, fun c => ?_, fun c => ?_, fun c => ?_, fun c => ?_⟩
    · have : x2 = 5 := by
        rcases sw5 q2 with w | w | w | w | w | w
        all_goals first | exact w | (subst w; revert c; decide)
      subst this
      simp only [if_neg (show ¬ (5 : Int32) = 0 by decide), if_neg (show ¬ (5 : Int32) = 1 by decide), if_neg (show ¬ (5 : Int32) = 2 by decide), if_neg (show ¬ (5 : Int32) = 3 by decide), if_neg (show ¬ (5 : Int32) = 4 by decide)] at hh
      rw [q_at h1 (lvb_of (by omega))]
      exact GI.r hh
    · subst c
      exact k_worthAll hS hO K h1 (GI.r hh)
    · subst c
      rw [q_at h1 (lvb_of (by omega))]
      exact GI.r hh
    · subst c
      exact f_Mo_inHeap hS (by rw [q_heap h1]; exact GI.r hh)
    · subst c
      exact f_Mo_inHolesT hS hO K.1 K.2.1 K.2.2.1 (by rw [q_thr hO h1]; exact GI.r hh)
    · subst c
      exact f_Mo_inHolesF hS hO K.1 K.2.1 K.2.2.1 (by rw [q_mis hO h1]; exact GI.r hh)
end Plan
