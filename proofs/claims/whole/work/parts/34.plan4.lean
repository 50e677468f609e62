/-! worth is never below 0; missed, catAt -/
theorem tsum_mono {R : Row} {o : Nat} : ∀ {m n : Nat}, m ≤ n → tsum R o m ≤ tsum R o n := by
  intro m n h
  induction n with
  | zero => rw [show m = 0 by omega]; exact Nat.le_refl _
  | succ n ih =>
    by_cases e : m = n + 1
    · rw [e]; exact Nat.le_refl _
    · have := ih (by omega)
      have e1 : tsum R o (n + 1) = tsum R o n + (R (o + n)).toNatClampNeg := rfl
      omega
theorem tsum_sh {N : Row} {a : Nat} : ∀ k, tsum N 0 a + tsum N a k = tsum N 0 (a + k)
  | 0 => rfl
  | k + 1 => by rw [tsum, ← Nat.add_assoc, tsum_sh k, ← Nat.add_assoc, tsum, Nat.zero_add]
theorem wOf_n {d : TD} {N : Row} {h : Nat} (hO : TOk d) (w : WF4 (dE d) 5300000 N) (hh : h < nH d) : ∃ c, c ≤ 99 * tsum N (6 + 6 * h) 6 ∧ wOf d N h = nI c := by
  have h6 := hO.h6
  have g6 := hO.g6
  have ow := hO.ow hh
  obtain ⟨p, hp, hpe⟩ := hO.pe ow
  -- the sum of the hole
  have rs : ∀ n, n ≤ 6 → rsum N (6 + 6 * h) n = nI (tsum N (6 + 6 * h) n) := by
    intro n
    induction n with
    | zero => intro _; rfl
    | succ n ih =>
      intro hn
      obtain ⟨a, ha, hae⟩ := i_nn (w.1 (6 + 6 * h + n) (by omega))
      rw [rsum, tsum, ih (by omega), hae, tn_n ha, nI_add]
  have sub : tsum N (6 + 6 * h) 6 ≤ 5300000 := by
    have a1 : tsum N (6 + 6 * h) 6 ≤ tsum N 0 42 := by
      have := tsum_sh (N := N) (a := 6 + 6 * h) 6
      have := tsum_mono (R := N) (o := 0) (show 6 + 6 * h + 6 ≤ 42 by omega)
      omega
    have := w.2.2.1
    unfold tot at this
    omega
  obtain ⟨o, ho, hoe⟩ := i_nn (w.1 (6 + 6 * h + dOw d h) (by omega))
  have lo : o ≤ tsum N (6 + 6 * h) 6 := by
    have := tsum_le (R := N) (o := 6 + 6 * h) (j := dOw d h) 6 (by omega)
    rw [hoe, tn_n ho] at this; exact this
  rw [wOf, rs 6 (Nat.le_refl _), hoe, hpe, pk_sub lo]
  have e : (nI p : Int32) * (nI o - 2 * nI (tsum N (6 + 6 * h) 6 - o)) = nI (p * o) - nI (p * (2 * (tsum N (6 + 6 * h) 6 - o))) := by
    rw [← pk_mul, ← pk_mul, ← pk_mul, show nI 2 = 2 from rfl]
    grind
  rw [e]
  have b1 : p * o ≤ 99 * o := Nat.mul_le_mul_right _ hp
  have b2 : p * (2 * (tsum N (6 + 6 * h) 6 - o)) ≤ 99 * (2 * (tsum N (6 + 6 * h) 6 - o)) := Nat.mul_le_mul_right _ hp
  by_cases c : p * (2 * (tsum N (6 + 6 * h) 6 - o)) ≤ p * o
  · rw [pk_sub c]
    split
    · exact ⟨_, by omega, rfl⟩
    · exact ⟨0, by omega, rfl⟩
  · rw [if_neg (fun q => absurd (Int32.lt_trans q (pk_sneg (a := p * o) (b := p * (2 * (tsum N (6 + 6 * h) 6 - o))) (by omega) (by omega))) (by decide))]
    exact ⟨0, by omega, rfl⟩
theorem wAll_n {d : TD} {N : Row} (hO : TOk d) (w : WF4 (dE d) 5300000 N) : ∀ n, n ≤ nH d → ∃ c, c ≤ 99 * tsum N 0 (6 + 6 * n) ∧ wAll d N n = nI c
  | 0, _ => ⟨0, by omega, rfl⟩
  | n + 1, hn => by
    obtain ⟨c, hc, hce⟩ := wAll_n hO w n (by omega)
    obtain ⟨c', hc', hce'⟩ := wOf_n hO w (h := n) (by omega)
    have := tsum_sh (N := N) (a := 6 + 6 * n) 6
    refine ⟨c + c', ?_, by rw [wAll, hce, hce', nI_add]⟩
    rw [show 6 + 6 * (n + 1) = 6 + 6 * n + 6 by omega]
    omega
theorem wAll_nn {d : TD} {N : Row} {M : Nat} (hO : TOk d) (w : RW d M N) : 0 ≤ wAll d N (nH d) := by
  have h6 := hO.h6
  obtain ⟨c, hc, hce⟩ := wAll_n hO w.2.1 (nH d) (Nat.le_refl _)
  have a1 : tsum N 0 (6 + 6 * nH d) ≤ tsum N 0 42 := tsum_mono (by omega)
  have := w.2.1.2.2.1
  unfold tot at this
  rw [hce]; exact nI_pos' (by omega)
def pMi (d : TD) (n : Nat) (N : Row) : Nat → Int32 × Int32
  | 0 => (-2, -2)
  | k + 1 => if N (42 + k) = 3 then pMi d n N k else if (pMi d n N k).1 = -2 ∨ wAll d (pMins (dE d) n (pHome k N)) (nH d) < (pMi d n N k).2 then (nI k, wAll d (pMins (dE d) n (pHome k N)) (nH d)) else pMi d n N k
theorem pMi_1 (d : TD) (n : Nat) (N : Row) : ∀ k, (pMi d n N k).1 = -2 ∨ ∃ j, j < k ∧ (pMi d n N k).1 = nI j
  | 0 => Or.inl rfl
  | k + 1 => by
    have ih := pMi_1 d n N k
    rw [pMi]
    split
    · rcases ih with h | ⟨j, h1, h2⟩
      · exact Or.inl h
      · exact Or.inr ⟨j, by omega, h2⟩
    · split
      · exact Or.inr ⟨k, by omega, rfl⟩
      · rcases ih with h | ⟨j, h1, h2⟩
        · exact Or.inl h
        · exact Or.inr ⟨j, by omega, h2⟩
def missedA (d : TD) (N : Row) (x1 x2 : Int32) : Int32 := if (0 ≤ x1 ∧ x1 ≤ 600) ∧ 0 ≤ x2 ∧ x2 < 2 then (if x2 = 0 then (pMi d x1.toNatClampNeg N (nR d)).1 else (pMi d x1.toNatClampNeg N (nR d)).2) else -1
section Plan4
variable {E : EN} {g : GS} {b t lv : Nat} {d : TD} {s : MS} {N : Row}
theorem k_takeH {R : MS → Prop} {b2 : Nat} (hH : HS g b) (hH2 : HS g b2) (hd : b + 12 ≤ b2 ∨ b2 + 12 ≤ b) (hN : nm (dE d) (hr s b2) = N) (hC : CH b2 s) (h : ∀ u, nm (dE d) (hr u b) = N → CH b u → FrH b s u → R u) : GV E m_House_take [.ref b, .ref b2] g s R :=
  f_House_take hH hH2 hd (fun u h1 h2 h3 => h u (by rw [h1]; exact hN) (CH.of h2 hC) h3)
theorem k_sendHome {R : MS → Prop} {r : Nat} (hO : TOk d) (hH : HS g b) (hr' : r < nR d) (hN : nm (dE d) (hr s b) = N) (hC : CH b s) (h0 : 0 ≤ N (58 + r)) (h : ∀ u, nm (dE d) (hr u b) = pHome r N → CH b u → FrH b s u → R u) : GV E m_House_sendHome [.ref b, .int (nI r)] g s R := by
  have h8 : eR (dE d) ≤ 8 := hO.r8
  have hre : r < eR (dE d) := hr'
  have hn := HN.of hO hN hC r hr'
  have e58 := q_at hN (lvb_of (e := dE d) (k := 58 + r) (by omega))
  have e66 := q_at hN (lvb_of (e := dE d) (k := 66 + r) (by omega))
  refine f_House_sendHome hH (by omega) hC (by rw [e58]; exact h0) (fun u h1 h2 h3 => h u ?_ h2 h3)
  rw [h1, nm_home h8 hre (by rw [e58, e66]; exact hn.1), hN]
theorem k_goesHome {R : MS → Prop} {r : Nat} (hS : SX g) (hO : TOk d) (hr' : r < nR d) (hN : nm (dE d) (s.1 163) = N) (hn : HN d N) (h : ∀ u, nm (dE d) (u.1 163) = pHome r N → FrA s u → R u) : GV E m_Mo_goesHome [.ref 120, .int (nI r)] g s R := by
  have h8 : eR (dE d) ≤ 8 := hO.r8
  have hre : r < eR (dE d) := hr'
  have e58 := q_at hN (lvb_of (e := dE d) (k := 58 + r) (by omega))
  have e66 := q_at hN (lvb_of (e := dE d) (k := 66 + r) (by omega))
  have hI : ¬ s.1 163 (58 + r) ≤ 0 → ∃ q, q < 6 ∧ s.1 163 (66 + r) = nI q := by rw [e58, e66]; exact (hn r hr').1
  refine f_Mo_goesHome hS (by omega) hI (h _ ?_ (FrA.si163 s _))
  rw [si_1s, nm_home h8 hre hI, hN]
theorem c_missed {R : Int32 → MS → Prop} {x1 x2 : Int32} (P : PC d g t N s) (h : ∀ u, FrP t s u → R (missedA d N x1 x2) u) : GI E m_Rs_missed [.ref 16, .int x1, .int x2] g s R := by
  have hS := P.1.sx
  have hO := P.1.o
  have et := P.1.et
  have h8 : eR (dE d) ≤ 8 := hO.r8
  have no : ¬ ((0 ≤ x1 ∧ x1 ≤ 600) ∧ 0 ≤ x2 ∧ x2 < 2) → R (-1) s := by
    intro w
    have := h s (FrP.rf t s)
    rw [missedA, if_neg w] at this
    exact this
  refine v_Rs_missed (Q := qI g R) _ _ hS (f_Rs_isMinutes (fun q => ⟨fun _ => GI.r (no fun w => q w.1), fun c => absurd rfl c⟩) (fun q => ⟨fun c => absurd c (by decide), fun _ => f_Rs_isOf (fun q2 => ⟨fun _ => GI.r (no fun w => q2 w.2), fun c => absurd rfl c⟩) (fun q2 => ⟨fun c => absurd c (by decide), fun _ => ?_⟩)⟩))
  obtain ⟨n, hn, rfl⟩ := le_ex (n := 600) (by decide) rfl q
  refine v_Planner_seekMissed (Q := qV g _) 74 _ hS ?_
  intro s1 e1 s2 e2
  have F2 : FrP t s s2 := by rw [e2, e1]; exact (FrP.w (by omega)).tr (FrP.w (by omega))
  refine upto (P := fun k => ∀ u, FrP t s u → u.1 31 2 = (pMi d n N k).1 → u.1 31 3 = (pMi d n N k).2 → AWP E m_Planner_seekMissed 15 0 0 [(0, .ref 31), (1, .ref 28), (2, .ref 74), (3, .int (nI n)), (4, .int (nI k))] [] (mk g u) (qV g _)) (nR d) ?_ ?_ 0 (Nat.zero_le _) s2 F2 (by rw [e2, wi_s, upd_n _ _ (by decide), e1, wi_s, upd_s]; rfl) (by rw [e2, wi_s, upd_s]; rfl)
  · intro u a1 a2 a3
    refine v_Planner_seekMissed_15 74 _ _ t hS (HS74 hS) et P.1.hm (pk_le (nR d) (nR d) (fun _ => GV.r ?_) (fun q => absurd q (by omega)) (P.1.p a1).tc.ra (ha := by have := hO.r8; omega) (hb := by have := hO.r8; omega))
    have hh := h u a1
    rw [missedA, if_pos ⟨q, q2⟩, tn_n (by omega)] at hh
    refine ⟨fun c => GI.r ?_, fun c => GI.r ?_⟩
    · rw [if_pos c] at hh; rw [a2]; exact hh
    · rw [if_neg c] at hh; rw [a3]; exact hh
  · intro k hk ih u a1 a2 a3
    have hke : k < eR (dE d) := hk
    have Pu := P.mv a1
    refine v_Planner_seekMissed_15 74 _ _ t hS (HS74 hS) et P.1.hm (pk_le (nR d) k (fun q => absurd q (by omega)) (fun _ => ⟨vp_in_nI (by omega) (by omega), ?_⟩) (P.1.p a1).tc.ra (ha := by have := hO.r8; omega) (hb := by omega))
    have e42 : u.1 (74 + 4 + k) 0 = N (42 + k) := by rw [← hr42 u 74 (by omega), q_at Pu.2.1 (lvb_of (by omega))]
    rw [tn_n (by omega), e42, nI_1]
    rw [pMi] at ih
    refine ⟨fun c => ?_, fun c => ?_⟩
    · rw [if_pos c] at ih; exact ih u a1 a2 a3
    · rw [if_neg c] at ih
      have hn0 := HN.of hO P.2.1 P.2.2.1
      refine k_takeH (HS32 hS) (HS74 hS) (by omega) Pu.2.1 Pu.2.2.1 (fun v b1 b2 b3 => ?_)
      refine k_sendHome hO (HS32 hS) hk b1 b2 (P.2.2.2.1.2.1.2.2 k hke).2.1 (fun w c1 c2 c3 => ?_)
      have F3 : FrP t u w := (b3.tr c3).P (Or.inl rfl) et
      refine k_goOn (Pu.1.p F3) HB32 (HS32 hS) c2 c1 (RW.home hO hk hn0 P.2.2.2) (by omega) (by omega) (fun z z1 z2 z3 => ?_)
      have F4 : FrP t u z := F3.tr (z3.P (Or.inl rfl) et)
      refine k_allWorth (Pu.1.p F4) (HS32 hS) (N := pMins (dE d) n (pHome k N)) z1 ?_
      have e31 : z.1 31 = u.1 31 := by rw [z3.1 31 (by omega) (by omega) (by omega) (by omega), c3.1 31 (by omega), b3.1 31 (by omega)]
      have e2' : z.1 31 2 = (pMi d n N k).1 := by rw [e31]; exact a2
      have e3' : z.1 31 3 = (pMi d n N k).2 := by rw [e31]; exact a3
      rw [e2', e3']
      refine ⟨fun y1 z5 f5 z6 f6 => ?_, fun y1 => ⟨fun y2 => ?_, fun y2 z5 f5 z6 f6 => ?_⟩⟩
      · rw [if_pos (Or.inl y1)] at ih
        refine ih z6 (a1.tr (F4.tr (by rw [f6, f5]; exact (FrP.w (by omega)).tr (FrP.w (by omega))))) ?_ ?_
        · rw [f6, wi_s, upd_n _ _ (by decide), f5, wi_s, upd_s]
        · rw [f6, wi_s, upd_s]
      · rw [if_neg (fun w => w.elim y1 (fun w => absurd y2 (Int32.not_le.mpr w)))] at ih
        exact ih z (a1.tr F4) e2' e3'
      · rw [if_pos (Or.inr (Int32.not_le.mp y2))] at ih
        refine ih z6 (a1.tr (F4.tr (by rw [f6, f5]; exact (FrP.w (by omega)).tr (FrP.w (by omega))))) ?_ ?_
        · rw [f6, wi_s, upd_n _ _ (by decide), f5, wi_s, upd_s]
        · rw [f6, wi_s, upd_s]
theorem r_missed {R : Int32 → MS → Prop} {x1 x2 : Int32} (hS : SX g) (hO : TOk d) (P : PR d lv N s) (hW : RW d 400000 N) (hn0 : HN d N) (h : ∀ u, FrR s u → R (missedA d N x1 x2) u) : GI E m_Mo_missed [.ref 120, .int x1, .int x2] g s R := by
  have h8 : eR (dE d) ≤ 8 := hO.r8
  have h8' := hO.r8
  have no : ¬ ((0 ≤ x1 ∧ x1 ≤ 600) ∧ 0 ≤ x2 ∧ x2 < 2) → R (-1) s := by
    intro w
    have := h s (FrR.rf s)
    rw [missedA, if_neg w] at this
    exact this
  refine v_Mo_missed (Q := qI g R) _ _ (f_Mo_isLong (fun q => ⟨fun _ => GI.r (no fun w => q w.1), fun c => absurd rfl c⟩) (fun q => ⟨fun c => absurd c (by decide), fun _ => f_Mo_in (fun q2 => ⟨fun _ => GI.r (no fun w => q2 ((lt_pred (n := 2) (by decide)).mpr w.2)), fun c => absurd rfl c⟩) (fun q2' => ⟨fun c => absurd c (by decide), fun _ => ?_⟩)⟩))
  have q2 := (lt_pred (n := 2) (by decide)).mp q2'
  obtain ⟨n, hn, rfl⟩ := le_ex (n := 600) (by decide) rfl q
  refine upto (P := fun k => ∀ u, FrR s u → AWP E m_Mo_missed 28 0 0 [(0, .ref 120), (1, .int (nI n)), (2, .int x2), (3, .int (pMi d n N k).1), (4, .int (pMi d n N k).2), (5, .int (nI k))] [] (mk g u) (qI g R)) (nR d) ?_ ?_ 0 (Nat.zero_le _) s (FrR.rf s)
  · intro u a1
    have K := P.1.mv a1
    refine v_Mo_missed_28 _ _ _ _ _ hS ⟨by rw [K.2.1]; exact vp_in_nI K.2.2.1 (by omega), ?_⟩
    rw [K.2.1, tn_n (by have := K.2.2.1; omega)]
    have hh := h u a1
    rw [missedA, if_pos ⟨q, q2⟩, tn_n (by omega)] at hh
    refine pk_le (nR d) (nR d) (fun _ => ⟨fun c => GI.r ?_, fun c => GI.r ?_⟩) (fun q => absurd q (by omega)) K.1.ra
    · rw [if_pos c] at hh; exact hh
    · rw [if_neg c] at hh; exact hh
  · intro k hk ih u a1
    have hke : k < eR (dE d) := hk
    have Pu := P.mv a1
    have K := Pu.1
    refine v_Mo_missed_28 _ _ _ _ _ hS ⟨by rw [K.2.1]; exact vp_in_nI K.2.2.1 (by omega), ?_⟩
    rw [K.2.1, tn_n (by have := K.2.2.1; omega), ix42 (by omega), q_at Pu.2 (lvb_of (by omega)), nI_1]
    rw [pMi] at ih
    refine pk_le (nR d) k (fun q => absurd q (by omega)) (fun _ => ⟨vi42 (by omega), fun c => ?_, fun c => ?_⟩) K.1.ra
    · rw [if_pos c] at ih; exact ih u a1
    · rw [if_neg c] at ih
      refine k_copies hS K Pu.2 (fun v b1 b2 b3 b4 => ?_)
      refine k_goesHome hS hO hk b3 hn0 (fun w c1 c2 => ?_)
      refine k_goes hS hO (K.mv (b4.tr c2.R)) (c2.fa.trans b1) (c2.l.trans b2) c1 (RW.home hO hk hn0 hW).1 (by omega) (fun z z1 z2 => ?_)
      have F := b4.tr (c2.tr z2).R
      refine k_worthAll hS hO (K.mv F) (N := pMins (dE d) n (pHome k N)) z1 ?_
      have neg : (pMi d n N k).1 < 0 ↔ (pMi d n N k).1 = -2 := by
        rcases pMi_1 d n N k with w | ⟨j, j1, j2⟩
        · rw [w]; decide
        · rw [j2]
          exact ⟨fun w => absurd w (nI_pos (by omega)), fun w => absurd (nI_pos' (n := j) (by omega)) (by rw [w]; decide)⟩
      refine ⟨fun y1 => ?_, fun y1 => ⟨fun y2 => ?_, fun y2 => ?_⟩⟩
      · rw [if_pos (Or.inl (neg.mp y1))] at ih; exact ih z (a1.tr F)
      · rw [if_pos (Or.inr y2)] at ih; exact ih z (a1.tr F)
      · rw [if_neg (fun w => w.elim (fun w => y1 (neg.mpr w)) y2)] at ih; exact ih z (a1.tr F)
/-! catAt -/
def pCat (d : TD) (n : Nat) (N : Row) (k : Nat) : Int32 := wAll d (pMins (dE d) (n + 10 - k) (upd (pMins (dE d) k N) 118 (pMins (dE d) k N 118 + 10))) (nH d)
def pCa (d : TD) (n : Nat) (N : Row) : Nat → Int32 × Int32
  | 0 => (0, -1)
  | k + 1 => if (pCa d n N k).2 < pCat d n N k then (nI k, pCat d n N k) else pCa d n N k
def catAtA (d : TD) (N : Row) (x1 x2 : Int32) : Int32 := if (1 ≤ x1 ∧ x1 ≤ 120) ∧ 0 ≤ x2 ∧ x2 < 2 then (if x2 = 0 then (pCa d x1.toNatClampNeg N x1.toNatClampNeg).1 else (pCa d x1.toNatClampNeg N x1.toNatClampNeg).2) else -1
theorem RW.cat {N : Row} {M : Nat} (hO : TOk d) (hc : ∃ c, c ≤ 999 ∧ N 118 = nI c) (w : RW d M N) : RW d M (upd N 118 (N 118 + 10)) := by
  have h8 : eR (dE d) ≤ 8 := hO.r8
  obtain ⟨c, hc9, hce⟩ := hc
  have es : N 118 + 10 = nI (c + 10) := by rw [hce, show (10 : Int32) = nI 10 from rfl, nI_add]
  obtain ⟨⟨w1, w2, w3⟩, w4, w5⟩ := w
  rw [es]
  refine ⟨⟨fun x hx => ?_, ⟨fun k hk => by rw [upd_n _ _ (by omega)]; exact w2.1 k hk, by rw [upd_s]; exact nI_pos' (by omega), fun x hx => ?_⟩, fun k hk => by rw [upd_n _ _ (by omega)]; exact w3.1 k hk, ⟨c + 10, by omega, by rw [upd_s]⟩, w3.2.2.1, fun x hx => ?_⟩, w4.cg (fun k hk => upd_n _ _ (by omega)) (fun x hx => upd_n _ _ (by omega)), by rw [upd_n _ _ (by omega)]; exact w5⟩
  · rw [upd_n _ _ (show 90 + x ≠ 118 by omega), upd_n _ _ (show 106 + x ≠ 118 by omega), upd_n _ _ (show 58 + x ≠ 118 by omega), upd_n _ _ (show 66 + x ≠ 118 by omega), upd_n _ _ (show 42 + x ≠ 118 by omega)]
    exact w1 x hx
  · rw [upd_n _ _ (show 58 + x ≠ 118 by omega), upd_n _ _ (show 74 + x ≠ 118 by omega), upd_n _ _ (show 42 + x ≠ 118 by omega)]
    exact w2.2.2 x hx
  · rw [upd_n _ _ (show 74 + x ≠ 118 by omega), upd_n _ _ (show 50 + x ≠ 118 by omega), upd_n _ _ (show 42 + x ≠ 118 by omega)]
    exact w3.2.2.2 x hx
theorem c_catAt {R : Int32 → MS → Prop} {x1 x2 : Int32} (P : PC d g t N s) (hc : ∃ c, c ≤ 999 ∧ N 118 = nI c) (h : ∀ u, FrP t s u → R (catAtA d N x1 x2) u) : GI E m_Rs_catAt [.ref 16, .int x1, .int x2] g s R := by
  have hS := P.1.sx
  have hO := P.1.o
  have et := P.1.et
  have no : ¬ ((1 ≤ x1 ∧ x1 ≤ 120) ∧ 0 ≤ x2 ∧ x2 < 2) → R (-1) s := by
    intro w
    have := h s (FrP.rf t s)
    rw [catAtA, if_neg w] at this
    exact this
  refine v_Rs_catAt (Q := qI g R) _ _ hS ⟨fun c => GI.r (no fun w => absurd c (Int32.not_lt.mpr w.1.1)), fun c => ⟨fun c2 => GI.r (no fun w => absurd c2 (Int32.not_lt.mpr w.1.2)), fun c2 => f_Rs_isOf (fun q2 => ⟨fun _ => GI.r (no fun w => q2 w.2), fun c => absurd rfl c⟩) (fun q2 => ⟨fun c => absurd c (by decide), fun _ => ?_⟩)⟩⟩
  have q1 : 1 ≤ x1 ∧ x1 ≤ 120 := ⟨Int32.not_lt.mp c, Int32.not_lt.mp c2⟩
  obtain ⟨n, hn, rfl⟩ := le_ex (n := 120) (by decide) rfl ⟨Int32.le_trans (by decide) q1.1, q1.2⟩
  have hn1 : 1 ≤ n := (nI_leI (a := 1) (by omega) (by omega)).mp q1.1
  refine v_Planner_seekCat (Q := qV g _) 74 _ hS ?_
  intro s1 e1 s2 e2
  have F2 : FrP t s s2 := by rw [e2, e1]; exact (FrP.w (by omega)).tr (FrP.w (by omega))
  have P2 := P.mv F2
  refine k_takeH (HS44 hS) (HS74 hS) (by omega) P2.2.1 P2.2.2.1 (fun s3 b1 b2 b3 => ?_)
  have F3 : FrP t s s3 := F2.tr (b3.P (Or.inr rfl) et)
  have e31 : s3.1 31 = s2.1 31 := b3.1 31 (by omega)
  refine upto (P := fun k => ∀ u, FrP t s u → nm (dE d) (hr u 44) = pMins (dE d) k N → CH 44 u → ((k = 0 ∧ u.1 31 3 = -1) ∨ (1 ≤ k ∧ u.1 31 2 = (pCa d n N k).1 ∧ u.1 31 3 = (pCa d n N k).2)) → AWP E m_Planner_seekCat 21 0 0 [(0, .ref 31), (1, .ref 28), (2, .ref 74), (3, .int (nI n)), (4, .int (nI k))] [] (mk g u) (qV g _)) n ?_ ?_ 0 (Nat.zero_le _) s3 F3 b1 b2 (Or.inl ⟨rfl, by rw [e31, e2, wi_s, upd_s]⟩)
  · intro u a1 a2 a3 a4
    refine v_Planner_seekCat_21 74 _ _ t hS P.1.hm (pk_le n n (fun _ => GV.r ?_) (fun q => absurd q (by omega)))
    have hh := h u a1
    rw [catAtA, if_pos ⟨q1, q2⟩, tn_n (by omega)] at hh
    rcases a4 with ⟨z, -⟩ | ⟨-, z1, z2⟩
    · omega
    · refine ⟨fun c => GI.r ?_, fun c => GI.r ?_⟩
      · rw [if_pos c] at hh; rw [z1]; exact hh
      · rw [if_neg c] at hh; rw [z2]; exact hh
  · intro k hk ih u a1 a2 a3 a4
    have Ku := P.1.p a1
    have W1 : RW d (400000 + k) (pMins (dE d) k N) := RW.mins (sd := eSd (dE d)) hO hO.fa P.2.2.2
    have cat1 := pMins_118 (e := dE d) hO.1.1 k P.2.2.2.1.1 hc
    have W2 := RW.cat hO cat1 W1
    refine v_Planner_seekCat_21 74 _ _ t hS P.1.hm (pk_le n k (fun q => absurd q (by omega)) (fun _ => ?_))
    refine k_takeH (HS32 hS) (HS44 hS) (by omega) a2 a3 (fun v c1 c2 c3 w d1 => ?_)
    have ew : nm (dE d) (hr w 32) = upd (pMins (dE d) k N) 118 (pMins (dE d) k N 118 + 10) := by
      rw [d1, ← hr118, hw_118, nm_upd (lvb_of (by omega)), c1, q_at c1 (lvb_of (by omega))]
    have cw : CH 32 w := fun r hr' => by rw [d1, wi_n _ _ _ (by omega)]; exact c2 r hr'
    have F4 : FrH 32 u w := c3.tr (by rw [d1]; exact FrH.w (by omega) (by omega))
    have F5 : FrP t u w := F4.P (Or.inl rfl) et
    rw [show (nI n + 10 - nI k : Int32) = nI (n + 10 - k) by rw [show (10 : Int32) = nI 10 from rfl, nI_add, pk_sub (by omega)]]
    refine k_goOn (Ku.p F5) HB32 (HS32 hS) cw ew W2 (by omega) (by omega) (fun z z1 z2 z3 => ?_)
    have F6 : FrP t u z := F5.tr (z3.P (Or.inl rfl) et)
    have e31z : z.1 31 = u.1 31 := by rw [z3.1 31 (by omega) (by omega) (by omega) (by omega), F4.1 31 (by omega)]
    have wn : 0 ≤ pCat d n N k := wAll_nn hO (RW.mins (n := n + 10 - k) (sd := eSd (dE d)) hO hO.fa W2)
    refine k_allWorth (Ku.p F6) (HS32 hS) (N := pMins (dE d) (n + 10 - k) (upd (pMins (dE d) k N) 118 (pMins (dE d) k N 118 + 10))) z1 ?_
    show (pCat d n N k ≤ z.1 31 3 → _) ∧ (¬ pCat d n N k ≤ z.1 31 3 → _)
    have n44 : ∀ y, FrP t z y → (∀ a, 44 ≤ a → a < 56 → y.1 a = z.1 a) → nm (dE d) (hr y 44) = pMins (dE d) k N ∧ CH 44 y := by
      intro y _ hy
      have h44 : ∀ a, 44 ≤ a → a < 56 → y.1 a = u.1 a := fun a h1 h2 => by
        have et' := et
        rw [hy a h1 h2, z3.1 a (by omega) (by omega) (by omega) (by omega), F4.1 a (by omega)]
      refine ⟨?_, fun r hr' => by rw [h44 (44 + 4 + r) (by omega) (by omega)]; exact a3 r hr'⟩
      rw [hr_cg (s := u) (t := y) (b := 44) (fun a h1 h2 _ => h44 a h1 (by omega))]; exact a2
    rw [nI_1]
    refine ⟨fun y1 => ?_, fun y1 z5 f5 z6 f6 => ?_⟩
    · obtain ⟨m1, m2⟩ := n44 z (FrP.rf t z) (fun _ _ _ => rfl)
      refine k_goMinute (Ku.p F6) HB44 (HS44 hS) m2 m1 W1.1 (fun y y1' y2' y3' => ih y (a1.tr (F6.tr (y3'.P (Or.inr rfl) et))) (by rw [y1']; exact (pMins_s (dE d) k N).symm) y2' (Or.inr ?_))
      have e31y : y.1 31 = u.1 31 := by rw [y3'.1 31 (by omega) (by omega) (by omega) (by omega), e31z]
      rw [e31z] at y1
      rcases a4 with ⟨_, zz⟩ | ⟨zz, z1', z2'⟩
      · rw [zz] at y1; exact absurd (Int32.le_trans wn y1) (by decide)
      · rw [z2'] at y1
        rw [pCa, if_neg (Int32.not_lt.mpr y1), e31y]
        exact ⟨by omega, z1', z2'⟩
    · have F7 : FrP t z z6 := by rw [f6, f5]; exact (FrP.w (by omega)).tr (FrP.w (by omega))
      obtain ⟨m1, m2⟩ := n44 z6 F7 (fun a h1 h2 => by rw [f6, wi_n _ _ _ (by omega), f5, wi_n _ _ _ (by omega)])
      refine k_goMinute (Ku.p (F6.tr F7)) HB44 (HS44 hS) m2 m1 W1.1 (fun y y1' y2' y3' => ih y (a1.tr ((F6.tr F7).tr (y3'.P (Or.inr rfl) et))) (by rw [y1']; exact (pMins_s (dE d) k N).symm) y2' (Or.inr ?_))
      have e31y : y.1 31 = z6.1 31 := y3'.1 31 (by omega) (by omega) (by omega) (by omega)
      have y2 : y.1 31 2 = nI k := by rw [e31y, f6, wi_s, upd_n _ _ (by decide), f5, wi_s, upd_s]
      have y3 : y.1 31 3 = pCat d n N k := by rw [e31y, f6, wi_s, upd_s]; rfl
      rw [e31z] at y1
      have lt : (pCa d n N k).2 < pCat d n N k := by
        rcases a4 with ⟨z0, zz⟩ | ⟨zz, z1', z2'⟩
        · subst z0; exact Int32.lt_of_lt_of_le (show (-1 : Int32) < 0 by decide) wn
        · rw [z2'] at y1; exact Int32.not_le.mp y1
      rw [pCa, if_pos lt]
      exact ⟨by omega, y2, y3⟩
theorem r_catAt {R : Int32 → MS → Prop} {x1 x2 : Int32} (hS : SX g) (hO : TOk d) (P : PR d lv N s) (hW : RW d 400000 N) (hc : ∃ c, c ≤ 999 ∧ N 118 = nI c) (h : ∀ u, FrR s u → R (catAtA d N x1 x2) u) : GI E m_Mo_catAt [.ref 120, .int x1, .int x2] g s R := by
  have no : ¬ ((1 ≤ x1 ∧ x1 ≤ 120) ∧ 0 ≤ x2 ∧ x2 < 2) → R (-1) s := by
    intro w
    have := h s (FrR.rf s)
    rw [catAtA, if_neg w] at this
    exact this
  refine v_Mo_catAt (Q := qI g R) _ _ (f_Mo_in (fun q => ⟨fun _ => GI.r (no fun w => q w.1), fun c => absurd rfl c⟩) (fun q1 => ⟨fun c => absurd c (by decide), fun _ => f_Mo_in (fun q2 => ⟨fun _ => GI.r (no fun w => q2 ((lt_pred (n := 2) (by decide)).mpr w.2)), fun c => absurd rfl c⟩) (fun q2' => ⟨fun c => absurd c (by decide), fun _ => ?_⟩)⟩))
  have q2 := (lt_pred (n := 2) (by decide)).mp q2'
  obtain ⟨n, hn, rfl⟩ := le_ex (n := 120) (by decide) rfl ⟨Int32.le_trans (by decide) q1.1, q1.2⟩
  refine upto (P := fun k => ∀ u, FrR s u → AWP E m_Mo_catAt 29 0 0 [(0, .ref 120), (1, .int (nI n)), (2, .int x2), (3, .int (pCa d n N k).1), (4, .int (pCa d n N k).2), (5, .int (nI k))] [] (mk g u) (qI g R)) n ?_ ?_ 0 (Nat.zero_le _) s (FrR.rf s)
  · intro u a1
    have hh := h u a1
    rw [catAtA, if_pos ⟨q1, q2⟩, tn_n (by omega)] at hh
    refine v_Mo_catAt_29 _ _ _ _ _ hS (pk_le n n (fun _ => ⟨fun c => GI.r ?_, fun c => GI.r ?_⟩) (fun q => absurd q (by omega)))
    · rw [if_pos c] at hh; exact hh
    · rw [if_neg c] at hh; exact hh
  · intro k hk ih u a1
    have Pu := P.mv a1
    have W1 : RW d (400000 + k) (pMins (dE d) k N) := RW.mins (sd := eSd (dE d)) hO hO.fa hW
    have W2 := RW.cat hO (pMins_118 (e := dE d) hO.1.1 k hW.1.1 hc) W1
    refine v_Mo_catAt_29 _ _ _ _ _ hS (pk_le n k (fun q => absurd q (by omega)) (fun _ => ?_))
    refine k_copies hS Pu.1 Pu.2 (fun v b1 b2 b3 b4 => ?_)
    refine k_goes hS hO (Pu.1.mv b4) b1 b2 b3 hW.1 (by omega) (fun w c1 c2 y d1 => ?_)
    have c1' : nm (dE d) (w.1 163) = pMins (dE d) k N := c1
    have Fy : FrA w y := by rw [d1, wi_def]; exact FrA.si163 w _
    have ey : nm (dE d) (y.1 163) = upd (pMins (dE d) k N) 118 (pMins (dE d) k N 118 + 10) := by
      rw [d1, wi_s, nm_upd (lvb_of (by omega)), c1', q_at c1' (lvb_of (by omega))]
    rw [show (nI n + 10 - nI k : Int32) = nI (n + 10 - k) by rw [show (10 : Int32) = nI 10 from rfl, nI_add, pk_sub (by omega)]]
    have F := c2.tr Fy
    refine k_goes hS hO (Pu.1.mv (b4.tr F.R)) (F.fa.trans b1) (F.l.trans b2) ey W2.1 (by omega) (fun z z1 z2 => ?_)
    refine k_worthAll hS hO (Pu.1.mv (b4.tr (F.tr z2).R)) (N := pMins (dE d) (n + 10 - k) (upd (pMins (dE d) k N) 118 (pMins (dE d) k N 118 + 10))) z1 ?_
    rw [nI_1]
    rw [pCa, pCat] at ih
    refine ⟨fun y1 => ?_, fun y1 => ?_⟩
    · rw [if_pos y1] at ih; exact ih z (a1.tr (b4.tr (F.tr z2).R))
    · rw [if_neg y1] at ih; exact ih z (a1.tr (b4.tr (F.tr z2).R))
end Plan4
