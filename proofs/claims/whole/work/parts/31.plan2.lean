/-! lies, isClean, clean, starves, mean -/
noncomputable def isClA (d : TD) (N : Row) : Int32 := @ite _ (cln (dE d) False N) (Classical.propDecidable _) 1 0
theorem FrP.kc {d : TD} {g : GS} {t : Nat} {f : Row} {sd : Int32} {s u : MS} (h : FrP t s u) (k : KC d g t f sd s) : KC d g t f sd u := k.p h
section Plan2
variable {E : EN} {g : GS} {b t lv : Nat} {d : TD} {s : MS} {f : Row} {sd : Int32} {N : Row}
theorem c_lies {R : Int32 → MS → Prop} {x1 x2 x3 : Int32} (P : PC d g t N s) (h : ∀ u, FrP t s u → R (liesA d N x1 x2 x3) u) : GI E m_Rs_lies [.ref 16, .int x1, .int x2, .int x3] g s R := by
  have hS := P.1.sx
  have g6 := P.1.o.g6
  have h6 := P.1.o.h6
  refine v_Rs_lies (Q := qI g R) _ _ _ t hS P.1.et P.1.ht (f_Rs_isMinutes (fun q => ⟨fun _ => GI.r ?_, fun c => absurd rfl c⟩) (fun q => ⟨fun c => absurd c (by decide), fun _ => ?_⟩))
  · have := h s (FrP.rf t s)
    rw [liesA, if_neg (fun w => q w.1)] at this
    exact this
  · rw [P.1.tc.gr]
    refine f_Rs_isOf (fun q2 => ⟨fun _ => GI.r ?_, fun c => absurd rfl c⟩) (fun q2 => ⟨fun c => absurd c (by decide), fun _ => ?_⟩)
    · have := h s (FrP.rf t s)
      rw [liesA, if_neg (fun w => q2 w.2.1)] at this
      exact this
    · obtain ⟨n, hn, rfl⟩ := le_ex (n := 600) (by decide) rfl q
      obtain ⟨k, hk, rfl⟩ := lt_ex (by omega) q2
      refine ⟨fun c => k_ahead P hn (fun u h1 h2 => ⟨rfl, fun _ => ?_, fun c2 => absurd c c2⟩), fun c => ?_⟩
      rotate_left
      · rw [P.1.tc.ho]
        refine f_Rs_isOf (fun q3 => ⟨fun _ => GI.r ?_, fun c => absurd rfl c⟩) (fun q3 => ⟨fun c => absurd c (by decide), fun _ => ?_⟩)
        · have := h s (FrP.rf t s)
          rw [liesA, if_neg (fun w => w.2.2.elim c q3)] at this
          exact this
        · obtain ⟨hh', hh6, rfl⟩ := lt_ex (by omega) q3
          refine k_ahead P hn (fun u h1 h2 => ⟨rfl, fun c2 => absurd c2 c, fun _ => f_House_inHole (HS32 hS) (by omega) (by omega) (GI.r ?_)⟩)
          have hh := h u h2
          rw [liesA, if_pos ⟨q, q2, Or.inr q3⟩, if_neg c, tn_n (by omega), tn_n (by omega), tn_n (by omega)] at hh
          rw [q_at h1 (lvb_of (by omega))]
          exact hh
      · refine ⟨vp_in_nI (by omega) (by omega), GI.r ?_⟩
        have hh := h u h2
        rw [liesA, if_pos ⟨q, q2, Or.inl c⟩, if_pos c, tn_n (by omega), tn_n (by omega)] at hh
        rw [tn_n (by omega), ← hr_hp u 32 (by omega), q_at h1 (lvb_of (by omega))]
        exact hh
theorem r_lies {R : Int32 → MS → Prop} {x1 x2 x3 : Int32} (hS : SX g) (hO : TOk d) (P : PR d lv N s) (hW : RW d 400000 N) (h : ∀ u, FrR s u → R (liesA d N x1 x2 x3) u) : GI E m_Mo_lies [.ref 120, .int x1, .int x2, .int x3] g s R := by
  have g6 := hO.g6
  have h6 := hO.h6
  have no : ¬ ((0 ≤ x1 ∧ x1 ≤ 600) ∧ (0 ≤ x3 ∧ x3 < nI (nG d)) ∧ (x2 = -1 ∨ (0 ≤ x2 ∧ x2 < nI (nH d)))) → R (-1) s := by
    intro w
    have := h s (FrR.rf s)
    rw [liesA, if_neg w] at this
    exact this
  have go : ∀ {n k : Nat}, n ≤ 600 → k < nG d → x1 = nI n → x3 = nI k → (x2 = -1 ∨ (0 ≤ x2 ∧ x2 < nI (nH d))) → GV E m_Mo_copies [.ref 120] g s (fun t3_ => GV E m_Mo_goes [.ref 120, .int x1] g t3_ (fun t4_ => ((x2 = (-1) → vp_in x3 120 ∧ qI g R (some (.int (t4_.1 163 ((x3).toNatClampNeg)))) (mk g t4_)) ∧ (¬ x2 = (-1) → vp_in ((6 + (6 * x2)) + x3) 120 ∧ qI g R (some (.int (t4_.1 163 ((((6 + (6 * x2)) + x3)).toNatClampNeg)))) (mk g t4_))))) := by
    intro n k hn hk e1 e3 e2
    subst e1
    subst e3
    have ok : (0 ≤ nI n ∧ nI n ≤ 600) ∧ (0 ≤ nI k ∧ nI k < nI (nG d)) ∧ (x2 = -1 ∨ (0 ≤ x2 ∧ x2 < nI (nH d))) := ⟨⟨nI_pos' (by omega), nI_le (b := 600) hn (by omega)⟩, ⟨nI_pos' (by omega), nI_lt hk (by omega)⟩, e2⟩
    refine k_copies hS P.1 P.2 (fun v a1 a2 a3 a4 => ?_)
    refine k_goes hS hO (P.1.mv a4) a1 a2 a3 hW.1 (by omega) (fun u h1' h2' => ?_)
    have h1 : nm (dE d) (u.1 163) = pMins (dE d) n N := h1'
    have hh := h u (a4.tr h2'.R)
    rw [liesA, if_pos ok, tn_n (by omega), tn_n (by omega)] at hh
    refine ⟨fun c => ⟨vp_in_nI (by omega) (by omega), GI.r ?_⟩, fun c => ?_⟩
    · rw [if_pos c] at hh
      rw [tn_n (by omega), q_at h1 (lvb_of (by omega))]
      exact hh
    · rw [if_neg c] at hh
      obtain ⟨m, hm, rfl⟩ := lt_ex (by omega) (e2.resolve_left c)
      rw [tn_n (by omega)] at hh
      rw [z6, tn_n (by omega), q_at h1 (lvb_of (by omega))]
      exact ⟨vp_in_nI (by omega) (by omega), GI.r hh⟩
  refine v_Mo_lies (Q := qI g R) _ _ _ hS (f_Mo_isLong (fun q => ⟨fun _ => GI.r (no fun w => q w.1), fun c => absurd rfl c⟩) (fun q => ⟨fun c => absurd c (by decide), fun _ => ⟨fun c => ?_, fun c => ?_⟩⟩))
  · refine f_Mo_isGrain hS hO P.1 (fun q2 => ⟨fun _ => GI.r (no fun w => q2 w.2.1), fun c => absurd rfl c⟩) (fun q2 => ⟨fun c => absurd c (by decide), fun _ => ?_⟩)
    obtain ⟨n, hn, e1⟩ := le_ex (n := 600) (by decide) rfl q
    obtain ⟨k, hk, e3⟩ := lt_ex (by omega) q2
    exact go hn hk e1 e3 (Or.inl c)
  · refine f_Mo_isHole hS hO P.1 (fun q3 => ⟨fun _ => GI.r (no fun w => w.2.2.elim c q3), fun c => absurd rfl c⟩) (fun q3 => ⟨fun c => absurd c (by decide), fun _ => ?_⟩)
    refine f_Mo_isGrain hS hO P.1 (fun q2 => ⟨fun _ => GI.r (no fun w => q2 w.2.1), fun c => absurd rfl c⟩) (fun q2 => ⟨fun c => absurd c (by decide), fun _ => ?_⟩)
    obtain ⟨n, hn, e1⟩ := le_ex (n := 600) (by decide) rfl q
    obtain ⟨k, hk, e3⟩ := lt_ex (by omega) q2
    exact go hn hk e1 e3 (Or.inr q3)
theorem c_isClean {R : Int32 → MS → Prop} (P : PC d g t N s) (h : R (isClA d N) s) : GI E m_Rs_isClean [.ref 16] g s R := by
  have hW := (wfa_hr P.1.o P.2.1 P.2.2.2.1).1
  refine v_Rs_isClean (Q := qI g R) t P.1.sx P.1.ht (f_House_isSorted P.1.sx (HS74 P.1.sx) P.1.et P.1.o P.1.tc hW (fun q => ⟨Or.inr rfl, GI.r ?_⟩) (fun q => ⟨Or.inl rfl, GI.r ?_⟩))
  · rw [isClA, if_pos ((q_cln P.1.o P.2.1 hW).mp q)] at h; exact h
  · rw [isClA, if_neg (fun w => q ((q_cln P.1.o P.2.1 hW).mpr w))] at h; exact h
theorem r_isClean {R : Int32 → MS → Prop} (hS : SX g) (hO : TOk d) (P : PR d lv N s) (hW : RW d 400000 N) (h : ∀ u, FrR s u → R (isClA d N) u) : GI E m_Mo_isClean [.ref 120] g s R := by
  refine v_Mo_isClean (Q := qI g R) hS (k_copies hS P.1 P.2 (fun u a1 a2 a3 a4 => ?_))
  have K := P.1.mv a4
  have hW' : WFr (dE d) (u.1 163) := (WFA.of_nm hO.r8 (by rw [a3]; exact hW.1)).1
  have hh := h u a4
  refine f_Mo_isCleanNow hS hO K.1 K.2.1 K.2.2.1 hW' (all := False) (by simp) (fun q => ⟨Or.inr rfl, GI.r ?_⟩) (fun q => ⟨Or.inl rfl, GI.r ?_⟩)
  · rw [isClA, if_pos ((q_cln hO a3 hW').mp q)] at hh; exact hh
  · rw [isClA, if_neg (fun w => q ((q_cln hO a3 hW').mpr w))] at hh; exact hh
theorem k_cleanBy {R : Int32 → MS → Prop} (K : KC d g t f sd s) (hN : nm (dE d) (hr s 74) = N) (hC : CH 74 s) (hW : WFA (dE d) N) {x : Int32} {F : Nat} (hF : F ≤ 700) (hx : ∀ k, k ≤ F → (x < nI k ↔ k = F)) (h : ∀ u, FrP t s u → u.1 31 = s.1 31 → R (pCB (eV (dE d) f sd) F 0 N) u) : GI E m_Planner_cleanBy [.ref 31, .ref 28, .ref 74, .int x] g s R := by
  have hS := K.sx
  refine v_Planner_cleanBy (Q := qI g R) 74 _ hS (f_House_take (HS32 hS) (HS74 hS) (by omega) (fun u h1 h2 h3 => ?_))
  refine upto (P := fun k => ∀ u N', nm (dE d) (hr u 32) = N' → CH 32 u → WFA (dE d) N' → FrP t s u → u.1 31 = s.1 31 → pCB (eV (dE d) f sd) (F - k) k N' = pCB (eV (dE d) f sd) F 0 N → AWP E m_Planner_cleanBy 11 0 0 [(0, .ref 31), (1, .ref 28), (2, .ref 74), (3, .int x), (4, .int (nI k))] [] (mk g u) (qI g R)) F ?_ ?_ 0 (Nat.zero_le _) u N (by rw [h1]; exact hN) (CH.of h2 hC) hW (h3.P (Or.inl rfl) K.et) (h3.1 31 (by omega)) rfl
  · intro u N' a1 a2 a3 a4 a6 a5
    refine v_Planner_cleanBy_11 74 _ _ t hS K.hm ⟨fun _ => GI.r ?_, fun c => absurd ((hx F (Nat.le_refl _)).mpr rfl) c⟩
    rw [Nat.sub_self, pCB] at a5
    rw [a5]; exact h u a4 a6
  · intro k hk ih u N' a1 a2 a3 a4 a6 a5
    have K' := K.p a4
    have hW' : WFr (dE d) (hr u 32) := (wfa_hr K.o a1 a3).1
    rw [show F - k = (F - (k + 1)) + 1 by omega, pCB] at a5
    refine v_Planner_cleanBy_11 74 _ _ t hS K.hm ⟨fun c => absurd ((hx k (by omega)).mp c) (by omega), fun _ => f_House_isSorted hS (HS32 hS) K.et K.o K'.tc hW' (fun q => ⟨fun c => absurd c (by decide), fun _ => GI.r ?_⟩) (fun q => ⟨fun _ => ?_, fun c => absurd rfl c⟩)⟩
    · rw [if_pos (show cln (eV (dE d) f sd) False N' from (q_cln K.o a1 hW').mp q)] at a5
      rw [a5]; exact h u a4 a6
    · rw [if_neg (show ¬ cln (eV (dE d) f sd) False N' from fun w => q ((q_cln K.o a1 hW').mpr w))] at a5
      refine k_goMinute K' HB32 (HS32 hS) a2 a1 a3 (fun v b1 b2 b3 => ?_)
      rw [nI_1]
      exact ih v _ b1 b2 (WFA.min (e := eV (dE d) f sd) K.ea a3) (a4.tr (b3.P (Or.inl rfl) K.et)) (by rw [b3.1 31 (by omega) (by omega) (by omega) (by have := K.et; omega)]; exact a6) a5
theorem k_rcleanBy {R : Int32 → MS → Prop} (hS : SX g) (hO : TOk d) (K : KR d lv s) (hf : s.1 164 = f) (hs : s.1 120 61 = sd) (hfb : ∀ h, h < nH d → ∃ x, 1 ≤ x ∧ x ≤ 30 ∧ f h = nI x) (hN : nm (dE d) (s.1 163) = N) (hW : WFA (dE d) N) (h : ∀ u, FrA s u → R (pCB (eV (dE d) f sd) 601 0 N) u) : GI E m_Mo_cleanBy [.ref 120] g s R := by
  refine v_Mo_cleanBy (Q := qI g R) ?_
  refine upto (P := fun k => ∀ u N', nm (dE d) (u.1 163) = N' → WFA (dE d) N' → FrA s u → pCB (eV (dE d) f sd) (601 - k) k N' = pCB (eV (dE d) f sd) 601 0 N → AWP E m_Mo_cleanBy 2 0 0 [(0, .ref 120), (1, .int (nI k))] [] (mk g u) (qI g R)) 601 ?_ ?_ 0 (Nat.zero_le _) s N hN hW (FrA.rf s) rfl
  · intro u N' a1 a3 a4 a5
    refine v_Mo_cleanBy_2 _ hS (pk_lt 600 601 (fun _ => GI.r ?_) (fun q => absurd q (by omega)))
    rw [Nat.sub_self, pCB] at a5
    rw [a5]; exact h u a4
  · intro k hk ih u N' a1 a3 a4 a5
    have K' := K.mv a4.R
    have hW' : WFr (dE d) (u.1 163) := (WFA.of_nm hO.r8 (by rw [a1]; exact a3)).1
    rw [show 601 - k = (601 - (k + 1)) + 1 by omega, pCB] at a5
    refine v_Mo_cleanBy_2 _ hS (pk_lt 600 k (fun q => absurd q (by omega)) (fun _ => f_Mo_isCleanNow hS hO K'.1 K'.2.1 K'.2.2.1 hW' (all := False) (by simp) (fun q => ⟨fun c => absurd c (by decide), fun _ => GI.r ?_⟩) (fun q => ⟨fun _ => ?_, fun c => absurd rfl c⟩)))
    · rw [if_pos (show cln (eV (dE d) f sd) False N' from (q_cln hO a1 hW').mp q)] at a5
      rw [a5]; exact h u a4
    · rw [if_neg (show ¬ cln (eV (dE d) f sd) False N' from fun w => q ((q_cln hO a1 hW').mpr w))] at a5
      refine k_minuteGoes hS hO K' (a4.fa.trans hf) (a4.l.trans hs) a1 a3 (fun v b1 b3 => ?_)
      rw [nI_1]
      exact ih v _ b1 (WFA.min (e := eV (dE d) f sd) (EA.v hO hfb sd) a3) (a4.tr b3) a5
theorem x600 : ∀ k, k ≤ 601 → ((600 : Int32) < nI k ↔ k = 601) := by
  intro k hk
  rw [show (600 : Int32) = nI 600 from rfl, nI_ltI (by omega) (by omega)]
  omega
theorem c_clean {R : Int32 → MS → Prop} (P : PC d g t N s) (h : ∀ u, FrP t s u → R (pCB (dE d) 601 0 N) u) : GI E m_Rs_clean [.ref 16] g s R :=
  v_Rs_clean (Q := qI g R) P.1.sx (k_cleanBy P.1 P.2.1 P.2.2.1 P.2.2.2.1 (F := 601) (by omega) x600 (fun u hu _ => GI.r (h u hu)))
theorem r_clean {R : Int32 → MS → Prop} (hS : SX g) (hO : TOk d) (P : PR d lv N s) (hW : RW d 400000 N) (h : ∀ u, FrR s u → R (pCB (dE d) 601 0 N) u) : GI E m_Mo_clean [.ref 120] g s R :=
  v_Mo_clean (Q := qI g R) hS (k_copies hS P.1 P.2 (fun _ a1 a2 a3 a4 => k_rcleanBy hS hO (P.1.mv a4) a1 a2 hO.fa a3 hW.1 (fun u hu => GI.r (h u (a4.tr hu.R)))))
/-! starves -/
def starvesA (d : TD) (N : Row) (x : Int32) : Int32 := if 0 ≤ x ∧ x < nI (nR d) then pSt (dE d) x.toNatClampNeg 601 0 N else -1
theorem c_starves {R : Int32 → MS → Prop} {x : Int32} (P : PC d g t N s) (h : ∀ u, FrP t s u → R (starvesA d N x) u) : GI E m_Rs_starves [.ref 16, .int x] g s R := by
  have hS := P.1.sx
  have h8 := P.1.o.r8
  refine v_Rs_starves (Q := qI g R) _ t hS P.1.et P.1.ht ?_
  rw [P.1.tc.ra]
  refine f_Rs_isOf (fun q => ⟨fun _ => GI.r ?_, fun c => absurd rfl c⟩) (fun q => ⟨fun c => absurd c (by decide), fun _ => ?_⟩)
  · have := h s (FrP.rf t s)
    rw [starvesA, if_neg q] at this
    exact this
  · obtain ⟨r, hr', rfl⟩ := lt_ex (by omega) q
    have hre : r < eR (dE d) := hr'
    have hh : ∀ u, FrP t s u → R (pSt (dE d) r 601 0 N) u := fun u hu => by
      have := h u hu
      rw [starvesA, if_pos q, tn_n (by omega)] at this
      exact this
    refine v_Planner_starvesBy (Q := qI g fun y2_ t2_ => qI g R (some (.int y2_)) (mk g t2_)) 74 _ hS (k_take32 hS P.1.et P.2.1 P.2.2.1 (fun u h1 h2 h3 => ?_))
    refine upto (P := fun k => ∀ u N', nm (dE d) (hr u 32) = N' → CH 32 u → WFA (dE d) N' → FrP t s u → pSt (dE d) r (601 - k) k N' = pSt (dE d) r 601 0 N → AWP E m_Planner_starvesBy 11 0 0 [(0, .ref 31), (1, .ref 28), (2, .ref 74), (3, .int (nI r)), (4, .int (nI k))] [] (mk g u) (qI g fun y2_ t2_ => qI g R (some (.int y2_)) (mk g t2_))) 601 ?_ ?_ 0 (Nat.zero_le _) u N h1 h2 P.2.2.2.1 h3 rfl
    · intro u N' a1 a2 a3 a4 a5
      refine v_Planner_starvesBy_11 74 _ _ hS (pk_lt 600 601 (fun _ => GI.r (GI.r ?_)) (fun q => absurd q (by omega)))
      rw [Nat.sub_self, pSt] at a5
      rw [a5]; exact hh u a4
    · intro k hk ih u N' a1 a2 a3 a4 a5
      have K' := P.1.p a4
      rw [show 601 - k = (601 - (k + 1)) + 1 by omega, pSt] at a5
      have e1 : u.1 (36 + r) 4 = N' (74 + r) := by
        have := hr74 u 32 (r := r) (by omega)
        rw [q_at a1 (lvb_of (by omega))] at this
        exact this.symm
      refine v_Planner_starvesBy_11 74 _ _ hS (pk_lt 600 k (fun q => absurd q (by omega)) (fun _ => ⟨vp_in_nI (by omega) (by omega), ?_⟩))
      rw [tn_n (by omega), e1]
      have w9 := (a3.2.1.2.2 r hre).2.2.2
      refine ⟨fun c => ?_, fun c => GI.r (GI.r ?_)⟩
      · rw [if_neg (fun w => by rw [w] at c; exact absurd c (by decide))] at a5
        refine k_goMinute K' HB32 (HS32 hS) a2 a1 a3 (fun v b1 b2 b3 => ?_)
        rw [nI_1]
        exact ih v _ b1 b2 (WFA.min (e := dE d) P.1.ea a3) (a4.tr (b3.P (Or.inl rfl) P.1.et)) a5
      · rw [if_pos (Int32.le_antisymm w9 (Int32.not_lt.mp c))] at a5
        rw [a5]; exact hh u a4
theorem r_starves {R : Int32 → MS → Prop} {x : Int32} (hS : SX g) (hO : TOk d) (P : PR d lv N s) (hW : RW d 400000 N) (h : ∀ u, FrR s u → R (starvesA d N x) u) : GI E m_Mo_starves [.ref 120, .int x] g s R := by
  have h8 := hO.r8
  refine v_Mo_starves (Q := qI g R) _ hS (f_Mo_isRat hS hO P.1 (fun q => ⟨fun _ => GI.r ?_, fun c => absurd rfl c⟩) (fun q => ⟨fun c => absurd c (by decide), fun _ => ?_⟩))
  · have := h s (FrR.rf s)
    rw [starvesA, if_neg q] at this
    exact this
  · obtain ⟨r, hr', rfl⟩ := lt_ex (by omega) q
    have hre : r < eR (dE d) := hr'
    have hh : ∀ u, FrR s u → R (pSt (dE d) r 601 0 N) u := fun u hu => by
      have := h u hu
      rw [starvesA, if_pos q, tn_n (by omega)] at this
      exact this
    refine k_copies hS P.1 P.2 (fun v a1 a2 a3 a4 => ?_)
    refine upto (P := fun k => ∀ u N', nm (dE d) (u.1 163) = N' → WFA (dE d) N' → FrA v u → pSt (dE d) r (601 - k) k N' = pSt (dE d) r 601 0 N → AWP E m_Mo_starves 16 0 0 [(0, .ref 120), (1, .int (nI r)), (2, .int (nI k))] [] (mk g u) (qI g R)) 601 ?_ ?_ 0 (Nat.zero_le _) v N a3 hW.1 (FrA.rf v) rfl
    · intro u N' b1 b3 b4 b5
      refine v_Mo_starves_16 _ _ hS (pk_lt 600 601 (fun _ => GI.r ?_) (fun q => absurd q (by omega)))
      rw [Nat.sub_self, pSt] at b5
      rw [b5]; exact hh u (a4.tr b4.R)
    · intro k hk ih u N' b1 b3 b4 b5
      have K' := P.1.mv (a4.tr b4.R)
      rw [show 601 - k = (601 - (k + 1)) + 1 by omega, pSt] at b5
      refine v_Mo_starves_16 _ _ hS (pk_lt 600 k (fun q => absurd q (by omega)) (fun _ => ⟨vi74 (by omega), ?_⟩))
      rw [ix74 (by omega), q_at b1 (lvb_of (by omega))]
      refine ⟨fun c => GI.r ?_, fun c => ?_⟩
      · rw [if_pos c] at b5
        rw [b5]; exact hh u (a4.tr b4.R)
      · rw [if_neg c] at b5
        refine k_minuteGoes hS hO K' (b4.fa.trans a1) (b4.l.trans a2) b1 b3 (fun w c1 c3 => ?_)
        rw [nI_1]
        exact ih w _ c1 (WFA.min (e := dE d) hO.1 b3) (b4.tr c3) b5
/-! mean -/
def meanA (d : TD) (N : Row) (x1 x2 : Int32) : Int32 := if (1 ≤ x1 ∧ x1 ≤ 20) ∧ 0 ≤ x2 ∧ x2 ≤ 600 then pMe d x2.toNatClampNeg N x1.toNatClampNeg else -1
theorem c_mean {R : Int32 → MS → Prop} {x1 x2 : Int32} (P : PC d g t N s) (h : ∀ u, FrP t s u → R (meanA d N x1 x2) u) : GI E m_Rs_mean [.ref 16, .int x1, .int x2] g s R := by
  have hS := P.1.sx
  have no : ¬ ((1 ≤ x1 ∧ x1 ≤ 20) ∧ 0 ≤ x2 ∧ x2 ≤ 600) → R (-1) s := by
    intro w
    have := h s (FrP.rf t s)
    rw [meanA, if_neg w] at this
    exact this
  refine v_Rs_mean (Q := qI g R) _ _ hS ⟨fun c => GI.r (no fun w => absurd c (Int32.not_lt.mpr w.1.1)), fun c => ⟨fun c2 => GI.r (no fun w => absurd c2 (Int32.not_lt.mpr w.1.2)), fun c2 => f_Rs_isMinutes (fun q => ⟨fun _ => GI.r (no fun w => q w.2), fun c => absurd rfl c⟩) (fun q => ⟨fun c => absurd c (by decide), fun _ => ?_⟩)⟩⟩
  have q1 : 1 ≤ x1 ∧ x1 ≤ 20 := ⟨Int32.not_lt.mp c, Int32.not_lt.mp c2⟩
  obtain ⟨m, hm, rfl⟩ := le_ex (n := 20) (by decide) rfl ⟨Int32.le_trans (by decide) q1.1, q1.2⟩
  obtain ⟨n, hn, rfl⟩ := le_ex (n := 600) (by decide) rfl q
  have hh : ∀ u, FrP t s u → R (pMe d n N m) u := fun u hu => by
    have := h u hu
    rw [meanA, if_pos ⟨q1, q⟩, tn_n (by omega), tn_n (by omega)] at this
    exact this
  refine v_Planner_misplacedOf (Q := qI g fun y2_ t2_ => qI g R (some (.int y2_)) (mk g t2_)) 74 _ _ ?_
  refine upto (P := fun k => ∀ u, FrG t s u → u.1 29 = s.1 29 → (∀ j, j ≠ 4 → j ≠ 2 → u.1 28 j = s.1 28 j) → AWP E m_Planner_misplacedOf 6 0 0 [(0, .ref 31), (1, .ref 28), (2, .ref 74), (3, .int (nI m)), (4, .int (nI n)), (5, .int (pMe d n N k)), (6, .int (nI k))] [] (mk g u) (qI g fun y2_ t2_ => qI g R (some (.int y2_)) (mk g t2_))) m ?_ ?_ 0 (Nat.zero_le _) s (FrG.rf t s) rfl (fun _ _ _ => rfl)
  · intro u a1 a2 a3
    refine v_Planner_misplacedOf_6 74 _ _ _ _ t hS P.1.et P.1.hm (pk_le m m (fun _ s1 e1 => GI.r (GI.r (hh s1 ?_))) (fun q => absurd q (by omega)))
    have tc : TC d t u := P.1.tc.mv (fun a h1 h2 => a1.1 a (by have := P.1.et; omega) (by omega))
    rw [tc.sd] at e1
    refine ⟨a1.tr ⟨fun a h1 h2 => by rw [e1, wi_n _ _ _ (by omega)], fun j _ => by rw [e1, wi_n _ _ _ (by decide)], by rw [e1, wi_2]⟩, by rw [e1, wi_n _ _ _ (by decide)]; exact a2, fun j hj => ?_⟩
    rw [e1, wi_s, upd_a]
    by_cases e : j = 2
    · rw [if_pos e, e]; exact P.1.2.2.2.2.2.2.2.1.symm
    · rw [if_neg e]; exact a3 j hj e
  · intro k hk ih u a1 a2 a3
    refine v_Planner_misplacedOf_6 74 _ _ _ _ t hS P.1.et P.1.hm (pk_le m k (fun q => absurd q (by omega)) (fun _ s1 e1 => ?_))
    have et := P.1.et
    have tc : TC d t u := P.1.tc.mv (fun a h1 h2 => a1.1 a (by omega) (by omega))
    rw [tc.sd] at e1
    have G1 : FrG t s s1 := a1.tr ⟨fun a h1 h2 => by rw [e1, wi_n _ _ _ (by omega)], fun j _ => by rw [e1, wi_n _ _ _ (by decide)], by rw [e1, wi_2]⟩
    have f1 : s1.1 29 = s.1 29 := by rw [e1, wi_n _ _ _ (by decide)]; exact a2
    have K1 : KC d g t (eFa (dE d)) (eSd (dE d) + nI k) s1 := P.1.g G1 (fun j hj => by rw [f1]; exact P.1.2.2.2.2.2.2.1 j hj) (by rw [e1, wi_s, upd_s]) P.1.o.fa
    refine k_take32 (N := N) hS et (by rw [G1.h74 et]; exact P.2.1) (G1.c74 et P.2.2.1) (fun v h1 h2 h3 => ?_)
    refine k_goOn (K1.p h3) HB32 (HS32 hS) h2 h1 P.2.2.2 (by omega) (by omega) (fun w w1 w2 w3 => ?_)
    have F3 : FrP t s1 w := h3.tr (w3.P (Or.inl rfl) et)
    refine k_misplaced (K1.p F3) (HS32 hS) w1 ?_
    rw [nI_1]
    rw [pMe] at ih
    refine ih w (G1.tr F3.1) (F3.2.1.trans f1) (fun j h1 h2 => ?_)
    rw [F3.2.2 j h1, e1, wi_s, upd_n _ _ h2]; exact a3 j h1 h2
theorem r_mean {R : Int32 → MS → Prop} {x1 x2 : Int32} (hS : SX g) (hO : TOk d) (P : PR d lv N s) (hW : RW d 400000 N) (h : ∀ u, FrR s u → R (meanA d N x1 x2) u) : GI E m_Mo_mean [.ref 120, .int x1, .int x2] g s R := by
  have no : ¬ ((1 ≤ x1 ∧ x1 ≤ 20) ∧ 0 ≤ x2 ∧ x2 ≤ 600) → R (-1) s := by
    intro w
    have := h s (FrR.rf s)
    rw [meanA, if_neg w] at this
    exact this
  refine v_Mo_mean (Q := qI g R) _ _ (f_Mo_in (fun q => ⟨fun _ => GI.r (no fun w => q w.1), fun c => absurd rfl c⟩) (fun q1 => ⟨fun c => absurd c (by decide), fun _ => f_Mo_isLong (fun q => ⟨fun _ => GI.r (no fun w => q w.2), fun c => absurd rfl c⟩) (fun q => ⟨fun c => absurd c (by decide), fun _ => ?_⟩)⟩))
  obtain ⟨m, hm, rfl⟩ := le_ex (n := 20) (by decide) rfl ⟨Int32.le_trans (by decide) q1.1, q1.2⟩
  obtain ⟨n, hn, rfl⟩ := le_ex (n := 600) (by decide) rfl q
  have hh : ∀ u, FrR s u → R (pMe d n N m) u := fun u hu => by
    have := h u hu
    rw [meanA, if_pos ⟨q1, q⟩, tn_n (by omega), tn_n (by omega)] at this
    exact this
  refine upto (P := fun k => ∀ u, FrR s u → AWP E m_Mo_mean 24 0 0 [(0, .ref 120), (1, .int (nI m)), (2, .int (nI n)), (3, .int (pMe d n N k)), (4, .int (nI k))] [] (mk g u) (qI g R)) m ?_ ?_ 0 (Nat.zero_le _) s (FrR.rf s)
  · intro u a1
    exact v_Mo_mean_24 _ _ _ _ hS (pk_le m m (fun _ => GI.r (hh u a1)) (fun q => absurd q (by omega)))
  · intro k hk ih u a1
    refine v_Mo_mean_24 _ _ _ _ hS (pk_le m k (fun q => absurd q (by omega)) (fun _ => ?_))
    have P1 := P.mv a1
    refine k_copies hS P1.1 P1.2 (fun v b1 b2 b3 b4 w e1 => ?_)
    have F1 : FrR v w := by
      rw [e1]
      exact ⟨fun a _ _ _ _ _ h6 => wi_n _ _ _ h6, fun j _ h2 _ _ => by rw [wi_s, upd_n _ _ h2], rfl, fun j _ => by rw [wi_n _ _ _ (by decide)]⟩
    have P2 := P1.mv (b4.tr F1)
    refine k_goes hS hO P2.1 (f := eFa (dE d)) (sd := eSd (dE d) + nI k) (by rw [e1, wi_n _ _ _ (by decide)]; exact b1) (by rw [e1, wi_s, upd_s, b2]) (N := N) (by rw [e1, wi_n _ _ _ (by decide)]; exact b3) hW.1 (by omega) (fun z z1 z2 => ?_)
    have P3 := P2.mv z2.R
    refine f_Mo_inHolesF hS hO P3.1.1 P3.1.2.1 P3.1.2.2.1 ?_
    rw [q_mis hO z1, nI_1]
    rw [pMe] at ih
    exact ih z (a1.tr (b4.tr (F1.tr z2.R)))
end Plan2
