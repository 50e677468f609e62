/-! HOW A TEXT BEGINS: House.begin, Model.begins -/
theorem beg_rt {d : TD} {r : Nat} (h8 : nR d ≤ 8) (r8 : r < 8) : beg d (42 + r) = 0 ∧ beg d (50 + r) = 0 ∧ beg d (58 + r) = 0 ∧ beg d (66 + r) = (if r < nR d then -2 else 0) ∧ beg d (74 + r) = 0 ∧ beg d (82 + r) = (if r < nR d then dFt d r else 0) ∧ beg d (90 + r) = (if r < nR d then nI (dKn d r) else 0) ∧ beg d (98 + r) = 0 ∧ beg d (106 + r) = (if r < nR d then -2 else 0) := by
  refine ⟨?_, ?_, ?_, ?_, ?_, ?_, ?_, ?_, ?_⟩
  all_goals unfold beg
  all_goals (repeat' split)
  all_goals first
    | rfl
    | omega
    | (exfalso; omega)
    | (congr 2; omega)
    | (congr 1; omega)
theorem beg_hp {d : TD} {k : Nat} (h : k < 6) : beg d k = if k < nG d then dPo d k else 0 := by unfold beg; rw [if_pos h]
theorem beg_ho {d : TD} {k : Nat} (h8 : nR d ≤ 8) (h : (6 ≤ k ∧ k < 42) ∨ 114 ≤ k) : beg d k = 0 := by
  unfold beg; rw [if_neg (by omega), if_neg (by omega), if_neg (by omega), if_neg (by omega), if_neg (by omega)]
theorem lvb_r {e : PE} {i r : Nat} (hi : i < 9) (r8 : r < 8) : lvb e (42 + 8 * i + r) = decide (r < eR e) := by
  by_cases q : r < eR e
  · rw [lvb_of (by omega)]; simp [q]
  · rw [show decide (r < eR e) = false by simp [q]]
    apply Bool.eq_false_iff.mpr
    intro w
    have := lvb_to w
    omega
theorem nm_rt {e : PE} {R : Row} {i r : Nat} (hi : i < 9) (r8 : r < 8) : nm e R (42 + 8 * i + r) = if r < eR e then R (42 + 8 * i + r) else 0 := by
  rw [nm, lvb_r hi r8]
  by_cases q : r < eR e
  · simp [q]
  · simp [q]
theorem nm_120z {e : PE} {R : Row} {k : Nat} (h : 120 ≤ k) : nm e R k = 0 := by
  rw [nm, if_neg]
  intro w
  have := lvb_to w
  omega
/-- a row is the text's first one -/
theorem nm_beg {d : TD} {R : Row} (h8 : nR d ≤ 8) (a : ∀ k, k < 6 → R k = if k < nG d then dPo d k else 0) (b : ∀ k, 6 ≤ k → k < 42 → R k = 0) (c : ∀ r, r < nR d → R (42 + r) = 0 ∧ R (50 + r) = 0 ∧ R (58 + r) = 0 ∧ R (66 + r) = -2 ∧ R (74 + r) = 0 ∧ R (82 + r) = dFt d r ∧ R (90 + r) = nI (dKn d r) ∧ R (98 + r) = 0 ∧ R (106 + r) = -2) (e : ∀ k, 114 ≤ k → k < 120 → R k = 0) : nm (dE d) R = beg d := by
  have h8' : nR d = eR (dE d) := rfl
  refine row_ext (fun k hk => ?_) (fun k hk => ?_) (fun r hr => ?_) (fun r hr => ?_) (fun r hr => ?_) (fun r hr => ?_) (fun r hr => ?_) (fun r hr => ?_) (fun r hr => ?_) (fun r hr => ?_) (fun r hr => ?_) ?_ ?_ ?_ ?_ ?_ ?_ (fun k hk => ?_)
  · rw [nm42 (by omega), a k hk, beg_hp hk]
  · rw [nm42 (by omega), b _ (by omega) (by omega), beg_ho h8 (by omega)]
  · rw [show 42 + r = 42 + 8 * 0 + r by omega, nm_rt (by decide) hr, show 42 + 8 * 0 + r = 42 + r by omega, (beg_rt h8 hr).1, ← h8']
    split
    · rename_i q; exact (c r q).1
    · rfl
  · rw [show 50 + r = 42 + 8 * 1 + r by omega, nm_rt (by decide) hr, show 42 + 8 * 1 + r = 50 + r by omega, (beg_rt h8 hr).2.1, ← h8']
    split
    · rename_i q; exact (c r q).2.1
    · rfl
  · rw [show 58 + r = 42 + 8 * 2 + r by omega, nm_rt (by decide) hr, show 42 + 8 * 2 + r = 58 + r by omega, (beg_rt h8 hr).2.2.1, ← h8']
    split
    · rename_i q; exact (c r q).2.2.1
    · rfl
  · rw [show 66 + r = 42 + 8 * 3 + r by omega, nm_rt (by decide) hr, show 42 + 8 * 3 + r = 66 + r by omega, (beg_rt h8 hr).2.2.2.1, ← h8']
    split
    · rename_i q; exact (c r q).2.2.2.1
    · rfl
  · rw [show 74 + r = 42 + 8 * 4 + r by omega, nm_rt (by decide) hr, show 42 + 8 * 4 + r = 74 + r by omega, (beg_rt h8 hr).2.2.2.2.1, ← h8']
    split
    · rename_i q; exact (c r q).2.2.2.2.1
    · rfl
  · rw [show 82 + r = 42 + 8 * 5 + r by omega, nm_rt (by decide) hr, show 42 + 8 * 5 + r = 82 + r by omega, (beg_rt h8 hr).2.2.2.2.2.1, ← h8']
    split
    · rename_i q; exact (c r q).2.2.2.2.2.1
    · rfl
  · rw [show 90 + r = 42 + 8 * 6 + r by omega, nm_rt (by decide) hr, show 42 + 8 * 6 + r = 90 + r by omega, (beg_rt h8 hr).2.2.2.2.2.2.1, ← h8']
    split
    · rename_i q; exact (c r q).2.2.2.2.2.2.1
    · rfl
  · rw [show 98 + r = 42 + 8 * 7 + r by omega, nm_rt (by decide) hr, show 42 + 8 * 7 + r = 98 + r by omega, (beg_rt h8 hr).2.2.2.2.2.2.2.1, ← h8']
    split
    · rename_i q; exact (c r q).2.2.2.2.2.2.2.1
    · rfl
  · rw [show 106 + r = 42 + 8 * 8 + r by omega, nm_rt (by decide) hr, show 42 + 8 * 8 + r = 106 + r by omega, (beg_rt h8 hr).2.2.2.2.2.2.2.2, ← h8']
    split
    · rename_i q; exact (c r q).2.2.2.2.2.2.2.2
    · rfl
  · rw [nm_at (lvb_of (by omega)), e 114 (by omega) (by omega), beg_ho h8 (by omega)]
  · rw [nm_at (lvb_of (by omega)), e 115 (by omega) (by omega), beg_ho h8 (by omega)]
  · rw [nm_at (lvb_of (by omega)), e 116 (by omega) (by omega), beg_ho h8 (by omega)]
  · rw [nm_at (lvb_of (by omega)), e 117 (by omega) (by omega), beg_ho h8 (by omega)]
  · rw [nm_at (lvb_of (by omega)), e 118 (by omega) (by omega), beg_ho h8 (by omega)]
  · rw [nm_at (lvb_of (by omega)), e 119 (by omega) (by omega), beg_ho h8 (by omega)]
  · rw [nm_120z hk, beg_ho h8 (by omega)]
section Begin
variable {E : EN} {d : TD} {t lv : Nat} {g : GS} {s : MS} {b : Nat}
/-- a rat of a House as it begins -/
def RBg (d : TD) (b r : Nat) (u : MS) : Prop := u.1 (b + 4 + r) 0 = 0 ∧ u.1 (b + 4 + r) 1 = 0 ∧ u.1 (b + 4 + r) 2 = 0 ∧ u.1 (b + 4 + r) 4 = 0 ∧ u.1 (b + 4 + r) 5 = dFt d r ∧ u.1 (b + 4 + r) 6 = nI (dKn d r) ∧ u.1 (b + 4 + r) 7 = 0
theorem f_House_begin {R : MS → Prop} (hS : SX g) (hH : HS g b) (hb : HB b) (et : t = 88 ∨ t = 104) (hO : TOk d) (hT : TC d t s) (hC : CH b s) (h : ∀ u, nm (dE d) (hr u b) = beg d → CH b u → FrH b s u → R u) : GV E m_House_begin [.ref b, .ref t] g s R := by
  have g6 := hO.g6
  have r8 := hO.r8
  have hb' := hb
  unfold HB at hb'
  have tc : ∀ u, FrH b s u → TC d t u := fun u hu => hT.mv (fun a h1 h2 => hu.1 a (by omega))
  have n1 : ∀ x : Nat, x ≠ b + 1 → ∀ (z : MS) k v, (wi z (b + 1) k v).1 x = z.1 x := fun x hx z k v => wi_n z k v hx
  have last : ∀ u, (∀ j, j < 6 → u.1 (b + 1) j = if j < nG d then dPo d j else 0) → (∀ j, j < 36 → u.1 (b + 2) j = 0) → (∀ r, r < nR d → RBg d b r u) → CH b u → FrH b s u → AWP E m_House_begin 64 0 0 [(0, .ref b), (1, .ref t), (2, .int (nI (nR d)))] [] (mk g u) (qV g R) := by
    intro u a1 a2 a3 a4 a5
    refine v_House_begin_64 b t _ hS hH et ?_
    rw [(tc u a5).ra]
    refine pk_le (nR d) (nR d) (fun _ s1 e1 s2 e2 s3 e3 s4 e4 s5 e5 s6 e6 => GV.r (h s6 ?_ ?_ ?_)) (fun q => absurd q (by omega))
    · have eb : ∀ x, x ≠ b → s6.1 x = u.1 x := fun x hx => by rw [e6, wi_n _ _ _ hx, e5, wi_n _ _ _ hx, e4, wi_n _ _ _ hx, e3, wi_n _ _ _ hx, e2, wi_n _ _ _ hx, e1, wi_n _ _ _ hx]
      have ez : ∀ j, 3 ≤ j → j ≤ 8 → s6.1 b j = 0 := fun j j1 j2 => by
        rw [e6, wi_s, e5, wi_s, e4, wi_s, e3, wi_s, e2, wi_s, e1, wi_s]
        have : j = 3 ∨ j = 4 ∨ j = 5 ∨ j = 6 ∨ j = 7 ∨ j = 8 := by omega
        rcases this with rfl | rfl | rfl | rfl | rfl | rfl <;> simp [upd]
      refine nm_beg r8 (fun k hk => ?_) (fun k k1 k2 => ?_) (fun r hr' => ?_) (fun k k1 k2 => ?_)
      · rw [hr_hp _ _ hk, eb _ (by omega)]; exact a1 k hk
      · rw [show k = 6 + (k - 6) by omega, hr_ho _ _ (by omega), eb _ (by omega)]; exact a2 _ (by omega)
      · obtain ⟨w0, w1, w2, w4, w5, w6, w7⟩ := a3 r hr'
        have l8 : r < 8 := by omega
        have en : s6.1 (b + 4 + r) = u.1 (b + 4 + r) := eb _ (by omega)
        rw [hr42 _ _ l8, hr50 _ _ l8, hr58 _ _ l8, hr66 _ _ l8, hr74 _ _ l8, hr82 _ _ l8, hr90 _ _ l8, hr98 _ _ l8, hr106 _ _ l8, en, w0, w1, w2, w4, w5, w6, w7]
        exact ⟨rfl, rfl, rfl, rfl, rfl, rfl, rfl, rfl, rfl⟩
      · have : k = 114 ∨ k = 115 ∨ k = 116 ∨ k = 117 ∨ k = 118 ∨ k = 119 := by omega
        rcases this with rfl | rfl | rfl | rfl | rfl | rfl
        · rw [hr114]; exact ez 3 (by omega) (by omega)
        · rw [hr115]; exact ez 5 (by omega) (by omega)
        · rw [hr116]; exact ez 6 (by omega) (by omega)
        · rw [hr117]; exact ez 7 (by omega) (by omega)
        · rw [hr118]; exact ez 4 (by omega) (by omega)
        · rw [hr119]; exact ez 8 (by omega) (by omega)
    · rw [e6, e5, e4, e3, e2, e1]
      exact (((((a4.wi (by omega)).wi (by omega)).wi (by omega)).wi (by omega)).wi (by omega)).wi (by omega)
    · rw [e6, e5, e4, e3, e2, e1]
      exact a5.tr ((FrH.w (by omega) (by omega)).tr ((FrH.w (by omega) (by omega)).tr ((FrH.w (by omega) (by omega)).tr ((FrH.w (by omega) (by omega)).tr ((FrH.w (by omega) (by omega)).tr (FrH.w (by omega) (by omega)))))))
  have third : ∀ u, (∀ j, j < 6 → u.1 (b + 1) j = if j < nG d then dPo d j else 0) → (∀ j, j < 36 → u.1 (b + 2) j = 0) → CH b u → FrH b s u → AWP E m_House_begin 64 0 0 [(0, .ref b), (1, .ref t), (2, .int (nI 0))] [] (mk g u) (qV g R) := by
    intro u0 p1 p2 p3 p4
    refine upto (P := fun k => ∀ u, (∀ j, j < 6 → u.1 (b + 1) j = if j < nG d then dPo d j else 0) → (∀ j, j < 36 → u.1 (b + 2) j = 0) → (∀ r, r < k → RBg d b r u) → CH b u → FrH b s u → AWP E m_House_begin 64 0 0 [(0, .ref b), (1, .ref t), (2, .int (nI k))] [] (mk g u) (qV g R)) (nR d) last ?_ 0 (Nat.zero_le _) u0 p1 p2 (fun r hr' => absurd hr' (by omega)) p3 p4
    intro k hk ih u a1 a2 a3 a4 a5
    refine v_House_begin_64 b t _ hS hH et ?_
    have T := tc u a5
    obtain ⟨q1, -, q3, -⟩ := T.rt hk
    rw [T.ra, tn_n (by omega), nI_1 k, q1, q3]
    refine pk_le (nR d) k (fun q => absurd q (by omega)) (fun _ => ⟨vp_in_nI (by omega) (by omega), ?_⟩)
    refine v_Rat_begin (Q := qV g _) (b + 4 + k) _ _ (hH.2.2.2.2.2.2.2 k (by omega)).2 (fun s1 e1 s2 e2 s3 e3 s4 e4 s5 e5 s6 e6 s7 e7 s8 e8 s9 e9 => GV.r (ih s9 ?_ ?_ ?_ ?_ ?_))
    all_goals have eb : ∀ x, x ≠ b + 4 + k → s9.1 x = u.1 x := fun x hx => by rw [e9, wi_n _ _ _ hx, e8, wi_n _ _ _ hx, e7, wi_n _ _ _ hx, e6, wi_n _ _ _ hx, e5, wi_n _ _ _ hx, e4, wi_n _ _ _ hx, e3, wi_n _ _ _ hx, e2, wi_n _ _ _ hx, e1, wi_n _ _ _ hx]
    · rw [eb _ (by omega)]; exact a1
    · rw [eb _ (by omega)]; exact a2
    · intro r hr'
      by_cases z : r = k
      · subst z
        unfold RBg
        rw [e9, wi_s, e8, wi_s, e7, wi_s, e6, wi_s, e5, wi_s, e4, wi_s, e3, wi_s, e2, wi_s, e1, wi_s]
        refine ⟨?_, ?_, ?_, ?_, ?_, ?_, ?_⟩ <;> simp [upd]
      · unfold RBg
        rw [eb _ (by omega)]; exact a3 r (by omega)
    · intro r hr'
      by_cases z : r = k
      · subst z
        refine ⟨0, by decide, ?_⟩
        rw [e9, wi_s, e8, wi_s, e7, wi_s, e6, wi_s, e5, wi_s, e4, wi_s, e3, wi_s, e2, wi_s, e1, wi_s]
        simp [upd]; rfl
      · rw [eb _ (by omega)]; exact a4 r hr'
    · refine a5.tr ⟨fun a ha => eb a (by omega), ?_⟩
      rw [e9, wi_2, e8, wi_2, e7, wi_2, e6, wi_2, e5, wi_2, e4, wi_2, e3, wi_2, e2, wi_2, e1, wi_2]
  have second : ∀ u, (∀ j, j < 6 → u.1 (b + 1) j = if j < nG d then dPo d j else 0) → CH b u → FrH b s u → AWP E m_House_begin 40 0 0 [(0, .ref b), (1, .ref t), (2, .int (nI 0))] [] (mk g u) (qV g R) := by
    intro u0 p1 p3 p4
    refine upto (P := fun k => ∀ u, (∀ j, j < 6 → u.1 (b + 1) j = if j < nG d then dPo d j else 0) → (∀ j, j < k → u.1 (b + 2) j = 0) → CH b u → FrH b s u → AWP E m_House_begin 40 0 0 [(0, .ref b), (1, .ref t), (2, .int (nI k))] [] (mk g u) (qV g R)) 36 ?_ ?_ 0 (Nat.zero_le _) u0 p1 (fun r hr' => absurd hr' (by omega)) p3 p4
    · intro u a1 a2 a4 a5
      exact v_House_begin_40 b t _ hH (pk_le 36 36 (fun _ => third u a1 a2 a4 a5) (fun q => absurd q (by omega)))
    · intro k hk ih u a1 a2 a4 a5
      refine v_House_begin_40 b t _ hH (pk_le 36 k (fun q => absurd q (by omega)) (fun _ => ?_))
      rw [tn_n (by omega), nI_1 k]
      refine ⟨vp_in_nI (by omega) (by omega), fun s1 e1 => ih s1 ?_ ?_ ?_ ?_⟩
      · rw [e1, wi_n _ _ _ (by omega)]; exact a1
      · intro j hj
        rw [e1, wi_s, upd_a]
        split
        · rfl
        · exact a2 j (by omega)
      · rw [e1]; exact a4.wi (by omega)
      · rw [e1]; exact a5.tr (FrH.w (by omega) (by omega))
  refine v_House_begin (Q := qV g R) b t ?_
  refine upto (P := fun k => ∀ u, (∀ j, j < k → u.1 (b + 1) j = if j < nG d then dPo d j else 0) → CH b u → FrH b s u → AWP E m_House_begin 2 0 0 [(0, .ref b), (1, .ref t), (2, .int (nI k))] [] (mk g u) (qV g R)) 6 ?_ ?_ 0 (Nat.zero_le _) s (fun r hr' => absurd hr' (by omega)) hC (FrH.rf b s)
  · intro u a1 a4 a5
    exact v_House_begin_2 b t _ hS hH et (pk_le 6 6 (fun _ => second u a1 a4 a5) (fun q => absurd q (by omega)))
  · intro k hk ih u a1 a4 a5
    refine v_House_begin_2 b t _ hS hH et (pk_le 6 k (fun q => absurd q (by omega)) (fun _ => ?_))
    have T := tc u a5
    rw [T.gr, tn_n (by omega), nI_1 k]
    have fi : ∀ v, v = (if k < nG d then dPo d k else 0) → ∀ s1, s1 = wi u (b + 1) k v → AWP E m_House_begin 2 0 0 [(0, .ref b), (1, .ref t), (2, .int (nI (k + 1)))] [] (mk g s1) (qV g R) := by
      intro v hv s1 e1
      refine ih s1 ?_ ?_ ?_
      · intro j hj
        rw [e1, wi_s, upd_a]
        split
        · rename_i z; rw [z]; exact hv
        · exact a1 j (by omega)
      · rw [e1]; exact a4.wi (by omega)
      · rw [e1]; exact a5.tr (FrH.w (by omega) (by omega))
    refine pk_le (nG d) k (fun q => ⟨vp_in_nI (by omega) (by omega), fun s1 e1 => fi 0 ?_ s1 e1⟩) (fun q => ⟨vp_in_nI (by omega) (by omega), fun s1 e1 => fi _ ?_ s1 e1⟩)
    · rw [if_neg (by omega)]
    · rw [if_pos (by omega)]; exact T.po (by omega)
end Begin
