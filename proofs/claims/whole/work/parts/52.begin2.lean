/-! Model.begins; the first row is well formed -/
section Begin2
variable {E : EN} {d : TD} {t lv : Nat} {g : GS} {s : MS} {b : Nat}
theorem f_Mo_begins {R : MS → Prop} (hS : SX g) (hO : TOk d) (K : KR d lv s) (h : ∀ u, u.1 164 = eFa (dE d) → u.1 120 61 = eSd (dE d) → nm (dE d) (u.1 163) = beg d → FrR s u → (∀ j, j ≠ 61 → u.1 120 j = s.1 120 j) → R u) : GV E m_Mo_begins [.ref 120] g s R := by
  have g6 := hO.g6
  have r8 := hO.r8
  have hv := K.2.2.1
  have ky : ∀ f, KR d lv (si s 163 f) := fun f => K.mv (FrR.si163 s f)
  have at163 : ∀ f, (si s 163 f).1 163 = f := fun f => by simp [si]
  have third : ∀ f : Row, (∀ j, j < 6 → f j = if j < nG d then dPo d j else 0) → (∀ j, 6 ≤ j → j < 120 → f j = 0) → AWP E m_Mo_begins 64 0 0 [(0, .ref 120), (1, .int (nI 0))] [] (mk g (si s 163 f)) (qV g R) := by
    intro f0 p1 p2
    refine upto (P := fun k => ∀ f : Row, (∀ j, j < 6 → f j = if j < nG d then dPo d j else 0) → (∀ j, 6 ≤ j → j < 42 → f j = 0) → (∀ r, r < 8 → f (42 + r) = 0 ∧ f (50 + r) = 0 ∧ f (58 + r) = 0 ∧ f (74 + r) = 0 ∧ f (98 + r) = 0) → (∀ r, r < k → r < nR d → f (66 + r) = -2 ∧ f (82 + r) = dFt d r ∧ f (90 + r) = nI (dKn d r) ∧ f (106 + r) = -2) → (∀ j, 114 ≤ j → j < 120 → f j = 0) → AWP E m_Mo_begins 64 0 0 [(0, .ref 120), (1, .int (nI k))] [] (mk g (si s 163 f)) (qV g R)) 8 ?_ ?_ 0 (Nat.zero_le _) f0 p1 (fun j j1 j2 => p2 j j1 (by omega)) (fun r hr' => ⟨p2 _ (by omega) (by omega), p2 _ (by omega) (by omega), p2 _ (by omega) (by omega), p2 _ (by omega) (by omega), p2 _ (by omega) (by omega)⟩) (fun r hr' => absurd hr' (by omega)) (fun j j1 j2 => p2 j (by omega) j2)
    · intro f a1 a2 a3 a4 a5
      have K' := ky f
      refine v_Mo_begins_64 _ hS (pk_le 8 8 (fun _ => ?_) (fun q => absurd q (by omega)))
      refine f_Mo_plainly hS K'.1 K'.2.1 hv K'.2.2.2 (fun u b1 b2 b3 b4 b5 => GV.r (h u b1 b2 ?_ ((FrR.si163 s f).tr b4) (fun j hj => by rw [b5 j hj]; simp [si])))
      rw [b3, at163]
      refine nm_beg r8 a1 a2 (fun r hr' => ?_) a5
      obtain ⟨w1, w2, w3, w4, w5⟩ := a3 r (by omega)
      obtain ⟨x1, x2, x3, x4⟩ := a4 r (by omega) hr'
      exact ⟨w1, w2, w3, x1, w4, x2, x3, w5, x4⟩
    · intro k hk ih f a1 a2 a3 a4 a5
      have K' := ky f
      refine v_Mo_begins_64 _ hS (pk_le 8 k (fun q => absurd q (by omega)) (fun _ => ?_))
      rw [ix66 hk, ix82 hk, ix90 hk, ix106 hk]
      refine ⟨vi66 hk, fun s2 e2 => ?_⟩
      have f2 : s2 = si s 163 (upd f (66 + k) (-2)) := by rw [e2, wi_si]
      rw [f2, (ky _).2.1, y8, tn_n (by omega), nI_1 k]
      refine ⟨vp_in_nI (by omega) (by omega), vi82 hk, fun s3 e3 => ⟨vi90 hk, fun s4 e4 => ⟨vi106 hk, fun s5 e5 => ?_⟩⟩⟩
      have n0 : ∀ x, x ≠ 163 → ∀ f : Row, (si s 163 f).1 x = s.1 x := fun x hx f => by simp [si, hx]
      have f3 : s3 = si s 163 (upd (upd f (66 + k) (-2)) (82 + k) (s.1 140 (8 * lv + k))) := by rw [e3, wi_si]; rw [n0 140 (by decide)]
      have f4 : s4 = si s 163 (upd (upd (upd f (66 + k) (-2)) (82 + k) (s.1 140 (8 * lv + k))) (90 + k) (s.1 138 (8 * lv + k))) := by
        rw [e4, f3, wi_si, n0 138 (by decide)]
      have f5 : s5 = si s 163 (upd (upd (upd (upd f (66 + k) (-2)) (82 + k) (s.1 140 (8 * lv + k))) (90 + k) (s.1 138 (8 * lv + k))) (106 + k) (-2)) := by
        rw [e5, f4, wi_si]
      rw [f5]
      refine ih _ (fun j hj => ?_) (fun j j1 j2 => ?_) (fun r hr' => ?_) (fun r hr' hR => ?_) (fun j j1 j2 => ?_)
      · rw [upd_n _ _ (by omega), upd_n _ _ (by omega), upd_n _ _ (by omega), upd_n _ _ (by omega)]; exact a1 j hj
      · rw [upd_n _ _ (by omega), upd_n _ _ (by omega), upd_n _ _ (by omega), upd_n _ _ (by omega)]; exact a2 j j1 j2
      · have oo : ∀ j, j ≠ 66 + k → j ≠ 82 + k → j ≠ 90 + k → j ≠ 106 + k → upd (upd (upd (upd f (66 + k) (-2)) (82 + k) (s.1 140 (8 * lv + k))) (90 + k) (s.1 138 (8 * lv + k))) (106 + k) (-2) j = f j := fun j j1 j2 j3 j4 => by rw [upd_n _ _ j4, upd_n _ _ j3, upd_n _ _ j2, upd_n _ _ j1]
        rw [oo _ (by omega) (by omega) (by omega) (by omega), oo _ (by omega) (by omega) (by omega) (by omega), oo _ (by omega) (by omega) (by omega) (by omega), oo _ (by omega) (by omega) (by omega) (by omega), oo _ (by omega) (by omega) (by omega) (by omega)]
        exact a3 r hr'
      · obtain ⟨t1, -, t3, -⟩ := K.1.rt hR
        by_cases z : r = k
        · subst z
          rw [upd_n _ _ (by omega), upd_n _ _ (by omega), upd_n _ _ (by omega), upd_s, upd_n _ _ (by omega), upd_n _ _ (by omega), upd_s, upd_n _ _ (by omega), upd_s, upd_s]
          exact ⟨rfl, t3, t1, rfl⟩
        · have oo : ∀ j, j ≠ 66 + k → j ≠ 82 + k → j ≠ 90 + k → j ≠ 106 + k → upd (upd (upd (upd f (66 + k) (-2)) (82 + k) (s.1 140 (8 * lv + k))) (90 + k) (s.1 138 (8 * lv + k))) (106 + k) (-2) j = f j := fun j j1 j2 j3 j4 => by rw [upd_n _ _ j4, upd_n _ _ j3, upd_n _ _ j2, upd_n _ _ j1]
          rw [oo _ (by omega) (by omega) (by omega) (by omega), oo _ (by omega) (by omega) (by omega) (by omega), oo _ (by omega) (by omega) (by omega) (by omega), oo _ (by omega) (by omega) (by omega) (by omega)]
          exact a4 r (by omega) hR
      · rw [upd_n _ _ (by omega), upd_n _ _ (by omega), upd_n _ _ (by omega), upd_n _ _ (by omega)]; exact a5 j j1 j2
  have second : ∀ f : Row, (∀ j, j < 120 → f j = 0) → AWP E m_Mo_begins 23 0 0 [(0, .ref 120), (1, .int (nI 0))] [] (mk g (si s 163 f)) (qV g R) := by
    intro f0 p1
    refine upto (P := fun k => ∀ f : Row, (∀ j, j < k → f j = dPo d j) → (∀ j, k ≤ j → j < 120 → f j = 0) → AWP E m_Mo_begins 23 0 0 [(0, .ref 120), (1, .int (nI k))] [] (mk g (si s 163 f)) (qV g R)) (nG d) ?_ ?_ 0 (Nat.zero_le _) f0 (fun r hr' => absurd hr' (by omega)) (fun j _ hj => p1 j hj)
    · intro f a1 a2
      have K' := ky f
      refine v_Mo_begins_23 _ hS ?_
      rw [K'.2.1, tn_n (by omega), K'.1.gr]
      refine ⟨vp_in_nI (by omega) (by omega), pk_le (nG d) (nG d) (fun _ => third f (fun j hj => ?_) (fun j j1 j2 => a2 j (by omega) j2)) (fun q => absurd q (by omega))⟩
      split
      · rename_i q; exact a1 j q
      · exact a2 j (by omega) (by omega)
    · intro k hk ih f a1 a2
      have K' := ky f
      refine v_Mo_begins_23 _ hS ?_
      rw [K'.2.1, tn_n (by omega), K'.1.gr, y6, tn_n (by omega), tn_n (by omega), nI_1 k]
      refine ⟨vp_in_nI (by omega) (by omega), pk_le (nG d) k (fun q => absurd q (by omega)) (fun _ => ⟨vp_in_nI (by omega) (by omega), vp_in_nI (by omega) (by omega), fun s1 e1 => ?_⟩)⟩
      rw [e1, wi_si, K'.1.po hk]
      refine ih _ (fun j hj => ?_) (fun j j1 j2 => ?_)
      · rw [upd_a]
        split
        · rename_i z; rw [z]
        · exact a1 j (by omega)
      · rw [upd_n _ _ (by omega)]; exact a2 j (by omega) j2
  refine v_Mo_begins (Q := qV g R) ?_
  have e0 : s = si s 163 (s.1 163) := by
    refine Prod.ext (funext fun x => ?_) rfl
    show s.1 x = if x = 163 then s.1 163 else s.1 x
    split
    · rename_i q; rw [q]
    · rfl
  have go : ∀ w, s = w → AWP E m_Mo_begins 2 0 0 [(0, .ref 120), (1, .int (nI 0))] [] (mk g w) (qV g R) → AWP E m_Mo_begins 2 0 0 [(0, .ref 120), (1, .int 0)] [] (mk g s) (qV g R) := fun w e q => by rw [← e] at q; exact q
  refine go _ e0 ?_
  refine upto (P := fun k => ∀ f : Row, (∀ j, j < k → f j = 0) → AWP E m_Mo_begins 2 0 0 [(0, .ref 120), (1, .int (nI k))] [] (mk g (si s 163 f)) (qV g R)) 120 ?_ ?_ 0 (Nat.zero_le _) _ (fun r hr' => absurd hr' (by omega))
  · intro f a1
    exact v_Mo_begins_2 _ hS (pk_le 120 120 (fun _ => second f a1) (fun q => absurd q (by omega)))
  · intro k hk ih f a1
    refine v_Mo_begins_2 _ hS (pk_le 120 k (fun q => absurd q (by omega)) (fun _ => ?_))
    rw [tn_n (by omega), nI_1 k]
    refine ⟨vp_in_nI (by omega) (by omega), fun s1 e1 => ?_⟩
    rw [e1, wi_si]
    refine ih _ (fun j hj => ?_)
    rw [upd_a]
    split
    · rfl
    · exact a1 j (by omega)
theorem tsum_bd {R : Row} {o B : Nat} : ∀ n, (∀ k, k < n → (R (o + k)).toNatClampNeg ≤ B) → tsum R o n ≤ n * B
  | 0, _ => by simp [tsum]
  | n + 1, h => by
    have := tsum_bd n (fun k hk => h k (by omega))
    have h2 := h n (by omega)
    rw [tsum, Nat.succ_mul]
    omega
theorem beg_RV (hO : TOk d) (c : Nat) : RV d c (beg d) := by
  have g6 := hO.g6
  have r8 := hO.r8
  have g6' : eG (dE d) ≤ 6 := g6
  have r8' : eR (dE d) ≤ 8 := r8
  have h6' : eHo (dE d) ≤ 6 := hO.h6
  obtain ⟨k1, k2, k3, k4, k5, k6, k7, k8, k9, -⟩ := hO
  have hp : ∀ k, k < 6 → ∃ p, p ≤ 9999 ∧ beg d k = nI p := fun k hk => by
    rw [beg_hp hk]
    split
    · rename_i q; exact k6 k q
    · exact ⟨0, by omega, rfl⟩
  have rt : ∀ r, r < eR (dE d) → beg d (42 + r) = 0 ∧ beg d (50 + r) = 0 ∧ beg d (58 + r) = 0 ∧ beg d (74 + r) = 0 ∧ beg d (82 + r) = dFt d r ∧ beg d (90 + r) = nI (dKn d r) := fun r hr' => by
    obtain ⟨w1, w2, w3, w4, w5, w6, w7, w8, w9⟩ := beg_rt (d := d) (r := r) r8 (by omega)
    have q : r < nR d := hr'
    rw [if_pos q] at w6 w7
    exact ⟨w1, w2, w3, w5, w6, w7⟩
  have z : ∀ k, (6 ≤ k ∧ k < 42) ∨ 114 ≤ k → beg d k = 0 := fun k hk => beg_ho r8 hk
  have nn : ∀ k, k < 42 → 0 ≤ beg d k := fun k hk => by
    by_cases q : k < 6
    · obtain ⟨p, p1, p2⟩ := hp k q
      rw [p2]; exact nI_nn (by omega)
    · rw [z k (by omega)]; decide
  refine ⟨⟨fun r hr' => ?_, ⟨fun k hk => nn k (by omega), by rw [z 118 (by omega)]; decide, fun r hr' => ?_⟩, ⟨fun k hk => ?_, ⟨0, by omega, z 118 (by omega)⟩, ?_, fun r hr' => ?_⟩⟩, ⟨nn, fun r hr' => by rw [(rt r hr').2.2.1]; decide, ?_, fun h h1 h2 k hk => z _ (by omega)⟩, ⟨0, by omega, z 114 (by omega)⟩, ⟨0, by omega, z 118 (by omega)⟩, fun r hr' => ?_, fun r hr' w => (rt r hr').2.1⟩
  · obtain ⟨w1, w2, w3, w5, w6, w7⟩ := rt r hr'
    exact ⟨⟨dKn d r, k5 r hr', w7⟩, fun w => absurd (w1.symm.trans w) (by decide)⟩
  · obtain ⟨w1, w2, w3, w5, w6, w7⟩ := rt r hr'
    rw [w1, w3, w5]
    exact ⟨Or.inl rfl, by decide, by decide, by decide⟩
  · obtain ⟨p, p1, p2⟩ := hp k hk
    exact ⟨p, by omega, p2⟩
  · exact k9
  · obtain ⟨w1, w2, w3, w5, w6, w7⟩ := rt r hr'
    refine ⟨⟨0, by omega, w5⟩, 0, by omega, w2, fun _ => rfl, fun w => ?_⟩
    rw [w1] at w
    rcases w with w | w
    · exact absurd w (by decide)
    · exact absurd w (by decide)
  · have t1 : tsum (beg d) 0 6 ≤ 6 * 9999 := tsum_bd 6 (fun k hk => by
      obtain ⟨p, p1, p2⟩ := hp k hk
      rw [Nat.zero_add, p2, tn_n (by omega)]; omega)
    have t2 : tsum (beg d) 6 36 ≤ 36 * 0 := tsum_bd 36 (fun k hk => by
      rw [z (6 + k) (by omega)]; decide)
    have t3 : tsum (beg d) 58 (eR (dE d)) ≤ eR (dE d) * 0 := tsum_bd _ (fun k hk => by
      rw [(rt k hk).2.2.1]; decide)
    have t4 := tsum_sh (N := beg d) (a := 6) 36
    unfold tot
    have e42 : tsum (beg d) 0 42 = tsum (beg d) 0 6 + tsum (beg d) 6 36 := by rw [t4]
    rw [e42]
    omega
  · rw [(rt r hr').2.2.2.2.1]; exact (k7 r hr').1
end Begin2
