/-! PAIRS THAT CHANGE THE SHAPE: it stands -/
section Pairs
variable {E : EN} {d : TD} {t lv c : Nat} {π : PS} {g : GS} {s : MS} {x1 x2 x3 : Int32} {Q : Int32 → Int32 → GS → MS → Prop}
theorem p_minutes (hc : c < 512) (I : INV d t lv c π g s) (hq : ∀ A π' g' v, INV d t lv (c + 1) π' g' v → Q A A g' v) : XI E m_Rs_minutes [.ref 16, .int x1] g s (fun y g' u => SX g' ∧ GI E m_Mo_minutes [.ref 120, .int x1] g' u (fun y' v => Q y y' g' v)) := by
  have hS := I.1.1.sx
  have hO := I.1.1.o
  have no : ¬ (0 ≤ x1 ∧ x1 ≤ 600) → GI E m_Mo_minutes [.ref 120, .int x1] g s (fun y' v => Q (-1) y' g v) := fun w =>
    v_Mo_minutes (Q := qI g _) _ hS (f_Mo_in (fun _ => ⟨fun _ => GI.r (hq _ π g s (I.le hc)), fun c => absurd rfl c⟩) (fun q => absurd q w))
  refine v_Rs_minutes (Q := rI _) _ hS ⟨fun c1 => rI.mk ⟨hS, no fun w => absurd c1 (Int32.not_lt.mpr w.1)⟩, fun c1 => ⟨fun c2 => ⟨fun c3 => rI.mk ⟨hS, ?_⟩, fun c3 => ?_⟩, fun c2 => rI.mk ⟨hS, no fun w => c2 w.2⟩⟩⟩
  · have z : x1 = 0 := Int32.le_antisymm c3 (Int32.not_lt.mp c1)
    subst z
    refine v_Mo_minutes (Q := qI g _) _ hS (f_Mo_in (fun q => absurd ⟨by decide, by decide⟩ q) (fun _ => ⟨fun c => absurd c (by decide), fun _ => ⟨fun _ => GI.r ?_, fun c => absurd rfl c⟩⟩))
    rw [← hr114, q_at I.pc.2.1 (lvb_of (by omega)), q_at I.pr.2 (lvb_of (by omega))]
    exact hq _ π g s (I.le hc)
  · obtain ⟨n, hn, rfl⟩ := le_ex (n := 600) (by decide) rfl ⟨Int32.not_lt.mp c1, c2⟩
    refine k_rem I (fun g' u K N74 c74 D => ⟨K.sx, ?_⟩)
    have hW := I.hw
    refine k_goOn K HB74 (HS74 K.sx) c74 N74 hW (by omega) (by omega) (fun u2 w1 w2 w3 => rI.mk ⟨K.sx, ?_⟩)
    obtain ⟨C, FCs⟩ := D u2 (pMins (dE d) n (pN π)) w3 w1 w2
    have J := I.2.1.mv FCs
    refine v_Mo_minutes (Q := qI g' _) _ K.sx (f_Mo_in (fun q => absurd ⟨Int32.not_lt.mp c1, c2⟩ q) (fun _ => ⟨fun c => absurd c (by decide), fun _ => ⟨fun c => absurd c (fun w => c3 (by rw [w]; decide)), fun _ => ?_⟩⟩))
    refine k_copies K.sx J.1 J.2.1 (fun v b1 b2 b3 b4 => ?_)
    refine k_goes K.sx hO (J.1.mv b4) b1 b2 b3 hW.1 (by omega) (fun z z1 z2 => ?_)
    refine k_kee K.sx J I.2.2.2.1 (b4.tr z2.R) (N' := pMins (dE d) n (pN π)) z1 (fun w J' F => GI.r ?_)
    rw [← hr114, q_at C.2.2.1.1 (lvb_of (by omega)), q_at J'.2.1 (lvb_of (by omega))]
    exact hq _ _ g' w (fin_do hc I (I.2.2.1.mins hO hc hn) C J' F)
theorem p_pour (hc : c < 512) (I : INV d t lv c π g s) (hq : ∀ A π' g' v, INV d t lv (c + 1) π' g' v → Q A A g' v) : XI E m_Rs_pour [.ref 16, .int x1, .int x2] g s (fun y g' u => SX g' ∧ GI E m_Mo_pour [.ref 120, .int x1, .int x2] g' u (fun y' v => Q y y' g' v)) := by
  have hS := I.1.1.sx
  have hO := I.1.1.o
  have g6 := hO.g6
  have h8 : eR (dE d) ≤ 8 := hO.r8
  have P := I.pc
  have R0 := I.2.2.1
  have fin := hq (-1) π g s (I.le hc)
  have ck := I.2.2.2.2.2.2.2.2
  -- the reference refuses as the class does
  have no : ((0 ≤ x1 ∧ x1 < nI (nG d)) → (1 ≤ x2 ∧ x2 ≤ 9999) → ¬ pN π x1.toNatClampNeg + x2 ≤ 9999) → GI E m_Mo_pour [.ref 120, .int x1, .int x2] g s (fun y' v => Q (-1) y' g v) := by
    intro w
    refine v_Mo_pour (Q := qI g _) _ _ hS (f_Mo_isGrain hS hO I.2.1.1 (fun _ => ⟨fun _ => GI.r fin, fun c => absurd rfl c⟩) (fun q => ⟨fun c => absurd c (by decide), fun _ => f_Mo_in (fun _ => ⟨fun _ => GI.r fin, fun c => absurd rfl c⟩) (fun q2 => ⟨fun c => absurd c (by decide), fun _ => ?_⟩)⟩))
    have := w q q2
    obtain ⟨k, hk, rfl⟩ := lt_ex (by omega) q
    rw [tn_n (by omega)] at this ⊢
    rw [q_at I.pr.2 (lvb_of (by omega))]
    exact ⟨vp_in_nI (by omega) (by omega), fun c => absurd c this, fun _ => GI.r fin⟩
  refine v_Rs_pour (Q := rI _) _ _ t hS P.1.et P.1.ht ?_
  rw [P.1.tc.gr]
  refine f_Rs_isOf (fun q => ⟨fun _ => rI.mk ⟨hS, no fun w => absurd w q⟩, fun c => absurd rfl c⟩) (fun q => ⟨fun c => absurd c (by decide), fun _ => ⟨fun c1 => rI.mk ⟨hS, no fun _ w => absurd c1 (Int32.not_lt.mpr w.1)⟩, fun c1 => ?_⟩⟩)
  obtain ⟨k, hk, rfl⟩ := lt_ex (by omega) q
  have e75 : s.1 75 k = pN π k := by rw [← q_at P.2.1 (lvb_of (k := k) (by omega))]; exact (hr_hp s 74 (by omega)).symm
  obtain ⟨a, ha, hae⟩ := i_nn (R0.2.1.1 k (by omega))
  have al : a ≤ 5300000 := by
    have l1 := tot_le (e := dE d) (R := pN π) (j := k) (by omega)
    rw [hae, tn_n ha] at l1
    have := R0.2.1.2.2.1
    omega
  obtain ⟨n, hn, rfl⟩ := i_nn (Int32.le_trans (by decide) (Int32.not_lt.mp c1))
  have n1 : 1 ≤ n := (nI_leI (a := 1) (by omega) hn).mp (Int32.not_lt.mp c1)
  rw [tn_n (by omega)] at no ⊢
  rw [e75, hae]
  have cmp : nI n ≤ 9999 - nI a ↔ n + a ≤ 9999 := by
    by_cases w : a ≤ 9999
    · rw [show (9999 : Int32) = nI 9999 from rfl, pk_sub w, nI_leI hn (by omega)]; omega
    · have lt := pk_sneg (a := 9999) (b := a) (by omega) (by omega)
      exact ⟨fun h => absurd (Int32.lt_of_le_of_lt (Int32.le_trans (nI_pos' hn) h) lt) (by decide), fun h => by omega⟩
  refine ⟨vp_in_nI (by omega) (by omega), fun c2 => ?_, fun c2 => rI.mk ⟨hS, no fun _ w3 w4 => ?_⟩⟩
  · have na := cmp.mp c2
    refine k_rem I (fun g' u K N74 c74 D => ⟨K.sx, fun s3 e3 => rI.mk ⟨K.sx, ?_⟩⟩)
    have eu : u.1 75 k = pN π k := by rw [← q_at N74 (lvb_of (k := k) (by omega))]; exact (hr_hp u 74 (by omega)).symm
    have ah : hr s3 74 = upd (hr u 74) k (u.1 75 k + nI n) := by rw [e3]; exact hw_hp u 74 (k := k) (by omega) _
    have N3 : nm (dE d) (hr s3 74) = upd (pN π) k (pN π k + nI n) := by rw [ah, nm_upd (lvb_of (by omega)), N74, eu]
    obtain ⟨C, FCs⟩ := D s3 _ (FrH.C HB74 (by rw [e3]; exact FrH.w (by omega) (by omega))) N3 (by rw [e3]; exact c74.wi (by omega))
    have J := I.2.1.mv FCs
    refine v_Mo_pour (Q := qI g' _) _ _ K.sx (f_Mo_isGrain K.sx hO J.1 (fun w => absurd q w) (fun _ => ⟨fun c => absurd c (by decide), fun _ => f_Mo_in (fun w => absurd ⟨Int32.not_lt.mp c1, nI_le (b := 9999) (by omega) (by omega)⟩ w) (fun _ => ⟨fun c => absurd c (by decide), fun _ => ?_⟩)⟩))
    rw [tn_n (by omega), q_at J.2.1 (lvb_of (by omega)), hae, nI_add]
    refine ⟨vp_in_nI (by omega) (by omega), fun _ => ?_, fun w => absurd (nI_le (b := 9999) (by omega) (by omega)) w⟩
    refine k_copies K.sx J.1 J.2.1 (fun v b1 b2 b3 b4 s4 e4 => ?_)
    have F4 : FrR v s4 := by rw [e4, wi_def]; exact FrR.si163 v _
    refine k_kee K.sx J I.2.2.2.1 (b4.tr F4) (N' := upd (pN π) k (pN π k + nI n)) ?_ (fun w J' F => GI.r ?_)
    · rw [e4, wi_s, nm_upd (lvb_of (by omega)), b3, q_at b3 (lvb_of (by omega))]
    · have eA : s3.1 75 k = upd (pN π) k (pN π k + nI n) k := by rw [← q_at N3 (lvb_of (k := k) (by omega))]; exact (hr_hp s3 74 (by omega)).symm
      rw [eA, q_at J'.2.1 (lvb_of (by omega))]
      refine hq _ _ g' w (fin_do hc I (R0.mk' hO (Nat.le_succ c) (by omega) (fun r hr' => ?_) (fun r hr' => ?_) (fun r hr' => ?_) (fun r hr' => ?_) ?_ ?_ ?_) C J' F)
      · have : r < eR (dE d) := hr'
        exact ⟨upd_n _ _ (by omega), upd_n _ _ (by omega), upd_n _ _ (by omega), upd_n _ _ (by omega), upd_n _ _ (by omega)⟩
      · rw [upd_n _ _ (by omega)]; exact (R0.1.1 r hr').1
      · rw [upd_n _ _ (by omega)]; exact R0.h74 hr'
      · rw [upd_n _ _ (by omega)]; exact R0.2.2.2.2.1 r hr'
      · exact upd_n _ _ (by omega)
      · rw [upd_n _ _ (by omega)]; exact R0.2.2.2.1
      · exact (WF4.add h8 (by omega) (by omega) R0.2.1).le (by omega)
  · have : n ≤ 9999 := (nI_leI hn (by omega)).mp w3.2
    rw [hae, nI_add] at w4
    have := (nI_leI (b := 9999) (by omega) (by omega)).mp w4
    exact c2 (cmp.mpr (by omega))
theorem p_teach (hc : c < 512) (I : INV d t lv c π g s) (hq : ∀ A π' g' v, INV d t lv (c + 1) π' g' v → Q A A g' v) : XI E m_Rs_teach [.ref 16, .int x1, .int x2] g s (fun y g' u => SX g' ∧ GI E m_Mo_teach [.ref 120, .int x1, .int x2] g' u (fun y' v => Q y y' g' v)) := by
  have hS := I.1.1.sx
  have hO := I.1.1.o
  have g6 := hO.g6
  have h8 : eR (dE d) ≤ 8 := hO.r8
  have h8' := hO.r8
  have P := I.pc
  have R0 := I.2.2.1
  have fin := hq 0 π g s (I.le hc)
  have ck := I.2.2.2.2.2.2.2.2
  have no : ((0 ≤ x1 ∧ x1 < nI (nR d)) → (0 ≤ x2 ∧ x2 < nI (nG d)) → pN π (90 + x1.toNatClampNeg) = x2) → GI E m_Mo_teach [.ref 120, .int x1, .int x2] g s (fun y' v => Q 0 y' g v) := by
    intro w
    refine v_Mo_teach (Q := qI g _) _ _ hS (f_Mo_isRat hS hO I.2.1.1 (fun _ => ⟨fun _ => GI.r fin, fun c => absurd rfl c⟩) (fun q => ⟨fun c => absurd c (by decide), fun _ => f_Mo_isGrain hS hO I.2.1.1 (fun _ => ⟨fun _ => GI.r fin, fun c => absurd rfl c⟩) (fun q2 => ⟨fun c => absurd c (by decide), fun _ => ?_⟩)⟩))
    have := w q q2
    obtain ⟨k, hk, rfl⟩ := lt_ex (by omega) q
    have hke : k < eR (dE d) := hk
    rw [tn_n (by omega)] at this
    rw [ix90 (by omega), q_at I.pr.2 (lvb_of (by omega))]
    exact ⟨vi90 (by omega), fun _ => GI.r fin, fun c => absurd this c⟩
  refine v_Rs_teach (Q := rI _) _ _ t hS P.1.et P.1.ht ?_
  rw [P.1.tc.ra]
  refine f_Rs_isOf (fun q => ⟨fun _ => rI.mk ⟨hS, no fun w => absurd w q⟩, fun c => absurd rfl c⟩) (fun q => ⟨fun c => absurd c (by decide), fun _ => ?_⟩)
  rw [P.1.tc.gr]
  refine f_Rs_isOf (fun q2 => ⟨fun _ => rI.mk ⟨hS, no fun _ w => absurd w q2⟩, fun c => absurd rfl c⟩) (fun q2 => ⟨fun c => absurd c (by decide), fun _ => ?_⟩)
  obtain ⟨r, hr', rfl⟩ := lt_ex (by omega) q
  obtain ⟨k, hk, rfl⟩ := lt_ex (by omega) q2
  have hre : r < eR (dE d) := hr'
  have r8 : r < 8 := by omega
  rw [tn_n (by omega)] at no ⊢
  have e90 : s.1 (78 + r) 6 = pN π (90 + r) := by rw [← q_at P.2.1 (lvb_of (k := 90 + r) (by omega))]; exact (hr90 s 74 r8).symm
  rw [e90]
  refine ⟨vp_in_nI (by omega) (by omega), fun c1 => rI.mk ⟨hS, no fun _ _ => c1⟩, fun c1 => ?_⟩
  refine k_rem I (fun g' u K N74 c74 D => ⟨K.sx, fun s4 e4 => rI.mk ⟨K.sx, ?_⟩⟩)
  have N4 : nm (dE d) (hr s4 74) = upd (pN π) (90 + r) (nI k) := by
    rw [e4]
    rw [show hr (wi u (78 + r) 6 (nI k)) 74 = upd (hr u 74) (90 + r) (nI k) from hw_r6 u 74 r8 _, nm_upd (lvb_of (by omega)), N74]
  obtain ⟨C, FCs⟩ := D s4 _ (FrH.C HB74 (by rw [e4]; exact FrH.w (by omega) (by omega))) N4 (by rw [e4]; exact c74.wi (by omega))
  have J := I.2.1.mv FCs
  refine v_Mo_teach (Q := qI g' _) _ _ K.sx (f_Mo_isRat K.sx hO J.1 (fun w => absurd q w) (fun _ => ⟨fun c => absurd c (by decide), fun _ => f_Mo_isGrain K.sx hO J.1 (fun w => absurd q2 w) (fun _ => ⟨fun c => absurd c (by decide), fun _ => ?_⟩)⟩))
  rw [ix90 r8, q_at J.2.1 (lvb_of (by omega))]
  refine ⟨vi90 r8, fun w => absurd w c1, fun _ => ?_⟩
  refine k_copies K.sx J.1 J.2.1 (fun v b1 b2 b3 b4 s5 e5 => ?_)
  have F5 : FrR v s5 := by rw [e5, wi_def]; exact FrR.si163 v _
  refine k_kee K.sx J I.2.2.2.1 (b4.tr F5) (N' := upd (pN π) (90 + r) (nI k)) ?_ (fun w J' F => GI.r ?_)
  · rw [e5, wi_s, nm_upd (lvb_of (by omega)), b3]
  · refine hq _ _ g' w (fin_do hc I (R0.mk' hO (Nat.le_succ c) (by omega) (fun x hx => ?_) (fun x hx => ?_) (fun x hx => ?_) (fun x hx => ?_) ?_ ?_ ?_) C J' F)
    · have : x < eR (dE d) := hx
      exact ⟨upd_n _ _ (by omega), upd_n _ _ (by omega), upd_n _ _ (by omega), upd_n _ _ (by omega), upd_n _ _ (by omega)⟩
    · rw [upd_a]; split
      · exact ⟨k, hk, rfl⟩
      · exact (R0.1.1 x hx).1
    · rw [upd_n _ _ (by have : x < eR (dE d) := hx; omega)]; exact R0.h74 hx
    · rw [upd_n _ _ (by have : x < eR (dE d) := hx; omega)]; exact R0.2.2.2.2.1 x hx
    · exact upd_n _ _ (by omega)
    · rw [upd_n _ _ (by omega)]; exact R0.2.2.2.1
    · exact (R0.2.1.cg (fun y hy => upd_n _ _ (by omega)) (fun y hy => upd_n _ _ (by omega))).le (by omega)
theorem p_cat (hc : c < 512) (I : INV d t lv c π g s) (hq : ∀ A π' g' v, INV d t lv (c + 1) π' g' v → Q A A g' v) : XI E m_Rs_cat [.ref 16, .int x1] g s (fun y g' u => SX g' ∧ GI E m_Mo_cat [.ref 120, .int x1] g' u (fun y' v => Q y y' g' v)) := by
  have hS := I.1.1.sx
  have hO := I.1.1.o
  have h8 : eR (dE d) ≤ 8 := hO.r8
  have P := I.pc
  have R0 := I.2.2.1
  have fin := hq (-1) π g s (I.le hc)
  have ck := I.2.2.2.2.2.2.2.2
  obtain ⟨a, ha, hae⟩ := R0.2.2.2.1
  have e74 : s.1 74 4 = pN π 118 := by rw [← hr118, q_at P.2.1 (lvb_of (by omega))]
  have no : ((1 ≤ x1 ∧ x1 ≤ 99) → ¬ pN π 118 + x1 ≤ 999) → GI E m_Mo_cat [.ref 120, .int x1] g s (fun y' v => Q (-1) y' g v) := by
    intro w
    refine v_Mo_cat (Q := qI g _) _ hS (f_Mo_in (fun _ => ⟨fun _ => GI.r fin, fun c => absurd rfl c⟩) (fun q => ⟨fun c => absurd c (by decide), fun _ => ?_⟩))
    rw [q_at I.pr.2 (lvb_of (by omega))]
    exact ⟨fun c => absurd c (w q), fun _ => GI.r fin⟩
  refine v_Rs_cat (Q := rI _) _ hS ⟨fun c1 => rI.mk ⟨hS, no fun w => absurd c1 (Int32.not_lt.mpr w.1)⟩, fun c1 => ⟨fun c2 => rI.mk ⟨hS, no fun w => absurd c2 (Int32.not_lt.mpr w.2)⟩, fun c2 => ?_⟩⟩
  rw [e74]
  have q1 : 1 ≤ x1 ∧ x1 ≤ 99 := ⟨Int32.not_lt.mp c1, Int32.not_lt.mp c2⟩
  refine ⟨fun c3 => ?_, fun c3 => rI.mk ⟨hS, no fun _ => c3⟩⟩
  obtain ⟨n, hn, rfl⟩ := le_ex (n := 99) (by decide) rfl ⟨Int32.le_trans (by decide) q1.1, q1.2⟩
  refine k_rem I (fun g' u K N74 c74 D => ⟨K.sx, fun s2 e2 => rI.mk ⟨K.sx, ?_⟩⟩)
  have eu : u.1 74 4 = pN π 118 := by rw [← hr118, q_at N74 (lvb_of (by omega))]
  have N2 : nm (dE d) (hr s2 74) = upd (pN π) 118 (pN π 118 + nI n) := by
    rw [e2, hw_118, nm_upd (lvb_of (by omega)), N74, eu]
  obtain ⟨C, FCs⟩ := D s2 _ (FrH.C HB74 (by rw [e2]; exact FrH.w (by omega) (by omega))) N2 (by rw [e2]; exact c74.wi (by omega))
  have J := I.2.1.mv FCs
  refine v_Mo_cat (Q := qI g' _) _ K.sx (f_Mo_in (fun w => absurd q1 w) (fun _ => ⟨fun c => absurd c (by decide), fun _ => ?_⟩))
  rw [q_at J.2.1 (lvb_of (by omega))]
  refine ⟨fun _ => ?_, fun w => absurd c3 w⟩
  refine k_copies K.sx J.1 J.2.1 (fun v b1 b2 b3 b4 s5 e5 => ?_)
  have F5 : FrR v s5 := by rw [e5, wi_def]; exact FrR.si163 v _
  refine k_kee K.sx J I.2.2.2.1 (b4.tr F5) (N' := upd (pN π) 118 (pN π 118 + nI n)) ?_ (fun w J' F => GI.r ?_)
  · rw [e5, wi_s, nm_upd (lvb_of (by omega)), b3, q_at b3 (lvb_of (by omega))]
  · have c3' := c3
    rw [hae, nI_add] at c3'
    have le9 := (nI_leI (b := 999) (by omega) (by omega)).mp c3'
    have e118 : pN (sDo π (upd (pN π) 118 (pN π 118 + nI n))) 118 = pN π 118 + nI n := by
      show upd (pN π) 118 (pN π 118 + nI n) 118 = _
      rw [upd_s]
    rw [q_at J'.2.1 (lvb_of (by omega)), eu, e118]
    refine hq _ _ g' w (fin_do hc I (R0.mk' hO (Nat.le_succ c) (by omega) (fun x hx => ?_) (fun x hx => ?_) (fun x hx => ?_) (fun x hx => ?_) ?_ ?_ ?_) C J' F)
    · have : x < eR (dE d) := hx
      exact ⟨upd_n _ _ (by omega), upd_n _ _ (by omega), upd_n _ _ (by omega), upd_n _ _ (by omega), upd_n _ _ (by omega)⟩
    · rw [upd_n _ _ (by have : x < eR (dE d) := hx; omega)]; exact (R0.1.1 x hx).1
    · rw [upd_n _ _ (by have : x < eR (dE d) := hx; omega)]; exact R0.h74 hx
    · rw [upd_n _ _ (by have : x < eR (dE d) := hx; omega)]; exact R0.2.2.2.2.1 x hx
    · exact upd_n _ _ (by omega)
    · exact ⟨a + n, le9, by rw [upd_s, hae, nI_add]⟩
    · exact (R0.2.1.cg (fun y hy => upd_n _ _ (by omega)) (fun y hy => upd_n _ _ (by omega))).le (by omega)
theorem p_swap (hc : c < 512) (I : INV d t lv c π g s) (hq : ∀ A π' g' v, INV d t lv (c + 1) π' g' v → Q A A g' v) : XI E m_Rs_swap [.ref 16, .int x1, .int x2] g s (fun y g' u => SX g' ∧ GI E m_Mo_swap [.ref 120, .int x1, .int x2] g' u (fun y' v => Q y y' g' v)) := by
  have hS := I.1.1.sx
  have hO := I.1.1.o
  have h6 : eHo (dE d) ≤ 6 := hO.h6
  have h6' := hO.h6
  have h8 : eR (dE d) ≤ 8 := hO.r8
  have P := I.pc
  have R0 := I.2.2.1
  have fin := hq 0 π g s (I.le hc)
  have ck := I.2.2.2.2.2.2.2.2
  have no : ((0 ≤ x1 ∧ x1 < nI (nH d)) → (0 ≤ x2 ∧ x2 < nI (nH d)) → x1 = x2) → GI E m_Mo_swap [.ref 120, .int x1, .int x2] g s (fun y' v => Q 0 y' g v) := by
    intro w
    exact v_Mo_swap (Q := qI g _) _ _ hS (f_Mo_isHole hS hO I.2.1.1 (fun _ => ⟨fun _ => GI.r fin, fun c => absurd rfl c⟩) (fun q => ⟨fun c => absurd c (by decide), fun _ => f_Mo_isHole hS hO I.2.1.1 (fun _ => ⟨fun _ => GI.r fin, fun c => absurd rfl c⟩) (fun q2 => ⟨fun c => absurd c (by decide), fun _ => ⟨fun _ => GI.r fin, fun c => absurd (w q q2) c⟩⟩)⟩))
  refine v_Rs_swap (Q := rI _) _ _ t hS P.1.et P.1.ht ?_
  rw [P.1.tc.ho]
  refine f_Rs_isOf (fun q => ⟨fun _ => rI.mk ⟨hS, no fun w => absurd w q⟩, fun c => absurd rfl c⟩) (fun q => ⟨fun c => absurd c (by decide), fun _ => ?_⟩)
  rw [P.1.tc.ho]
  refine f_Rs_isOf (fun q2 => ⟨fun _ => rI.mk ⟨hS, no fun _ w => absurd w q2⟩, fun c => absurd rfl c⟩) (fun q2 => ⟨fun c => absurd c (by decide), fun _ => ⟨fun c1 => rI.mk ⟨hS, no fun _ _ => c1⟩, fun c1 => ?_⟩⟩)
  obtain ⟨h, hh, rfl⟩ := lt_ex (by omega) q
  obtain ⟨o, ho, rfl⟩ := lt_ex (by omega) q2
  have hno : h ≠ o := fun e => c1 (by rw [e])
  refine k_rem I (fun g' u K N74 c74 D => ⟨K.sx, ?_⟩)
  refine k_exchange (HS74 K.sx) (by omega) (by omega) c74 N74 (fun u2 w1 w2 w3 => rI.mk ⟨K.sx, ?_⟩)
  obtain ⟨C, FCs⟩ := D u2 _ (FrH.C HB74 w3) w1 w2
  have J := I.2.1.mv FCs
  refine v_Mo_swap (Q := qI g' _) _ _ K.sx (f_Mo_isHole K.sx hO J.1 (fun w => absurd q w) (fun _ => ⟨fun c => absurd c (by decide), fun _ => f_Mo_isHole K.sx hO J.1 (fun w => absurd q2 w) (fun _ => ⟨fun c => absurd c (by decide), fun _ => ⟨fun w => absurd w c1, fun _ => ?_⟩⟩)⟩))
  refine k_copies K.sx J.1 J.2.1 (fun v b1 b2 b3 b4 => ?_)
  refine k_swaps K.sx (by omega) (by omega) b3 (fun z z1 z2 => ?_)
  refine k_kee K.sx J I.2.2.2.1 (b4.tr z2.R) z1 (fun w J' F => GI.r ?_)
  have xo : ∀ j, j < 6 ∨ 42 ≤ j → pX h o 6 (pN π) j = pN π j := fun j hj => pX_o (by omega) (by omega) hj 6 (Nat.le_refl _)
  refine hq _ _ g' w (fin_do hc I (R0.mk' hO (Nat.le_succ c) (by omega) (fun x hx => ⟨xo _ (by omega), xo _ (by omega), xo _ (by omega), xo _ (by omega), xo _ (by omega)⟩) (fun x hx => ?_) (fun x hx => ?_) (fun x hx => ?_) (xo _ (by omega)) ?_ ?_) C J' F)
  · rw [xo _ (by omega)]; exact (R0.1.1 x hx).1
  · rw [xo _ (by omega)]; exact R0.h74 hx
  · rw [xo _ (by omega)]; exact R0.2.2.2.2.1 x hx
  · rw [xo _ (by omega)]; exact R0.2.2.2.1
  · exact (wf4_pX h8 h6 hno hh ho R0.2.1 6 (Nat.le_refl _)).le (by omega)
theorem p_give (hc : c < 512) (I : INV d t lv c π g s) (hq : ∀ A π' g' v, INV d t lv (c + 1) π' g' v → Q A A g' v) : XI E m_Rs_give [.ref 16, .int x1, .int x2, .int x3] g s (fun y g' u => SX g' ∧ GI E m_Mo_give [.ref 120, .int x1, .int x2, .int x3] g' u (fun y' v => Q y y' g' v)) := by
  have hS := I.1.1.sx
  have hO := I.1.1.o
  have g6 := hO.g6
  have h8 : eR (dE d) ≤ 8 := hO.r8
  have h8' := hO.r8
  have P := I.pc
  have R0 := I.2.2.1
  have fin := hq 0 π g s (I.le hc)
  have ck := I.2.2.2.2.2.2.2.2
  have no : ((0 ≤ x1 ∧ x1 < nI (nR d)) → (0 ≤ x2 ∧ x2 < nI (nG d)) → ¬ x3 < 1 → ¬ pN π x2.toNatClampNeg < x3 → ¬ pN π (42 + x1.toNatClampNeg) = 0) → GI E m_Mo_give [.ref 120, .int x1, .int x2, .int x3] g s (fun y' v => Q 0 y' g v) := by
    intro w
    refine v_Mo_give (Q := qI g _) _ _ _ hS (f_Mo_isRat hS hO I.2.1.1 (fun _ => ⟨fun _ => GI.r fin, fun c => absurd rfl c⟩) (fun q => ⟨fun c => absurd c (by decide), fun _ => f_Mo_isGrain hS hO I.2.1.1 (fun _ => ⟨fun _ => GI.r fin, fun c => absurd rfl c⟩) (fun q2 => ⟨fun c => absurd c (by decide), fun _ => ⟨fun _ => GI.r fin, fun c3 => ?_⟩⟩)⟩))
    have w' := w q q2 c3
    obtain ⟨r, hr', rfl⟩ := lt_ex (by omega) q
    obtain ⟨k, hk, rfl⟩ := lt_ex (by omega) q2
    have hre : r < eR (dE d) := hr'
    rw [tn_n (by omega), tn_n (by omega)] at w'
    rw [tn_n (by omega), ix42 (by omega), q_at I.pr.2 (lvb_of (k := k) (by omega)), q_at I.pr.2 (lvb_of (k := 42 + r) (by omega))]
    exact ⟨vp_in_nI (by omega) (by omega), fun _ => GI.r fin, fun c4 => ⟨vi42 (by omega), fun c5 => absurd c5 (w' c4), fun _ => GI.r fin⟩⟩
  refine v_Rs_give (Q := rI _) _ _ _ t hS P.1.et P.1.ht ?_
  rw [P.1.tc.ra]
  refine f_Rs_isOf (fun q => ⟨fun _ => rI.mk ⟨hS, no fun w => absurd w q⟩, fun c => absurd rfl c⟩) (fun q => ⟨fun c => absurd c (by decide), fun _ => ?_⟩)
  rw [P.1.tc.gr]
  refine f_Rs_isOf (fun q2 => ⟨fun _ => rI.mk ⟨hS, no fun _ w => absurd w q2⟩, fun c => absurd rfl c⟩) (fun q2 => ⟨fun c => absurd c (by decide), fun _ => ⟨fun c3 => rI.mk ⟨hS, no fun _ _ w => absurd c3 w⟩, fun c3 => ?_⟩⟩)
  obtain ⟨r, hr', rfl⟩ := lt_ex (by omega) q
  obtain ⟨k, hk, rfl⟩ := lt_ex (by omega) q2
  have hre : r < eR (dE d) := hr'
  have r8 : r < 8 := by omega
  rw [tn_n (by omega), tn_n (by omega)] at no ⊢
  have e75 : s.1 75 k = pN π k := by rw [← q_at P.2.1 (lvb_of (k := k) (by omega))]; exact (hr_hp s 74 (by omega)).symm
  have e78 : s.1 (78 + r) 0 = pN π (42 + r) := by rw [← q_at P.2.1 (lvb_of (k := 42 + r) (by omega))]; exact (hr42 s 74 r8).symm
  rw [e75, e78]
  obtain ⟨fa, fa9, fae⟩ := R0.2.2.2.2.1 r hr'
  refine ⟨vp_in_nI (by omega) (by omega), fun c4 => rI.mk ⟨hS, no fun _ _ _ w => absurd c4 w⟩, fun c4 => ⟨vp_in_nI (by omega) (by omega), fun c5 => ?_, fun c5 => rI.mk ⟨hS, no fun _ _ _ _ => c5⟩⟩⟩
  refine k_rem I (fun g' u K N74 c74 D => ⟨K.sx, fun s4 e4 s5 e5 s6 e6 s7 e7 => rI.mk ⟨K.sx, ?_⟩⟩)
  have eu : u.1 75 k = pN π k := by rw [← q_at N74 (lvb_of (k := k) (by omega))]; exact (hr_hp u 74 (by omega)).symm
  have eu5 : u.1 74 5 = pN π 115 := by rw [← hr115, q_at N74 (lvb_of (by omega))]
  have eu82 : u.1 (78 + r) 5 = pN π (82 + r) := by rw [← q_at N74 (lvb_of (k := 82 + r) (by omega))]; exact (hr82 u 74 r8).symm
  have v6 : s6.1 (78 + r) 5 = pN π (82 + r) := by rw [e6, wi_s, upd_n _ _ (by decide), e5, wi_n _ _ _ (by omega), e4, wi_n _ _ _ (by omega)]; exact eu82
  rw [v6] at e7
  have fv : (if pN π (82 + r) + 1 < 9 then pN π (82 + r) + 1 else 9) = (if 9 ≤ pN π (82 + r) then pN π (82 + r) else pN π (82 + r) + 1) := by
    rw [fae, nI_1]
    rcases Nat.lt_or_ge (fa + 1) 9 with w | w
    · rw [if_pos (show nI (fa + 1) < 9 from nI_lt (b := 9) w (by omega)), if_neg (show ¬ (9 : Int32) ≤ nI fa from nI_ge (b := 9) (by omega) (by omega))]
    · rw [if_neg (show ¬ nI (fa + 1) < 9 from nI_nlt (b := 9) w (by omega))]
      rcases Nat.lt_or_ge fa 9 with y | y
      · rw [if_neg (show ¬ (9 : Int32) ≤ nI fa from nI_ge (b := 9) y (by omega)), show fa + 1 = 9 by omega]; rfl
      · rw [if_pos (show (9 : Int32) ≤ nI fa from nI_le (a := 9) y (by omega)), show fa = 9 by omega]; rfl
  have N7 : nm (dE d) (hr s7 74) = pGv r k x3 (pN π) := by
    rw [e7, show hr (wi s6 (78 + r) 5 (if pN π (82 + r) + 1 < 9 then pN π (82 + r) + 1 else 9)) 74 = upd (hr s6 74) (82 + r) (if pN π (82 + r) + 1 < 9 then pN π (82 + r) + 1 else 9) from hw_r5 s6 74 r8 _, nm_upd (lvb_of (by omega)), fv]
    rw [e6, show hr (wi s5 (78 + r) 4 0) 74 = upd (hr s5 74) (74 + r) 0 from hw_r4 s5 74 r8 _, nm_upd (lvb_of (by omega))]
    rw [e5, hw_115, nm_upd (lvb_of (by omega)), eu5]
    rw [e4, show hr (wi u 75 k (u.1 75 k - x3)) 74 = upd (hr u 74) k (u.1 75 k - x3) from hw_hp u 74 (by omega) _, nm_upd (lvb_of (by omega)), N74, eu]
    rfl
  obtain ⟨C, FCs⟩ := D s7 _ (FrH.C HB74 (by rw [e7, e6, e5, e4]; exact ((FrH.w (by omega) (by omega)).tr (FrH.w (by omega) (by omega))).tr ((FrH.w (by omega) (by omega)).tr (FrH.w (by omega) (by omega))))) N7 (by rw [e7, e6, e5, e4]; exact (((c74.wi (by omega)).wi (by omega)).wi (by omega)).wi (by omega))
  have J := I.2.1.mv FCs
  have RVn : RV d (c + 1) (pGv r k x3 (pN π)) := by
    refine R0.mk' hO (Nat.le_succ c) (by omega) (fun x hx => ?_) (fun x hx => ?_) (fun x hx => ?_) (fun x hx => ?_) ?_ ?_ ?_
    · have : x < eR (dE d) := hx
      unfold pGv
      refine ⟨?_, ?_, ?_, ?_, ?_⟩ <;> rw [upd_n _ _ (by omega), upd_n _ _ (by omega), upd_n _ _ (by omega), upd_n _ _ (by omega)]
    · have : x < eR (dE d) := hx
      unfold pGv
      rw [upd_n _ _ (by omega), upd_n _ _ (by omega), upd_n _ _ (by omega), upd_n _ _ (by omega)]; exact (R0.1.1 x hx).1
    · have : x < eR (dE d) := hx
      unfold pGv
      rw [upd_n _ _ (by omega), upd_a]
      split
      · exact ⟨0, by omega, rfl⟩
      · rw [upd_n _ _ (by omega), upd_n _ _ (by omega)]; exact R0.h74 hx
    · have : x < eR (dE d) := hx
      unfold pGv
      rw [upd_a]
      split
      · rw [fae]
        split
        · exact ⟨fa, fa9, rfl⟩
        · rename_i w
          have : fa < 9 := by
            rcases Nat.lt_or_ge fa 9 with y | y
            · exact y
            · exact absurd (nI_le (a := 9) y (by omega)) w
          exact ⟨fa + 1, by omega, by rw [nI_1]⟩
      · rw [upd_n _ _ (by omega), upd_n _ _ (by omega), upd_n _ _ (by omega)]; exact R0.2.2.2.2.1 x hx
    · unfold pGv
      rw [upd_n _ _ (by omega), upd_n _ _ (by omega), upd_n _ _ (by omega), upd_n _ _ (by omega)]
    · unfold pGv
      rw [upd_n _ _ (by omega), upd_n _ _ (by omega), upd_n _ _ (by omega), upd_n _ _ (by omega)]; exact R0.2.2.2.1
    · have x31 : 0 ≤ x3 := Int32.le_trans (by decide) (Int32.not_lt.mp c3)
      obtain ⟨a, ha, hae⟩ := i_nn (R0.2.1.1 k (by omega))
      obtain ⟨n, hn, rfl⟩ := i_nn x31
      have na : n ≤ a := by
        rw [hae] at c4
        exact (nI_leI hn ha).mp (Int32.not_lt.mp c4)
      have W1 : WF4 (dE d) (10000 * (c + 6)) (upd (pN π) k (pN π k - nI n)) := WF4.less h8 (by omega) (by rw [hae, pk_sub na]; exact nI_pos' (by omega)) (by rw [hae, pk_sub na]; exact nI_le (by omega) ha) R0.2.1
      refine (W1.cg (fun y hy => ?_) (fun y hy => ?_)).le (by omega)
      · unfold pGv
        rw [upd_n _ _ (by omega), upd_n _ _ (by omega), upd_n _ _ (by omega)]
      · unfold pGv
        rw [upd_n _ _ (by omega), upd_n _ _ (by omega), upd_n _ _ (by omega)]
  refine v_Mo_give (Q := qI g' _) _ _ _ K.sx (f_Mo_isRat K.sx hO J.1 (fun w => absurd q w) (fun _ => ⟨fun c => absurd c (by decide), fun _ => f_Mo_isGrain K.sx hO J.1 (fun w => absurd q2 w) (fun _ => ⟨fun c => absurd c (by decide), fun _ => ⟨fun w => absurd w c3, fun _ => ?_⟩⟩)⟩))
  rw [tn_n (by omega), ix42 r8, q_at J.2.1 (lvb_of (k := k) (by omega)), q_at J.2.1 (lvb_of (k := 42 + r) (by omega))]
  refine ⟨vp_in_nI (by omega) (by omega), fun w => absurd w c4, fun _ => ⟨vi42 r8, fun _ => ?_, fun w => absurd c5 w⟩⟩
  refine k_copies K.sx J.1 J.2.1 (fun v b1 b2 b3 b4 y4 f4 y5 f5 => ⟨vi74 r8, fun y6 f6 => ⟨vi82 r8, ?_⟩⟩)
  rw [ix74 r8] at f6
  rw [ix82 r8]
  have b3k := q_at b3 (lvb_of (e := dE d) (k := k) (by omega))
  have b3p := q_at b3 (lvb_of (e := dE d) (k := 115) (by omega))
  have b3f := q_at b3 (lvb_of (e := dE d) (k := 82 + r) (by omega))
  have r6 : y6.1 163 = upd (upd (upd (v.1 163) k (pN π k - x3)) 115 (pN π 115 + x3)) (74 + r) 0 := by
    rw [f6, wi_s, f5, wi_s, f4, wi_s, b3k, upd_n _ _ (show 115 ≠ k by omega), b3p]
  have F6 : FrR v y6 := by
    rw [f6, f5, f4, wi_def v, wi_si, wi_si]; exact FrR.si163 v _
  have v82 : y6.1 163 (82 + r) = pN π (82 + r) := by rw [r6, upd_n _ _ (by omega), upd_n _ _ (by omega), upd_n _ _ (by omega)]; exact b3f
  rw [v82]
  have nm6 : nm (dE d) (y6.1 163) = upd (upd (upd (pN π) k (pN π k - x3)) 115 (pN π 115 + x3)) (74 + r) 0 := by
    rw [r6, nm_upd (lvb_of (by omega)), nm_upd (lvb_of (by omega)), nm_upd (lvb_of (by omega)), b3]
  refine ⟨fun w => ?_, fun w y8 f8 => ?_⟩
  · refine k_kee K.sx J I.2.2.2.1 (b4.tr F6) (N' := pGv r k x3 (pN π)) ?_ (fun z J' F => GI.r (hq _ _ g' z (fin_do hc I RVn C J' F)))
    rw [nm6, pGv, if_pos w]
    have : upd (upd (upd (pN π) k (pN π k - x3)) 115 (pN π 115 + x3)) (74 + r) 0 (82 + r) = pN π (82 + r) := by rw [upd_n _ _ (by omega), upd_n _ _ (by omega), upd_n _ _ (by omega)]
    rw [← this, upd_self]
  · refine k_kee K.sx J I.2.2.2.1 (b4.tr (F6.tr (by rw [f8, wi_def]; exact FrR.si163 y6 _))) (N' := pGv r k x3 (pN π)) ?_ (fun z J' F => GI.r (hq _ _ g' z (fin_do hc I RVn C J' F)))
    rw [f8, wi_s, nm_upd (lvb_of (by omega)), nm6, pGv, if_neg w]
theorem p_send (hc : c < 512) (hb : x2 = 0 ∨ x2 = 1) (I : INV d t lv c π g s) (hq : ∀ A π' g' v, INV d t lv (c + 1) π' g' v → Q A A g' v) : XI E m_Rs_send [.ref 16, .int x1, .int x2] g s (fun y g' u => SX g' ∧ GI E m_Mo_send [.ref 120, .int x1, .int x2] g' u (fun y' v => Q y y' g' v)) := by
  have hS := I.1.1.sx
  have hO := I.1.1.o
  have h8 : eR (dE d) ≤ 8 := hO.r8
  have h8' := hO.r8
  have P := I.pc
  have R0 := I.2.2.1
  have hn := I.hn
  have fin := hq 0 π g s (I.le hc)
  refine v_Rs_send (Q := rI _) _ _ t hS P.1.et P.1.ht ?_
  rw [P.1.tc.ra]
  refine f_Rs_isOf (fun q => ⟨fun _ => rI.mk ⟨hS, ?_⟩, fun c => absurd rfl c⟩) (fun q => ⟨fun c => absurd c (by decide), fun _ => ?_⟩)
  · exact v_Mo_send (Q := qI g _) _ _ hS (f_Mo_isRat hS hO I.2.1.1 (fun _ => ⟨fun _ => GI.r fin, fun c => absurd rfl c⟩) (fun w => absurd w q))
  obtain ⟨r, hr', rfl⟩ := lt_ex (by omega) q
  have hre : r < eR (dE d) := hr'
  have r8 : r < 8 := by omega
  have e78 : s.1 (78 + r) 0 = pN π (42 + r) := by rw [← q_at P.2.1 (lvb_of (k := 42 + r) (by omega))]; exact (hr42 s 74 r8).symm
  rw [tn_n (by omega), e78]
  -- the reference, refusing
  have no : (pN π (42 + r) = 3 ∧ x2 = 1) ∨ (¬ pN π (42 + r) = 3 ∧ x2 = 0) → GI E m_Mo_send [.ref 120, .int (nI r), .int x2] g s (fun y' v => Q 0 y' g v) := by
    intro w
    refine v_Mo_send (Q := qI g _) _ _ hS (f_Mo_isRat hS hO I.2.1.1 (fun w => absurd q w) (fun _ => ⟨fun c => absurd c (by decide), fun _ => ?_⟩))
    rw [ix42 r8, q_at I.pr.2 (lvb_of (by omega))]
    refine ⟨vi42 r8, fun c3 => ⟨fun _ => GI.r fin, fun c4 => ?_⟩, fun c3 => ⟨fun _ => GI.r fin, fun c4 => ?_⟩⟩
    · rcases w with ⟨w1, w2⟩ | ⟨w1, w2⟩
      · exact absurd w2.symm c4
      · exact absurd c3 w1
    · rcases w with ⟨w1, w2⟩ | ⟨w1, w2⟩
      · exact absurd w1 c3
      · exact absurd w2.symm c4
  refine ⟨vp_in_nI (by omega) (by omega), fun c3 => ⟨fun c4 => rI.mk ⟨hS, no (Or.inl ⟨c3, c4.symm⟩)⟩, fun c4 => ?_⟩, fun c3 => ⟨fun c4 => rI.mk ⟨hS, no (Or.inr ⟨c3, c4.symm⟩)⟩, fun c4 => ?_⟩⟩
  · -- called back
    have z : x2 = 0 := hb.resolve_right (fun w => c4 w.symm)
    refine k_rem I (fun g' u K N74 c74 D => ⟨K.sx, fun _ => ?_, fun w => absurd z w⟩)
    have u42 : hr u 74 (42 + r) = pN π (42 + r) := q_at N74 (lvb_of (by omega))
    refine f_House_callBack (HS74 K.sx) r8 c74 (by rw [u42, c3]; decide) (fun u2 w1 w2 w3 => rI.mk ⟨K.sx, ?_⟩)
    obtain ⟨C, FCs⟩ := D u2 (upd (pN π) (42 + r) 0) (FrH.C HB74 w3) (by rw [w1, nm_upd (lvb_of (by omega)), N74]) w2
    have J := I.2.1.mv FCs
    refine v_Mo_send (Q := qI g' _) _ _ K.sx (f_Mo_isRat K.sx hO J.1 (fun w => absurd q w) (fun _ => ⟨fun c => absurd c (by decide), fun _ => ?_⟩))
    rw [ix42 r8, q_at J.2.1 (lvb_of (by omega))]
    refine ⟨vi42 r8, fun _ => ⟨fun w => absurd w c4, fun _ => ?_⟩, fun w => absurd c3 w⟩
    refine k_copies K.sx J.1 J.2.1 (fun v b1 b2 b3 b4 => ⟨fun _ s3 e3 => ?_, fun w => absurd z w⟩)
    refine k_kee K.sx J I.2.2.2.1 (b4.tr (by rw [e3, wi_def]; exact FrR.si163 v _)) (N' := upd (pN π) (42 + r) 0) ?_ (fun w J' F => GI.r (hq _ _ g' w (fin_do hc I (RV.back hO hr' c3 R0).nn C J' F)))
    rw [e3, wi_s, nm_upd (lvb_of (by omega)), b3]
  · -- sent home
    have z : ¬ x2 = 0 := fun w => c4 w.symm
    refine k_rem I (fun g' u K N74 c74 D => ⟨K.sx, fun w => absurd w z, fun _ => ?_⟩)
    refine k_sendHome hO (HS74 K.sx) hr' N74 c74 (R0.1.2.1.2.2 r hre).2.1 (fun u2 w1 w2 w3 => rI.mk ⟨K.sx, ?_⟩)
    obtain ⟨C, FCs⟩ := D u2 (pHome r (pN π)) (FrH.C HB74 w3) w1 w2
    have J := I.2.1.mv FCs
    refine v_Mo_send (Q := qI g' _) _ _ K.sx (f_Mo_isRat K.sx hO J.1 (fun w => absurd q w) (fun _ => ⟨fun c => absurd c (by decide), fun _ => ?_⟩))
    rw [ix42 r8, q_at J.2.1 (lvb_of (by omega))]
    refine ⟨vi42 r8, fun w => absurd w c3, fun _ => ⟨fun w => absurd w c4, fun _ => ?_⟩⟩
    refine k_copies K.sx J.1 J.2.1 (fun v b1 b2 b3 b4 => ⟨fun w => absurd w z, fun _ => ?_⟩)
    refine k_goesHome K.sx hO hr' b3 hn (fun y y1 y2 => ?_)
    exact k_kee K.sx J I.2.2.2.1 (b4.tr y2.R) y1 (fun w J' F => GI.r (hq _ _ g' w (fin_do hc I (RV.home hO hr' (by omega) hn R0).nn C J' F)))
theorem p_sell (hc : c < 512) (I : INV d t lv c π g s) (hq : ∀ A π' g' v, INV d t lv (c + 1) π' g' v → Q A A g' v) : XI E m_Rs_sell [.ref 16, .int x1] g s (fun y g' u => SX g' ∧ GI E m_Mo_sell [.ref 120, .int x1] g' u (fun y' v => Q y y' g' v)) := by
  have hS := I.1.1.sx
  have hO := I.1.1.o
  have m5 := hO.m5
  have g6 := hO.g6
  have h6 := hO.h6
  have h8 : eR (dE d) ≤ 8 := hO.r8
  have P := I.pc
  have R0 := I.2.2.1
  have hv := I.2.1.1.2.2.1
  have fin := hq 0 π g s (I.le hc)
  have ck := I.2.2.2.2.2.2.2.2
  refine v_Rs_sell (Q := rI _) _ t hS P.1.et P.1.ht ?_
  rw [P.1.tc.me]
  refine f_Rs_isOf (fun q => ⟨fun _ => rI.mk ⟨hS, ?_⟩, fun c => absurd rfl c⟩) (fun q => ⟨fun c => absurd c (by decide), fun _ => ?_⟩)
  · refine v_Mo_sell (Q := qI g _) _ hS ⟨by rw [I.2.1.1.2.1]; exact vp_in_nI hv (by omega), ?_⟩
    rw [I.2.1.1.2.1, tn_n (by omega), I.2.1.1.1.me]
    exact f_Mo_in (fun _ => ⟨fun _ => GI.r fin, fun c => absurd rfl c⟩) (fun w => absurd ((lt_pred (by omega)).mp w) q)
  obtain ⟨m, hm, rfl⟩ := lt_ex (by omega) q
  have e7 : s.1 74 7 = pN π 117 := by rw [← hr117, q_at P.2.1 (lvb_of (by omega))]
  have p256 : 2 ^ m < 256 := Nat.lt_of_le_of_lt (Nat.pow_le_pow_right (by omega) (show m ≤ 4 by omega)) (by decide)
  have cg : ∀ R : Row, nm (dE d) R = pN π → (eno d (2 ^ m) R ↔ eno d (2 ^ m) (pN π)) := fun R hR => eno_cg hO (fun x hx => by rw [← hR, nm42 hx])
  -- the reference up to where it asks whether there is enough
  have ref : ∀ g' u A, SX g' → IRf d lv π u → ((¬ (pN π 117 &&& ((1 : Int32) <<< (nI m &&& 31)) = 0) ∨ ¬ eno d (2 ^ m) (pN π)) → ∀ v, FrR u v → Q A 0 g' v) → ((pN π 117 &&& ((1 : Int32) <<< (nI m &&& 31)) = 0) → eno d (2 ^ m) (pN π) → ∀ v, FrR u v → nm (dE d) (v.1 163) = pN π → AWP E m_Mo_sell 54 0 0 [(0, .ref 120), (1, .int (nI m)), (2, .int 0)] [] (mk g' v) (qI g' fun y' v => Q A y' g' v)) → GI E m_Mo_sell [.ref 120, .int (nI m)] g' u (fun y' v => Q A y' g' v) := by
    intro g' u A hS' J h0 h1
    refine v_Mo_sell (Q := qI g' _) _ hS' ⟨by rw [J.1.2.1]; exact vp_in_nI hv (by omega), ?_⟩
    rw [J.1.2.1, tn_n (by omega), J.1.1.me]
    refine f_Mo_in (fun w => absurd ((lt_pred (by omega)).mpr q) w) (fun _ => ⟨fun c => absurd c (by decide), fun _ => ?_⟩)
    rw [q_at J.2.1 (lvb_of (by omega))]
    refine ⟨fun w => GI.r (h0 (Or.inl fun y => ?_) u (FrR.rf u)), fun w => ?_⟩
    · have := (bit1 _ (by omega)).mp w
      rw [(bit0 _ (by omega)).mp y] at this
      exact absurd this (by decide)
    · have z : pN π 117 &&& ((1 : Int32) <<< (nI m &&& 31)) = 0 := by
        rw [bit0 _ (by omega)]
        cases y : (pN π 117).toBitVec.getLsbD m
        · rfl
        · exact absurd ((bit1 _ (by omega)).mpr y) w
      refine k_copies hS' J.1 J.2.1 (fun v b1 b2 b3 b4 => ?_)
      rw [bt_pow m (by omega)]
      refine k_isEnough hS' hO (J.1.mv b4) p256 (fun y => ⟨fun c => absurd c (by decide), fun _ => h1 z ((cg _ b3).mp y) v b4 b3⟩) (fun y => ⟨fun _ => GI.r (h0 (Or.inr fun w => y ((cg _ b3).mpr w)) v b4), fun c => absurd rfl c⟩)
  have refNo : (¬ (pN π 117 &&& ((1 : Int32) <<< (nI m &&& 31)) = 0) ∨ ¬ eno d (2 ^ m) (pN π)) → GI E m_Mo_sell [.ref 120, .int (nI m)] g s (fun y' v => Q 0 y' g v) := by
    intro w
    refine ref g s 0 hS I.2.1 (fun _ v hv' => hq _ π g v ⟨I.1.mv hv'.F, I.2.1.r hv', (I.le hc).2.2⟩) (fun z1 z2 => ?_)
    exact absurd w (fun y => y.elim (fun y => y z1) (fun y => y z2))
  rw [e7]
  refine ⟨fun c1 => ?_, fun c1 => rI.mk ⟨hS, refNo (Or.inl c1)⟩⟩
  rw [bt_pow m (by omega)]
  refine k_hasFor P.1 (HS74 hS) p256 (fun y => ⟨fun c => absurd c (by decide), fun _ => ?_⟩) (fun y => ⟨fun _ => rI.mk ⟨hS, refNo (Or.inr fun w => y ((cg _ P.2.1).mpr w))⟩, fun c => absurd rfl c⟩)
  have en := (cg _ P.2.1).mp y
  refine k_rem I (fun g' u K N74 c74 D => ⟨K.sx, K.ht, ?_⟩)
  refine k_handOver K rfl (HS74 K.sx) hm c74 N74 (fun u2 w1 w2 w3 => rI.mk ⟨K.sx, ?_⟩)
  obtain ⟨C, FCs⟩ := D u2 (pSell d m (pN π)) (FrH.C HB74 w3) w1 w2
  have J := I.2.1.mv FCs
  refine ref g' u2 1 K.sx J (fun w => absurd w (fun y => y.elim (fun y => y c1) (fun y => y en))) (fun _ _ v b4 b3 => ?_)
  have hS' := K.sx
  have slo : ∀ j, j < 6 ∨ 42 ≤ j → pSl d m (nG d) (pN π) j = pN π j := fun j hj => pSl_o hO hj _ g6
  have RVn : RV d (c + 1) (pSell d m (pN π)) := by
    have so : ∀ j, (j < 6 ∨ 42 ≤ j) → j ≠ 116 → j ≠ 117 → pSell d m (pN π) j = pN π j := fun j h1 h2 h3 => by
      unfold pSell; rw [upd_n _ _ h3, upd_n _ _ h2, slo j h1]
    refine R0.mk' hO (Nat.le_succ c) (by omega) (fun x hx => ?_) (fun x hx => ?_) (fun x hx => ?_) (fun x hx => ?_) ?_ ?_ ?_
    · have : x < eR (dE d) := hx
      exact ⟨so _ (by omega) (by omega) (by omega), so _ (by omega) (by omega) (by omega), so _ (by omega) (by omega) (by omega), so _ (by omega) (by omega) (by omega), so _ (by omega) (by omega) (by omega)⟩
    · rw [so _ (by omega) (by have : x < eR (dE d) := hx; omega) (by have : x < eR (dE d) := hx; omega)]; exact (R0.1.1 x hx).1
    · rw [so _ (by omega) (by have : x < eR (dE d) := hx; omega) (by have : x < eR (dE d) := hx; omega)]; exact R0.h74 hx
    · rw [so _ (by omega) (by have : x < eR (dE d) := hx; omega) (by have : x < eR (dE d) := hx; omega)]; exact R0.2.2.2.2.1 x hx
    · exact so _ (by omega) (by omega) (by omega)
    · rw [so _ (by omega) (by omega) (by omega)]; exact R0.2.2.2.1
    · have W : ∀ k, k ≤ nG d → WF4 (dE d) (10000 * (c + 6)) (pSl d m k (pN π)) := by
        intro k
        induction k with
        | zero => intro _; exact R0.2.1
        | succ k ih => intro hk; exact (wf4_pSI (q := (pSl d m k (pN π), dWx d m k)) hO (by omega) (ih (by omega)) (dWx_nn hO hO.wa hm) _ (Nat.le_refl _)).1
      refine ((W _ (Nat.le_refl _)).cg (fun y hy => ?_) (fun y hy => ?_)).le (by omega)
      · unfold pSell; rw [upd_n _ _ (by omega), upd_n _ _ (by omega)]
      · unfold pSell; rw [upd_n _ _ (by omega), upd_n _ _ (by omega)]
  refine upto (P := fun k => ∀ w, FrR u2 w → nm (dE d) (w.1 163) = pSl d m k (pN π) → AWP E m_Mo_sell 54 0 0 [(0, .ref 120), (1, .int (nI m)), (2, .int (nI k))] [] (mk g' w) (qI g' fun y' v => Q 1 y' g' v)) 6 ?_ ?_ 0 (Nat.zero_le _) v b4 b3
  · intro w a1 a2
    have Kw := J.1.mv a1
    rw [pSl_6 hO 6 g6] at a2
    refine v_Mo_sell_54 _ _ hS' (pk_le 6 6 (fun _ => ?_) (fun q => absurd q (by omega)))
    rw [Kw.2.1, y5, tn_n (by omega), (Kw.1.mr hm).1]
    refine ⟨vp_in_nI (by omega) (by omega), fun s1 e1 s2 e2 => ?_⟩
    have v6 : w.1 163 116 = pN π 116 := by rw [q_at a2 (lvb_of (by omega)), slo _ (by omega)]
    have v7 : w.1 163 117 = pN π 117 := by rw [q_at a2 (lvb_of (by omega)), slo _ (by omega)]
    rw [v6] at e1
    rw [v7] at e2
    refine k_kee hS' J I.2.2.2.1 (a1.tr (by rw [e2, e1, wi_def w, wi_si]; exact FrR.si163 w _)) (N' := pSell d m (pN π)) ?_ (fun z J' F => GI.r (hq _ _ g' z (fin_do hc I RVn C J' F)))
    rw [e2, wi_s, e1, wi_s, nm_upd (lvb_of (by omega)), nm_upd (lvb_of (by omega)), a2]; rfl
  · intro k hk ih w a1 a2
    have Kw := J.1.mv a1
    refine v_Mo_sell_54 _ _ hS' (pk_le 6 k (fun q => absurd q (by omega)) (fun _ => ?_))
    rw [bt_pow m (by omega)]
    refine k_wantedBy hS' hO Kw p256 hk ?_
    rw [pWt_one, if_pos hm]
    rw [pSl] at ih
    refine upto (P := fun h => ∀ w, FrR u2 w → nm (dE d) (w.1 163) = (pSI d k h (pSl d m k (pN π), dWx d m k)).1 → AWP E m_Mo_sell 72 0 0 [(0, .ref 120), (1, .int (nI m)), (2, .int (nI k)), (3, .int (pSI d k h (pSl d m k (pN π), dWx d m k)).2), (4, .int (nI h))] [] (mk g' w) (qI g' fun y' v => Q 1 y' g' v)) (nH d) ?_ ?_ 0 (Nat.zero_le _) w a1 a2
    · intro w a1 a2
      have Kw := J.1.mv a1
      refine v_Mo_sell_72 _ _ _ _ hS' ⟨by rw [Kw.2.1]; exact vp_in_nI hv (by omega), ?_⟩
      rw [Kw.2.1, tn_n (by omega), nI_1 k]
      exact pk_le (nH d) (nH d) (fun _ => ih w a1 a2) (fun q => absurd q (by omega)) Kw.1.ho
    · intro h hh' ih2 w a1 a2
      have Kw := J.1.mv a1
      have og := hO.ow hh'
      refine v_Mo_sell_72 _ _ _ _ hS' ⟨by rw [Kw.2.1]; exact vp_in_nI hv (by omega), ?_⟩
      rw [Kw.2.1, tn_n (by omega), y6, tn_n (by omega), Kw.1.ow hh', z6, tn_n (by omega), nI_1 h]
      rw [pSI] at ih2
      have wc := q_at a2 (lvb_of (e := dE d) (k := 6 + 6 * h + k) (by omega))
      rw [wc]
      generalize pSI d k h (pSl d m k (pN π), dWx d m k) = q0 at ih2 a2 wc ⊢
      refine pk_le (nH d) h (fun q => absurd q (by omega)) (fun _ => ⟨vp_in_nI (by omega) (by omega), pk_eq (dOw d h) k (fun e => ⟨vp_in_nI (by omega) (by omega), fun c2 s1 e1 => ?_, fun c2 s1 e1 => ?_⟩) (fun e => ?_)⟩) Kw.1.ho
      · rw [if_pos e, if_neg (Int32.not_lt.mpr c2)] at ih2
        refine ih2 s1 (a1.tr (by rw [e1, wi_def]; exact FrR.si163 w _)) ?_
        rw [e1, wi_s, nm_upd (lvb_of (by omega)), a2]
      · rw [if_pos e, if_pos (Int32.not_le.mp c2)] at ih2
        refine ih2 s1 (a1.tr (by rw [e1, wi_def]; exact FrR.si163 w _)) ?_
        rw [e1, wi_s, nm_upd (lvb_of (by omega)), a2]
      · rw [if_neg e] at ih2
        exact ih2 w a1 a2
theorem p_hold (hc : c < 512) (I : INV d t lv c π g s) (hq : ∀ A π' g' v, INV d t lv (c + 1) π' g' v → Q A A g' v) : XI E m_Rs_hold [.ref 16, .int x1] g s (fun y g' u => SX g' ∧ GI E m_Mo_hold [.ref 120, .int x1] g' u (fun y' v => Q y y' g' v)) := by
  have hS := I.1.1.sx
  have n173 : 173 ≤ g.1 := hS.2.2.1
  by_cases w : 0 ≤ x1 ∧ x1 < 3
  · obtain ⟨i, hi, rfl⟩ := lt_ex (n := 3) (by decide) w
    have I' := I
    obtain ⟨i1, i2, i3⟩ := I
    have et := i1.1.et
    obtain ⟨⟨k1, k2, k3, k4, k5, k6, k7, k8, k9, k10⟩, h2, h3, h4, h5, ⟨e, e1, e2, e3, e4⟩, ⟨hb, hb8, hbe, hbi⟩, h8, h9, h10, h11⟩ := i1
    refine k_hold hS h5 hi h3.2 (fun g' u b G r1 r2 r3 r4 r5 r6 => ?_)
    obtain ⟨g1, g2, g3, g4, ⟨g5, g5'⟩, g6⟩ := G
    refine ⟨g1, ?_⟩
    obtain ⟨o1, o2, o3⟩ := bt_or hb hb8 i hi
    have A : ∀ a, a < g.1 → (a < b ∨ b + 12 ≤ a) → a ≠ 16 → u.1 a = s.1 a := by
      intro a x1 x2 x3
      by_cases z : a = 31
      · rw [z]; exact r5
      · exact r6.1 a x1 x2 x3 z
    have B : ∀ i' b', i' < 43 → i' ≠ 40 + i → pa g i' = some b' → CH b' s → CH b' u ∧ hr u b' = hr s b' := by
      intro i' b' x1 x2 x3 x4
      have pd := pool_dis g2 (i := 40 + i) (i' := i') (by omega) x1 (fun w => x2 w.symm) g3 (by rw [g4 i' x1 x2]; exact x3)
      obtain ⟨n, n1, n2, n3⟩ := h5
      obtain ⟨j, j1, j2, -⟩ := n2 i' b' x1 x3
      exact ⟨x4.cg (fun a y1 y2 => A a (by omega) (by omega) (by omega)), hr_c2 (fun a y1 y2 => A a (by omega) (by omega) (by omega))⟩
    have IC : ICl d t (sHo π i) g' u := by
      refine ⟨⟨g1, k2, by rw [g6 16 10 (by omega) (by omega) (by omega)]; exact k3, by rw [g6 28 0 (by omega) (by omega) (by omega)]; exact k4, k5, k6.mv (fun a x1 x2 => A a (by omega) (by omega) (by omega)), fun j hj => by rw [A 29 (by omega) (by omega) (by omega)]; exact k7 j hj, by rw [A 28 (by omega) (by omega) (by omega)]; exact k8, fun j hj => by rw [A 1 (by omega) (by omega) (by omega)]; exact k9 j hj, k10⟩, by rw [g6 16 11 (by omega) (by omega) (by omega)]; exact h2, ⟨by rw [hr_c2 (fun a y1 y2 => A a (by omega) (by omega) (by omega))]; exact h3.1, h3.2.cg (fun a y1 y2 => A a (by omega) (by omega) (by omega))⟩, ?_, g2, ?_, ?_, ?_, ?_, ?_, by rw [r4 13 (by decide)]; exact h11⟩
      · unfold CW; rw [r5]; exact h4
      · refine ⟨e, e1, by rw [r4 14 (by decide)]; exact e2, by rw [r4 15 (by decide)]; exact e3, fun j hj => ?_⟩
        obtain ⟨b0, b1, b2, b3⟩ := e4 j hj
        obtain ⟨q1, q2⟩ := B _ b0 (by omega) (by omega) b1 b2
        exact ⟨b0, by rw [g4 _ (by omega) (by omega)]; exact b1, q1, by rw [q2]; exact b3⟩
      · refine ⟨hb ||| 2 ^ i, o2, by rw [r3, hbe]; exact o1, fun j hj => ?_⟩
        rw [o3 j hj]
        show ((hb.testBit j || decide (j = i)) = false ∧ (if j = i then some (pN π) else pS π j) = none) ∨ _
        by_cases z : j = i
        · subst z
          refine Or.inr ⟨by simp, b, pN π, ?_, g3, r2, by rw [r1]; exact h3.1⟩
          show (if j = j then some (pN π) else pS π j) = some (pN π)
          rw [if_pos rfl]
        · rw [if_neg z]
          have dz : decide (j = i) = false := by simp [z]
          rw [dz, Bool.or_false]
          rcases hbi j hj with q | ⟨q1, b0, R, q2, q3, q4, q5⟩
          · exact Or.inl q
          · obtain ⟨y1, y2⟩ := B (40 + j) b0 (by omega) (by omega) q3 q4
            refine Or.inr ⟨q1, b0, R, ?_, by rw [g4 _ (by omega) (by omega)]; exact q3, y1, by rw [y2]; exact q5⟩
            show (if j = i then some (pN π) else pS π j) = some R
            rw [if_neg z]; exact q2
      · refine ⟨by rw [A 56 (by omega) (by omega) (by omega)]; exact h8.1, fun j hj => ?_⟩
        rw [A 57 (by omega) (by omega) (by omega), A 58 (by omega) (by omega) (by omega), A 59 (by omega) (by omega) (by omega), A 60 (by omega) (by omega) (by omega)]; exact h8.2 j hj
      · exact h9.mv (by rw [A 56 (by omega) (by omega) (by omega)]) (A 61 (by omega) (by omega) (by omega)) (fun a _ _ => A a (by omega) (by omega) (by omega))
      · refine ⟨by rw [r4 12 (by decide)]; exact h10.1, fun j hj => ?_⟩
        rw [A 17 (by omega) (by omega) (by omega)]; exact h10.2 j hj
    have J2 := i2.mv (u := u) ⟨fun a x1 x2 => A a (by omega) (by omega) (by omega), fun a x1 x2 => r6.2 a x2⟩
    refine v_Mo_hold (Q := qI g' _) _ g1 (f_Mo_in (fun q => absurd ((lt_pred (n := 3) (by decide)).mpr w) q) (fun _ => ⟨fun c => absurd c (by decide), fun _ => ⟨vp_in_nI hi (by omega), fun s2 f2 => ?_⟩⟩))
    rw [tn_n (by omega)] at f2
    refine upto (P := fun k => ∀ v, (∀ j, j < k → v.1 172 (120 * i + j) = u.1 162 j) → (∀ j, (j < 120 * i ∨ 120 * i + 120 ≤ j) → v.1 172 j = u.1 172 j) → (∀ a, a ≠ 172 → v.1 a = s2.1 a) → v.2 = s2.2 → AWP E m_Mo_hold 20 0 0 [(0, .ref 120), (1, .int (nI i)), (2, .int (nI k))] [] (mk g' v) (qI g' fun y' v => Q 1 y' g' v)) 120 ?_ ?_ 0 (Nat.zero_le _) s2 (fun j hj => absurd hj (by omega)) (fun j hj => by rw [f2, wi_n _ _ _ (by decide)]) (fun _ _ => rfl) rfl
    · intro v a1 a2 a3 a4
      refine v_Mo_hold_20 _ _ g1 (pk_le 120 120 (fun _ => GI.r (hq _ (sHo π i) g' v ⟨IC.mv ⟨fun a x1 => ?_, fun a x1 => ?_⟩, ?_, ?_⟩)) (fun q => absurd q (by omega)))
      · rw [a3 a (by omega), f2, wi_n _ _ _ (by omega)]
      · rw [a4, f2, wi_2]
      · obtain ⟨⟨y1, y2, y3, y4⟩, j2, j3, j4, j5, j6, j7, j8⟩ := J2
        have eo : ∀ a, a ≠ 171 → a ≠ 172 → v.1 a = u.1 a := fun a x1 x2 => by rw [a3 a x2, f2, wi_n _ _ _ x1]
        refine ⟨⟨y1.mv (fun a x1 x2 => eo a (by omega) (by omega)), by rw [eo 120 (by omega) (by omega)]; exact y2, y3, fun j hj => by rw [eo 164 (by omega) (by omega)]; exact y4 j hj⟩, by rw [eo 162 (by omega) (by omega)]; exact j2, ?_, fun j hj => ?_, ?_, ?_, by rw [eo 120 (by omega) (by omega)]; exact j7, by rw [a4, f2, wi_2]; exact j8⟩
        · unfold hrow; rw [eo 120 (by omega) (by omega), eo 166 (by omega) (by omega)]; exact j3
        · have v171 : v.1 171 j = if j = i then 1 else u.1 171 j := by
            rw [a3 171 (by decide), f2, wi_s, upd_a]
            rfl
          rw [v171]
          show _ ∨ _ ∧ ∃ R, (if j = i then some (pN π) else pS π j) = some R ∧ _
          by_cases z : j = i
          · subst z
            rw [if_pos rfl]
            refine Or.inr ⟨rfl, pN π, by rw [if_pos rfl], ?_⟩
            rw [nm_120 (R := srow v j) (R' := u.1 162) (fun x hx => a1 x hx)]; exact j2
          · rw [if_neg z]
            rcases j4 j hj with ⟨q1, q2⟩ | ⟨q1, R, q2, q3⟩
            · refine Or.inl ⟨q1, ?_⟩
              show (if j = i then some (pN π) else pS π j) = none
              rw [if_neg z]; exact q2
            · refine Or.inr ⟨q1, R, by rw [if_neg z]; exact q2, ?_⟩
              rw [nm_120 (R := srow v j) (R' := srow u j) (fun x hx => a2 _ (by omega))]; exact q3
        · rw [eo 120 (by omega) (by omega), eo 167 (by omega) (by omega), eo 168 (by omega) (by omega), eo 169 (by omega) (by omega), eo 170 (by omega) (by omega)]; exact j5
        · rw [eo 120 (by omega) (by omega), eo 121 (by omega) (by omega)]; exact j6
      · refine ⟨i3.1.nn, i3.2.1, fun j hj => (i3.2.2.1 j hj).nn, fun j R hj e => ?_, i3.2.2.2.2.1, i3.2.2.2.2.2.1, by omega⟩
        have e' : (if j = i then some (pN π) else pS π j) = some R := e
        by_cases z : j = i
        · rw [if_pos z] at e'; cases e'; exact i3.1.nn
        · rw [if_neg z] at e'; exact (i3.2.2.2.1 j R hj e').nn
    · intro k hk ih v a1 a2 a3 a4
      refine v_Mo_hold_20 _ _ g1 (pk_le 120 k (fun q => absurd q (by omega)) (fun _ => ?_))
      rw [show (120 : Int32) * nI i + nI k = nI (120 * i + k) by rw [show (120 : Int32) = nI 120 from rfl, pk_mul, nI_add], tn_n (by omega), tn_n (by omega), nI_1]
      refine ⟨vp_in_nI (by omega) (by omega), vp_in_nI (by omega) (by omega), fun z e1 => ih z ?_ ?_ ?_ ?_⟩
      · intro j hj
        rw [e1, wi_s, upd_a]
        by_cases q : j = k
        · rw [if_pos (by omega), a3 162 (by decide), f2, wi_n _ _ _ (by decide), q]
        · rw [if_neg (by omega)]; exact a1 j (by omega)
      · intro j hj; rw [e1, wi_s, upd_n _ _ (by omega)]; exact a2 j hj
      · intro a ha; rw [e1, wi_n _ _ _ ha]; exact a3 a ha
      · rw [e1, wi_2]; exact a4
  · refine k_holdNo w ?_
    refine ⟨hS, ?_⟩
    exact v_Mo_hold (Q := qI g _) _ hS (f_Mo_in (fun _ => ⟨fun _ => GI.r (hq _ π g s (I.le hc)), fun c => absurd rfl c⟩) (fun q => absurd ((lt_pred (n := 3) (by decide)).mp q) w))
end Pairs
section PRead
variable {E : EN} {g : GS} {s : MS} {d : TD} {π : PS} {t lv : Nat}
theorem p_read {Q : Int32 → Int32 → GS → MS → Prop} {c : Nat} (hc : c < 512) (I : INV d t lv c π g s) (hq : ∀ A d' t' lv' π' g' v, INV d' t' lv' (c + 1) π' g' v → Q A A g' v) : XI E m_Rs_read [.ref 16] g s (fun y g' u => SX g' ∧ GI E m_Mo_read [.ref 120] g' u (fun y' v => Q y y' g' v)) := by
  obtain ⟨IC, IR, IP⟩ := I
  have hO : TOk d := IC.1.o
  have lv2 := IR.1.2.2.1
  obtain ⟨p1, p2, p3, p4, p5, ⟨p6, p6'⟩, p7⟩ := IP
  have ipb : ∀ P, IPu d (c + 1) (sRd π P) := fun P => ⟨p1.nn, p2, fun i hi => (p3 i hi).nn, fun i R hi e => (p4 i R hi e).nn, p5, ⟨Nat.zero_le _, fun i hi => absurd hi (Nat.not_lt_zero _)⟩, by omega⟩
  have ipn : ∀ d', TOk d' → IPu d' (c + 1) (sNw d' π) := fun d' h => ⟨beg_RV h (c + 1), Nat.zero_le _, fun i hi => absurd hi (Nat.not_lt_zero _), fun i R hi e => absurd e (by show ¬ (none : Option Row) = some R; simp), ⟨Nat.zero_le _, fun i hi => absurd hi (Nat.not_lt_zero _)⟩, ⟨Nat.zero_le _, fun i hi => absurd hi (Nat.not_lt_zero _)⟩, by omega⟩
  have hf : ∀ u, FC s u → ∀ j, j < 6 → u.1 135 (6 * (1 - lv) + j) = (fun k => if k < 6 then s.1 135 (6 * (1 - lv) + k) else 0) j := fun u hu j hj => by
    rw [hu.1 135 (by omega) (by omega)]; exact (if_pos hj).symm
  have hf2 : ∀ j, 6 ≤ j → (fun k => if k < 6 then s.1 135 (6 * (1 - lv) + k) else (0 : Int32)) j = 0 := fun j hj => if_neg (by omega)
  refine f_C_read (fun k => if k < 6 then s.1 135 (6 * (1 - lv) + k) else 0) IC p6 p6' (fun M g' v hM z C1 F1 => ?_) (fun M g' v x hM z hs C1 F1 => ?_) (fun M g' v y hM z hs hO' C1 F1 => ?_)
  · refine ⟨C1.1.sx, ?_⟩
    refine f_M_read (sd := 1 - lv) (fa := fun k => if k < 6 then s.1 135 (6 * (1 - lv) + k) else 0) C1.1.sx hO (by omega) (IR.mv F1) p6 p6' hM (hf v F1) hf2 (fun w _ J F => hq _ d t lv _ g' w ⟨C1.mv F, J, ipb _⟩) (fun w x z' _ _ _ => absurd z' z) (fun w y z' _ _ _ => absurd z' z)
  · refine ⟨C1.1.sx, ?_⟩
    refine f_M_read (sd := 1 - lv) (fa := fun k => if k < 6 then s.1 135 (6 * (1 - lv) + k) else 0) C1.1.sx hO (by omega) (IR.mv F1) p6 p6' hM (hf v F1) hf2 (fun w z' _ _ => absurd z z') (fun w x' _ hs' J F => ?_) (fun w y _ hs' _ _ => by rw [hs] at hs'; exact absurd hs' (by simp))
    rw [hs] at hs'
    have ex : x = x' := by injection hs'
    subst ex
    exact hq _ d t lv _ g' w ⟨C1.mv F, J, ipb _⟩
  · refine ⟨C1.1.sx, ?_⟩
    refine f_M_read (sd := 1 - lv) (fa := fun k => if k < 6 then s.1 135 (6 * (1 - lv) + k) else 0) C1.1.sx hO (by omega) (IR.mv F1) p6 p6' hM (hf v F1) hf2 (fun w z' _ _ => absurd z z') (fun w x' _ hs' _ _ => by rw [hs] at hs'; exact absurd hs' (by simp)) (fun w y' _ hs' J F => ?_)
    rw [hs] at hs'
    have ey : y = y' := by injection hs'
    subst ey
    exact hq _ y.1 (192 - t) (1 - lv) _ g' w ⟨C1.mv F, J, ipn _ hO'⟩
end PRead
