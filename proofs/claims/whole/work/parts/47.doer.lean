/-! THINGS DONE: rows kept well formed; remembering and keeping as one -/
theorem RV.mk' {d : TD} {c c' : Nat} {N N' : Row} (hO : TOk d) (h : RV d c N) (hc : c ≤ c') (hc' : c' ≤ 520) (a : ∀ r, r < nR d → N' (42 + r) = N (42 + r) ∧ N' (50 + r) = N (50 + r) ∧ N' (58 + r) = N (58 + r) ∧ N' (66 + r) = N (66 + r) ∧ N' (106 + r) = N (106 + r)) (k90 : ∀ r, r < nR d → ∃ k, k < nG d ∧ N' (90 + r) = nI k) (k74 : ∀ r, r < nR d → ∃ x, x ≤ 99 ∧ N' (74 + r) = nI x) (k82 : ∀ r, r < nR d → ∃ f, f ≤ 9 ∧ N' (82 + r) = nI f) (k114 : N' 114 = N 114) (k118 : ∃ q, q ≤ 999 ∧ N' 118 = nI q) (w4 : WF4 (dE d) (10000 * (c' + 6)) N') : RV d c' N' := by
  obtain ⟨⟨w1, w2, w3⟩, -, ⟨m, m1, m2⟩, -, -, hz⟩ := h
  obtain ⟨q, q1, q2⟩ := k118
  refine ⟨⟨fun r hr => ?_, ⟨fun k hk => w4.1 k (by omega), by rw [q2]; exact nI_pos' (by omega), fun r hr => ?_⟩, fun k hk => heap_le (by omega) w4 hk, ⟨q, by omega, q2⟩, w3.2.2.1, fun r hr => ?_⟩, w4, ⟨m, by omega, by rw [k114]; exact m2⟩, ⟨q, q1, q2⟩, k82, fun r hr e => ?_⟩
  · obtain ⟨a1, a2, a3, a4, a5⟩ := a r hr
    rw [a1, a3, a4, a5]
    exact ⟨k90 r hr, (w1 r hr).2⟩
  · obtain ⟨a1, a2, a3, a4, a5⟩ := a r hr
    obtain ⟨x, x1, x2⟩ := k74 r hr
    rw [a1, a3, x2]
    exact ⟨(w2.2.2 r hr).1, (w2.2.2 r hr).2.1, nI_pos' (by omega), nI_le (b := 99) x1 (by omega)⟩
  · obtain ⟨a1, a2, a3, a4, a5⟩ := a r hr
    rw [a1, a2]
    exact ⟨k74 r hr, (w3.2.2.2 r hr).2⟩
  · obtain ⟨a1, a2, a3, a4, a5⟩ := a r hr
    rw [a1] at e
    rw [a2]; exact hz r hr e
theorem RV.h74 {d : TD} {c : Nat} {N : Row} (h : RV d c N) {r : Nat} (hr : r < nR d) : ∃ x, x ≤ 99 ∧ N (74 + r) = nI x := (h.1.2.2.2.2.2 r hr).1
theorem RV.mins {d : TD} {c n : Nat} {N : Row} (hO : TOk d) (hc : c < 512) (hn : n ≤ 600) (h : RV d c N) : RV d (c + 1) (pMins (dE d) n N) := by
  obtain ⟨w, w4, ⟨m, m1, m2⟩, cat, fat, hz⟩ := h
  have hA := hO.1
  refine ⟨WFA.mins hA n w, (WF4.mins hA.1 (by omega) n w.1 w4).le (by omega), ⟨m + n, by omega, ?_⟩, pMins_118 hA.1 n w.1 cat, fun r hr => ?_, HZ.mins hA.1 n w.1 hz⟩
  · rw [pMins_114 hA.1 n w.1, m2, nI_add]
  · rw [pMins_82 hA.1 (by have := hO.r8; omega) n w.1]; exact fat r hr
theorem WF4.add {e : PE} {B n k : Nat} {N : Row} (h8 : eR e ≤ 8) (hk : k < 6) (hB : B + n < 2 ^ 30) (w : WF4 e B N) : WF4 e (B + n) (upd N k (N k + nI n)) := by
  obtain ⟨a, ha, hae⟩ := i_nn (w.1 k (by omega))
  have l1 := tot_le (e := e) (R := N) (j := k) (by omega)
  rw [hae, tn_n ha] at l1
  have := w.2.2.1
  refine ⟨fun j hj => ?_, fun r hr => by rw [upd_n _ _ (by omega)]; exact w.2.1 r hr, ?_, fun h h1 h2 j hj => by rw [upd_n _ _ (by omega)]; exact w.2.2.2 h h1 h2 j hj⟩
  · rw [upd_a]; split
    · rw [hae, nI_add]; exact nI_pos' (by omega)
    · exact w.1 j hj
  · have t1 := tot_up (e := e) (R := N) (j := k) (v := N k + nI n) h8 (by omega)
    rw [hae, nI_add, tn_n ha, tn_n (by omega)] at t1
    rw [hae, nI_add]
    omega
/-- two holes change place -/
def pX (h o : Nat) : Nat → Row → Row
  | 0, N => N
  | k + 1, N => upd (upd (pX h o k N) (6 + 6 * h + k) (pX h o k N (6 + 6 * o + k))) (6 + 6 * o + k) (pX h o k N (6 + 6 * h + k))
theorem pX_o {h o : Nat} {N : Row} {j : Nat} (h6 : h < 6) (o6 : o < 6) (hj : j < 6 ∨ 42 ≤ j) : ∀ k, k ≤ 6 → pX h o k N j = N j
  | 0, _ => rfl
  | k + 1, hk => by rw [pX, upd_n _ _ (by omega), upd_n _ _ (by omega), pX_o h6 o6 hj k (by omega)]
theorem nm_pX {e : PE} {h o : Nat} {N : Row} (h6 : h < 6) (o6 : o < 6) : ∀ k, k ≤ 6 → nm e (pX h o k N) = pX h o k (nm e N)
  | 0, _ => rfl
  | k + 1, hk => by
    have ih := nm_pX (e := e) (N := N) h6 o6 k (by omega)
    rw [pX, pX, nm_upd (lvb_of (by omega)), nm_upd (lvb_of (by omega)), ih, ← ih, nm42 (by omega), nm42 (by omega)]
theorem wf4_pX {e : PE} {h o B : Nat} {N : Row} (h8 : eR e ≤ 8) (e6 : eHo e ≤ 6) (hn : h ≠ o) (h6 : h < eHo e) (o6 : o < eHo e) (w : WF4 e B N) : ∀ k, k ≤ 6 → WF4 e B (pX h o k N)
  | 0, _ => w
  | k + 1, hk => by
    have ih := wf4_pX h8 e6 hn h6 o6 w k (by omega)
    rw [pX]
    generalize pX h o k N = P at ih ⊢
    have ne : 6 + 6 * o + k ≠ 6 + 6 * h + k := by omega
    refine ⟨fun j hj => ?_, fun r hr => by rw [upd_n _ _ (by omega), upd_n _ _ (by omega)]; exact ih.2.1 r hr, ?_, fun x x1 x2 j hj => by rw [upd_n _ _ (by omega), upd_n _ _ (by omega)]; exact ih.2.2.2 x x1 x2 j hj⟩
    · rw [upd_a]; split
      · exact ih.1 _ (by omega)
      · rw [upd_a]; split
        · exact ih.1 _ (by omega)
        · exact ih.1 j hj
    · have t1 := tot_up (e := e) (R := P) (j := 6 + 6 * h + k) (v := P (6 + 6 * o + k)) h8 (by omega)
      have t2 := tot_up (e := e) (R := upd P (6 + 6 * h + k) (P (6 + 6 * o + k))) (j := 6 + 6 * o + k) (v := P (6 + 6 * h + k)) h8 (by omega)
      rw [upd_n _ _ ne] at t2
      have := ih.2.2.1
      omega
section Doer
variable {E : EN} {d : TD} {t lv c : Nat} {π : PS} {g : GS} {s : MS}
/-- the class remembers -/
theorem k_rem {R : GS → MS → Prop} (I : INV d t lv c π g s) (h : ∀ g' u, KC d g' t (eFa (dE d)) (eSd (dE d)) u → nm (dE d) (hr u 74) = pN π → CH 74 u → (∀ u2 N', FrC 74 t u u2 → nm (dE d) (hr u2 74) = N' → CH 74 u2 → ICl d t (sDo π N') g' u2 ∧ FC s u2) → R g' u) : XV E m_Rs_remember [.ref 16] g s R := by
  obtain ⟨e, e1, e2, e3, e4⟩ := I.1.2.2.2.2.2.1
  have hm := I.2.2.2.1
  have n173 : 173 ≤ g.1 := I.1.1.sx.2.2.1
  refine k_remember I.1.1.sx I.1.2.2.2.2.1 e1 e2 e3 hm I.1.2.2.1.2 (fun g' u b G r1 r2 r3 r4 r5 r6 r7 => ?_)
  have bl := G.2.2.2.2.1.2
  have h74 : hr u 74 = hr s 74 := hr_c2 (fun a x1 x2 => r7.1 a (by omega) (by omega) (by omega) (by omega))
  have c74 : CH 74 u := I.1.2.2.1.2.cg (fun a x1 x2 => r7.1 a (by omega) (by omega) (by omega) (by omega))
  have D : ∀ u2 N', FrC 74 t u u2 → nm (dE d) (hr u2 74) = N' → CH 74 u2 → ICl d t (sDo π N') g' u2 ∧ FC s u2 := fun u2 N' F hN hC => I.1.doo e1 hm e2 G r1 r2 r3 r4 r5 r6 r7 F hN hC
  have N74 : nm (dE d) (hr u 74) = pN π := by rw [h74]; exact I.1.2.2.1.1
  exact h g' u (D u _ (FrC.rf 74 t u) rfl c74).1.1 N74 c74 D
/-- the reference keeps -/
theorem k_kee {R : MS → Prop} {s0 s1 : MS} {N' : Row} (hS : SX g) (J : IRf d lv π s0) (hm : pM π ≤ 40) (k : FrR s0 s1) (hN : nm (dE d) (s1.1 163) = N') (h : ∀ u, IRf d lv (sDo π N') u → FF s0 u → R u) : GV E m_Mo_keeps [.ref 120] g s1 R := by
  refine k_keeps hS hm (by rw [k.2.1 64 (by decide) (by decide) (by decide) (by decide)]; exact J.2.2.1.1) (fun u f h1 h2 h3 h4 => h u (J.doo k hN f h1 h2 h3 h4 hm) (k.F.tr f.F))
theorem XI.of {z : MD} {av : List Value} {R : Int32 → GS → MS → Prop} (h : GI E z av g s (fun y u => R y g u)) : XI E z av g s R := AMet.mono h (fun v τ hv => by obtain ⟨r, t, h1, h2, h3⟩ := hv; exact ⟨r, g, t, h1, h2, h3⟩)
theorem CH.wi {b a k : Nat} {v : Int32} (h : CH b s) (hk : k ≠ 3 ∨ a < b + 4 ∨ b + 12 ≤ a) : CH b (wi s a k v) := fun r hr' => by
  obtain ⟨q, q1, q2⟩ := h r hr'
  refine ⟨q, q1, ?_⟩
  rw [wi_1]
  by_cases e : b + 4 + r = a
  · rw [if_pos e, upd_n _ _ (by omega), ← e]; exact q2
  · rw [if_neg e]; exact q2
variable {x1 x2 x3 : Int32} {Q : Int32 → Int32 → GS → MS → Prop}
theorem fin_do {N' : Row} {g' : GS} {u2 v : MS} (hc : c < 512) (I : INV d t lv c π g s) (hR : RV d (c + 1) N') (C : ICl d t (sDo π N') g' u2) (J : IRf d lv (sDo π N') v) (F : FF u2 v) : INV d t lv (c + 1) (sDo π N') g' v := ⟨C.mv F, J, I.2.2.doo hc hR⟩
theorem o_minutes (hc : c < 512) (I : INV d t lv c π g s) (hq : ∀ A π' g' v, INV d t lv (c + 1) π' g' v → Q A A g' v) : XI E m_Rs_minutes [.ref 16, .int x1] g s (fun y g' u => GI E m_Mo_minutes [.ref 120, .int x1] g' u (fun y' v => Q y y' g' v)) := by
  have hS := I.1.1.sx
  have hO := I.1.1.o
  have no : ¬ (0 ≤ x1 ∧ x1 ≤ 600) → GI E m_Mo_minutes [.ref 120, .int x1] g s (fun y' v => Q (-1) y' g v) := fun w =>
    v_Mo_minutes (Q := qI g _) _ hS (f_Mo_in (fun _ => ⟨fun _ => GI.r (hq _ π g s (I.le hc)), fun c => absurd rfl c⟩) (fun q => absurd q w))
  refine v_Rs_minutes (Q := rI _) _ hS ⟨fun c1 => rI.mk (no fun w => absurd c1 (Int32.not_lt.mpr w.1)), fun c1 => ⟨fun c2 => ⟨fun c3 => rI.mk ?_, fun c3 => ?_⟩, fun c2 => rI.mk (no fun w => c2 w.2)⟩⟩
  · have z : x1 = 0 := Int32.le_antisymm c3 (Int32.not_lt.mp c1)
    subst z
    refine v_Mo_minutes (Q := qI g _) _ hS (f_Mo_in (fun q => absurd ⟨by decide, by decide⟩ q) (fun _ => ⟨fun c => absurd c (by decide), fun _ => ⟨fun _ => GI.r ?_, fun c => absurd rfl c⟩⟩))
    rw [← hr114, q_at I.pc.2.1 (lvb_of (by omega)), q_at I.pr.2 (lvb_of (by omega))]
    exact hq _ π g s (I.le hc)
  · obtain ⟨n, hn, rfl⟩ := le_ex (n := 600) (by decide) rfl ⟨Int32.not_lt.mp c1, c2⟩
    refine k_rem I (fun g' u K N74 c74 D => ⟨K.sx, ?_⟩)
    have hW := I.hw
    refine k_goOn K HB74 (HS74 K.sx) c74 N74 hW (by omega) (by omega) (fun u2 w1 w2 w3 => rI.mk ?_)
    obtain ⟨C, FCs⟩ := D u2 (pMins (dE d) n (pN π)) w3 w1 w2
    have J := I.2.1.mv FCs
    refine v_Mo_minutes (Q := qI g' _) _ K.sx (f_Mo_in (fun q => absurd ⟨Int32.not_lt.mp c1, c2⟩ q) (fun _ => ⟨fun c => absurd c (by decide), fun _ => ⟨fun c => absurd c (fun w => c3 (by rw [w]; decide)), fun _ => ?_⟩⟩))
    refine k_copies K.sx J.1 J.2.1 (fun v b1 b2 b3 b4 => ?_)
    refine k_goes K.sx hO (J.1.mv b4) b1 b2 b3 hW.1 (by omega) (fun z z1 z2 => ?_)
    refine k_kee K.sx J I.2.2.2.1 (b4.tr z2.R) (N' := pMins (dE d) n (pN π)) z1 (fun w J' F => GI.r ?_)
    rw [← hr114, q_at C.2.2.1.1 (lvb_of (by omega)), q_at J'.2.1 (lvb_of (by omega))]
    exact hq _ _ g' w (fin_do hc I (I.2.2.1.mins hO hc hn) C J' F)
theorem o_pour (hc : c < 512) (I : INV d t lv c π g s) (hq : ∀ A π' g' v, INV d t lv (c + 1) π' g' v → Q A A g' v) : XI E m_Rs_pour [.ref 16, .int x1, .int x2] g s (fun y g' u => GI E m_Mo_pour [.ref 120, .int x1, .int x2] g' u (fun y' v => Q y y' g' v)) := by
  have hS := I.1.1.sx
  have hO := I.1.1.o
  have g6 := hO.g6
  have h8 : eR (dE d) ≤ 8 := hO.r8
  have P := I.pc
  have R0 := I.2.2.1
  have fin := hq (-1) π g s (I.le hc)
  have ck := I.2.2.2.2.2.2.2.2
  -- the reference refuses as the class does
  have no : ((0 ≤ x1 ∧ x1 < nI (nG d)) → (1 ≤ x2 ∧ x2 ≤ 9999) → ¬ pN π x1.toNatClampNeg + x2 ≤ 9999) → GI E m_Mo_pour [.ref 120, .int x1, .int x2] g s (fun y' v => Q (-1) y' g v) := by
    intro w
    refine v_Mo_pour (Q := qI g _) _ _ hS (f_Mo_isGrain hS hO I.2.1.1 (fun _ => ⟨fun _ => GI.r fin, fun c => absurd rfl c⟩) (fun q => ⟨fun c => absurd c (by decide), fun _ => f_Mo_in (fun _ => ⟨fun _ => GI.r fin, fun c => absurd rfl c⟩) (fun q2 => ⟨fun c => absurd c (by decide), fun _ => ?_⟩)⟩))
    have := w q q2
    obtain ⟨k, hk, rfl⟩ := lt_ex (by omega) q
    rw [tn_n (by omega)] at this ⊢
    rw [q_at I.pr.2 (lvb_of (by omega))]
    exact ⟨vp_in_nI (by omega) (by omega), fun c => absurd c this, fun _ => GI.r fin⟩
  refine v_Rs_pour (Q := rI _) _ _ t hS P.1.et P.1.ht ?_
  rw [P.1.tc.gr]
  refine f_Rs_isOf (fun q => ⟨fun _ => rI.mk (no fun w => absurd w q), fun c => absurd rfl c⟩) (fun q => ⟨fun c => absurd c (by decide), fun _ => ⟨fun c1 => rI.mk (no fun _ w => absurd c1 (Int32.not_lt.mpr w.1)), fun c1 => ?_⟩⟩)
  obtain ⟨k, hk, rfl⟩ := lt_ex (by omega) q
  have e75 : s.1 75 k = pN π k := by rw [← q_at P.2.1 (lvb_of (k := k) (by omega))]; exact (hr_hp s 74 (by omega)).symm
  obtain ⟨a, ha, hae⟩ := i_nn (R0.2.1.1 k (by omega))
  have al : a ≤ 5300000 := by
    have l1 := tot_le (e := dE d) (R := pN π) (j := k) (by omega)
    rw [hae, tn_n ha] at l1
    have := R0.2.1.2.2.1
    omega
  obtain ⟨n, hn, rfl⟩ := i_nn (Int32.le_trans (by decide) (Int32.not_lt.mp c1))
  have n1 : 1 ≤ n := (nI_leI (a := 1) (by omega) hn).mp (Int32.not_lt.mp c1)
  rw [tn_n (by omega)] at no ⊢
  rw [e75, hae]
  have cmp : nI n ≤ 9999 - nI a ↔ n + a ≤ 9999 := by
    by_cases w : a ≤ 9999
    · rw [show (9999 : Int32) = nI 9999 from rfl, pk_sub w, nI_leI hn (by omega)]; omega
    · have lt := pk_sneg (a := 9999) (b := a) (by omega) (by omega)
      exact ⟨fun h => absurd (Int32.lt_of_le_of_lt (Int32.le_trans (nI_pos' hn) h) lt) (by decide), fun h => by omega⟩
  refine ⟨vp_in_nI (by omega) (by omega), fun c2 => ?_, fun c2 => rI.mk (no fun _ w3 w4 => ?_)⟩
  · have na := cmp.mp c2
    refine k_rem I (fun g' u K N74 c74 D => ⟨K.sx, fun s3 e3 => rI.mk ?_⟩)
    have eu : u.1 75 k = pN π k := by rw [← q_at N74 (lvb_of (k := k) (by omega))]; exact (hr_hp u 74 (by omega)).symm
    have ah : hr s3 74 = upd (hr u 74) k (u.1 75 k + nI n) := by rw [e3]; exact hw_hp u 74 (k := k) (by omega) _
    have N3 : nm (dE d) (hr s3 74) = upd (pN π) k (pN π k + nI n) := by rw [ah, nm_upd (lvb_of (by omega)), N74, eu]
    obtain ⟨C, FCs⟩ := D s3 _ (FrH.C HB74 (by rw [e3]; exact FrH.w (by omega) (by omega))) N3 (by rw [e3]; exact c74.wi (by omega))
    have J := I.2.1.mv FCs
    refine v_Mo_pour (Q := qI g' _) _ _ K.sx (f_Mo_isGrain K.sx hO J.1 (fun w => absurd q w) (fun _ => ⟨fun c => absurd c (by decide), fun _ => f_Mo_in (fun w => absurd ⟨Int32.not_lt.mp c1, nI_le (b := 9999) (by omega) (by omega)⟩ w) (fun _ => ⟨fun c => absurd c (by decide), fun _ => ?_⟩)⟩))
    rw [tn_n (by omega), q_at J.2.1 (lvb_of (by omega)), hae, nI_add]
    refine ⟨vp_in_nI (by omega) (by omega), fun _ => ?_, fun w => absurd (nI_le (b := 9999) (by omega) (by omega)) w⟩
    refine k_copies K.sx J.1 J.2.1 (fun v b1 b2 b3 b4 s4 e4 => ?_)
    have F4 : FrR v s4 := by rw [e4, wi_def]; exact FrR.si163 v _
    refine k_kee K.sx J I.2.2.2.1 (b4.tr F4) (N' := upd (pN π) k (pN π k + nI n)) ?_ (fun w J' F => GI.r ?_)
    · rw [e4, wi_s, nm_upd (lvb_of (by omega)), b3, q_at b3 (lvb_of (by omega))]
    · have eA : s3.1 75 k = upd (pN π) k (pN π k + nI n) k := by rw [← q_at N3 (lvb_of (k := k) (by omega))]; exact (hr_hp s3 74 (by omega)).symm
      rw [eA, q_at J'.2.1 (lvb_of (by omega))]
      refine hq _ _ g' w (fin_do hc I (R0.mk' hO (Nat.le_succ c) (by omega) (fun r hr' => ?_) (fun r hr' => ?_) (fun r hr' => ?_) (fun r hr' => ?_) ?_ ?_ ?_) C J' F)
      · have : r < eR (dE d) := hr'
        exact ⟨upd_n _ _ (by omega), upd_n _ _ (by omega), upd_n _ _ (by omega), upd_n _ _ (by omega), upd_n _ _ (by omega)⟩
      · rw [upd_n _ _ (by omega)]; exact (R0.1.1 r hr').1
      · rw [upd_n _ _ (by omega)]; exact R0.h74 hr'
      · rw [upd_n _ _ (by omega)]; exact R0.2.2.2.2.1 r hr'
      · exact upd_n _ _ (by omega)
      · rw [upd_n _ _ (by omega)]; exact R0.2.2.2.1
      · exact (WF4.add h8 (by omega) (by omega) R0.2.1).le (by omega)
  · have : n ≤ 9999 := (nI_leI hn (by omega)).mp w3.2
    rw [hae, nI_add] at w4
    have := (nI_leI (b := 9999) (by omega) (by omega)).mp w4
    exact c2 (cmp.mpr (by omega))
theorem o_teach (hc : c < 512) (I : INV d t lv c π g s) (hq : ∀ A π' g' v, INV d t lv (c + 1) π' g' v → Q A A g' v) : XI E m_Rs_teach [.ref 16, .int x1, .int x2] g s (fun y g' u => GI E m_Mo_teach [.ref 120, .int x1, .int x2] g' u (fun y' v => Q y y' g' v)) := by
  have hS := I.1.1.sx
  have hO := I.1.1.o
  have g6 := hO.g6
  have h8 : eR (dE d) ≤ 8 := hO.r8
  have h8' := hO.r8
  have P := I.pc
  have R0 := I.2.2.1
  have fin := hq 0 π g s (I.le hc)
  have ck := I.2.2.2.2.2.2.2.2
  have no : ((0 ≤ x1 ∧ x1 < nI (nR d)) → (0 ≤ x2 ∧ x2 < nI (nG d)) → pN π (90 + x1.toNatClampNeg) = x2) → GI E m_Mo_teach [.ref 120, .int x1, .int x2] g s (fun y' v => Q 0 y' g v) := by
    intro w
    refine v_Mo_teach (Q := qI g _) _ _ hS (f_Mo_isRat hS hO I.2.1.1 (fun _ => ⟨fun _ => GI.r fin, fun c => absurd rfl c⟩) (fun q => ⟨fun c => absurd c (by decide), fun _ => f_Mo_isGrain hS hO I.2.1.1 (fun _ => ⟨fun _ => GI.r fin, fun c => absurd rfl c⟩) (fun q2 => ⟨fun c => absurd c (by decide), fun _ => ?_⟩)⟩))
    have := w q q2
    obtain ⟨k, hk, rfl⟩ := lt_ex (by omega) q
    have hke : k < eR (dE d) := hk
    rw [tn_n (by omega)] at this
    rw [ix90 (by omega), q_at I.pr.2 (lvb_of (by omega))]
    exact ⟨vi90 (by omega), fun _ => GI.r fin, fun c => absurd this c⟩
  refine v_Rs_teach (Q := rI _) _ _ t hS P.1.et P.1.ht ?_
  rw [P.1.tc.ra]
  refine f_Rs_isOf (fun q => ⟨fun _ => rI.mk (no fun w => absurd w q), fun c => absurd rfl c⟩) (fun q => ⟨fun c => absurd c (by decide), fun _ => ?_⟩)
  rw [P.1.tc.gr]
  refine f_Rs_isOf (fun q2 => ⟨fun _ => rI.mk (no fun _ w => absurd w q2), fun c => absurd rfl c⟩) (fun q2 => ⟨fun c => absurd c (by decide), fun _ => ?_⟩)
  obtain ⟨r, hr', rfl⟩ := lt_ex (by omega) q
  obtain ⟨k, hk, rfl⟩ := lt_ex (by omega) q2
  have hre : r < eR (dE d) := hr'
  have r8 : r < 8 := by omega
  rw [tn_n (by omega)] at no ⊢
  have e90 : s.1 (78 + r) 6 = pN π (90 + r) := by rw [← q_at P.2.1 (lvb_of (k := 90 + r) (by omega))]; exact (hr90 s 74 r8).symm
  rw [e90]
  refine ⟨vp_in_nI (by omega) (by omega), fun c1 => rI.mk (no fun _ _ => c1), fun c1 => ?_⟩
  refine k_rem I (fun g' u K N74 c74 D => ⟨K.sx, fun s4 e4 => rI.mk ?_⟩)
  have N4 : nm (dE d) (hr s4 74) = upd (pN π) (90 + r) (nI k) := by
    rw [e4]
    rw [show hr (wi u (78 + r) 6 (nI k)) 74 = upd (hr u 74) (90 + r) (nI k) from hw_r6 u 74 r8 _, nm_upd (lvb_of (by omega)), N74]
  obtain ⟨C, FCs⟩ := D s4 _ (FrH.C HB74 (by rw [e4]; exact FrH.w (by omega) (by omega))) N4 (by rw [e4]; exact c74.wi (by omega))
  have J := I.2.1.mv FCs
  refine v_Mo_teach (Q := qI g' _) _ _ K.sx (f_Mo_isRat K.sx hO J.1 (fun w => absurd q w) (fun _ => ⟨fun c => absurd c (by decide), fun _ => f_Mo_isGrain K.sx hO J.1 (fun w => absurd q2 w) (fun _ => ⟨fun c => absurd c (by decide), fun _ => ?_⟩)⟩))
  rw [ix90 r8, q_at J.2.1 (lvb_of (by omega))]
  refine ⟨vi90 r8, fun w => absurd w c1, fun _ => ?_⟩
  refine k_copies K.sx J.1 J.2.1 (fun v b1 b2 b3 b4 s5 e5 => ?_)
  have F5 : FrR v s5 := by rw [e5, wi_def]; exact FrR.si163 v _
  refine k_kee K.sx J I.2.2.2.1 (b4.tr F5) (N' := upd (pN π) (90 + r) (nI k)) ?_ (fun w J' F => GI.r ?_)
  · rw [e5, wi_s, nm_upd (lvb_of (by omega)), b3]
  · refine hq _ _ g' w (fin_do hc I (R0.mk' hO (Nat.le_succ c) (by omega) (fun x hx => ?_) (fun x hx => ?_) (fun x hx => ?_) (fun x hx => ?_) ?_ ?_ ?_) C J' F)
    · have : x < eR (dE d) := hx
      exact ⟨upd_n _ _ (by omega), upd_n _ _ (by omega), upd_n _ _ (by omega), upd_n _ _ (by omega), upd_n _ _ (by omega)⟩
    · rw [upd_a]; split
      · exact ⟨k, hk, rfl⟩
      · exact (R0.1.1 x hx).1
    · rw [upd_n _ _ (by have : x < eR (dE d) := hx; omega)]; exact R0.h74 hx
    · rw [upd_n _ _ (by have : x < eR (dE d) := hx; omega)]; exact R0.2.2.2.2.1 x hx
    · exact upd_n _ _ (by omega)
    · rw [upd_n _ _ (by omega)]; exact R0.2.2.2.1
    · exact (R0.2.1.cg (fun y hy => upd_n _ _ (by omega)) (fun y hy => upd_n _ _ (by omega))).le (by omega)
theorem o_cat (hc : c < 512) (I : INV d t lv c π g s) (hq : ∀ A π' g' v, INV d t lv (c + 1) π' g' v → Q A A g' v) : XI E m_Rs_cat [.ref 16, .int x1] g s (fun y g' u => GI E m_Mo_cat [.ref 120, .int x1] g' u (fun y' v => Q y y' g' v)) := by
  have hS := I.1.1.sx
  have hO := I.1.1.o
  have h8 : eR (dE d) ≤ 8 := hO.r8
  have P := I.pc
  have R0 := I.2.2.1
  have fin := hq (-1) π g s (I.le hc)
  have ck := I.2.2.2.2.2.2.2.2
  obtain ⟨a, ha, hae⟩ := R0.2.2.2.1
  have e74 : s.1 74 4 = pN π 118 := by rw [← hr118, q_at P.2.1 (lvb_of (by omega))]
  have no : ((1 ≤ x1 ∧ x1 ≤ 99) → ¬ pN π 118 + x1 ≤ 999) → GI E m_Mo_cat [.ref 120, .int x1] g s (fun y' v => Q (-1) y' g v) := by
    intro w
    refine v_Mo_cat (Q := qI g _) _ hS (f_Mo_in (fun _ => ⟨fun _ => GI.r fin, fun c => absurd rfl c⟩) (fun q => ⟨fun c => absurd c (by decide), fun _ => ?_⟩))
    rw [q_at I.pr.2 (lvb_of (by omega))]
    exact ⟨fun c => absurd c (w q), fun _ => GI.r fin⟩
  refine v_Rs_cat (Q := rI _) _ hS ⟨fun c1 => rI.mk (no fun w => absurd c1 (Int32.not_lt.mpr w.1)), fun c1 => ⟨fun c2 => rI.mk (no fun w => absurd c2 (Int32.not_lt.mpr w.2)), fun c2 => ?_⟩⟩
  rw [e74]
  have q1 : 1 ≤ x1 ∧ x1 ≤ 99 := ⟨Int32.not_lt.mp c1, Int32.not_lt.mp c2⟩
  refine ⟨fun c3 => ?_, fun c3 => rI.mk (no fun _ => c3)⟩
  obtain ⟨n, hn, rfl⟩ := le_ex (n := 99) (by decide) rfl ⟨Int32.le_trans (by decide) q1.1, q1.2⟩
  refine k_rem I (fun g' u K N74 c74 D => ⟨K.sx, fun s2 e2 => rI.mk ?_⟩)
  have eu : u.1 74 4 = pN π 118 := by rw [← hr118, q_at N74 (lvb_of (by omega))]
  have N2 : nm (dE d) (hr s2 74) = upd (pN π) 118 (pN π 118 + nI n) := by
    rw [e2, hw_118, nm_upd (lvb_of (by omega)), N74, eu]
  obtain ⟨C, FCs⟩ := D s2 _ (FrH.C HB74 (by rw [e2]; exact FrH.w (by omega) (by omega))) N2 (by rw [e2]; exact c74.wi (by omega))
  have J := I.2.1.mv FCs
  refine v_Mo_cat (Q := qI g' _) _ K.sx (f_Mo_in (fun w => absurd q1 w) (fun _ => ⟨fun c => absurd c (by decide), fun _ => ?_⟩))
  rw [q_at J.2.1 (lvb_of (by omega))]
  refine ⟨fun _ => ?_, fun w => absurd c3 w⟩
  refine k_copies K.sx J.1 J.2.1 (fun v b1 b2 b3 b4 s5 e5 => ?_)
  have F5 : FrR v s5 := by rw [e5, wi_def]; exact FrR.si163 v _
  refine k_kee K.sx J I.2.2.2.1 (b4.tr F5) (N' := upd (pN π) 118 (pN π 118 + nI n)) ?_ (fun w J' F => GI.r ?_)
  · rw [e5, wi_s, nm_upd (lvb_of (by omega)), b3, q_at b3 (lvb_of (by omega))]
  · have c3' := c3
    rw [hae, nI_add] at c3'
    have le9 := (nI_leI (b := 999) (by omega) (by omega)).mp c3'
    have e118 : pN (sDo π (upd (pN π) 118 (pN π 118 + nI n))) 118 = pN π 118 + nI n := by
      show upd (pN π) 118 (pN π 118 + nI n) 118 = _
      rw [upd_s]
    rw [q_at J'.2.1 (lvb_of (by omega)), eu, e118]
    refine hq _ _ g' w (fin_do hc I (R0.mk' hO (Nat.le_succ c) (by omega) (fun x hx => ?_) (fun x hx => ?_) (fun x hx => ?_) (fun x hx => ?_) ?_ ?_ ?_) C J' F)
    · have : x < eR (dE d) := hx
      exact ⟨upd_n _ _ (by omega), upd_n _ _ (by omega), upd_n _ _ (by omega), upd_n _ _ (by omega), upd_n _ _ (by omega)⟩
    · rw [upd_n _ _ (by have : x < eR (dE d) := hx; omega)]; exact (R0.1.1 x hx).1
    · rw [upd_n _ _ (by have : x < eR (dE d) := hx; omega)]; exact R0.h74 hx
    · rw [upd_n _ _ (by have : x < eR (dE d) := hx; omega)]; exact R0.2.2.2.2.1 x hx
    · exact upd_n _ _ (by omega)
    · exact ⟨a + n, le9, by rw [upd_s, hae, nI_add]⟩
    · exact (R0.2.1.cg (fun y hy => upd_n _ _ (by omega)) (fun y hy => upd_n _ _ (by omega))).le (by omega)
end Doer
