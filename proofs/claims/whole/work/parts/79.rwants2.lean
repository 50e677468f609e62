/-! THE REFERENCE tells a merchant: the loop, tellWants -/
section RWants2
variable {E : EN} {g : GS} {s : MS} {T : Nat → Nat} {L M : Nat} {d : TD} {nl : NL} {sd lv : Nat}
def sWo (T : Nat → Nat) (L M sd D : Nat) (b b' : Option (Nat × Nat)) (r : (Nat × Nat) ⊕ (Nat → Nat)) (n : Nat) (v : MS) : Prop := (b ≠ none → b' = b) ∧ (b = none → match r with
  | .inl x => b' = some x
  | .inr W' => b' = none ∧ WT sd D W' n v)
theorem wn_0 {K : Nat → Nat} {a : Nat} (h : ¬ K a = 2) : ∀ m, wn K m a = 0
  | 0 => rfl
  | m + 1 => by rw [wn, if_neg h]
theorem sW_0 {K : Nat → Nat} {a : Nat} {W : Nat → Nat} (h : ¬ K a = 2) : ∀ m, sW T L K nl m a W = .inr W
  | 0 => rfl
  | m + 1 => by rw [sW, if_pos h]
theorem WT.mv {D n : Nat} {W : Nat → Nat} {u v : MS} (h : WT sd D W n u) (a : v.1 145 = u.1 145) (b : v.1 146 = u.1 146) : WT sd D W n v := by unfold WT; rw [a, b]; exact h
theorem WT.add {D n gi va : Nat} {W : Nat → Nat} {u v : MS} (h : WT sd D W n u) (g6 : gi < 6) (hv : 1 ≤ va ∧ va ≤ 9999) (w0 : W gi = 0) (a : v.1 145 = upd (u.1 145) (4 * (5 * sd + D) + n) (nI gi)) (b : v.1 146 = upd (u.1 146) (4 * (5 * sd + D) + n) (nI va)) : WT sd D (fun k => if k = gi then va else W k) (n + 1) v := by
  obtain ⟨h1, h2, h3⟩ := h
  have cg : ∀ k, wsum (v.1 145) (v.1 146) (4 * (5 * sd + D)) k n = wsum (u.1 145) (u.1 146) (4 * (5 * sd + D)) k n := fun k => wsum_cg n (fun i hi => by rw [a, b, upd_n _ _ (by omega), upd_n _ _ (by omega)]; exact ⟨rfl, rfl⟩)
  refine ⟨fun k hk => ?_, fun k hk => ?_, fun k hk => ?_⟩
  · rw [wsum, cg k, h1 k hk, a, b, upd_s, upd_s]
    show _ = nI (if k = gi then va else W k)
    by_cases e : k = gi
    · rw [if_pos (by rw [e]), if_pos e, e, w0, nI_add]; congr 1; omega
    · rw [if_neg (fun w => e ((nI_eq (by omega) (by omega)).mp w).symm), if_neg e]
  · show _ ↔ 0 < (if k = gi then va else W k)
    by_cases e : k = gi
    · rw [if_pos e]
      exact ⟨fun _ => by omega, fun _ => ⟨n, by omega, by rw [a, upd_s, e]⟩⟩
    · rw [if_neg e, ← h2 k hk]
      refine ⟨fun ⟨i, i1, i2⟩ => ?_, fun ⟨i, i1, i2⟩ => ⟨i, by omega, by rw [a, upd_n _ _ (by omega)]; exact i2⟩⟩
      rw [a] at i2
      by_cases z : i = n
      · rw [z, upd_s] at i2; exact absurd ((nI_eq (by omega) (by omega)).mp i2).symm e
      · rw [upd_n _ _ (by omega)] at i2; exact ⟨i, by omega, i2⟩
  · show (if k = gi then va else W k) ≤ 9999
    split
    · exact hv.2
    · exact h3 k hk
theorem l_M_w33 {R : MS → Prop} (hl : lv + sd = 1) (hL : L ≤ 2000) (hS : SX g) {D nn : Nat} (hD : D < 5) (hT : TkR T L M s) (h19 : s.1 120 19 = nI sd) (h20 : s.1 120 20 = nI nn) (n20 : nn ≤ 20) (hb6 : ∀ v i, nlF v 0 nl = some i → i < 6) : ∀ (m n : Nat) (q : Nat × Nat) (b : Option (Nat × Nat)) (W : Nat → Nat) (u : MS), n + m = 4 → RQ T L M q u → (q.2 = 0 → BE b q.1) → WQ T L M b u → MW sd D s u → u.1 142 sd = nI D → (b = none → (NQ nl s ∧ nl.length = nn) ∧ (q.2 = 0 → WT sd D W n u)) →
    (∀ v b', MW sd D s v → RQ T L M (gk (kK T L M) 24 (gW (kK T L M) (m + 1) q)) v → ((gk (kK T L M) 24 (gW (kK T L M) (m + 1) q)).2 = 0 → WQ T L M b' v ∧ sWo T L M sd D b b' (sW T L (kK T L M) nl m q.1 W) (n + wn (kK T L M) m q.1) v ∧ v.1 144 (5 * sd + D) = nI (n + wn (kK T L M) m q.1) ∧ v.1 142 sd = nI (D + 1)) → R v) → AWP E m_Mo_tellWants 33 0 0 [(0, .ref 120), (1, .int (nI (5 * sd + D))), (2, .int (nI n))] [] (mk g u) (qV g R)
  | m, n, q, b, W, u, hnm, hq, hb, hw, hM, h142, hW, h => by
    have q7 := hq.2.2.2.2.2.2
    have q5 := hq.2.2.2.2.1
    have TU := hT.W hM
    have e19 : ∀ v, MW sd D s v → v.1 120 19 = nI sd := fun v k => by rw [k.2.1 19 (by omega)]; exact h19
    have ex : gW (kK T L M) (m + 1) q = q → ((gk (kK T L M) 24 q).2 = 0 → ¬ kK T L M q.1 = 2) → GV E m_Mo_must [.ref 120, .int 4] g u (fun t2_ => vp_in (nI (5 * sd + D)) 10 ∧ (∀ s3_, s3_ = wi t2_ 144 ((nI (5 * sd + D)).toNatClampNeg) (nI n) → (((t2_.1 120 13) = 0 → vp_in (t2_.1 120 19) 2 ∧ (∀ s4_, s4_ = wi s3_ 142 (((t2_.1 120 19)).toNatClampNeg) ((t2_.1 142 (((t2_.1 120 19)).toNatClampNeg)) + 1) → qV g R none (mk g s4_))) ∧ (¬ (t2_.1 120 13) = 0 → qV g R none (mk g s3_))))) := by
      intro eg hk
      rw [eg] at h
      refine f_M_must (κ := 24) rfl (by omega) (by omega) hS TU hq (fun t2 r1 r2 => ⟨vp_in_nI (by omega) (by omega), fun s3 e3 => ?_⟩)
      have M2 := hM.q r2.q
      rw [tn_n (by omega)] at e3
      have M3 : MW sd D s s3 := by rw [e3]; exact M2.w (Or.inl ⟨rfl, rfl⟩)
      have q3 : RQ T L M (gk (kK T L M) 24 q) s3 := r1.m (by rw [e3, wi_n _ _ _ (by decide)])
      rw [r1.1, e19 t2 M2, tn_n (by omega), r2.1 142 (by decide), h142, nI_1]
      have r7 := r1.2.2.2.2.2.2
      refine pk_eq (gk (kK T L M) 24 q).2 0 (fun z => ⟨vp_in_nI (by omega) (by omega), fun s4 e4 => GV.r (h s4 b ?_ ?_ (fun _ => ⟨?_, ⟨fun _ => rfl, fun bn => ?_⟩, ?_, ?_⟩))⟩) (fun z => GV.r (h s3 b M3 q3 (fun w => absurd w z))) rfl rfl (by omega) (by omega)
      · rw [e4]; exact M3.w (Or.inr (Or.inl ⟨rfl, rfl⟩))
      · exact q3.m (by rw [e4, wi_n _ _ _ (by decide)])
      · exact (hw.p r2).m (by rw [e4, wi_n _ _ _ (by decide), e3, wi_n _ _ _ (by decide)])
      · rw [sW_0 (hk z), wn_0 (hk z)]
        refine ⟨bn, ((hW bn).2 (gk_ok z).1).mv ?_ ?_⟩
        · rw [e4, wi_n _ _ _ (by decide), e3, wi_n _ _ _ (by decide), r2.1 145 (by decide)]
        · rw [e4, wi_n _ _ _ (by decide), e3, wi_n _ _ _ (by decide), r2.1 146 (by decide)]
      · rw [wn_0 (hk z), e4, wi_n _ _ _ (by decide), e3, wi_s, upd_s]; rfl
      · rw [e4, wi_s, upd_s]
    have gq : ¬ (q.2 = 0 ∧ kK T L M q.1 = 2) → gW (kK T L M) (m + 1) q = q := fun w => by rw [gW, if_neg w]
    refine v_Mo_tellWants_33 _ _ hS ?_
    rw [hq.1]
    refine pk_eq q.2 0 (fun z => ?_) (fun z => ex (gq (fun w => z w.1)) (fun w => absurd (gk_ok w).1 z)) rfl rfl (by omega) (by omega)
    refine f_M_is (κ := 2) rfl (by omega) hS TU hq (fun w => ⟨fun _ => ex (gq w) (fun _ y => w ⟨z, y⟩), fun y => absurd rfl y⟩) (fun w => ⟨fun y => absurd y (by decide), fun _ => ?_⟩)
    obtain ⟨-, k2⟩ := w
    obtain ⟨jm, kk⟩ := kK_m k2 (by omega)
    rw [hq.2.1 z]
    refine pk_eq n 4 (fun n4 => ?_) (fun n4 => ?_)
    · refine f_M_fail (c := 2) rfl (Or.inr rfl) hS TU hq (fun t5 r1 r2 => ?_)
      rw [if_pos z] at r1
      rw [r1.1]
      refine pk_le 2 0 (fun y => absurd y (by omega)) (fun _ => GV.r (h t5 b (hM.q r2.q) ?_ ?_)) rfl rfl (by omega) (by omega)
      · have m0 : m = 0 := by omega
        subst m0
        have e1 : gp true (decide (1 ≤ 0)) q = (q.1, 2) := by unfold gp; rw [if_neg (fun y => y z), if_neg (by decide), if_pos (Or.inl (by decide))]
        have e2 : ∀ κ, gk (kK T L M) κ (q.1, 2) = (q.1, 2) := fun κ => by unfold gk gp; rw [if_pos (by show (2 : Nat) ≠ 0; omega)]
        rw [gW, if_pos ⟨z, k2⟩, gW, e1, e2, e2]; exact r1
      · have m0 : m = 0 := by omega
        subst m0
        intro y
        have y1 := (gk_ok y).1
        obtain ⟨-, y2, -⟩ := gW_ok 0 q y1
        exact absurd k2 y2
    · refine pk_le q.2 0 (fun _ => ?_) (fun y => absurd y (by omega)) (by rw [hq.1]) rfl (by omega) (by omega)
      refine f_M_known2 (sort := 0) (n := nn) rfl (by omega) hL hS TU hq hw hb (by rw [hM.2.1 20 (by omega)]; exact h20) n20 (fun y b1 u1 r1 r2 r3 r4 r5 r6 => ?_)
      have M1 := hM.q r2
      have NQu : b = none → NQ nl u := fun bn i hi => by rw [hM.2.2.1, hM.1 129 (by decide) (by decide) (by decide) (by decide) (by decide), hM.1 130 (by decide) (by decide) (by decide) (by decide) (by decide)]; exact (hW bn).1.1 i hi
      have be1 : (gk (kK T L M) 2 q).2 = 0 → BE b1 (q.1 + 1) := fun z1 c' j' e => by
        by_cases bn : b = none
        · have := r6 z1 bn nl (NQu bn) (hW bn).1.2
          cases hf : nlF (vV T L q.1) 0 nl with
          | none =>
            rw [this.2 hf] at e
            injection e with e; injection e with e1 e2; omega
          | some i => rw [(this.1 i hf).2] at e; exact absurd e (by simp)
        · rw [r5 bn] at e; have := hb z c' j' e; omega
      have hyb : y < 0 ∨ BE b1 q.1 := r4.symm.imp id (fun e c' j' ee => hb z c' j' (by rw [← e]; exact ee))
      refine l_M_w81 hL hS (o5 := 5 * sd + D) (by omega) (by omega) jm q5 (TU.q r2) hyb (fun v b2 v1 v2 v3 v4 v5 => ?_) 0 (by omega) u1 b1 r1 (FRq.rf u1) r3 (Or.inl rfl) (fun _ _ => ⟨fun ⟨i', i1, _⟩ => absurd i1 (by omega), fun w => absurd ?_ w⟩)
      rotate_left
      · rename_i w0 _; exact w0
      have Mv := M1.q v2
      have MA : MW sd D s (wi v 145 (4 * (5 * sd + D) + n) y) := Mv.w (Or.inr (Or.inr ⟨Or.inl rfl, by omega, by omega⟩))
      have be2 : (gk (kK T L M) 2 q).2 = 0 → BE b2 (gk (kK T L M) 2 q).1 := fun z1 c' j' e => by
        rw [(gk_ok z1).2.2.2]
        rcases v4 with w | w
        · rw [w] at e; exact be1 z1 c' j' e
        · rw [w.2.1] at e; injection e with e; injection e with e1 e2; show j' < q.1 + 1; omega
      refine f_M_bounded (lo := 1) (hi := 9999) rfl rfl (by omega) (by omega) hL hS (hT.W MA) (v1.m (wi_n _ _ _ (by decide))) (v3.m (wi_n _ _ _ (by decide))) be2 (fun y2 b3 u3 o1 o2 o3 o4 o5 s3 e3 => ?_)
      have M3 := MA.q o2
      have M4 : MW sd D s s3 := by rw [e3]; exact M3.w (Or.inr (Or.inr ⟨Or.inr rfl, by omega, by omega⟩))
      have c120 : s3.1 120 = u3.1 120 := by rw [e3, wi_n _ _ _ (by decide)]
      have c145 : s3.1 145 = upd (u.1 145) (4 * (5 * sd + D) + n) y := by rw [e3, wi_n _ _ _ (by decide), o2.1 145 (by decide), wi_s, v2.1 145 (by decide), r2.1 145 (by decide)]
      have c146 : s3.1 146 = upd (u.1 146) (4 * (5 * sd + D) + n) y2 := by rw [e3, wi_s, o2.1 146 (by decide), wi_n _ _ _ (by decide), v2.1 146 (by decide), r2.1 146 (by decide)]
      have c142 : s3.1 142 sd = nI D := by rw [e3, wi_n _ _ _ (by decide), o2.1 142 (by decide), wi_n _ _ _ (by decide), v2.1 142 (by decide), r2.1 142 (by decide)]; exact h142
      cases m with
      | zero => exact absurd hnm (by omega)
      | succ m =>
        have eg : gW (kK T L M) (m + 1 + 1) q = gW (kK T L M) (m + 1) (gk (kK T L M) 3 (gk (kK T L M) 2 q)) := by
          rw [gW, if_pos ⟨z, k2⟩]
          have : gp true (decide (1 ≤ m + 1)) q = gk (kK T L M) 2 q := by unfold gk; rw [decide_eq_true k2, decide_eq_true (by omega)]
          rw [this]
        -- what is known behind a good pass
        have fact : (gk (kK T L M) 3 (gk (kK T L M) 2 q)).2 = 0 → (gk (kK T L M) 2 q).2 = 0 ∧ gk (kK T L M) 2 q = (q.1 + 1, 0) ∧ gk (kK T L M) 3 (gk (kK T L M) 2 q) = (q.1 + 2, 0) := fun z2 => by
          obtain ⟨x1, -, -, x4⟩ := gk_ok z2
          have x5 := (gk_ok x1).2.2.2
          exact ⟨x1, x5, by rw [x4, x5]⟩
        have some_ : b ≠ none → b3 = b := fun bn => by
          have w1 := r5 bn
          have w2 : b2 = b1 := v4.resolve_right (fun w => bn (by rw [← w1]; exact w.1))
          have w3 := o4 (by rw [w2, w1]; exact bn)
          rw [w3, w2, w1]
        have none_ : (gk (kK T L M) 3 (gk (kK T L M) 2 q)).2 = 0 → b = none → (nlF (vV T L q.1) 0 nl = none → b3 = some (4, q.1)) ∧ ∀ gi, nlF (vV T L q.1) 0 nl = some gi → y = nI gi ∧ y2 = nI (vV T L (q.1 + 1)) ∧ (0 < W gi → b3 = some (3, q.1)) ∧ (¬ 0 < W gi → b3 = if 1 ≤ vV T L (q.1 + 1) ∧ vV T L (q.1 + 1) ≤ 9999 then none else some (5, q.1 + 1)) := fun z2 bn => by
          obtain ⟨x1, x2, x3⟩ := fact z2
          have k := r6 x1 bn nl (NQu bn) (hW bn).1.2
          refine ⟨fun hf => ?_, fun gi hf => ?_⟩
          · have w1 := k.2 hf
            have w2 : b2 = b1 := v4.resolve_right (fun w => by rw [w1] at w; exact absurd w.1 (by simp))
            rw [o4 (by rw [w2, w1]; simp), w2, w1]
          · obtain ⟨w0, w1⟩ := k.1 gi hf
            have g6 := hb6 _ _ hf
            have yn : ¬ y < 0 := by rw [w0]; exact nI_pos (by omega)
            have w2 := v5 w1 x1 yn
            have wt := ((hW bn).2 z).2.1 gi g6
            rw [r2.1 145 (by decide), w0] at w2
            have o5' := o5 z2
            rw [x2] at o5'
            refine ⟨w0, o5'.1, fun p => ?_, fun p => o5'.2 (w2.2 (fun w => p (wt.mp w)))⟩
            rw [o4 (by rw [w2.1 (wt.mpr p)]; simp), w2.1 (wt.mpr p)]
        refine l_M_w33 hl hL hS hD hT h19 h20 n20 hb6 m (n + 1) (gk (kK T L M) 3 (gk (kK T L M) 2 q)) b3 (match nlF (vV T L q.1) 0 nl with
          | none => W
          | some gi => fun k => if k = gi then vV T L (q.1 + 1) else W k) s3 (by omega) (o1.m c120) (fun z2 c' j' e => ?_) (o3.m c120) M4 c142 (fun bn3 => ?_) (fun v' b' n1 n2 n3 => h v' b' n1 (by rw [eg]; exact n2) (fun zf => ?_))
        · obtain ⟨x1, x2, x3⟩ := fact z2
          rw [x3]
          show j' < q.1 + 2
          by_cases bn : b2 = none
          · have := (o5 z2).2 bn
            rw [x2] at this
            rw [this] at e
            split at e
            · exact absurd e (by simp)
            · injection e with e; injection e with e1 e2; omega
          · rw [o4 bn] at e
            have := be2 x1 c' j' e
            rw [x2] at this
            have : j' < q.1 + 1 := this
            omega
        · have bn : b = none := by
            by_cases bn : b = none
            · exact bn
            · exact absurd (by rw [← some_ bn]; exact bn3) bn
          refine ⟨(hW bn).1, fun z2 => ?_⟩
          obtain ⟨f1, f2⟩ := none_ z2 bn
          cases hf : nlF (vV T L q.1) 0 nl with
          | none => rw [f1 hf] at bn3; exact absurd bn3 (by simp)
          | some gi =>
            obtain ⟨p1, p2, p3, p4⟩ := f2 gi hf
            by_cases w : 0 < W gi
            · rw [p3 w] at bn3; exact absurd bn3 (by simp)
            · have p5 := p4 w
              rw [bn3] at p5
              by_cases r : 1 ≤ vV T L (q.1 + 1) ∧ vV T L (q.1 + 1) ≤ 9999
              · exact ((hW bn).2 z).add (hb6 _ _ hf) r (by omega) (by rw [c145, p1]) (by rw [c146, p2])
              · rw [if_neg r] at p5; exact absurd p5 (by simp)
        · rw [eg] at zf
          obtain ⟨y1, y2', y3, y4'⟩ := n3 zf
          have z2 : (gk (kK T L M) 3 (gk (kK T L M) 2 q)).2 = 0 := (gW_ok m _ (gk_ok zf).1).1
          obtain ⟨x1, x2, x3⟩ := fact z2
          rw [x3] at y2' y3
          have ew : n + 1 + wn (kK T L M) m (q.1 + 2) = n + wn (kK T L M) (m + 1) q.1 := by rw [wn, if_pos k2]; omega
          rw [show (q.1 + 2, 0).1 = q.1 + 2 from rfl, ew] at y2' y3
          refine ⟨y1, ⟨fun bn => ?_, fun bn => ?_⟩, y3, y4'⟩
          · have := some_ bn
            rw [← this]
            exact y2'.1 (by rw [this]; exact bn)
          · obtain ⟨f1, f2⟩ := none_ z2 bn
            cases hf : nlF (vV T L q.1) 0 nl with
            | none =>
              have := f1 hf
              rw [sW_n k2 hf]
              show b' = some (4, q.1)
              rw [← this]
              exact y2'.1 (by rw [this]; simp)
            | some gi =>
              obtain ⟨p1, p2, p3, p4⟩ := f2 gi hf
              simp only [hf] at y2'
              rw [sW_s k2 hf]
              by_cases w : 0 < W gi
              · rw [if_pos w]
                show b' = some (3, q.1)
                have := p3 w
                rw [← this]
                exact y2'.1 (by rw [this]; simp)
              · have p5 := p4 w
                rw [if_neg w]
                by_cases r : 1 ≤ vV T L (q.1 + 1) ∧ vV T L (q.1 + 1) ≤ 9999
                · rw [if_pos r] at p5
                  rw [if_neg (fun w => w r)]
                  exact y2'.2 p5
                · rw [if_neg r] at p5
                  rw [if_pos r]
                  show b' = some (5, q.1 + 1)
                  rw [← p5]
                  exact y2'.1 (by rw [p5]; simp)
theorem sW_z {K : Nat → Nat} {G : Nat} (hb : ∀ v i, nlF v 0 nl = some i → i < G) : ∀ (m a : Nat) (W W' : Nat → Nat), (∀ k, G ≤ k → W k = 0) → sW T L K nl m a W = .inr W' → ∀ k, G ≤ k → W' k = 0
  | 0, _, W, W', h, e => by
    have e' : W = W' := by rw [sW] at e; injection e
    rw [← e']; exact h
  | m + 1, a, W, W', h, e => by
    by_cases k : K a = 2
    · cases hf : nlF (vV T L a) 0 nl with
      | none => rw [sW_n k hf] at e; exact absurd e (by simp)
      | some gi =>
        rw [sW_s k hf] at e
        have e2 := e
        split at e2
        · exact absurd e2 (by simp)
        · split at e2
          · exact absurd e2 (by simp)
          · refine sW_z hb m (a + 2) _ W' (fun k hk => ?_) e2
            have := hb _ _ hf
            rw [if_neg (by omega)]; exact h k hk
    · rw [sW, if_pos k] at e
      have e' : W = W' := by injection e
      rw [← e']; exact h
theorem TR.me' {u : MS} {py : Int32} {W : Nat → Nat} {n : Nat} (m5 : dM d < 5) (g6 : nG d ≤ 6) (h : TR d sd s) (a : u.1 142 sd = nI (dM d + 1)) (c : u.1 143 = upd (s.1 143) (5 * sd + dM d) py) (n4 : n ≤ 4) (b : u.1 144 (5 * sd + dM d) = nI n) (w : WT sd (dM d) W n u) (wz : ∀ k, nG d ≤ k → W k = 0) (b' : ∀ j, j ≠ 5 * sd + dM d → u.1 144 j = s.1 144 j) (e : ∀ j, (j < 4 * (5 * sd + dM d) ∨ 4 * (5 * sd + dM d) + 4 ≤ j) → u.1 145 j = s.1 145 j ∧ u.1 146 j = s.1 146 j) (f : ∀ x, 131 ≤ x → x < 159 → (x < 142 ∨ 147 ≤ x) → u.1 x = s.1 x) : TR (aMe d py W) sd u := by
  obtain ⟨h1, h2, h3, h4, h5, h6, h7, h8, h9, h10, h11, h12, h13, h14⟩ := h
  refine ⟨?_, ?_, ?_, a, ?_, ?_, ?_, ?_, ?_, ?_, ?_, fun m hm => ?_, fun k hk => (h13 k hk).mv (fun x a b => f x (by omega) b (by omega)), fun k hk => (h14 k hk).mv (fun x a b => f x (by omega) b (by omega))⟩
  · rw [f 131 (by omega) (by omega) (by omega)]; exact h1
  · rw [f 134 (by omega) (by omega) (by omega)]; exact h2
  · rw [f 137 (by omega) (by omega) (by omega)]; exact h3
  · rw [f 147 (by omega) (by omega) (by omega)]; exact h5
  · rw [f 148 (by omega) (by omega) (by omega)]; exact h6
  · rw [f 149 (by omega) (by omega) (by omega)]; exact h7
  · rw [f 132 (by omega) (by omega) (by omega), f 133 (by omega) (by omega) (by omega)]; exact h8
  · rw [f 135 (by omega) (by omega) (by omega)]; exact h9
  · rw [f 136 (by omega) (by omega) (by omega)]; exact h10
  · rw [f 138 (by omega) (by omega) (by omega), f 139 (by omega) (by omega) (by omega), f 140 (by omega) (by omega) (by omega), f 141 (by omega) (by omega) (by omega)]; exact h11
  · have hm' : m < dM d + 1 := hm
    show u.1 143 (5 * sd + m) = upd (dPy d) (dM d) py m ∧ ∃ n, n ≤ 4 ∧ u.1 144 (5 * sd + m) = nI n ∧ ∀ k, k < 6 → wsum (u.1 145) (u.1 146) (4 * (5 * sd + m)) k n = if k < nG d then (if m = dM d then nI (W k) else dWa d m k) else 0
    rw [c]
    by_cases z : m = dM d
    · subst z
      rw [upd_s, upd_s]
      refine ⟨rfl, n, n4, b, fun k hk => ?_⟩
      rw [w.1 k hk, if_pos rfl]
      split
      · rfl
      · rw [wz k (by omega)]; rfl
    · rw [upd_n _ _ (by omega), upd_n _ _ z]
      obtain ⟨q1, n', q2, q3, q4⟩ := h12 m (by omega)
      refine ⟨q1, n', q2, by rw [b' _ (by omega)]; exact q3, fun k hk => ?_⟩
      rw [wsum_cg n' (fun i hi => e (4 * (5 * sd + m) + i) (by omega)), q4 k hk, if_neg z]
theorem wn_le {K : Nat → Nat} : ∀ m a, wn K m a ≤ m
  | 0, _ => Nat.le_refl _
  | m + 1, a => by
    rw [wn]
    split
    · have := wn_le (K := K) m (a + 2); omega
    · omega
theorem f_M_wants {R : MS → Prop} {q : Nat × Nat} {cG cH cR cM : Nat} {b : Option (Nat × Nat)} (hl : lv + sd = 1) (hL : L ≤ 2000) (hS : SX g) (hT : TkR T L M s) (hq : RQ T L M q s) (hz : q.2 = 0) (hb : BE b q.1) (hX : RX T L M sd cG cH cR cM b d nl s) (m5 : cM < 5) (hb6 : b = none → ∀ v i, nlF v 0 nl = some i → i < nG d)
    (h : ∀ u, FPa lv s u → RQ T L M (gWants (kK T L M) q) u → ((gWants (kK T L M) q).2 = 0 → RX T L M sd cG cH cR (cM + 1) (rB b (sMer T L (kK T L M) q.1 d nl)) (rD d (sMer T L (kK T L M) q.1 d nl)) (rN nl (sMer T L (kK T L M) q.1 d nl)) u) → R u) : GV E m_Mo_tellWants [.ref 120] g s R := by
  obtain ⟨x1, x2, x3, ⟨x4, x4'⟩, ⟨x5, x5'⟩, ⟨x6, x6'⟩, ⟨x7, x7'⟩, x8, x9⟩ := hX
  refine v_Mo_tellWants (Q := qV g R) hS ?_
  rw [x2, tn_n (by omega), x7, y5, tn_n (by omega)]
  refine ⟨vp_in_nI (by omega) (by omega), ?_⟩
  refine f_M_bounded (lo := 0) (hi := 9999) rfl rfl (by omega) (by omega) hL hS hT hq x1 (fun _ => hb) (fun y2 b2 u2 q2 f2 w2 m2 n2 => ⟨vp_in_nI (by omega) (by omega), fun s3 e3 => ?_⟩)
  have c120 : s3.1 120 = u2.1 120 := by rw [e3, wi_n _ _ _ (by decide)]
  have e120 : ∀ j, ¬ (11 ≤ j ∧ j < 17) → s3.1 120 j = s.1 120 j := fun j hj => by rw [c120, f2.2.1 j (by omega) (by omega) (by omega) (by omega) (by omega)]
  have F3 : FPa lv s s3 := f2.P.tr (by rw [e3]; exact FPa.w hl (by omega) (by unfold own; omega))
  have ea : ∀ x, x ≠ 120 → x ≠ 143 → s3.1 x = s.1 x := fun x h1 h2 => by rw [e3, wi_n _ _ _ h2, f2.1 x h1]
  have e2' : s3.2 = s.2 := by rw [e3, wi_2, f2.2.2]
  have bn0 : b2 = none → b = none := fun bn => by
    by_cases y : b = none
    · exact y
    · rw [m2 y] at bn; exact bn
  have b6 : b2 = none → ∀ v i, nlF v 0 nl = some i → i < 6 := fun bn v i e => by
    obtain ⟨-, -, -, v1, -⟩ := x9 (bn0 bn)
    have := hb6 (bn0 bn) v i e
    omega
  have be2 : (gk (kK T L M) 3 q).2 = 0 → BE b2 (gk (kK T L M) 3 q).1 := fun z c' j' e => by
    obtain ⟨-, -, -, g4⟩ := gk_ok z
    rw [g4]
    show j' < q.1 + 1
    by_cases y : b = none
    · rw [(n2 z).2 y] at e
      split at e
      · exact absurd e (by simp)
      · injection e with e; injection e with e1 e2; omega
    · rw [m2 y] at e; have := hb c' j' e; omega
  have NQ3 : ∀ nl', NQ nl' s → NQ nl' s3 := fun nl' N i hi => by rw [e2', ea 129 (by decide) (by decide), ea 130 (by decide) (by decide)]; exact N i hi
  by_cases bn2 : b2 = none
  · have bn := bn0 bn2
    obtain ⟨tr, N, l, v1, v2, v3, v4⟩ := x9 bn
    refine l_M_w33 (nl := nl) hl hL hS m5 (hT.P F3) (by rw [e120 19 (by omega)]; exact x2) (by rw [e120 20 (by omega)]; exact x8) (by omega) (b6 bn2) 4 0 (gk (kK T L M) 3 q) b2 (fun _ => 0) s3 (by omega) (q2.m c120) be2 (w2.m c120) ⟨fun _ _ _ _ _ _ => rfl, fun _ _ => rfl, rfl, fun _ _ => rfl, fun _ _ => rfl, fun _ _ => ⟨rfl, rfl⟩⟩ (by rw [ea 142 (by decide) (by decide)]; exact x7) (fun _ => ⟨⟨NQ3 nl N, l⟩, fun _ => ⟨fun _ _ => rfl, fun k _ => ⟨fun ⟨i, hi, _⟩ => absurd hi (by omega), fun w => absurd w (Nat.lt_irrefl 0)⟩, fun _ _ => Nat.zero_le _⟩⟩) (fun v b' n1 n2' n3 => h v (F3.tr (n1.P hl m5)) n2' (fun zf => ?_))
    obtain ⟨r1, r2, r3, r4, r5, r6, r7⟩ := gWants_ok zf
    obtain ⟨o1, o2, o3, o4⟩ := n3 zf
    rw [r3] at n2 o2 o3
    have n2'' := n2 rfl
    rw [show (q.1 + 1, 0).1 = q.1 + 1 from rfl, Nat.zero_add] at o2 o3
    have nv : ∀ x, x ≠ 120 → x ≠ 142 → x ≠ 143 → x ≠ 144 → x ≠ 145 → x ≠ 146 → v.1 x = s.1 x := fun x h1 h2 h3 h4 h5 h6 => by rw [n1.1 x h1 h2 h4 h5 h6, ea x h1 h3]
    have bb : b' = rB b (sMer T L (kK T L M) q.1 d nl) ∧ (b' = none → ∃ W, sW T L (kK T L M) nl 4 (q.1 + 1) (fun _ => 0) = .inr W ∧ sMer T L (kK T L M) q.1 d nl = .inr (aMe d (nI (vV T L q.1)) W, nl) ∧ WT sd cM W (wn (kK T L M) 4 (q.1 + 1)) v) := by
      have o2' := o2.2 bn2
      have rg : 0 ≤ vV T L q.1 ∧ vV T L q.1 ≤ 9999 := by
        have := n2''.2 bn
        rw [bn2] at this
        by_cases r : 0 ≤ vV T L q.1 ∧ vV T L q.1 ≤ 9999
        · exact r
        · rw [if_neg r] at this; exact absurd this (by simp)
      unfold sMer
      rw [if_neg (fun w => w rg), bn]
      cases hs : sW T L (kK T L M) nl 4 (q.1 + 1) (fun _ => 0) with
      | inl x =>
        rw [hs] at o2'
        exact ⟨o2', fun w => by rw [o2'] at w; exact absurd w (by simp)⟩
      | inr W =>
        rw [hs] at o2'
        exact ⟨o2'.1, fun _ => ⟨W, rfl, rfl, o2'.2⟩⟩
    rw [← bb.1]
    refine ⟨o1, by rw [n1.2.1 19 (by omega), e120 19 (by omega)]; exact x2, x3, ⟨by rw [nv 131 (by decide) (by decide) (by decide) (by decide) (by decide) (by decide)]; exact x4, x4'⟩, ⟨by rw [nv 134 (by decide) (by decide) (by decide) (by decide) (by decide) (by decide)]; exact x5, x5'⟩, ⟨by rw [nv 137 (by decide) (by decide) (by decide) (by decide) (by decide) (by decide)]; exact x6, x6'⟩, ⟨o4, by omega⟩, by rw [n1.2.1 20 (by omega), e120 20 (by omega)]; exact x8, fun bn' => ?_⟩
    obtain ⟨W, hW, hs, wt⟩ := bb.2 bn'
    rw [hs]
    refine ⟨tr.me' (n := wn (kK T L M) 4 (q.1 + 1)) (by omega) (by omega) (by rw [v4]; exact o4) ?_ (wn_le _ _) (by rw [v4]; exact o3) (by rw [v4]; exact wt) (sW_z (hb6 bn) _ _ _ _ (fun _ _ => rfl) hW) (fun j hj => ?_) (fun j hj => ?_) (fun x h1 h2 h3 => nv x (by omega) (by omega) (by omega) (by omega) (by omega) (by omega)), fun i hi => ?_, l, v1, v2, v3, ?_⟩
    · rw [n1.1 143 (by decide) (by decide) (by decide) (by decide) (by decide), e3, wi_s, f2.1 143 (by decide), v4, n2''.1]
    · rw [v4] at hj
      rw [n1.2.2.2.1 j hj, ea 144 (by decide) (by decide)]
    · rw [v4] at hj
      have := n1.2.2.2.2.2 j hj
      rw [ea 145 (by decide) (by decide), ea 146 (by decide) (by decide)] at this
      exact this
    · show v.2 128 i = _ ∧ _
      rw [n1.2.2.1, n1.1 129 (by decide) (by decide) (by decide) (by decide) (by decide), n1.1 130 (by decide) (by decide) (by decide) (by decide) (by decide)]
      exact NQ3 nl N i hi
    · show dM d + 1 = cM + 1; omega
  · refine l_M_w33 (nl := []) hl hL hS m5 (hT.P F3) (by rw [e120 19 (by omega)]; exact x2) (by rw [e120 20 (by omega)]; exact x8) (by omega) (fun v i e => by rw [nlF] at e; exact absurd e (by simp)) 4 0 (gk (kK T L M) 3 q) b2 (fun _ => 0) s3 (by omega) (q2.m c120) be2 (w2.m c120) ⟨fun _ _ _ _ _ _ => rfl, fun _ _ => rfl, rfl, fun _ _ => rfl, fun _ _ => rfl, fun _ _ => ⟨rfl, rfl⟩⟩ (by rw [ea 142 (by decide) (by decide)]; exact x7) (fun w => absurd w bn2) (fun v b' n1 n2' n3 => h v (F3.tr (n1.P hl m5)) n2' (fun zf => ?_))
    obtain ⟨r1, r2, r3, r4, r5, r6, r7⟩ := gWants_ok zf
    obtain ⟨o1, o2, o3, o4⟩ := n3 zf
    rw [r3] at n2
    have n2'' := n2 rfl
    have nv : ∀ x, x ≠ 120 → x ≠ 142 → x ≠ 143 → x ≠ 144 → x ≠ 145 → x ≠ 146 → v.1 x = s.1 x := fun x h1 h2 h3 h4 h5 h6 => by rw [n1.1 x h1 h2 h4 h5 h6, ea x h1 h3]
    have b'e := o2.1 bn2
    have bb : b' = rB b (sMer T L (kK T L M) q.1 d nl) := by
      rw [b'e]
      cases b with
      | some x => rw [m2 (by simp)]; rfl
      | none =>
        have := n2''.2 rfl
        by_cases r : 0 ≤ vV T L q.1 ∧ vV T L q.1 ≤ 9999
        · rw [if_pos r] at this; exact absurd this bn2
        · rw [if_neg r] at this
          unfold sMer
          rw [if_pos r, this]; rfl
    rw [← bb]
    exact ⟨o1, by rw [n1.2.1 19 (by omega), e120 19 (by omega)]; exact x2, x3, ⟨by rw [nv 131 (by decide) (by decide) (by decide) (by decide) (by decide) (by decide)]; exact x4, x4'⟩, ⟨by rw [nv 134 (by decide) (by decide) (by decide) (by decide) (by decide) (by decide)]; exact x5, x5'⟩, ⟨by rw [nv 137 (by decide) (by decide) (by decide) (by decide) (by decide) (by decide)]; exact x6, x6'⟩, ⟨o4, by omega⟩, by rw [n1.2.1 20 (by omega), e120 20 (by omega)]; exact x8, fun bn' => absurd (by rw [← b'e]; exact bn') bn2⟩
end RWants2
