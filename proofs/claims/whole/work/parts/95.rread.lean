/-! THE REFERENCE READS -/
def Mf (T : Nat → Nat) (L M : Nat) : Prop := (∀ j, j < M → bp T L j < L) ∧ (L ≤ bp T L M ∨ M = 401) ∧ M ≤ 401
def sRd (π : PS) (P : Int32) : PS := (pN π, pM π, pH π, pS π, (pK π, pF π), (0, pT π), P)
def sNw (d' : TD) (π : PS) : PS := (beg d', 0, pH π, fun _ => none, (0, pF π), (0, pT π), -1)
section RRead
variable {E : EN} {g : GS} {s : MS} {d : TD} {π : PS} {lv sd M : Nat}
/-- what stands of the reference while it reads -/
def FRd (lv : Nat) (s v : MS) : Prop := (∀ a, a ≠ 120 → ¬ (122 ≤ a ∧ a < 126) → ¬ (128 ≤ a ∧ a < 160) → v.1 a = s.1 a) ∧ (∀ a, a ≠ 126 → a ≠ 128 → v.2 a = s.2 a) ∧ (∀ j, j ≠ 2 → j ≠ 4 → ¬ (10 ≤ j ∧ j < 17) → j ≠ 19 → j ≠ 20 → j ≠ 45 → j ≠ 51 → j ≠ 55 → v.1 120 j = s.1 120 j) ∧ OS lv s v
theorem FRd.F {v : MS} (h : FRd lv s v) : FF s v := ⟨fun a ha => h.1 a (by omega) (by omega) (by omega), fun a ha => h.2.1 a (by omega) (by omega)⟩
theorem FRd.bad {v u : MS} {P : Int32} (hO : TOk d) (J : IRf d lv π s) (h : FRd lv s v) (h2 : v.1 120 2 = 0) (eu : u = wi v 120 17 P) : IRf d lv (sRd π P) u ∧ FF s u := by
  obtain ⟨⟨a1, a2, a3, a4⟩, j2, j3, j4, j5, j6, j7, j8⟩ := J
  have hu : ∀ a, a ≠ 120 → u.1 a = v.1 a := fun a ha => by rw [eu, wi_n _ _ _ ha]
  have hs : ∀ j, j ≠ 17 → u.1 120 j = v.1 120 j := fun j hj => by rw [eu, wi_s, upd_n _ _ hj]
  have e : ∀ a, a ≠ 120 → ¬ (122 ≤ a ∧ a < 126) → ¬ (128 ≤ a ∧ a < 160) → u.1 a = s.1 a := fun a x1 x2 x3 => by rw [hu a x1, h.1 a x1 x2 x3]
  refine ⟨⟨⟨(a1.os hO a3 h.2.2.2).mv (fun a x1 x2 => hu a (by omega)), by rw [hs 18 (by decide), h.2.2.1 18 (by decide) (by decide) (by omega) (by decide) (by decide) (by decide) (by decide) (by decide)]; exact a2, a3, fun j hj => by rw [e 164 (by decide) (by omega) (by omega)]; exact a4 j hj⟩, by rw [e 162 (by decide) (by omega) (by omega)]; exact j2, ?_, ?_, ?_, ⟨by rw [hs 2 (by decide)]; exact h2, fun i hi => absurd hi (Nat.not_lt_zero _)⟩, by rw [eu, wi_s, upd_s]; rfl, by rw [eu, wi_2, h.2.1 127 (by decide) (by decide)]; exact j8⟩, h.F.tr ⟨fun a ha => hu a (by omega), fun a _ => by rw [eu, wi_2]⟩⟩
  · unfold hrow; rw [hs 64 (by decide), h.2.2.1 64 (by decide) (by decide) (by omega) (by decide) (by decide) (by decide) (by decide) (by decide), e 166 (by decide) (by omega) (by omega)]; exact j3
  · unfold srow; rw [e 171 (by decide) (by omega) (by omega), e 172 (by decide) (by omega) (by omega)]; exact j4
  · rw [hs 68 (by decide), h.2.2.1 68 (by decide) (by decide) (by omega) (by decide) (by decide) (by decide) (by decide) (by decide), e 167 (by decide) (by omega) (by omega), e 168 (by decide) (by omega) (by omega), e 169 (by decide) (by omega) (by omega), e 170 (by decide) (by omega) (by omega)]; exact j5
theorem f_M_read {R : Int32 → MS → Prop} {fa : Row} (hS : SX g) (hO : TOk d) (hl : lv + sd = 1) (J : IRf d lv π s) (hL : pL π ≤ 2000) (hT : ∀ i, i < pL π → pT π i < 256) (hM : Mf (pT π) (pL π) M) (hf : ∀ j, j < 6 → s.1 135 (6 * sd + j) = fa j) (hf2 : ∀ j, 6 ≤ j → fa j = 0)
    (h1 : ∀ v, (gCheck (kK (pT π) (pL π) M)).2 ≠ 0 → IRf d lv (sRd π (nI (pl (pT π) (pL π) M (gCheck (kK (pT π) (pL π) M)).1))) v → FF s v → R (nI (gCheck (kK (pT π) (pL π) M)).2) v)
    (h2 : ∀ v x, (gCheck (kK (pT π) (pL π) M)).2 = 0 → sAll (pT π) (pL π) (kK (pT π) (pL π) M) 401 (fun _ => 0) (0, 0) (d0 fa) [] = .inl x → IRf d lv (sRd π (nI (bp (pT π) (pL π) x.2))) v → FF s v → R (nI x.1) v)
    (h3 : ∀ v y, (gCheck (kK (pT π) (pL π) M)).2 = 0 → sAll (pT π) (pL π) (kK (pT π) (pL π) M) 401 (fun _ => 0) (0, 0) (d0 fa) [] = .inr y → IRf y.1 sd (sNw y.1 π) v → FF s v → R 0 v) : GI E m_Mo_read [.ref 120] g s R := by
  have J0 := J
  obtain ⟨⟨a1, a2, a3, a4⟩, j2, j3, j4, j5, ⟨j6, j6'⟩, j7, j8⟩ := J
  have sd2 : sd < 2 := by omega
  refine v_Mo_read (Q := qI g R) hS (fun s1 e1 => ?_)
  rw [j6] at e1
  have c1 : ∀ a, a ≠ 120 → s1.1 a = s.1 a := fun a ha => by rw [e1, wi_n _ _ _ ha]
  have d1 : ∀ j, j ≠ 4 → s1.1 120 j = s.1 120 j := fun j hj => by rw [e1, wi_s, upd_n _ _ hj]
  have s4 : s1.1 120 4 = nI (pL π) := by rw [e1, wi_s, upd_s]
  -- the tape is copied
  refine upto (P := fun k => ∀ v, (∀ i, i < k → v.1 122 i = (nI (pT π i)).toInt8.toInt32) → (∀ a, a ≠ 122 → v.1 a = s1.1 a) → v.2 = s1.2 → AWP E m_Mo_read 10 0 0 [(0, .ref 120), (1, .int (nI k))] [] (mk g v) (qI g R)) (pL π) ?_ ?_ 0 (Nat.zero_le _) s1 (fun i hi => absurd hi (by omega)) (fun _ _ => rfl) rfl
  · intro v b1 b2 b3
    refine v_Mo_read_10 _ hS ?_
    rw [b2 120 (by decide), s4]
    refine pk_le (pL π) (pL π) (fun _ s2 e2 => ?_) (fun z => absurd z (by omega))
    have TP2 : TPr (pT π) (pL π) s2 := ⟨hL, hT, by rw [e2, wi_s, upd_n _ _ (by decide), b2 120 (by decide)]; exact s4, fun i hi => by rw [e2, wi_n _ _ _ (by decide)]; exact b1 i hi, fun k hk => by rw [e2, wi_2, b3, e1, wi_2]; exact j8 k hk⟩
    refine f_M_cut hS TP2 (fun u M' TK FC' => ?_)
    have eM : M' = M := tk_uniq (fun j hj => (TK.2.1 j hj).1) TK.2.2.2 TK.1 hM.1 hM.2.1 hM.2.2
    subst eM
    have u18 : u.1 120 18 = nI lv := by rw [FC'.2.1 18 (by decide), e2, wi_s, upd_n _ _ (by decide), b2 120 (by decide), d1 18 (by decide)]; exact a2
    have eside : (1 : Int32) - nI lv = nI sd := by
      have : lv = 0 ∧ sd = 1 ∨ lv = 1 ∧ sd = 0 := by omega
      rcases this with ⟨rfl, rfl⟩ | ⟨rfl, rfl⟩ <;> rfl
    rw [u18, eside]
    intro s3 e3 s4' e4 s5 e5 s6 e6 s7 e7 s8 e8
    have k8 : ∀ a, a ≠ 120 → s8.1 a = u.1 a := fun a ha => by rw [e8, wi_n _ _ _ ha, e7, wi_n _ _ _ ha, e6, wi_n _ _ _ ha, e5, wi_n _ _ _ ha, e4, wi_n _ _ _ ha, e3, wi_n _ _ _ ha]
    have m8 : s8.1 120 = upd (upd (upd (upd (upd (upd (u.1 120) 11 0) 12 0) 13 0) 15 0) 19 (nI sd)) 20 0 := by rw [e8, wi_s, e7, wi_s, e6, wi_s, e5, wi_s, e4, wi_s, e3, wi_s]
    have l8 : s8.2 = u.2 := by rw [e8, wi_2, e7, wi_2, e6, wi_2, e5, wi_2, e4, wi_2, e3, wi_2]
    refine f_Mo_plain rfl sd2 hS (fun u9 p1 p2 p3 p4 s10 e10 s11 e11 => ?_)
    have u19 : u9.1 120 19 = nI sd := by rw [p3 120 (by decide) (by decide) (by decide) (by decide) (by omega), m8, upd_n _ _ (by decide), upd_s]
    rw [u19, show (130 : Int32) * nI sd = nI (130 * sd) by rw [show (130 : Int32) = nI 130 from rfl, pk_mul]] at e10
    rw [u19, show (420 : Int32) * nI sd = nI (420 * sd) by rw [show (420 : Int32) = nI 420 from rfl, pk_mul]] at e11
    have k11 : ∀ a, a ≠ 120 → s11.1 a = u9.1 a := fun a ha => by rw [e11, wi_n _ _ _ ha, e10, wi_n _ _ _ ha]
    have m11 : s11.1 120 = upd (upd (s8.1 120) 45 (nI (130 * sd))) 51 (nI (420 * sd)) := by rw [e11, wi_s, e10, wi_s, p3 120 (by decide) (by decide) (by decide) (by decide) (by omega)]
    have l11 : s11.2 = u.2 := by rw [e11, wi_2, e10, wi_2, p4, l8]
    -- what stands of the state before
    have far : ∀ a, a ≠ 120 → ¬ (122 ≤ a ∧ a < 126) → u.1 a = s.1 a := fun a x1 x2 => by rw [FC'.1 a x1 (by omega), e2, wi_n _ _ _ x1, b2 a (by omega), c1 a x1]
    have fs : ∀ j, j ≠ 2 → j ≠ 4 → j ≠ 10 → u.1 120 j = s.1 120 j := fun j x1 x2 x3 => by rw [FC'.2.1 j x3, e2, wi_s, upd_n _ _ x1, b2 120 (by decide), d1 j x2]
    have fl : ∀ a, a ≠ 126 → u.2 a = s.2 a := fun a ha => by rw [FC'.2.2 a ha, e2, wi_2, b3, e1, wi_2]
    have FR : FRd lv s s11 := by
      refine ⟨fun a x1 x2 x3 => ?_, fun a x1 _ => by rw [l11, fl a x1], fun j x1 x2 x3 x4 x5 x6 x7 x8 => ?_, ?_⟩
      · rw [k11 a x1, p3 a (by omega) (by omega) (by omega) (by omega) (by omega), k8 a x1, far a x1 x2]
      · rw [m11, upd_n _ _ x7, upd_n _ _ x6, m8, upd_n _ _ x5, upd_n _ _ x4, upd_n _ _ (by omega), upd_n _ _ (by omega), upd_n _ _ (by omega), upd_n _ _ (by omega), fs j x1 x2 (by omega)]
      · have o1 : OS lv s s8 := OS.of (fun a x1 x2 => by rw [k8 a (by omega), far a (by omega) (by omega)])
        have o2 : OS lv u9 s11 := OS.of (fun a x1 x2 => by rw [k11 a (by omega)])
        exact o1.tr ((p2 lv hl).tr o2)
    have q0 : RQ (pT π) (pL π) M' (0, 0) s11 := ⟨by rw [m11, upd_n _ _ (by decide), upd_n _ _ (by decide), m8, upd_n _ _ (by decide), upd_n _ _ (by decide), upd_n _ _ (by decide), upd_s]; rfl, fun _ => by rw [m11, upd_n _ _ (by decide), upd_n _ _ (by decide), m8, upd_n _ _ (by decide), upd_n _ _ (by decide), upd_n _ _ (by decide), upd_n _ _ (by decide), upd_n _ _ (by decide), upd_s]; rfl, fun w => absurd rfl w, ⟨0, by omega, by rw [m11, upd_n _ _ (by decide), upd_n _ _ (by decide), m8, upd_n _ _ (by decide), upd_n _ _ (by decide), upd_n _ _ (by decide), upd_n _ _ (by decide), upd_n _ _ (by decide), upd_s]; rfl⟩, by omega, Nat.zero_le _, by omega⟩
    have T11 : TkR (pT π) (pL π) M' s11 := TK.mv (by rw [k11 123 (by decide), p3 123 (by decide) (by decide) (by decide) (by decide) (by omega), k8 123 (by decide)]) (by rw [k11 124 (by decide), p3 124 (by decide) (by decide) (by decide) (by decide) (by omega), k8 124 (by decide)]) (by rw [k11 125 (by decide), p3 125 (by decide) (by decide) (by decide) (by decide) (by omega), k8 125 (by decide)]) (by rw [l11])
    have p11 : s11.1 131 sd = 0 ∧ s11.1 134 sd = 0 ∧ s11.1 137 sd = 0 ∧ s11.1 142 sd = 0 ∧ s11.1 147 sd = 9999 ∧ s11.1 148 sd = 50 ∧ s11.1 149 sd = 0 ∧ ∀ k, k < 3 → s11.1 150 (3 * sd + k) = 0 ∧ s11.1 151 (3 * sd + k) = 0 := by
      rw [k11 131 (by decide), k11 134 (by decide), k11 137 (by decide), k11 142 (by decide), k11 147 (by decide), k11 148 (by decide), k11 149 (by decide), k11 150 (by decide), k11 151 (by decide)]; exact p1
    have tr0 : TR (d0 fa) sd s11 := d0_TR sd2 p11 (fun j hj => by rw [k11 135 (by decide), p3 135 (by decide) (by decide) (by decide) (by decide) (by omega), k8 135 (by decide), far 135 (by decide) (by omega)]; exact hf j hj) hf2
    have z12 : s11.1 120 12 = 0 := by rw [m11, upd_n _ _ (by decide), upd_n _ _ (by decide), m8, upd_n _ _ (by decide), upd_n _ _ (by decide), upd_n _ _ (by decide), upd_n _ _ (by decide), upd_s]
    have z15 : s11.1 120 15 = 0 := by rw [m11, upd_n _ _ (by decide), upd_n _ _ (by decide), m8, upd_n _ _ (by decide), upd_n _ _ (by decide), upd_s]
    have z19 : s11.1 120 19 = nI sd := by rw [m11, upd_n _ _ (by decide), upd_n _ _ (by decide), m8, upd_n _ _ (by decide), upd_s]
    have z20 : s11.1 120 20 = 0 := by rw [m11, upd_n _ _ (by decide), upd_n _ _ (by decide), m8, upd_s]
    have z2 : s11.1 120 2 = 0 := by rw [m11, upd_n _ _ (by decide), upd_n _ _ (by decide), m8, upd_n _ _ (by decide), upd_n _ _ (by decide), upd_n _ _ (by decide), upd_n _ _ (by decide), upd_n _ _ (by decide), upd_n _ _ (by decide), FC'.2.1 2 (by decide), e2, wi_s, upd_s]
    have rz : RZ (pT π) (pL π) M' sd (fun _ => 0) (130 * sd) (420 * sd) 0 none (d0 fa) [] s11 := by
      refine ⟨⟨z15, z19, sd2, ⟨p11.1, Nat.zero_le _⟩, ⟨p11.2.1, Nat.zero_le _⟩, ⟨p11.2.2.1, Nat.zero_le _⟩, ⟨p11.2.2.2.1, Nat.zero_le _⟩, z20, fun _ => ⟨tr0, fun i hi => absurd hi (Nat.not_lt_zero _), rfl, rfl, rfl, rfl, rfl⟩⟩, z12, by rw [m11, upd_n _ _ (by decide), upd_s], Nat.le_refl _, by omega, by rw [m11, upd_s], Nat.le_refl _, by omega, fun _ k _ => Or.inl rfl⟩
    refine l_M_all hl hL hS T11 401 (fun _ => 0) (0, 0) none (d0 fa) [] (130 * sd) (420 * sd) s11 q0 (fun _ => ⟨by omega, fun c' j' e => absurd e (by simp), rz, fun _ => ⟨d0_PI fa, d0_CN fa⟩, fun w => Nat.zero_le _⟩) (FPb.rf lv s11) (fun v v1 v2 v3 => ?_)
    have v2' : RQ (pT π) (pL π) M' (gCheck (kK (pT π) (pL π) M')) v := v2
    have FV : FRd lv s v := ⟨fun a x1 x2 x3 => by rw [v1.1 a x1 x3, FR.1 a x1 x2 x3], fun a x1 x2 => by rw [v1.2.1 a x2, FR.2.1 a x1 x2], fun j x1 x2 x3 x4 x5 x6 x7 x8 => by rw [v1.2.2.1 j (by omega) x5 x6 x7 x8, FR.2.2.1 j x1 x2 x3 x4 x5 x6 x7 x8], FR.2.2.2.tr v1.2.2.2⟩
    have w2 : v.1 120 2 = 0 := by rw [v1.2.2.1 2 (by omega) (by decide) (by decide) (by decide) (by decide)]; exact z2
    have q7 := v2'.2.2.2.2.2.2
    refine v_Mo_read_134 _ hS ?_
    rw [v2'.1]
    refine pk_le (gCheck (kK (pT π) (pL π) M')).2 0 (fun z => ?_) (fun z s12 e12 => ?_) rfl rfl (by omega) (by omega)
    · -- no fault of the grammar
      have z0 : (gCheck (kK (pT π) (pL π) M')).2 = 0 := by omega
      obtain ⟨c', cB', cC', r, tok⟩ := v3 z0
      obtain ⟨⟨x1, x2, x3, x4, x5, x6, x7, x8, x9⟩, -⟩ := r
      cases hs : sAll (pT π) (pL π) (kK (pT π) (pL π) M') 401 (fun _ => 0) (0, 0) (d0 fa) [] with
      | inl x =>
        rw [hs] at x1
        have x1' : WQ (pT π) (pL π) M' (some x) v := x1
        obtain ⟨xc, xj⟩ := x
        obtain ⟨y1, y2, y3, y4, y5, y6⟩ := x1'
        rw [y1, y6]
        refine pk_le xc 0 (fun w => absurd w (by omega)) (fun _ s13 e13 => ?_) rfl rfl (by omega) (by omega)
        obtain ⟨i1, i2⟩ := FRd.bad hO J0 FV w2 e13
        refine v_Mo_read_167 _ hS ?_
        rw [e13, wi_s, upd_n _ _ (by decide), upd_n _ _ (by decide), v2'.1, y1, z0]
        refine pk_le 0 0 (fun _ => pk_le xc 0 (fun w => absurd w (by omega)) (fun _ => GI.r ?_) rfl rfl (by omega) (by omega)) (fun w => absurd w (by omega))
        rw [← e13]
        exact h2 s13 (xc, xj) z0 hs i1 i2
      | inr y =>
        rw [hs] at x1 x9 tok
        have x1' : v.1 120 15 = 0 := x1
        have x9' := x9 rfl
        have hO' : TOk y.1 := tok rfl
        rw [x1']
        refine ⟨fun _ s13 e13 => ?_, fun w => absurd (by decide) w⟩
        refine v_Mo_read_167 _ hS ?_
        have h13 : ∀ j, j ≠ 17 → s13.1 120 j = v.1 120 j := fun j hj => by rw [e13, wi_s, upd_n _ _ hj]
        have k13 : ∀ a, a ≠ 120 → s13.1 a = v.1 a := fun a ha => by rw [e13, wi_n _ _ _ ha]
        rw [h13 13 (by decide), h13 15 (by decide), v2'.1, x1', z0, h13 19 (by decide), x2]
        refine pk_le 0 0 (fun _ => ⟨fun _ s14 e14 => ?_, fun w => absurd (by decide) w⟩) (fun w => absurd w (by omega))
        have k14 : ∀ a, a ≠ 120 → s14.1 a = v.1 a := fun a ha => by rw [e14, wi_n _ _ _ ha, k13 a ha]
        have KR14 : KR y.1 sd s14 := ⟨x9'.1.mv (fun a b1 b2 => k14 a (by omega)), by rw [e14, wi_s, upd_s], sd2, fun j hj => by rw [k14 164 (by decide), FV.1 164 (by decide) (by omega) (by omega)]; exact a4 j hj⟩
        refine f_Mo_begins hS hO' KR14 (fun u15 g1 g2 g3 g4 g5 => f_Mo_keepsRow hS (fun u16 r1 r2 r3 s17 e17 s18 e18 => ?_))
        have k18 : ∀ a, a ≠ 120 → s18.1 a = u16.1 a := fun a ha => by rw [e18, wi_n _ _ _ ha, e17, wi_n _ _ _ ha]
        have m18 : s18.1 120 = upd (upd (u15.1 120) 64 0) 68 0 := by rw [e18, wi_s, e17, wi_s, r2 120 (by decide)]
        have l18 : s18.2 = v.2 := by rw [e18, wi_2, e17, wi_2, r3, g4.2.2.1, e14, wi_2, e13, wi_2]
        -- slots
        refine upto (P := fun k => ∀ z, (∀ i, i < k → z.1 171 i = 0) → (∀ a, a ≠ 171 → z.1 a = s18.1 a) → z.2 = s18.2 → AWP E m_Mo_read 219 0 0 [(0, .ref 120), (1, .int (nI k))] [] (mk g z) (qI g R)) 3 ?_ ?_ 0 (Nat.zero_le _) s18 (fun i hi => absurd hi (by omega)) (fun _ _ => rfl) rfl
        · intro z o1 o2 o3
          refine v_Mo_read_219 _ hS (pk_le 3 3 (fun _ => GI.r (h3 z y z0 hs ?_ ?_)) (fun w => absurd w (by omega)))
          · have zz : ∀ j, j ≠ 64 → j ≠ 68 → j ≠ 61 → j ≠ 18 → j ≠ 17 → z.1 120 j = v.1 120 j := fun j b1 b2 b3 b4 b5 => by rw [o2 120 (by decide), m18, upd_n _ _ b2, upd_n _ _ b1, g5 j b3, e14, wi_s, upd_n _ _ b4, h13 j b5]
            have zk : ∀ a, 131 ≤ a → a < 159 → z.1 a = s14.1 a := fun a b1 b2 => by rw [o2 a (by omega), k18 a (by omega), r2 a (by omega), g4.1 a (by omega) (by omega) (by omega) (by omega) (by omega) (by omega)]
            refine ⟨⟨KR14.1.mv zk, ?_, sd2, fun j hj => ?_⟩, ?_, ⟨?_, fun i hi => absurd hi (Nat.not_lt_zero _)⟩, fun i hi => Or.inl ⟨o1 i hi, rfl⟩, ⟨?_, fun i hi => absurd hi (Nat.not_lt_zero _)⟩, ⟨?_, fun i hi => absurd hi (Nat.not_lt_zero _)⟩, ?_, fun k hk => ?_⟩
            · rw [o2 120 (by decide), m18, upd_n _ _ (by decide), upd_n _ _ (by decide), g5 18 (by decide)]; exact KR14.2.1
            · rw [o2 164 (by decide), k18 164 (by decide), r2 164 (by decide), g4.2.2.2 j hj]; exact KR14.2.2.2 j hj
            · show nm (dE y.1) (z.1 162) = beg y.1
              rw [o2 162 (by decide), k18 162 (by decide), nm_120 r1]; exact g3
            · rw [o2 120 (by decide), m18, upd_n _ _ (by decide), upd_s]; rfl
            · rw [o2 120 (by decide), m18, upd_s]; rfl
            · rw [zz 2 (by decide) (by decide) (by decide) (by decide) (by decide)]; exact w2
            · rw [o2 120 (by decide), m18, upd_n _ _ (by decide), upd_n _ _ (by decide), g5 17 (by decide), e14, wi_s, upd_n _ _ (by decide), e13, wi_s, upd_s]; rfl
            · rw [o3, l18, FV.2.1 127 (by decide) (by decide)]; exact j8 k hk
          · refine FV.F.tr ⟨fun a ha => ?_, fun a _ => by rw [o3, l18]⟩
            rw [o2 a (by omega), k18 a (by omega), r2 a (by omega), g4.1 a (by omega) (by omega) (by omega) (by omega) (by omega) (by omega), k14 a (by omega)]
        · intro k hk ih z o1 o2 o3
          refine v_Mo_read_219 _ hS ?_
          rw [tn_n (by omega), nI_1 k]
          refine pk_le 3 k (fun w => absurd w (by omega)) (fun _ => ⟨vp_in_nI (by omega) (by omega), fun z' f => ih z' (fun i hi => ?_) (fun a ha => by rw [f, wi_n _ _ _ ha]; exact o2 a ha) (by rw [f, wi_2]; exact o3)⟩)
          rw [f, wi_s, upd_a]
          by_cases e : i = k
          · rw [if_pos e]; rfl
          · rw [if_neg e]; exact o1 i (by omega)
    · -- a fault of the grammar
      have zn : (gCheck (kK (pT π) (pL π) M')).2 ≠ 0 := by omega
      rw [v2'.2.2.1 zn] at e12
      obtain ⟨i1, i2⟩ := FRd.bad hO J0 FV w2 e12
      refine v_Mo_read_167 _ hS ?_
      have e13 : s12.1 120 13 = nI (gCheck (kK (pT π) (pL π) M')).2 := by rw [e12, wi_s, upd_n _ _ (by decide)]; exact v2'.1
      rw [e13]
      exact pk_le _ 0 (fun w => absurd w (by omega)) (fun _ => GI.r (h1 s12 zn i1 i2)) rfl rfl (by omega) (by omega)
  · intro k hk ih v b1 b2 b3
    refine v_Mo_read_10 _ hS ?_
    rw [b2 120 (by decide), s4, tn_n (by omega), nI_1 k]
    refine pk_le (pL π) k (fun z => absurd z (by omega)) (fun _ => ⟨vp_in_nI (by omega) (by omega), fun z e => ih z (fun i hi => ?_) (fun a ha => by rw [e, wi_n _ _ _ ha]; exact b2 a ha) (by rw [e, wi_2]; exact b3)⟩)
    rw [e, wi_s, upd_a]
    by_cases q : i = k
    · rw [if_pos q, b2 121 (by decide), c1 121 (by decide), j6' k hk, vp_nar_byte, q]
      simp
    · rw [if_neg q]; exact b1 i (by omega)
end RRead
