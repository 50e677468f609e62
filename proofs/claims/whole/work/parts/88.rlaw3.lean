/-! THE REFERENCE tells a law; the text with another law -/
def aLaw (d : TD) (k : Nat) (l : List Br) : TD := ((d.1.1, d.1.2.1, d.1.2.2.1, d.1.2.2.2.1, d.1.2.2.2.2.1, d.1.2.2.2.2.2.1, d.1.2.2.2.2.2.2.1, d.1.2.2.2.2.2.2.2.1, lawOf (fun j => if j = k then l else dL d j)), (fun j => if j = k then l else dL d j), d.2.2)
/-- what the reading of a text may change, laws and all -/
def FPb (lv : Nat) (s u : MS) : Prop := (∀ a, a ≠ 120 → ¬ (128 ≤ a ∧ a < 160) → u.1 a = s.1 a) ∧ (∀ a, a ≠ 128 → u.2 a = s.2 a) ∧ (∀ j, ¬ (11 ≤ j ∧ j < 17) → j ≠ 20 → j ≠ 45 → j ≠ 51 → j ≠ 55 → u.1 120 j = s.1 120 j) ∧ OS lv s u
theorem FPb.rf (lv : Nat) (s : MS) : FPb lv s s := ⟨fun _ _ _ => rfl, fun _ _ => rfl, fun _ _ _ _ _ _ => rfl, OS.rf lv s⟩
theorem FPb.tr {lv : Nat} {s u v : MS} (h : FPb lv s u) (k : FPb lv u v) : FPb lv s v := ⟨fun a h1 h2 => (k.1 a h1 h2).trans (h.1 a h1 h2), fun a ha => (k.2.1 a ha).trans (h.2.1 a ha), fun j h1 h2 h3 h4 h5 => (k.2.2.1 j h1 h2 h3 h4 h5).trans (h.2.2.1 j h1 h2 h3 h4 h5), h.2.2.2.tr k.2.2.2⟩
theorem FPa.b {lv : Nat} {s u : MS} (h : FPa lv s u) : FPb lv s u := ⟨fun a h1 h2 => h.1 a h1 (by omega), h.2.1, fun j h1 h2 _ _ _ => h.2.2.1 j (by omega) h2, h.2.2.2⟩
section RLaw3
variable {E : EN} {g : GS} {s : MS} {T : Nat → Nat} {L M sd lv k : Nat} {d : TD} {nl : NL}
theorem TkR.B {u : MS} (h : TkR T L M s) (q : FPb lv s u) : TkR T L M u := h.mv (q.1 123 (by decide) (by omega)) (q.1 124 (by decide) (by omega)) (q.1 125 (by decide) (by omega)) (q.2.1 126 (by decide))
theorem FLr.b {cB cC : Nat} {u v : MS} (hl : lv + sd = 1) (hk : k < 3) (hB : 130 * sd ≤ cB) (hC : 420 * sd ≤ cC) (h : FLr sd k cB cC u v) : FPb lv u v := by
  obtain ⟨h1, h2, h3, h4, h5, h6⟩ := h
  refine ⟨fun a a1 a2 => h1 a a1 (by omega), fun a _ => by rw [h6], fun j j1 j2 j3 j4 j5 => h2 j (by omega) j3 j4 j5, fun a ha => ?_, fun a ha j hj => ?_, fun a a1 a2 j hj => ?_, fun a ha j hj => ?_, fun a ha j hj => ?_, fun a ha j hj => ?_, fun a a1 a2 j hj => ?_, fun a ha j hj => ?_⟩
  · rw [h1 a (by omega) (by omega)]
  · rw [h1 a (by omega) (by omega)]
  · rw [h1 a (by omega) (by omega)]
  · rw [h1 a (by omega) (by omega)]
  · rw [h1 a (by omega) (by omega)]
  · rcases ha with rfl | rfl
    · exact (h3 _ (by omega)).1
    · exact (h3 _ (by omega)).2
  · exact h4 a a1 a2 _ (by omega)
  · rcases ha with rfl | rfl
    · exact (h5 _ (by omega)).1
    · exact (h5 _ (by omega)).2
/-- a told law lies below the counters -/
def RGx (s : MS) (sd k : Nat) (l : List Br) (cB cC : Nat) : Prop := l = [] ∨ ∃ f, s.1 150 (3 * sd + k) = nI f ∧ 130 * sd ≤ f ∧ f + l.length ≤ cB ∧ RRl s (420 * sd) cC f l.length
theorem RGx.mv {u : MS} {l : List Br} {cB cC : Nat} (h : RGx s sd k l cB cC) (e : ∀ a, 150 ≤ a → a < 159 → u.1 a = s.1 a) : RGx u sd k l cB cC := by
  rcases h with h | ⟨f, h1, h2, h3, h4⟩
  · exact Or.inl h
  · exact Or.inr ⟨f, by rw [e 150 (by omega) (by omega)]; exact h1, h2, h3, fun i hi => (h4 i hi).up (Nat.le_refl _) (Nat.le_refl _) (fun a a1 a2 => by rw [e a (by omega) (by omega)])⟩
theorem TR.law {v : MS} {cB cC : Nat} {l : List Br} (h : TR d sd s) (hsd : sd < 2) (hcB : cB ≤ 130 * sd + 130) (hcC : cC ≤ 420 * sd + 420) (hC0 : 420 * sd ≤ cC) (hB0 : 130 * sd ≤ cB) (f : FLr sd k cB cC s v) (hG : ∀ k, k < 3 → RGx s sd k (dL d k) cB cC) (hw : wfl l) (hl : RL v cB l) {cC' : Nat} (hc' : cC ≤ cC' ∧ cC' ≤ 420 * sd + 420) (hr : RRl v cC cC' cB l.length) (hb : cB + l.length ≤ 130 * sd + 130) (h1 : v.1 150 (3 * sd + k) = nI cB) (h2 : v.1 151 (3 * sd + k) = nI (cB + l.length)) : TR (aLaw d k l) sd v ∧ ∀ k', k' < 3 → RGx v sd k' (dL (aLaw d k l) k') (cB + l.length) cC' := by
  have gx : ∀ k', k' < 3 → RGx v sd k' (dL (aLaw d k l) k') (cB + l.length) cC' := fun k' hk' => by
    show RGx v sd k' (if k' = k then l else dL d k') (cB + l.length) cC'
    by_cases z : k' = k
    · rw [if_pos z, z]
      exact Or.inr ⟨cB, h1, hB0, Nat.le_refl _, fun i hi => (hr i hi).up hC0 (Nat.le_refl _) (fun _ _ _ => rfl)⟩
    · rw [if_neg z]
      rcases hG k' hk' with e | ⟨f0, g1, g2, g3, g4⟩
      · exact Or.inl e
      · exact Or.inr ⟨f0, by rw [(f.2.2.1 _ (by omega)).1]; exact g1, g2, by omega, fun i hi => (g4 i hi).up (Nat.le_refl _) hc'.1 (fun a a1 a2 => f.2.2.2.1 a a1 a2 _ (by omega))⟩
  refine ⟨?_, gx⟩
  have f' : ∀ x, 131 ≤ x → x < 150 → v.1 x = s.1 x := fun x a b => f.1 x (by omega) (by omega)
  obtain ⟨h1', h2', h3, h4, h5, h6, h7, h8, h9, h10, h11, h12, h13, h14⟩ := h
  refine ⟨?_, ?_, ?_, ?_, ?_, ?_, ?_, ?_, ?_, ?_, ?_, ?_, fun k' hk' => ?_, fun k' hk' => ?_⟩
  · rw [f' 131 (by omega) (by omega)]; exact h1'
  · rw [f' 134 (by omega) (by omega)]; exact h2'
  · rw [f' 137 (by omega) (by omega)]; exact h3
  · rw [f' 142 (by omega) (by omega)]; exact h4
  · rw [f' 147 (by omega) (by omega)]; exact h5
  · rw [f' 148 (by omega) (by omega)]; exact h6
  · rw [f' 149 (by omega) (by omega)]; exact h7
  · rw [f' 132 (by omega) (by omega), f' 133 (by omega) (by omega)]; exact h8
  · rw [f' 135 (by omega) (by omega)]; exact h9
  · rw [f' 136 (by omega) (by omega)]; exact h10
  · rw [f' 138 (by omega) (by omega), f' 139 (by omega) (by omega), f' 140 (by omega) (by omega), f' 141 (by omega) (by omega)]; exact h11
  · rw [f' 143 (by omega) (by omega), f' 144 (by omega) (by omega), f' 145 (by omega) (by omega), f' 146 (by omega) (by omega)]; exact h12
  · show RLaw v sd k' (if k' = k then l else dL d k')
    by_cases z : k' = k
    · rw [if_pos z, z]
      exact ⟨cB, h1, h2, by omega, hl, hw⟩
    · rw [if_neg z]
      obtain ⟨f1, r1, r2, r3, r4, r5⟩ := h13 k' hk'
      refine ⟨f1, by rw [(f.2.2.1 _ (by omega)).1]; exact r1, by rw [(f.2.2.1 _ (by omega)).2]; exact r2, r3, ?_, r5⟩
      rcases hG k' hk' with e | ⟨f0, g1, g2, g3, g4⟩
      · rw [e]; exact trivial
      · have ef : f1 = f0 := (nI_eq (by omega) (by omega)).mp (r1.symm.trans g1)
        subst ef
        exact RL.up (lo := 420 * sd) (hi := cC) (by omega) (fun j hj => f.2.2.2.2.1 j (Or.inl hj)) _ _ g4 (fun a a1 a2 j j1 j2 => f.2.2.2.1 a a1 a2 j (by omega)) r4
  · have := gx k' hk'
    rcases this with e | ⟨f0, g1, g2, g3, g4⟩
    · exact Or.inl e
    · exact Or.inr ⟨f0, g1, g2, by omega, fun i hi => by
        obtain ⟨i1, i3, i4, a1, a2, a3, a4, a5, a6⟩ := g4 i hi
        exact ⟨i1, i3, i4, a1, a2, by omega, a4, a5, a6⟩⟩
/-- all that stands while the reference reads -/
def RZ (T : Nat → Nat) (L M sd : Nat) (c : Nat → Nat) (cB cC p : Nat) (b : Option (Nat × Nat)) (d : TD) (nl : NL) (s : MS) : Prop := RX T L M sd (c 4) (c 5) (c 6) (c 10) b d nl s ∧ s.1 120 12 = 0 ∧ s.1 120 45 = nI cB ∧ 130 * sd ≤ cB ∧ 4 * cB ≤ 520 * sd + p ∧ s.1 120 51 = nI cC ∧ 420 * sd ≤ cC ∧ cC ≤ 420 * sd + p ∧ (b = none → ∀ k, k < 3 → RGx s sd k (dL d k) cB cC)
theorem wfl_lB {K V : Nat → Nat} (hV : ∀ j, K j = 3 → V j ≤ 9999) : ∀ (m : Nat) (q : Nat × Nat), q.1 ≤ 400 → (gSum K 24 (gL K (m + 1) q)).2 = 0 → wfl (lB K V (m + 1) q)
  | m, q, h4, h => by
    by_cases kif : q.2 = 0 ∧ K q.1 = 14
    · obtain ⟨m', a1, a2, a3, em, q4, e1, e2, e3, eg, el, hg'⟩ := gL_br (V := V) hV h4 kif h
      subst em
      rw [el]
      have a3' := e3.2.2.1
      have ih := wfl_lB hV m' (a3 + 1, 0) (by show a3 + 1 ≤ 400; omega) hg'
      intro y hy
      rcases List.mem_cons.mp hy with rfl | hy
      · exact ⟨fun _ => ⟨e1.2.2.2.2.2.1, e2.2.2.2.2.2.1⟩, e3.2.2.2.2.2.1⟩
      · exact ih y hy
    · rw [gL, if_neg kif] at h
      rw [lB, if_neg kif]
      obtain ⟨-, a', -, -, -, -, -, b6, -⟩ := gSum_ok (V := V) hV (Or.inr (Or.inr (Or.inr rfl))) h4 h
      intro y hy
      rw [List.mem_singleton] at hy
      rw [hy]
      exact ⟨fun z => absurd (show false = true from z) (by decide), b6⟩
theorem f_M_law {R : MS → Prop} {q : Nat × Nat} {c : Nat → Nat} {cB cC : Nat} {b : Option (Nat × Nat)} {x1 : Int32} (ex : x1 = nI k) (hk : k < 3) (hl : lv + sd = 1) (hS : SX g) (hT : TkR T L M s) (hq : RQ T L M q s) (hZ : q.2 = 0 → RZ T L M sd c cB cC (q.1 - 1) b d nl s ∧ 1 ≤ q.1) (h45 : s.1 120 45 = nI cB) (h51 : s.1 120 51 = nI cC) (hB : 130 * sd ≤ cB ∧ cB ≤ 130 * sd + 100) (hC : 420 * sd ≤ cC ∧ cC ≤ 420 * sd + 400) (h19 : s.1 120 19 = nI sd)
    (h : ∀ u, FPb lv s u → RQ T L M (gLaw (kK T L M) q) u → ((gLaw (kK T L M) q).2 = 0 → ∃ cB' cC', RZ T L M sd c cB' cC' (gLaw (kK T L M) q).1 b (aLaw d k (sLaw (kK T L M) (vV T L) q.1)) nl u) → R u) : GV E m_Mo_tellLaw [.ref 120, .int x1] g s R := by
  subst ex
  have q5 := hq.2.2.2.2.1
  have sd2 : sd < 2 := by omega
  refine v_Mo_tellLaw (Q := qV g R) _ hS ?_
  refine f_M_must (κ := 25) rfl (by omega) (by omega) hS hT hq (fun t1 r1 r2 => ?_)
  have F1 : FLr sd k cB cC s t1 := r2.r
  have t45 : t1.1 120 45 = nI cB := by rw [r2.2.1 45 (by decide) (by decide) (by decide)]; exact h45
  rw [t45]
  refine l_M_law (f0 := cB) sd2 hk hS 4 0 (gk (kK T L M) 25 q) cB cC t1 (by omega) (hT.r F1) (by rw [r2.2.1 19 (by decide) (by decide) (by decide)]; exact h19) r1 (fun z => ?_) t45 hB.1 (by omega) (by rw [r2.2.1 51 (by decide) (by decide) (by decide)]; exact h51) (by omega) (fun v lp => ?_)
  · obtain ⟨g1, -, -, g4⟩ := gk_ok z
    obtain ⟨⟨-, z2, -, -, z5, -, -, z8, -⟩, q1⟩ := hZ g1
    rw [g4]
    refine ⟨by rw [r2.2.1 12 (by decide) (by decide) (by decide)]; exact z2, ?_, ?_⟩
    · show 4 * cB + 2 ≤ 520 * sd + (q.1 + 1); omega
    · show cC ≤ 420 * sd + (q.1 + 1); omega
  · obtain ⟨w1, w2, w3⟩ := lp
    have FF := F1.tr w2
    have FB := FF.b hl hk hB.1 hC.1
    refine h v FB w1 (fun zf => ?_)
    have zf' : (gSum (kK T L M) 24 (gL (kK T L M) (4 + 1) (gk (kK T L M) 25 q))).2 = 0 := zf
    obtain ⟨k1, k2, cC', k3, k4, k5, k6, k7, k8, k9, k10⟩ := w3 zf
    obtain ⟨g1, -, g3, g4⟩ := gk_ok (gL_z (gSum_z zf'))
    rw [g4] at k2 k6 k7 k8 k10 zf'
    have wl := wfl_lB (V := vV T L) hVk 4 (q.1 + 1, 0) (by show q.1 + 1 ≤ 400; omega) zf'
    have qe4 := w1.2.2.2.2.1
    obtain ⟨⟨zx, z2, z3, z4, z5, z6, z7, z8, z9⟩, q1⟩ := hZ g1
    obtain ⟨x1, x2, x3, ⟨x4, x4'⟩, ⟨x5, x5'⟩, ⟨x6, x6'⟩, ⟨x7, x7'⟩, x8, x9⟩ := zx
    have ea : ∀ x, x ≠ 120 → ¬ (150 ≤ x ∧ x < 160) → v.1 x = s.1 x := FF.1
    have e120 : ∀ j, ¬ (11 ≤ j ∧ j < 15) → j ≠ 45 → j ≠ 51 → j ≠ 55 → v.1 120 j = s.1 120 j := FF.2.1
    have qe4' : (gLaw (kK T L M) q).1 ≤ 400 := qe4
    have egl : gLaw (kK T L M) q = gSum (kK T L M) 24 (gL (kK T L M) (4 + 1) (q.1 + 1, 0)) := by unfold gLaw; rw [g4]
    have k8' : 4 * (cB + (lB (kK T L M) (vV T L) (4 + 1) (q.1 + 1, 0)).length) ≤ 520 * sd + (gLaw (kK T L M) q).1 := by rw [egl]; exact k8
    have k5' : cC' ≤ 420 * sd + (gLaw (kK T L M) q).1 := k5
    have tl : b = none → TR (aLaw d k (sLaw (kK T L M) (vV T L) q.1)) sd v ∧ ∀ k', k' < 3 → RGx v sd k' (dL (aLaw d k (sLaw (kK T L M) (vV T L) q.1)) k') (cB + (lB (kK T L M) (vV T L) (4 + 1) (q.1 + 1, 0)).length) cC' := fun bn =>
      (x9 bn).1.law x3 (by omega) (by omega) hC.1 hB.1 FF (z9 bn) wl k2 ⟨k4, by omega⟩ k6 (by omega) k9 k10
    refine ⟨cB + (lB (kK T L M) (vV T L) (4 + 1) (q.1 + 1, 0)).length, cC', ⟨?_, ?_, x3, ⟨?_, x4'⟩, ⟨?_, x5'⟩, ⟨?_, x6'⟩, ⟨?_, x7'⟩, ?_, fun bn => ?_⟩, k1, k7, by omega, k8', k3, by omega, k5', fun bn => (tl bn).2⟩
    · unfold WQ at *; rw [e120 15 (by omega) (by decide) (by decide) (by decide), e120 16 (by omega) (by decide) (by decide) (by decide)]; exact x1
    · rw [e120 19 (by omega) (by decide) (by decide) (by decide)]; exact x2
    · rw [ea 131 (by decide) (by omega)]; exact x4
    · rw [ea 134 (by decide) (by omega)]; exact x5
    · rw [ea 137 (by decide) (by omega)]; exact x6
    · rw [ea 142 (by decide) (by omega)]; exact x7
    · rw [e120 20 (by omega) (by decide) (by decide) (by decide)]; exact x8
    · obtain ⟨tr, N, l, v1, v2, v3, v4⟩ := x9 bn
      refine ⟨(tl bn).1, fun i hi => ?_, l, v1, v2, v3, v4⟩
      rw [FF.2.2.2.2.2, ea 129 (by decide) (by omega), ea 130 (by decide) (by omega)]; exact N i hi
end RLaw3
