/-! the tape; what is told; counts -/
def Bt (x : Int32) (sh : Nat) : Nat := x.toBitVec.toNat / 2 ^ sh % 256
theorem Bt_lt (x : Int32) (sh : Nat) : Bt x sh < 256 := Nat.mod_lt _ (by decide)
theorem Bt_c (x y : Int32) (sh : Nat) (hy : (((y.toUInt32 &&& Int32.toUInt32 31).toBitVec % 32).toNat = sh)) : vp_nar .char (((Int32.toUInt32 (((x.toUInt32 >>> (y.toUInt32 &&& Int32.toUInt32 31)).toInt32) &&& 255)) % 65536).toInt32) = nI (Bt x sh) := by
  have e : ((x.toUInt32 >>> (y.toUInt32 &&& Int32.toUInt32 31)).toInt32) &&& 255 = nI (Bt x sh) := by
    rw [pk_and _ 8 rfl, pk_ushr x y sh hy]; rfl
  rw [pk_vc, sc_c2, e]
theorem Bt_b (x y : Int32) (sh : Nat) (hs : sh ≤ 24) (hy : ((y &&& 31).toBitVec.smod 32).toNat = sh) : vp_nar .byte ((Int32.toInt8 (x >>> (y &&& 31))).toInt32) = (nI (Bt x sh)).toInt8.toInt32 := by
  rw [pk_vb]
  congr 1
  apply Int8.toBitVec_inj.mp
  rw [Int32.toBitVec_toInt8, Int32.toBitVec_toInt8]
  apply BitVec.eq_of_getLsbD_eq
  intro i hi
  have e1 : (x >>> (y &&& 31)).toBitVec = x.toBitVec.sshiftRight sh := by
    apply BitVec.eq_of_toInt_eq
    rw [BitVec.toInt_sshiftRight]
    have := pk_shr x (y &&& 31) sh hy
    exact this
  have e2 : (nI (Bt x sh)).toBitVec.toNat = Bt x sh := pk_tn (Nat.lt_trans (Bt_lt x sh) (by decide))
  rw [e1]
  have hx : ∀ z : BitVec 32, (z.signExtend 8).getLsbD i = z.getLsbD i := by
    intro z
    rw [BitVec.getLsbD_signExtend]
    simp [hi]
    omega
  rw [hx, hx, BitVec.getLsbD_sshiftRight]
  have h1 : sh + i < 32 := by omega
  have hd : decide (32 ≤ i) = false := by simp; omega
  rw [if_pos h1, hd, Bool.not_false, Bool.true_and, ← BitVec.testBit_toNat, ← BitVec.testBit_toNat, e2, Bt, show (256 : Nat) = 2 ^ 8 from rfl, Nat.testBit_mod_two_pow, Nat.testBit_div_two_pow]
  simp [hi, Nat.add_comm]
def putT (L : Nat) (T : Nat → Nat) (x : Int32) : Nat → Nat := fun i => if i < L then T i else Bt x (24 - 8 * (i - L))
def TpC (L : Nat) (T : Nat → Nat) (s : MS) : Prop := s.1 16 12 = nI L ∧ ∀ i, i < L → s.1 17 i = nI (T i)
def TpR (L : Nat) (T : Nat → Nat) (s : MS) : Prop := s.1 120 2 = nI L ∧ ∀ i, i < L → s.1 121 i = (nI (T i)).toInt8.toInt32
def F16 (s u : MS) : Prop := (∀ a, a ≠ 16 → a ≠ 17 → u.1 a = s.1 a) ∧ (∀ j, j ≠ 12 → u.1 16 j = s.1 16 j) ∧ u.2 = s.2
def F120 (s u : MS) : Prop := (∀ a, a ≠ 120 → a ≠ 121 → u.1 a = s.1 a) ∧ (∀ j, j ≠ 2 → u.1 120 j = s.1 120 j) ∧ u.2 = s.2
theorem F16.rf (s : MS) : F16 s s := ⟨fun _ _ _ => rfl, fun _ _ => rfl, rfl⟩
theorem F16.tr {s u v : MS} (h : F16 s u) (k : F16 u v) : F16 s v := ⟨fun a h1 h2 => (k.1 a h1 h2).trans (h.1 a h1 h2), fun j hj => (k.2.1 j hj).trans (h.2.1 j hj), k.2.2.trans h.2.2⟩
theorem F120.rf (s : MS) : F120 s s := ⟨fun _ _ _ => rfl, fun _ _ => rfl, rfl⟩
theorem F120.tr {s u v : MS} (h : F120 s u) (k : F120 u v) : F120 s v := ⟨fun a h1 h2 => (k.1 a h1 h2).trans (h.1 a h1 h2), fun j hj => (k.2.1 j hj).trans (h.2.1 j hj), k.2.2.trans h.2.2⟩
section Tp
variable {E : EN} {g : GS} {s : MS} {L : Nat} {T : Nat → Nat} {x : Int32}
theorem k_putFour {R : MS → Prop} (hS : SX g) (hL : L + 4 ≤ 2000) (hT : TpC L T s) (h : ∀ u, TpC (L + 4) (putT L T x) u → F16 s u → R u) : GV E m_Rs_putFour [.ref 16, .int x] g s R := by
  refine v_Rs_putFour (Q := qV g R) _ ?_
  have st : ∀ k, k < 4 → (∀ u, TpC (L + (k + 1)) (putT L T x) u → F16 s u → AWP E m_Rs_putFour 3 0 0 [(0, .ref 16), (1, .int x), (2, .int (24 - 8 * nI (k + 1)))] [] (mk g u) (qV g R)) → ∀ u, TpC (L + k) (putT L T x) u → F16 s u → AWP E m_Rs_putFour 3 0 0 [(0, .ref 16), (1, .int x), (2, .int (24 - 8 * nI k))] [] (mk g u) (qV g R) := by
    intro k hk ih u a1 a2
    have pos : ¬ (24 - 8 * nI k : Int32) < 0 := by
      rcases (by omega : k = 0 ∨ k = 1 ∨ k = 2 ∨ k = 3) with rfl | rfl | rfl | rfl <;> decide
    have nx : (24 - 8 * nI k : Int32) + (-8) = 24 - 8 * nI (k + 1) := by
      rcases (by omega : k = 0 ∨ k = 1 ∨ k = 2 ∨ k = 3) with rfl | rfl | rfl | rfl <;> decide
    have sh : ((((24 - 8 * nI k : Int32).toUInt32 &&& Int32.toUInt32 31).toBitVec % 32).toNat = 24 - 8 * k) := by
      rcases (by omega : k = 0 ∨ k = 1 ∨ k = 2 ∨ k = 3) with rfl | rfl | rfl | rfl <;> decide
    refine v_Rs_putFour_3 _ _ hS ⟨fun c => absurd c pos, fun _ => ?_⟩
    rw [a1.1, Bt_c x _ _ sh, tn_n (by omega), nx]
    refine pk_le 2000 (L + k) (fun q => absurd q (by omega)) (fun _ => ⟨vp_in_nI (by omega) (by omega), fun s1 e1 s2 e2 => ih s2 ⟨?_, fun i hi => ?_⟩ (a2.tr ⟨fun a h1 h2 => ?_, fun j hj => ?_, ?_⟩)⟩)
    · rw [e2, wi_s, upd_s, nI_1]; rfl
    · rw [e2, wi_n _ _ _ (by decide), e1, wi_s, upd_a]
      by_cases e : i = L + k
      · rw [if_pos e, e, putT, if_neg (by omega), show L + k - L = k by omega]
      · rw [if_neg e]; exact a1.2 i (by omega)
    · rw [e2, wi_n _ _ _ h1, e1, wi_n _ _ _ h2]
    · rw [e2, wi_s, upd_n _ _ hj, e1, wi_n _ _ _ (by decide)]
    · rw [e2, wi_2, e1, wi_2]
  have s0 : TpC (L + 0) (putT L T x) s := ⟨hT.1, fun i hi => by rw [putT, if_pos (by omega)]; exact hT.2 i (by omega)⟩
  refine st 0 (by omega) (st 1 (by omega) (st 2 (by omega) (st 3 (by omega) (fun u a1 a2 => ?_)))) s s0 (F16.rf s)
  exact v_Rs_putFour_3 _ _ hS ⟨fun _ => GV.r (h u a1 a2), fun c => absurd (by decide) c⟩
theorem k_put {R : MS → Prop} (hS : SX g) (hL : L + 4 ≤ 2000) (hT : TpR L T s) (h : ∀ u, TpR (L + 4) (putT L T x) u → F120 s u → R u) : GV E m_Mo_put [.ref 120, .int x] g s R := by
  refine v_Mo_put (Q := qV g R) _ ?_
  have st : ∀ k, k < 4 → (∀ u, TpR (L + (k + 1)) (putT L T x) u → F120 s u → AWP E m_Mo_put 3 0 0 [(0, .ref 120), (1, .int x), (2, .int (24 - 8 * nI (k + 1)))] [] (mk g u) (qV g R)) → ∀ u, TpR (L + k) (putT L T x) u → F120 s u → AWP E m_Mo_put 3 0 0 [(0, .ref 120), (1, .int x), (2, .int (24 - 8 * nI k))] [] (mk g u) (qV g R) := by
    intro k hk ih u a1 a2
    have pos : ¬ (24 - 8 * nI k : Int32) < 0 := by
      rcases (by omega : k = 0 ∨ k = 1 ∨ k = 2 ∨ k = 3) with rfl | rfl | rfl | rfl <;> decide
    have nx : (24 - 8 * nI k : Int32) + (-8) = 24 - 8 * nI (k + 1) := by
      rcases (by omega : k = 0 ∨ k = 1 ∨ k = 2 ∨ k = 3) with rfl | rfl | rfl | rfl <;> decide
    have sh : ((((24 - 8 * nI k : Int32) &&& 31).toBitVec.smod 32).toNat = 24 - 8 * k) := by
      rcases (by omega : k = 0 ∨ k = 1 ∨ k = 2 ∨ k = 3) with rfl | rfl | rfl | rfl <;> decide
    refine v_Mo_put_3 _ _ hS ⟨fun c => absurd c pos, fun _ => ?_⟩
    rw [a1.1, Bt_b x _ _ (by omega) sh, tn_n (by omega), nx]
    refine ⟨vp_in_nI (by omega) (by omega), fun s1 e1 s2 e2 => ih s2 ⟨?_, fun i hi => ?_⟩ (a2.tr ⟨fun a h1 h2 => ?_, fun j hj => ?_, ?_⟩)⟩
    · rw [e2, wi_s, upd_s, nI_1]; rfl
    · rw [e2, wi_n _ _ _ (by decide), e1, wi_s, upd_a]
      by_cases e : i = L + k
      · rw [if_pos e, e, putT, if_neg (by omega), show L + k - L = k by omega]
      · rw [if_neg e]; exact a1.2 i (by omega)
    · rw [e2, wi_n _ _ _ h1, e1, wi_n _ _ _ h2]
    · rw [e2, wi_s, upd_n _ _ hj, e1, wi_n _ _ _ (by decide)]
    · rw [e2, wi_2, e1, wi_2]
  have s0 : TpR (L + 0) (putT L T x) s := ⟨hT.1, fun i hi => by rw [putT, if_pos (by omega)]; exact hT.2 i (by omega)⟩
  refine st 0 (by omega) (st 1 (by omega) (st 2 (by omega) (st 3 (by omega) (fun u a1 a2 => ?_)))) s s0 (F120.rf s)
  exact v_Mo_put_3 _ _ hS ⟨fun _ => GV.r (h u a1 a2), fun c => absurd (by decide) c⟩
theorem putT_lt (h : ∀ i, i < L → T i < 256) : ∀ i, i < L + 4 → putT L T x i < 256 := by
  intro i hi
  rw [putT]
  split
  · rename_i q; exact h i q
  · exact Bt_lt _ _
end Tp
/-- the pure state with another tape -/
def sTp (π : PS) (L : Nat) (T : Nat → Nat) : PS := (π.1, π.2.1, π.2.2.1, π.2.2.2.1, π.2.2.2.2.1, (L, T), π.2.2.2.2.2.2)
def sFa (π : PS) (k : Nat) (F : Nat → Nat × Nat × Nat × Int32) : PS := (π.1, π.2.1, π.2.2.1, π.2.2.2.1, (k, F), π.2.2.2.2.2.1, π.2.2.2.2.2.2)
theorem ICl.tp {d : TD} {t : Nat} {π : PS} {g : GS} {s u : MS} {L : Nat} {T : Nat → Nat} (h : ICl d t π g s) (k : F16 s u) (hT : TpC L T u) : ICl d t (sTp π L T) g u := by
  have et := h.1.et
  obtain ⟨⟨k1, k2, k3, k4, k5, k6, k7, k8, k9, k10⟩, h2, h3, h4, h5, h6, h7, h8, h9, h10, h11⟩ := h
  refine ⟨⟨k1, k2, k3, k4, k5, k6.mv (fun a a1 a2 => k.1 a (by omega) (by omega)), fun j hj => by rw [k.1 29 (by omega) (by omega)]; exact k7 j hj, by rw [k.1 28 (by omega) (by omega)]; exact k8, fun j hj => by rw [k.1 1 (by omega) (by omega)]; exact k9 j hj, k10⟩, h2, ⟨by rw [hr_c2 (fun a a1 a2 => k.1 a (by omega) (by omega))]; exact h3.1, h3.2.cg (fun a a1 a2 => k.1 a (by omega) (by omega))⟩, ?_, h5, ?_, ?_, ?_, ?_, hT, by rw [k.2.1 13 (by decide)]; exact h11⟩
  · unfold CW; rw [k.1 31 (by omega) (by omega)]; exact h4
  · obtain ⟨e, e1, e2, e3, e4⟩ := h6
    refine ⟨e, e1, by rw [k.2.1 14 (by decide)]; exact e2, by rw [k.2.1 15 (by decide)]; exact e3, fun i hi => ?_⟩
    obtain ⟨b, b1, b2, b3⟩ := e4 i hi
    have := (pool_at h5 (by omega) b1).1
    exact ⟨b, b1, b2.cg (fun a a1 _ => k.1 a (by omega) (by omega)), by rw [hr_c2 (fun a a1 _ => k.1 a (by omega) (by omega))]; exact b3⟩
  · obtain ⟨e, e1, e2, e3⟩ := h7
    refine ⟨e, e1, by rw [k.2.1 16 (by decide)]; exact e2, fun i hi => ?_⟩
    rcases e3 i hi with q | ⟨q1, b, R, q2, q3, q4, q5⟩
    · exact Or.inl q
    · have := (pool_at h5 (by omega) q3).1
      exact Or.inr ⟨q1, b, R, q2, q3, q4.cg (fun a a1 _ => k.1 a (by omega) (by omega)), by rw [hr_c2 (fun a a1 _ => k.1 a (by omega) (by omega))]; exact q5⟩
  · unfold Fact
    rw [k.1 56 (by omega) (by omega), k.1 57 (by omega) (by omega), k.1 58 (by omega) (by omega), k.1 59 (by omega) (by omega), k.1 60 (by omega) (by omega)]; exact h8
  · exact h9.mv (by rw [k.1 56 (by omega) (by omega)]) (k.1 61 (by omega) (by omega)) (fun a _ _ => k.1 a (by omega) (by omega))
theorem IRf.tp {d : TD} {lv : Nat} {π : PS} {s u : MS} {L : Nat} {T : Nat → Nat} (h : IRf d lv π s) (k : F120 s u) (hT : TpR L T u) : IRf d lv (sTp π L T) u := by
  obtain ⟨⟨a1, a2, a3, a4⟩, h2, h3, h4, h5, h6, h7, h8⟩ := h
  refine ⟨⟨a1.mv (fun a h1 h2 => k.1 a (by omega) (by omega)), by rw [k.2.1 18 (by decide)]; exact a2, a3, fun j hj => by rw [k.1 164 (by omega) (by omega)]; exact a4 j hj⟩, by rw [k.1 162 (by omega) (by omega)]; exact h2, ?_, ?_, ?_, hT, by rw [k.2.1 17 (by decide)]; exact h7, by rw [k.2.2]; exact h8⟩
  · unfold hrow; rw [k.2.1 64 (by decide), k.1 166 (by omega) (by omega)]; exact h3
  · unfold srow; rw [k.1 171 (by omega) (by omega), k.1 172 (by omega) (by omega)]; exact h4
  · rw [k.2.1 68 (by decide), k.1 167 (by omega) (by omega), k.1 168 (by omega) (by omega), k.1 169 (by omega) (by omega), k.1 170 (by omega) (by omega)]; exact h5
theorem F16.C {s u : MS} (h : F16 s u) : FC s u := ⟨fun a _ _ => h.1 a (by omega) (by omega), fun a _ _ => by rw [h.2.2]⟩
theorem F120.F {s u : MS} (h : F120 s u) : FF s u := ⟨fun a _ => h.1 a (by omega) (by omega), fun a _ => by rw [h.2.2]⟩
section Feed
variable {E : EN} {d : TD} {t lv c : Nat} {π : PS} {g : GS} {s : MS} {x1 x2 x3 x4 x5 : Int32} {Q : Int32 → Int32 → MS → Prop}
theorem o_feed (I : INV d t lv c π g s) (hq : ∀ A π' v, INV d t lv c π' g v → Q A A v) : GI E m_Rs_feed [.ref 16, .int x1, .int x2, .int x3, .int x4, .int x5] g s (fun y u => GI E m_Mo_feed [.ref 120, .int x1, .int x2, .int x3, .int x4, .int x5] g u (fun y' v => Q y y' v)) := by
  have hS := I.1.1.sx
  obtain ⟨i1, i2, i3⟩ := I
  have tc := i1.2.2.2.2.2.2.2.2.2.1
  have tr := i2.2.2.2.2.2.1
  have hL := i3.2.2.2.2.2.1
  have e20 : ∀ L : Nat, nI L + 20 = nI (L + 20) := fun L => by rw [show (20 : Int32) = nI 20 from rfl, nI_add]
  refine v_Rs_feed (Q := qI g _) _ _ _ _ _ hS ?_
  rw [tc.1, e20]
  refine pk_le (pL π + 20) 2000 (fun q => ?_) (fun q => GI.r ?_)
  · refine k_putFour hS (by omega) tc (fun u1 a1 b1 => k_putFour hS (by omega) a1 (fun u2 a2 b2 => k_putFour hS (by omega) a2 (fun u3 a3 b3 => k_putFour hS (by omega) a3 (fun u4 a4 b4 => k_putFour hS (by omega) a4 (fun u5 a5 b5 => GI.r ?_)))))
    have F := b1.tr (b2.tr (b3.tr (b4.tr b5)))
    have J2 := i2.mv F.C
    have tr' := J2.2.2.2.2.2.1
    refine v_Mo_feed (Q := qI g _) _ _ _ _ _ hS ?_
    rw [tr'.1, e20, a5.1]
    refine pk_le (pL π + 20) 2000 (fun q => ?_) (fun q' => absurd q' (by omega))
    refine k_put hS (by omega) tr' (fun v1 c1 d1 => k_put hS (by omega) c1 (fun v2 c2 d2 => k_put hS (by omega) c2 (fun v3 c3 d3 => k_put hS (by omega) c3 (fun v4 c4 d4 => k_put hS (by omega) c4 (fun v5 c5 d5 => GI.r ?_)))))
    have G := d1.tr (d2.tr (d3.tr (d4.tr d5)))
    rw [c5.1]
    refine hq _ _ v5 ⟨(i1.tp F a5).mv G.F, J2.tp G c5, i3.1, i3.2.1, i3.2.2.1, i3.2.2.2.1, i3.2.2.2.2.1, ⟨by show pL π + 4 + 4 + 4 + 4 + 4 ≤ 2000; omega, putT_lt (putT_lt (putT_lt (putT_lt (putT_lt hL.2))))⟩, i3.2.2.2.2.2.2⟩
  · refine v_Mo_feed (Q := qI g _) _ _ _ _ _ hS ?_
    rw [tr.1, e20]
    exact pk_le (pL π + 20) 2000 (fun q' => absurd q' (by omega)) (fun q => GI.r (hq _ π s ⟨i1, i2, i3⟩))
theorem o_back (I : INV d t lv c π g s) (hq : ∀ A π' v, INV d t lv c π' g v → Q A A v) : GI E m_Rs_back [.ref 16, .int x1] g s (fun y u => GI E m_Mo_back [.ref 120, .int x1] g u (fun y' v => Q y y' v)) := by
  have hS := I.1.1.sx
  have I' := I
  obtain ⟨i1, i2, i3⟩ := I
  have tc := i1.2.2.2.2.2.2.2.2.2.1
  have tr := i2.2.2.2.2.2.1
  have hL := i3.2.2.2.2.2.1
  refine v_Rs_back (Q := qI g _) _ hS ?_
  rw [tc.1]
  refine ⟨fun c1 => GI.r (v_Mo_back (Q := qI g _) _ hS ⟨fun _ => GI.r (hq _ π s I'), fun c => absurd c1 c⟩), fun c1 => ⟨fun c2 s1 e1 => ?_, fun c2 => GI.r (v_Mo_back (Q := qI g _) _ hS ⟨fun c => absurd c c1, fun _ => ?_⟩)⟩⟩
  · obtain ⟨n, hn, rfl⟩ := le_ex (by omega) rfl ⟨Int32.not_lt.mp c1, c2⟩
    rw [pk_sub hn] at e1 ⊢
    have F : F16 s s1 := by rw [e1]; exact ⟨fun a h1 _ => wi_n _ _ _ h1, fun j hj => by rw [wi_s, upd_n _ _ hj], rfl⟩
    have a5 : TpC (pL π - n) (pT π) s1 := ⟨by rw [e1, wi_s, upd_s], fun i hi => by rw [e1, wi_n _ _ _ (by decide)]; exact tc.2 i (by omega)⟩
    have J2 := i2.mv F.C
    have tr' := J2.2.2.2.2.2.1
    refine GI.r (v_Mo_back (Q := qI g _) _ hS ⟨fun c => absurd c c1, fun _ => ?_⟩)
    rw [tr'.1, pk_sub hn]
    refine ⟨fun _ s2 e2 => GI.r ?_, fun c => absurd c2 c⟩
    have G : F120 s1 s2 := by rw [e2]; exact ⟨fun a h1 _ => wi_n _ _ _ h1, fun j hj => by rw [wi_s, upd_n _ _ hj], rfl⟩
    have c5 : TpR (pL π - n) (pT π) s2 := ⟨by rw [e2, wi_s, upd_s], fun i hi => by rw [e2, wi_n _ _ _ (by decide)]; exact tr'.2 i (by omega)⟩
    exact hq _ _ s2 ⟨(i1.tp F a5).mv G.F, J2.tp G c5, i3.1, i3.2.1, i3.2.2.1, i3.2.2.2.1, i3.2.2.2.2.1, ⟨by show pL π - n ≤ 2000; omega, fun i hi => hL.2 i (by have : i < pL π - n := hi; omega)⟩, i3.2.2.2.2.2.2⟩
  · rw [tr.1]
    exact ⟨fun c => absurd c c2, fun _ => GI.r (hq _ π s I')⟩
end Feed
