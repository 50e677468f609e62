/-! THE CLASS'S MINUTE -/
def HB (b : Nat) : Prop := b = 32 ∨ b = 44 ∨ b = 62 ∨ b = 74 ∨ 173 ≤ b
def FrC (b t : Nat) (s u : MS) : Prop := (∀ a, (a < b ∨ b + 12 ≤ a) → a ≠ 28 → a ≠ 30 → a ≠ t + 15 → u.1 a = s.1 a) ∧ (∀ j, j ≠ 4 → u.1 28 j = s.1 28 j) ∧ u.2 = s.2
theorem FrC.rf (b t : Nat) (s : MS) : FrC b t s s := ⟨fun _ _ _ _ _ => rfl, fun _ _ => rfl, rfl⟩
theorem FrC.tr {b t : Nat} {s u v : MS} (h : FrC b t s u) (k : FrC b t u v) : FrC b t s v := ⟨fun a h1 h2 h3 h4 => (k.1 a h1 h2 h3 h4).trans (h.1 a h1 h2 h3 h4), fun j hj => (k.2.1 j hj).trans (h.2.1 j hj), k.2.2.trans h.2.2⟩
theorem HB.le {b : Nat} (h : HB b) : 32 ≤ b := by unfold HB at h; omega
theorem FrC.in {b t a k : Nat} {s : MS} {v : Int32} (hb : HB b) (h1 : b ≤ a) (h2 : a < b + 12) : FrC b t s (wi s a k v) := by
  have := hb.le
  exact ⟨fun x h3 _ _ _ => wi_n s k v (by omega), fun j _ => by rw [wi_n s k v (by omega)], rfl⟩
theorem FrC.w30 {b t k : Nat} {s : MS} {v : Int32} : FrC b t s (wi s 30 k v) := ⟨fun x _ _ h _ => wi_n s k v h, fun j _ => by rw [wi_n s k v (by decide)], rfl⟩
theorem FrC.w284 {b t : Nat} {s : MS} {v : Int32} : FrC b t s (wi s 28 4 v) := ⟨fun x _ h _ _ => wi_n s 4 v h, fun j hj => by rw [wi_s, upd_n _ _ hj], rfl⟩
/-- the text of the class, as a minute sees it -/
def EC (e : PE) (t : Nat) (s : MS) : Prop := s.1 t 13 = nI (eR e) ∧ s.1 t 11 = nI (eG e) ∧ s.1 t 12 = nI (eHo e) ∧ s.1 t 15 = eLa e ∧ s.1 t 16 = eOd e ∧ (∀ r, r < eR e → s.1 (t + 6) r = nI (eWh e r)) ∧ (∀ j, j < eHo e → s.1 29 j = eFa e j) ∧ s.1 28 2 = eSd e ∧ EOk e
theorem EC.mv {e : PE} {b t : Nat} {s u : MS} (et : t = 88 ∨ t = 104) (hb : HB b) (h : EC e t s) (k : FrC b t s u) : EC e t u := by
  unfold HB at hb
  obtain ⟨h1, h2, h3, h4, h5, h6, h7, h8, h9⟩ := h
  have q1 : u.1 t = s.1 t := k.1 t (by omega) (by omega) (by omega) (by omega)
  have q2 : u.1 (t + 6) = s.1 (t + 6) := k.1 _ (by omega) (by omega) (by omega) (by omega)
  have q3 : u.1 29 = s.1 29 := k.1 _ (by omega) (by omega) (by omega) (by omega)
  exact ⟨by rw [q1]; exact h1, by rw [q1]; exact h2, by rw [q1]; exact h3, by rw [q1]; exact h4, by rw [q1]; exact h5, fun r hr => by rw [q2]; exact h6 r hr, fun j hj => by rw [q3]; exact h7 j hj, by rw [k.2.1 2 (by decide)]; exact h8, h9⟩
/-- what it carries is of a GRAIN, told or not -/
def CH (b : Nat) (s : MS) : Prop := ∀ r, r < 8 → ∃ q, q < 6 ∧ s.1 (b + 4 + r) 3 = nI q
/-- LAWS of the class -/
def ValOK (E : EN) (g : GS) (e : PE) (b t : Nat) (s0 : MS) : Prop := ∀ (u : MS), FrC b t s0 u → ∀ (k : Nat) (R : Int32 → MS → Prop), k < 3 → (∀ v, v.1 30 = u.1 30 → v.1 28 = u.1 28 → (∀ a, b ≤ a → a < b + 12 → v.1 a = u.1 a) → FrC b t u v → R (eLv e k (u.1 30)) v) → GI E m_Laws_valueOf [.ref (t + 11), .int (nI k), .ref 30] g u R
theorem ValOK.mv {E : EN} {g : GS} {e : PE} {b t : Nat} {s u : MS} (h : ValOK E g e b t s) (k : FrC b t s u) : ValOK E g e b t u := fun v hv => h v (k.tr hv)
def LvC (e : PE) : Prop := ∀ (k : Nat) (V V' : Row), (∀ i, i < 7 → V i = V' i) → eLv e k V = eLv e k V'
theorem pBest_cg {R R' : Row} : ∀ n, (∀ k, k < n → R k = R' k) → R 0 = R' 0 → pBest R n = pBest R' n
  | 0, _, _ => rfl
  | n + 1, h, h0 => by
    have ih := pBest_cg n (fun k hk => h k (by omega)) h0
    have hb : R (pBest R n) = R' (pBest R n) := by
      rcases pBest_lt R n with q | q
      · exact h _ (by omega)
      · rw [q]; exact h0
    rw [pBest, pBest, ← ih, hb, h n (by omega)]
section ClsMin
variable {E : EN} {g : GS} {b t r : Nat} {e : PE}
theorem l_Mill_nibble {s : MS} {R : MS → Prop} (hS : SX g) (hH : HS g b) (et : t = 88 ∨ t = 104) (hm : g.2.2 28 0 = some t) (hb : HB b) (hE : EC e t s) (hr8 : r < 8) (hW : WF2 e (hr s b)) (hC : CH b s) (h : ∀ u, hr u b = pNib e r (hr s b) → u.1 28 = s.1 28 → CH b u → FrC b t s u → R u) :
    ∀ (m k : Nat), eG e - k = m → 1 ≤ k → (k ≤ eG e ∨ k = 1) → AWP E m_Mill_nibble 5 0 0 [(0, .ref 28), (1, .ref b), (2, .ref (b + 4 + r)), (3, .int (nI (pBest (hr s b) k))), (4, .int (nI k))] [] (mk g s) (qV g R) := by
  obtain ⟨h1, h2, h3, h4, h5, h6, h7, h8, h9⟩ := hE
  have hG := h9.2.1
  have hOG : OG g (b + 4 + r) 6 := (hH.2.2.2.2.2.2.2 r hr8).2
  have b32 := hb.le
  intro m
  induction m with
  | zero =>
    intro k hk hk1 hk2
    have hp : pBest (hr s b) k < 6 := by rcases pBest_lt (hr s b) k with q | q <;> omega
    have hbe : pBest (hr s b) k = pBest (hr s b) (eG e) := by
      rcases hk2 with q | q
      · rw [show k = eG e by omega]
      · by_cases q2 : eG e = 0
        · rw [q, q2]; simp [pBest]
        · rw [show k = eG e by omega]
    refine v_Mill_nibble_5 b (b + 4 + r) (nI (pBest (hr s b) k)) (nI k) t hS hH hOG et hm ?_
    simp only [h2, tn_lt6 hp, ← hr_hp s b hp]
    refine ⟨fun _ => ⟨vp_in_nI hp (by omega), fun c => GV.r (h s ?_ rfl hC (FrC.rf b t s)), fun c s1 e1 s2 e2 s3 e3 => GV.r (h s3 ?_ ?_ ?_ ?_)⟩, fun c => absurd ((nI_leI (by omega) (by omega)).mpr (by omega)) c⟩
    · have : hr s b (pBest (hr s b) (eG e)) = 0 := by rw [← hbe]; exact Int32.le_antisymm c (hW.1 _ hp)
      rw [pNib, if_pos this]
    · have hne : ¬ hr s b (pBest (hr s b) (eG e)) = 0 := fun z => c (by rw [hbe, z]; decide)
      rw [e3, hw_r4 _ _ hr8, e2, hw_115, e1, hw_hp _ _ hp, pNib, if_neg hne, ← hbe, ← hr115, hw_hp _ _ hp]
    · rw [e3, e2, e1, wi_n _ _ _ (by omega), wi_n _ _ _ (by omega), wi_n _ _ _ (by omega)]
    · intro x hx
      rw [e3]
      by_cases ex : x = r
      · subst ex; rw [wi_s, upd_n _ _ (by omega), e2, wi_n _ _ _ (by omega), e1, wi_n _ _ _ (by omega)]; exact hC x hx
      · rw [wi_n _ _ _ (by omega), e2, wi_n _ _ _ (by omega), e1, wi_n _ _ _ (by omega)]; exact hC x hx
    · rw [e3, e2, e1]
      exact ((FrC.in hb (by omega) (by omega)).tr (FrC.in hb (by omega) (by omega))).tr (FrC.in hb (by omega) (by omega))
  | succ m ih =>
    intro k hk hk1 hk2
    have hp : pBest (hr s b) k < 6 := by rcases pBest_lt (hr s b) k with q | q <;> omega
    have hk6 : k < 6 := by omega
    refine v_Mill_nibble_5 b (b + 4 + r) (nI (pBest (hr s b) k)) (nI k) t hS hH hOG et hm ?_
    simp only [h2, tn_lt6 hp, tn_lt6 hk6, ← hr_hp s b hp, ← hr_hp s b hk6]
    have ih' := ih (k + 1) (by omega) (by omega) (Or.inl (by omega))
    rw [pBest] at ih'
    refine ⟨fun c => absurd ((nI_leI (by omega) (by omega)).mp c) (by omega), fun _ => ⟨vp_in_nI hk6 (by omega), vp_in_nI hp (by omega), fun c => ?_, fun c => ?_⟩⟩
    · rw [if_pos c] at ih'; rw [nI_1]; exact ih'
    · rw [if_neg c] at ih'; rw [nI_1]; exact ih'
theorem f_Mill_nibble {s : MS} {R : MS → Prop} (hS : SX g) (hH : HS g b) (et : t = 88 ∨ t = 104) (hm : g.2.2 28 0 = some t) (hb : HB b) (hE : EC e t s) (hr8 : r < 8) (hW : WF2 e (hr s b)) (hC : CH b s) (h : ∀ u, hr u b = pNib e r (hr s b) → u.1 28 = s.1 28 → CH b u → FrC b t s u → R u) : GV E m_Mill_nibble [.ref 28, .ref b, .ref (b + 4 + r)] g s R := by
  refine v_Mill_nibble (Q := qV g R) b (b + 4 + r) ?_
  have := l_Mill_nibble (E := E) hS hH et hm hb hE hr8 hW hC h (eG e - 1) 1 rfl (Nat.le_refl 1) (Or.inr rfl)
  rw [show pBest (hr s b) 1 = 0 by simp [pBest]] at this
  exact this
theorem upd_self (f : Row) (k : Nat) : upd f k (f k) = f := by
  funext j
  rw [upd_a]
  split
  · rename_i e; rw [e]
  · rfl
theorem f_Mill_walk {s : MS} {R : MS → Prop} (hS : SX g) (hH : HS g b) (hb : HB b) (hE : EC e t s) (hr8 : r < 8) (hre : r < eR e) (hW : WF2 e (hr s b)) (hF : WFr e (hr s b)) (hC : CH b s) (h12 : hr s b (42 + r) = 1 ∨ hr s b (42 + r) = 2) (h : ∀ u, hr u b = pWalk e r (hr s b) (hr s b (42 + r)) → u.1 28 = s.1 28 → CH b u → FrC b t s u → R u) : GV E m_Mill_walk [.ref 28, .ref b, .ref (b + 4 + r)] g s R := by
  have hOG : OG g (b + 4 + r) 6 := (hH.2.2.2.2.2.2.2 r hr8).2
  have b32 := hb.le
  have h3 := hE.2.2.2.2.2.2.2.2.2.2.1
  obtain ⟨q0, q06, q0n⟩ := hC r hr8
  refine v_Mill_walk (Q := qV g R) b (b + 4 + r) hS hH hOG (fun s1 e1 => ?_)
  have h42 : s.1 (b + 4 + r) 0 = hr s b (42 + r) := (hr42 s b hr8).symm
  have hR1 : hr s1 b = upd (hr s b) (50 + r) (hr s b (50 + r) - 1) := by rw [e1, hw_r1 _ _ hr8, hr50 s b hr8]
  have c1 : s1.1 (b + 4 + r) = upd (s.1 (b + 4 + r)) 1 (s.1 (b + 4 + r) 1 - 1) := by rw [e1, wi_s]
  have f1 : FrC b t s s1 := by rw [e1]; exact FrC.in hb (by omega) (by omega)
  have m1 : s1.1 28 = s.1 28 := by rw [e1, wi_n _ _ _ (by omega)]
  have H1 : CH b s1 := by
    intro x hx
    by_cases ex : x = r
    · subst ex; rw [c1, upd_n _ _ (by omega)]; exact hC x hx
    · rw [e1, wi_n _ _ _ (by omega)]; exact hC x hx
  have l1 : s1.1 (b + 4 + r) 1 = upd (hr s b) (50 + r) (hr s b (50 + r) - 1) (50 + r) := by rw [← hR1, hr50 _ _ hr8]
  have w1 : s1.1 (b + 4 + r) 0 = hr s b (42 + r) := by rw [c1, upd_n _ _ (by omega), h42]
  refine ⟨fun cl => ⟨fun cw s2 e2 => GV.r (h s2 ?_ ?_ ?_ ?_), fun cw => ?_⟩, fun cl => GV.r (h s1 ?_ m1 H1 f1)⟩
  · rw [w1] at cw
    rw [l1] at cl
    rw [e2, hw_r0 _ _ hr8, hR1, pWalk, if_pos cl, if_neg (show ¬ (0 : Int32) = 1 by decide), if_neg (show ¬ hr s b (42 + r) = 1 by rw [cw]; decide)]
    have h106 : upd (hr s b) (50 + r) (hr s b (50 + r) - 1) (106 + r) = -2 := by rw [upd_n _ _ (by omega), hr106 _ _ hr8, if_neg (by rw [h42, cw]; decide)]
    rw [upd_cm _ _ _ (by omega), show upd (upd (hr s b) (50 + r) (hr s b (50 + r) - 1)) (106 + r) (-2) = upd (hr s b) (50 + r) (hr s b (50 + r) - 1) by rw [← h106, upd_self]]
  · rw [e2, wi_n _ _ _ (by omega)]; exact m1
  · intro x hx
    rw [e2]
    by_cases ex : x = r
    · subst ex; rw [wi_s, upd_n _ _ (by omega)]; exact H1 x hx
    · rw [wi_n _ _ _ (by omega)]; exact H1 x hx
  · rw [e2]; exact f1.tr (FrC.in hb (by omega) (by omega))
  · rw [w1] at cw
    have hw1 : hr s b (42 + r) = 1 := by rcases h12 with q | q; exact q; exact absurd q cw
    obtain ⟨⟨hh, hh6, hhn⟩, hcq⟩ := (hF r hre).2 hw1
    have htg : s.1 (b + 4 + r) 8 = nI hh := by rw [hr106 _ _ hr8, if_pos (by rw [h42]; exact hw1)] at hhn; exact hhn
    have t1 : s1.1 (b + 4 + r) 8 = nI hh := by rw [c1, upd_n _ _ (by omega)]; exact htg
    have cc1 : s1.1 (b + 4 + r) 3 = nI q0 := by rw [c1, upd_n _ _ (by omega)]; exact q0n
    have ca1 : s1.1 (b + 4 + r) 2 = hr s b (58 + r) := by rw [c1, upd_n _ _ (by omega), hr58 _ _ hr8]
    have hix : (s1.1 (b + 4 + r) 8 * 6) + s1.1 (b + 4 + r) 3 = nI (hh * 6 + q0) := by rw [t1, cc1, show (6 : Int32) = nI 6 from rfl, pk_mul, nI_add]
    have hlt : hh * 6 + q0 < 36 := by omega
    rw [hix, tn_n (by omega)]
    rw [l1] at cl
    -- the state behind the drop, however many
    have fin : ∀ (d : Int32) s3 s4 s5 s6 s7, s3 = wi s1 (b + 2) (hh * 6 + q0) (s1.1 (b + 2) (hh * 6 + q0) + s1.1 (b + 4 + r) 2) → s4 = wi s3 (b + 4 + r) 7 (s3.1 (b + 4 + r) 7 + d) → s5 = wi s4 (b + 4 + r) 2 0 → s6 = wi s5 (b + 4 + r) 0 2 → s7 = wi s6 (b + 4 + r) 1 (s6.1 29 (s6.1 (b + 4 + r) 8).toNatClampNeg) → (upd (upd (hr s1 b) (6 + (hh * 6 + q0)) (hr s1 b (6 + (hh * 6 + q0)) + hr s b (58 + r))) (98 + r) (upd (hr s1 b) (6 + (hh * 6 + q0)) (hr s1 b (6 + (hh * 6 + q0)) + hr s b (58 + r)) (98 + r) + d) = pDrop1 r (hr s1 b)) → R s7 := by
      intro d s3 s4 s5 s6 s7 e3 e4 e5 e6 e7 hd
      have r3 : s3.1 (b + 4 + r) = s1.1 (b + 4 + r) := by rw [e3, wi_n _ _ _ (by omega)]
      have r6 : s6.1 (b + 4 + r) 8 = nI hh := by rw [e6, wi_s, upd_n _ _ (by omega), e5, wi_s, upd_n _ _ (by omega), e4, wi_s, upd_n _ _ (by omega), r3, t1]
      have f6 : s6.1 29 = s.1 29 := by rw [e6, wi_n _ _ _ (by omega), e5, wi_n _ _ _ (by omega), e4, wi_n _ _ _ (by omega), e3, wi_n _ _ _ (by omega), e1, wi_n _ _ _ (by omega)]
      refine h s7 ?_ ?_ ?_ ?_
      · have hR3 : hr s3 b = upd (hr s1 b) (6 + (hh * 6 + q0)) (hr s1 b (6 + (hh * 6 + q0)) + hr s b (58 + r)) := by rw [e3, hw_ho _ _ hlt, ca1, hr_ho _ _ hlt]
        have hR4 : hr s4 b = pDrop1 r (hr s1 b) := by rw [← hd, e4, hw_r7 _ _ hr8, ← hr98 s3 b hr8, hR3]
        rw [e7, hw_r1 _ _ hr8, r6, tn_n (by omega), f6, hE.2.2.2.2.2.2.1 hh (by omega), e6, hw_r0 _ _ hr8, e5, hw_r2 _ _ hr8, hR4, if_neg (show ¬ (2 : Int32) = 1 by decide), if_pos (show (0 : Int32) ≤ 0 by decide), pWalk, if_pos cl, if_pos hw1, ← hR1, pDrop]
        have ht2 : (hr s1 b (106 + r)).toNatClampNeg = hh := by rw [hR1, upd_n _ _ (by omega), hhn, tn_n (by omega)]
        rw [ht2, upd_cm _ 2 (-2) (show 42 + r ≠ 106 + r by omega)]
      · rw [e7, wi_n _ _ _ (by omega), e6, wi_n _ _ _ (by omega), e5, wi_n _ _ _ (by omega), e4, wi_n _ _ _ (by omega), e3, wi_n _ _ _ (by omega)]; exact m1
      · intro x hx
        by_cases ex : x = r
        · subst ex
          rw [e7, wi_s, upd_n _ _ (by omega), e6, wi_s, upd_n _ _ (by omega), e5, wi_s, upd_n _ _ (by omega), e4, wi_s, upd_n _ _ (by omega), r3]; exact H1 x hx
        · rw [e7, wi_n _ _ _ (by omega), e6, wi_n _ _ _ (by omega), e5, wi_n _ _ _ (by omega), e4, wi_n _ _ _ (by omega), e3, wi_n _ _ _ (by omega)]; exact H1 x hx
      · rw [e7, e6, e5, e4, e3]
        exact (((((f1.tr (FrC.in hb (by omega) (by omega))).tr (FrC.in hb (by omega) (by omega))).tr (FrC.in hb (by omega) (by omega))).tr (FrC.in hb (by omega) (by omega))).tr (FrC.in hb (by omega) (by omega)))
    have s58 : hr s1 b (58 + r) = hr s b (58 + r) := by rw [hR1, upd_n _ _ (by omega)]
    have r6' : ∀ s3 s4 s5 s6 (d : Int32), s3 = wi s1 (b + 2) (hh * 6 + q0) (s1.1 (b + 2) (hh * 6 + q0) + s1.1 (b + 4 + r) 2) → s4 = wi s3 (b + 4 + r) 7 (s3.1 (b + 4 + r) 7 + d) → s5 = wi s4 (b + 4 + r) 2 0 → s6 = wi s5 (b + 4 + r) 0 2 → vp_in (s6.1 (b + 4 + r) 8) 6 := by
      intro s3 s4 s5 s6 d e3 e4 e5 e6
      rw [e6, wi_s, upd_n _ _ (by omega), e5, wi_s, upd_n _ _ (by omega), e4, wi_s, upd_n _ _ (by omega), e3, wi_n _ _ _ (by omega), t1]
      exact vp_in_nI (by omega) (by omega)
    refine ⟨vp_in_nI hlt (by omega), fun s3 e3 => ⟨fun cz s4 e4 s5 e5 s6 e6 => ⟨r6' s3 s4 s5 s6 0 e3 e4 e5 e6, fun s7 e7 => GV.r (fin 0 s3 s4 s5 s6 s7 e3 e4 e5 e6 e7 ?_)⟩, fun cz s4 e4 s5 e5 s6 e6 => ⟨r6' s3 s4 s5 s6 1 e3 e4 e5 e6, fun s7 e7 => GV.r (fin 1 s3 s4 s5 s6 s7 e3 e4 e5 e6 e7 ?_)⟩⟩⟩
    · have hz : hr s b (58 + r) = 0 := by
        rw [e3, wi_n _ _ _ (by omega), ca1] at cz
        exact Int32.le_antisymm cz (hW.2.2 r hre).2.1
      rw [hz, pDrop1, if_pos (by rw [s58, hz]; decide)]
      have z0 : ∀ x : Int32, x + 0 = x := fun x => by simp
      rw [z0, z0, upd_self, upd_self]
    · have hnz : ¬ hr s b (58 + r) ≤ 0 := by
        rw [e3, wi_n _ _ _ (by omega), ca1] at cz
        exact cz
      obtain ⟨q, q6, qn⟩ := hcq hnz
      have hq : q = q0 := by
        rw [hr66 _ _ hr8, if_neg (by rw [← hr58 s b hr8]; exact hnz), q0n] at qn
        exact ((nI_eq (by omega) (by omega)).mp qn).symm
      have i1 : (((6 + (6 * hr s1 b (106 + r))) + hr s1 b (66 + r))).toNatClampNeg = 6 + (hh * 6 + q0) := by
        rw [hR1, upd_n _ _ (by omega), upd_n _ _ (by omega), hhn, qn, hq, show (6 : Int32) = nI 6 from rfl, pk_mul, nI_add, nI_add, tn_n (by omega)]
        omega
      rw [pDrop1, if_neg (by rw [s58]; exact hnz), i1, s58]
  · rw [l1] at cl
    rw [hR1, pWalk, if_neg cl]
end ClsMin
