/-! JOKES: the pure answer; the class's watch and fits -/
def dX (h o : Nat) (R : Row) : Row := fun k => if (k - 6) / 6 = h then R (6 + 6 * o + (k - 6) % 6) - R k else if (k - 6) / 6 = o then R (6 + 6 * h + (k - 6) % 6) - R k else 0
theorem pX_get {h o : Nat} {R : Row} (h6 : h < 6) (o6 : o < 6) (ne : h ≠ o) : ∀ n, n ≤ 6 → ∀ i j, i < 6 → j < 6 → pX h o n R (6 + 6 * i + j) = if j < n then (if i = h then R (6 + 6 * o + j) else if i = o then R (6 + 6 * h + j) else R (6 + 6 * i + j)) else R (6 + 6 * i + j)
  | 0, _, i, j, hi, hj => by rw [pX, if_neg (by omega)]
  | n + 1, hn, i, j, hi, hj => by
    have ih := pX_get (R := R) h6 o6 ne n (by omega)
    rw [pX]
    by_cases z : j = n
    · subst z
      rw [if_pos (by omega)]
      by_cases e1 : i = h
      · subst e1
        rw [upd_n _ _ (by omega), upd_s, ih o j o6 hj, if_neg (by omega), if_pos rfl]
      · by_cases e2 : i = o
        · subst e2
          rw [upd_s, ih h j h6 hj, if_neg (by omega), if_neg e1, if_pos rfl]
        · rw [upd_n _ _ (by omega), upd_n _ _ (by omega), ih i j hi hj, if_neg (by omega), if_neg e1, if_neg e2]
    · rw [upd_n _ _ (by omega), upd_n _ _ (by omega), ih i j hi hj]
      have e : (j < n) = (j < n + 1) := propext ⟨fun _ => by omega, fun _ => by omega⟩
      simp only [e]
theorem pX_ad {h o : Nat} {R : Row} (h6 : h < 6) (o6 : o < 6) (ne : h ≠ o) : pX h o 6 R = adH (dX h o R) R := by
  funext k
  by_cases q : 6 ≤ k ∧ k < 42
  · rw [ad_ho q]
    have e : k = 6 + 6 * ((k - 6) / 6) + (k - 6) % 6 := by omega
    have g1 := pX_get (R := R) h6 o6 ne 6 (Nat.le_refl _) ((k - 6) / 6) ((k - 6) % 6) (by omega) (by omega)
    rw [← e, if_pos (by omega)] at g1
    rw [g1]
    unfold dX
    split
    · grind
    · split
      · grind
      · grind
  · rw [ad_at q, pX_o h6 o6 (by omega) 6 (Nat.le_refl _)]
/-- the row n minutes behind the text's first, if h and o were swapped behind minute w -/
def jR (d : TD) (h o w n : Nat) : Row := if h = o ∨ n < w then pMins (dE d) n (beg d) else adH (dX h o (pMins (dE d) w (beg d))) (pMins (dE d) n (beg d))
def FJ (d : TD) (π : PS) (k h o w : Nat) : Bool := decide (∀ i, i < k → jR d h o w (pF π i).2.2.1 (6 + 6 * (pF π i).1 + (pF π i).2.1) = (pF π i).2.2.2)
theorem WFA.ad {e : PE} {δ R : Row} (h8 : eR e ≤ 8) (w : WFA e R) : WFA e (adH δ R) := by
  refine ⟨fun r hr => ?_, ⟨fun k hk => ?_, ?_, fun r hr => ?_⟩, ⟨fun k hk => ?_, ?_, w.2.2.2.2.1, fun r hr => ?_⟩⟩
  · rw [ad_at (OH.of (by omega)), ad_at (OH.of (by omega)), ad_at (OH.of (by omega)), ad_at (OH.of (by omega)), ad_at (OH.of (by omega))]; exact w.1 r hr
  · rw [ad_at (OH.of (by omega))]; exact w.2.1.1 k hk
  · rw [ad_at (OH.of (by omega))]; exact w.2.1.2.1
  · rw [ad_at (OH.of (by omega)), ad_at (OH.of (by omega)), ad_at (OH.of (by omega))]; exact w.2.1.2.2 r hr
  · rw [ad_at (OH.of (by omega))]; exact w.2.2.1 k hk
  · rw [ad_at (OH.of (by omega))]; exact w.2.2.2.1
  · rw [ad_at (OH.of (by omega)), ad_at (OH.of (by omega)), ad_at (OH.of (by omega))]; exact w.2.2.2.2.2 r hr
theorem wfa_begs {d : TD} (hO : TOk d) (n : Nat) : WFA (dE d) (pMins (dE d) n (beg d)) := by
  have := (RW.mins (n := n) (f := eFa (dE d)) (sd := eSd (dE d)) hO hO.fa ((beg_RV hO 0).rw (by omega))).1
  rw [eV_self] at this
  exact this
theorem wfa_jR {d : TD} (hO : TOk d) (h o w n : Nat) : WFA (dE d) (jR d h o w n) := by
  unfold jR
  split
  · exact wfa_begs hO n
  · exact (wfa_begs hO n).ad hO.r8
theorem jR_s {d : TD} (hO : TOk d) {h o w n : Nat} (hn : n ≠ w - 1 ∨ h = o ∨ w = 0) : pMin (dE d) (jR d h o w n) = jR d h o w (n + 1) := by
  unfold jR
  by_cases e : h = o
  · rw [if_pos (Or.inl e), if_pos (Or.inl e), pMins_s]
  · by_cases q : n < w
    · rw [if_pos (Or.inr q), if_pos (Or.inr (by omega)), pMins_s]
    · rw [if_neg (by omega), if_neg (by omega), ← ad_min hO.1.1 (wfa_begs hO n).1, pMins_s]
section Watch
variable {E : EN} {d : TD} {t lv c : Nat} {π : PS} {g : GS} {s : MS}
def FWt (t : Nat) (s u : MS) : Prop := (∀ a, a ≠ 56 → ¬ (61 ≤ a ∧ a < 74) → a ≠ 28 → a ≠ 30 → a ≠ t + 15 → u.1 a = s.1 a) ∧ (∀ j, j ≠ 6 → u.1 56 j = s.1 56 j) ∧ (∀ j, j ≠ 4 → u.1 28 j = s.1 28 j) ∧ u.2 = s.2
theorem FWt.C {u : MS} (et : t = 88 ∨ t = 104) (h : FrC 62 t s u) : FWt t s u := ⟨fun a h1 h2 h3 h4 h5 => h.1 a (by omega) h3 h4 h5, fun j _ => by rw [h.1 56 (by omega) (by omega) (by omega) (by omega)], h.2.1, h.2.2⟩
theorem FWt.tr {u v : MS} (h : FWt t s u) (k : FWt t u v) : FWt t s v := ⟨fun a h1 h2 h3 h4 h5 => (k.1 a h1 h2 h3 h4 h5).trans (h.1 a h1 h2 h3 h4 h5), fun j hj => (k.2.1 j hj).trans (h.2.1 j hj), fun j hj => (k.2.2.1 j hj).trans (h.2.2.1 j hj), k.2.2.2.trans h.2.2.2⟩
theorem KC.wt {u : MS} {f : Row} {sd : Int32} (k : KC d g t f sd s) (h : FWt t s u) : KC d g t f sd u := by
  obtain ⟨k1, k2, k3, k4, k5, k6, k7, k8, k9, k10⟩ := k
  refine ⟨k1, k2, k3, k4, k5, k6.mv (fun a h1 h2 => h.1 a (by omega) (by omega) (by omega) (by omega) (by omega)), fun j hj => ?_, ?_, fun j hj => ?_, k10⟩
  · rw [h.1 29 (by omega) (by omega) (by omega) (by omega) (by omega)]; exact k7 j hj
  · rw [h.2.2.1 2 (by decide)]; exact k8
  · rw [h.1 1 (by omega) (by omega) (by omega) (by omega) (by omega)]; exact k9 j hj
theorem ICl.wt {u : MS} (h : ICl d t π g s) (k : FWt t s u) (hs : Seen d u) : ICl d t π g u := by
  have et := h.1.et
  obtain ⟨k1, h2, h3, h4, h5, h6, h7, h8, h9, h10, h11⟩ := h
  have A : ∀ a, a ≠ 56 → ¬ (61 ≤ a ∧ a < 74) → a ≠ 28 → a ≠ 30 → a ≠ t + 15 → u.1 a = s.1 a := k.1
  have B : ∀ a, 173 ≤ a → u.1 a = s.1 a := fun a ha => A a (by omega) (by omega) (by omega) (by omega) (by omega)
  have A16 := A 16 (by omega) (by omega) (by omega) (by omega) (by omega)
  refine ⟨k1.wt k, h2, ⟨by rw [hr_c2 (fun a a1 a2 => A a (by omega) (by omega) (by omega) (by omega) (by omega))]; exact h3.1, h3.2.cg (fun a a1 a2 => A a (by omega) (by omega) (by omega) (by omega) (by omega))⟩, ?_, h5, ?_, ?_, ?_, hs, ?_, by rw [A16]; exact h11⟩
  · unfold CW; rw [A 31 (by omega) (by omega) (by omega) (by omega) (by omega)]; exact h4
  · obtain ⟨e, e1, e2, e3, e4⟩ := h6
    refine ⟨e, e1, by rw [A16]; exact e2, by rw [A16]; exact e3, fun i hi => ?_⟩
    obtain ⟨b, b1, b2, b3⟩ := e4 i hi
    have := (pool_at h5 (by omega) b1).1
    exact ⟨b, b1, b2.cg (fun a a1 _ => B a (by omega)), by rw [hr_c2 (fun a a1 _ => B a (by omega))]; exact b3⟩
  · obtain ⟨e, e1, e2, e3⟩ := h7
    refine ⟨e, e1, by rw [A16]; exact e2, fun i hi => ?_⟩
    rcases e3 i hi with q | ⟨q1, b, R, q2, q3, q4, q5⟩
    · exact Or.inl q
    · have := (pool_at h5 (by omega) q3).1
      exact Or.inr ⟨q1, b, R, q2, q3, q4.cg (fun a a1 _ => B a (by omega)), by rw [hr_c2 (fun a a1 _ => B a (by omega))]; exact q5⟩
  · refine ⟨by rw [k.2.1 7 (by decide)]; exact h8.1, fun i hi => ?_⟩
    rw [A 57 (by omega) (by omega) (by omega) (by omega) (by omega), A 58 (by omega) (by omega) (by omega) (by omega) (by omega), A 59 (by omega) (by omega) (by omega) (by omega) (by omega), A 60 (by omega) (by omega) (by omega) (by omega) (by omega)]; exact h8.2 i hi
  · unfold Tape
    rw [A16, A 17 (by omega) (by omega) (by omega) (by omega) (by omega)]; exact h10
theorem f_Facts_watch {R : MS → Prop} (I : ICl d t π g s) (h : ∀ u, ICl d t π g u → u.1 56 6 = 1 → FWt t s u → R u) : GV E m_Facts_watch [.ref 56, .ref 28] g s R := by
  have K := I.1
  have hS := K.sx
  have et := K.et
  have hO := K.o
  have SN : Seen d s := I.2.2.2.2.2.2.2.2.1
  have rf : FWt t s s := ⟨fun _ _ _ _ _ _ => rfl, fun _ _ => rfl, fun _ _ => rfl, rfl⟩
  refine v_Facts_watch (Q := qV g R) t hS K.hm ⟨fun c0 s1 e1 => ?_, fun c0 => ?_⟩
  · have F1 : FWt t s s1 := ⟨fun a h1 _ _ _ _ => by rw [e1, wi_n _ _ _ h1], fun j hj => by rw [e1, wi_s, upd_n _ _ hj], fun j _ => by rw [e1, wi_n _ _ _ (by decide)], by rw [e1, wi_2]⟩
    have K1 := K.wt F1
    have o1 : s1.1 56 6 = 1 := by rw [e1, wi_s, upd_s]
    have c1 : CH 62 s1 := by rw [e1]; exact SN.2.wi (by omega)
    refine f_House_begin hS (HS62 hS) HB62 et hO K1.tc c1 (fun u b1 b2 b3 => ?_)
    have F2 : FWt t s u := F1.tr (FWt.C et (FrH.C HB62 b3))
    refine upto (P := fun n => ∀ u, nm (dE d) (hr u 62) = pMins (dE d) n (beg d) → CH 62 u → u.1 56 6 = 1 → (∀ m, m < n → ∀ c, c < 36 → u.1 61 (36 * m + c) = pMins (dE d) m (beg d) (6 + c)) → FWt t s u → AWP E m_Facts_watch 26 0 0 [(0, .ref 56), (1, .ref 28), (2, .int (nI n))] [] (mk g u) (qV g R)) 100 ?_ ?_ 0 (Nat.zero_le _) u b1 b2 (by rw [b3.1 56 (by omega)]; exact o1) (fun m hm => absurd hm (by omega)) F2
    · intro u a1 a2 a3 a4 a5
      exact v_Facts_watch_26 _ hS (pk_lt 99 100 (fun _ => GV.r (h u (I.wt a5 ⟨Or.inr ⟨a3, fun n hn c hc => a4 n (by omega) c hc⟩, a2⟩) a3 a5)) (fun q => absurd q (by omega)))
    · intro n hn ih u a1 a2 a3 a4 a5
      have e36 : nI n * 36 = nI (n * 36) := by rw [show (36 : Int32) = nI 36 from rfl, pk_mul]
      refine v_Facts_watch_26 _ hS (pk_lt 99 n (fun q => absurd q (by omega)) (fun _ => ?_))
      rw [e36, tn_n (by omega), nI_1 n]
      refine ⟨⟨by decide, nI_pos (by omega), by decide, by decide, by omega⟩, fun s2 e2 => ?_⟩
      have F3 : FWt t u s2 := ⟨fun a _ h2 _ _ _ => by rw [e2, si_1n _ _ (by omega)], fun j _ => by rw [e2, si_1n _ _ (by decide)], fun j _ => by rw [e2, si_1n _ _ (by decide)], by rw [e2, si_2]⟩
      have K3 := (K.wt a5).wt F3
      have N3 : nm (dE d) (hr s2 62) = pMins (dE d) n (beg d) := by rw [hr_c2 (s := u) (u := s2) (fun a x1 x2 => by rw [e2, si_1n _ _ (by omega)]), a1]
      refine k_goMinute K3 HB62 (HS62 hS) (a2.cg (fun a x1 x2 => by rw [e2, si_1n _ _ (by omega)])) N3 (wfa_begs hO n) (fun v v1 v2 v3 => ih v ?_ v2 ?_ ?_ ?_)
      · rw [v1, eV_self, pMins_s]
      · rw [v3.1 56 (by omega) (by omega) (by omega) (by omega), e2, si_1n _ _ (by decide)]; exact a3
      · intro m hm c hc
        rw [v3.1 61 (by omega) (by omega) (by omega) (by omega), e2, si_1s]
        unfold va_cpy
        by_cases z : m = n
        · subst z
          rw [if_pos (by omega), show 0 + (36 * m + c - m * 36) = c by omega, ← hr_ho u 62 hc, ← nm42 (e := dE d) (R := hr u 62) (k := 6 + c) (by omega), a1]
        · rw [if_neg (by omega)]; exact a4 m (by omega) c hc
      · exact (a5.tr F3).tr (FWt.C et v3)
  · rcases SN.1 with q | ⟨q, -⟩
    · exact absurd q c0
    · exact GV.r (h s I q rf)
end Watch
