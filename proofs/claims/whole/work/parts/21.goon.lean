/-! GOING ON: many minutes at once -/
def rsum (R : Row) (o : Nat) : Nat → Int32
  | 0 => 0
  | n + 1 => rsum R o n + R (o + n)
theorem rsum_cg {R R' : Row} {o : Nat} : ∀ n, (∀ k, k < n → R (o + k) = R' (o + k)) → rsum R o n = rsum R' o n
  | 0, _ => rfl
  | n + 1, h => by rw [rsum, rsum, rsum_cg n (fun k hk => h k (by omega)), h n (by omega)]
theorem rsum_n {R : Row} {o B : Nat} (hB : B < 2 ^ 31) : ∀ n, (∀ k, k < n → ∃ a, a ≤ B ∧ R (o + k) = nI a) → ∃ c, c ≤ n * B ∧ rsum R o n = nI c ∧ ((∃ k, k < n ∧ ¬ R (o + k) = 0) → 0 < c) ∧ (0 < c → ∃ k, k < n ∧ ¬ R (o + k) = 0)
  | 0, _ => ⟨0, by omega, rfl, fun ⟨k, hk, _⟩ => by omega, fun h => by omega⟩
  | n + 1, h => by
    obtain ⟨c, hc, hcn, h1, h2⟩ := rsum_n hB n (fun k hk => h k (by omega))
    obtain ⟨a, ha, han⟩ := h n (by omega)
    refine ⟨c + a, by rw [Nat.succ_mul]; omega, by rw [rsum, hcn, han, nI_add], fun ⟨k, hk, hz⟩ => ?_, fun hp => ?_⟩
    · by_cases e : k = n
      · subst e
        rcases Nat.eq_zero_or_pos a with z | z
        · rw [han, z] at hz; exact absurd rfl hz
        · omega
      · have := h1 ⟨k, by omega, hz⟩; omega
    · by_cases z : 0 < c
      · obtain ⟨k, hk, hkz⟩ := h2 z; exact ⟨k, by omega, hkz⟩
      · refine ⟨n, by omega, ?_⟩
        rw [han]
        intro w
        have := (nI_eq (b := 0) (show a < 2 ^ 31 by omega) (by decide)).mp w
        omega
theorem pRat_114 {e : PE} {q : Row × Row} {r : Nat} (hE : EOk e) (hr : r < eR e) (hw : WFr e q.1) : (pRat e r q).1 114 = q.1 114 := by
  have h8 := hE.1
  have hG := hE.2.1
  obtain ⟨⟨kk, hk, hkn⟩, hgo⟩ := hw r hr
  rw [pRat]
  split
  · rfl
  · split
    · rw [pHeap_o (kk := kk) hG (by show (pHun r q.1 (90 + r)).toNatClampNeg = kk; rw [pHun_o (by omega), hkn, tn_n (by omega)]) (by omega) (by omega) (by omega) (by omega) (by omega) (by omega) (by omega) (by omega) (by omega) (by omega)]
      exact pHun_o (by omega)
    · show pWalk e r (pHun r q.1) (q.1 (42 + r)) 114 = _
      rw [pWalk]
      split
      · split
        · rename_i c
          obtain ⟨⟨hh, hh6, hhn⟩, hq⟩ := hgo c
          have e3 := hE.2.2.1
          by_cases z : q.1 (58 + r) ≤ 0
          · rw [pDrop_o (h := hh) (q := 0) (by rw [upd_n _ _ (by omega), pHun_o (by omega)]; exact hhn) (by omega) (fun w => absurd (by rw [upd_n _ _ (by omega), pHun_o (by omega)]; exact z) w) (by omega) (by omega) (by omega) (by omega) (by omega) (by omega) (by omega), upd_n _ _ (by omega), pHun_o (by omega)]
          · obtain ⟨qq, hq6, hqn⟩ := hq z
            rw [pDrop_o (h := hh) (q := qq) (by rw [upd_n _ _ (by omega), pHun_o (by omega)]; exact hhn) (by omega) (fun w => ⟨by rw [upd_n _ _ (by omega), pHun_o (by omega)]; exact hqn, hq6⟩) (by omega) (by omega) (by omega) (by omega) (by omega) (by omega) (by omega), upd_n _ _ (by omega), pHun_o (by omega)]
        · rw [upd_n _ _ (by omega), upd_n _ _ (by omega), pHun_o (by omega)]
      · rw [upd_n _ _ (by omega), pHun_o (by omega)]
theorem pRats_114 {e : PE} {q : Row × Row} (hE : EOk e) (hw : WFr e q.1) : ∀ n, n ≤ eR e → (pRats e n q).1 114 = q.1 114
  | 0, _ => rfl
  | n + 1, hn => by rw [pRats, pRat_114 hE (by omega) (WFr.rats hE hw n (by omega)), pRats_114 hE hw n (by omega)]
theorem pMin_114 {e : PE} {R : Row} (hE : EOk e) (hw : WFr e R) : pMin e R 114 = R 114 + 1 := by
  have := pRats_114 (q := (R, fun _ => 0)) hE hw _ (Nat.le_refl _)
  rw [pMin, pEnd]
  split
  · rw [upd_s, this]
  · rw [upd_s, upd_n _ _ (by decide), this]
theorem pMins_114 {e : PE} (hE : EOk e) : ∀ (n : Nat) {R : Row}, WFr e R → pMins e n R 114 = R 114 + nI n
  | 0, R, _ => by rw [pMins, show nI 0 = 0 from rfl]; simp
  | n + 1, R, h => by
    rw [pMins, pMins_114 hE n (h.min hE), pMin_114 hE h, Int32.add_assoc, show (1 : Int32) = nI 1 from rfl, nI_add, Nat.add_comm 1 n]
theorem pMins_add (e : PE) (b : Nat) : ∀ (a : Nat) (R : Row), pMins e (a + b) R = pMins e b (pMins e a R)
  | 0, R => by rw [Nat.zero_add]; rfl
  | a + 1, R => by rw [show a + 1 + b = (a + b) + 1 by omega, pMins, pMins_add e b a, pMins]
/-- what one rat lets be quiet -/
def QR (e : PE) (q : Nat) (R : Row) (r : Nat) : Prop := (R (42 + r) = 0 → ((¬ eLa e ≤ R 114 → ¬ R (R (90 + r)).toNatClampNeg ≤ 0 → nI q ≤ R 118) ∧ ((∃ k, k < 6 ∧ ¬ R k = 0) → ∃ x o, R (74 + r) = nI x ∧ eOd e = nI o ∧ x + q + 1 ≤ o ∧ o ≤ 99))) ∧ ((R (42 + r) = 1 ∨ R (42 + r) = 2) → ∃ l, R (50 + r) = nI l ∧ q + 1 ≤ l ∧ l ≤ 100)
theorem QR.le {e : PE} {R : Row} {p q r : Nat} (h : QR e q R r) (hpq : p ≤ q) (hq : q < 2 ^ 31) : QR e p R r := by
  refine ⟨fun c0 => ⟨fun a1 a2 => Int32.le_trans (nI_le hpq hq) ((h.1 c0).1 a1 a2), fun a => ?_⟩, fun c => ?_⟩
  · obtain ⟨x, o, h1, h2, h3, h4⟩ := (h.1 c0).2 a
    exact ⟨x, o, h1, h2, by omega, h4⟩
  · obtain ⟨l, h1, h2, h3⟩ := h.2 c
    exact ⟨l, h1, by omega, h3⟩
section GoOn
variable {E : EN} {g : GS} {b t r : Nat} {e : PE}
theorem l_House_allInHeap {s : MS} {R : Int32 → MS → Prop} (hH : HS g b) (h : R (rsum (hr s b) 0 6) s) : ∀ (m k : Nat), 6 - k = m → k ≤ 6 → AWP E m_House_allInHeap 4 0 0 [(0, .ref b), (1, .int (rsum (hr s b) 0 k)), (2, .int (nI k))] [] (mk g s) (qI g R) := by
  intro m
  induction m with
  | zero =>
    intro k hk hk1
    refine v_House_allInHeap_4 b _ _ hH ⟨fun _ => GI.r ?_, fun c => absurd (nI_le (show 6 ≤ k by omega) (by omega)) c⟩
    rw [show k = 6 by omega]; exact h
  | succ m ih =>
    intro k hk hk1
    refine v_House_allInHeap_4 b _ _ hH ⟨fun c => absurd c (nI_ge (b := 6) (show k < 6 by omega) (by decide)), fun _ => ⟨vp_in_nI (show k < 6 by omega) (by omega), ?_⟩⟩
    have := ih (k + 1) (by omega) (by omega)
    rw [rsum, Nat.zero_add, hr_hp s b (show k < 6 by omega)] at this
    rw [tn_n (by omega), nI_1]; exact this
theorem f_House_allInHeap {s : MS} {R : Int32 → MS → Prop} (hH : HS g b) (h : R (rsum (hr s b) 0 6) s) : GI E m_House_allInHeap [.ref b] g s R :=
  v_House_allInHeap (Q := qI g R) b (l_House_allInHeap hH h 6 0 rfl (by omega))
theorem f_Mill_waits {s : MS} {R : Int32 → MS → Prop} (hS : SX g) (hH : HS g b) (et : t = 88 ∨ t = 104) (hm : g.2.2 28 0 = some t) (hE : EC e t s) (hW : WFA e (hr s b)) (hre : r < eR e) (h0 : hr s b (42 + r) = 0) {n : Nat} (hn1 : 1 ≤ n) (hn : n < 100000)
    (h : ∀ y, (y ≤ 0 ∨ ∃ q, y = nI q ∧ 1 ≤ q ∧ q ≤ n ∧ QR e q (hr s b) r) → R y s) : GI E m_Mill_waits [.ref 28, .ref b, .ref (b + 4 + r), .int (nI n)] g s R := by
  obtain ⟨h1, h2, h3, h4, h5, h6, h7, h8, h9⟩ := hE
  have hr8 : r < 8 := by have := h9.1; omega
  have hOG : OG g (b + 4 + r) 6 := (hH.2.2.2.2.2.2.2 r hr8).2
  obtain ⟨w1, w2, w3⟩ := hW
  obtain ⟨⟨kk, hkg, hkn⟩, -⟩ := w1 r hre
  have hk6 : kk < 6 := by have := h9.2.1; omega
  obtain ⟨⟨x, hx9, hx⟩, -⟩ := w3.2.2.2 r hre
  obtain ⟨o, ho1, ho9, hon⟩ := w3.2.2.1
  obtain ⟨c, hc, hcn⟩ := w3.2.1
  have s90 : s.1 (b + 4 + r) 6 = nI kk := by rw [← hr90 s b hr8]; exact hkn
  have s74 : s.1 (b + 4 + r) 4 = nI x := by rw [← hr74 s b hr8]; exact hx
  obtain ⟨sm, hsm, hsn, hs1, hs2⟩ := rsum_n (R := hr s b) (o := 0) (B := 100000000) (by omega) 6 (fun k hk => by rw [Nat.zero_add]; exact w3.1 k hk)
  have ho1' : (nI o : Int32) - 1 = nI (o - 1) := by rw [show (1 : Int32) = nI 1 from rfl, pk_sub ho1]
  -- with w minutes that the cat leaves
  have fin : ∀ w, w ≤ n → (¬ eLa e ≤ hr s b 114 → ¬ hr s b kk ≤ 0 → nI w ≤ hr s b 118) → ((nI w ≤ (((s.1 t 16) - 1) - (s.1 (b + 4 + r) 4)) → qI g R (some (.int (nI w))) (mk g s)) ∧ (¬ nI w ≤ (((s.1 t 16) - 1) - (s.1 (b + 4 + r) 4)) → GI E m_House_allInHeap [.ref b] g s (fun y1_ t1_ => ((y1_ ≤ 0 → qI g R (some (.int (nI w))) (mk g t1_)) ∧ (¬ y1_ ≤ 0 → qI g R (some (.int (((s.1 t 16) - 1) - (s.1 (b + 4 + r) 4)))) (mk g t1_)))))) := by
    intro w hw hcat
    rw [h5, s74, hon, ho1']
    refine ⟨fun c1 => GI.r (h _ ?_), fun c1 => f_House_allInHeap hH ⟨fun c2 => GI.r (h _ ?_), fun c2 => GI.r (h _ ?_)⟩⟩
    · rcases Nat.eq_zero_or_pos w with z | z
      · left; rw [z]; decide
      · right
        refine ⟨w, rfl, z, hw, fun _ => ⟨by rw [hkn, tn_n (by omega)]; exact hcat, fun _ => ⟨x, o, hx, hon, ?_, ho9⟩⟩, fun q => ?_⟩
        · by_cases q : x ≤ o - 1
          · rw [pk_sub q] at c1
            have := (nI_leI (by omega) (by omega)).mp c1
            omega
          · have := pk_sneg (a := o - 1) (b := x) (by omega) (by omega)
            exact absurd (Int32.lt_of_le_of_lt (Int32.le_trans (nI_pos' (show w < 2 ^ 31 by omega)) c1) this) (by decide)
        · rw [h0] at q; rcases q with q | q <;> exact absurd q (by decide)
    · have hz : ¬ 0 < sm := fun q => by rw [hsn] at c2; exact absurd c2 (nI_nle q (by omega))
      rcases Nat.eq_zero_or_pos w with z | z
      · left; rw [z]; decide
      · right
        refine ⟨w, rfl, z, hw, fun _ => ⟨by rw [hkn, tn_n (by omega)]; exact hcat, fun ⟨k, hk, hkz⟩ => absurd (hs1 ⟨k, hk, by rw [Nat.zero_add]; exact hkz⟩) hz⟩, fun q => ?_⟩
        rw [h0] at q; rcases q with q | q <;> exact absurd q (by decide)
    · by_cases q : x ≤ o - 1
      · rw [pk_sub q]
        rw [pk_sub q] at c1
        have c3 : o - 1 - x < w := by
          rcases Nat.lt_or_ge (o - 1 - x) w with z | z
          · exact z
          · exact absurd (nI_le z (by omega)) c1
        rcases Nat.eq_zero_or_pos (o - 1 - x) with z | z
        · left; rw [z]; decide
        · right
          refine ⟨_, rfl, z, by omega, fun _ => ⟨by rw [hkn, tn_n (by omega)]; exact fun a1 a2 => Int32.le_trans (nI_le (by omega) (by omega)) (hcat a1 a2), fun _ => ⟨x, o, hx, hon, by omega, ho9⟩⟩, fun q => ?_⟩
          rw [h0] at q; rcases q with q | q <;> exact absurd q (by decide)
      · left
        exact Int32.le_of_lt (pk_sneg (by omega) (by omega))
  refine v_Mill_waits (Q := qI g R) b (b + 4 + r) (nI n) t hS hH hOG et hm ?_
  have s114 : s.1 b 3 = hr s b 114 := (hr114 s b).symm
  have s118 : s.1 b 4 = hr s b 118 := (hr118 s b).symm
  have skk : s.1 (b + 1) kk = hr s b kk := (hr_hp s b hk6).symm
  refine ⟨fun c1 => fin n (Nat.le_refl _) (fun a => ?_), fun c1 => ⟨by rw [s90]; exact vp_in_nI hk6 (by omega), fun c2 => fin n (Nat.le_refl _) (fun _ a => ?_), fun c2 => ?_⟩⟩
  · rw [h4, s114] at c1; exact absurd c1 a
  · rw [s90, tn_lt6 hk6, skk] at c2; exact absurd c2 a
  · rw [s118, hcn]
    by_cases d : c < n
    · rw [if_pos (nI_lt d (by omega))]
      exact fin c (by omega) (fun _ _ => by rw [hcn]; exact Int32.le_refl _)
    · rw [if_neg (nI_nlt (by omega) (by omega))]
      exact fin n (Nat.le_refl _) (fun _ _ => by rw [hcn]; exact nI_le (by omega) (by omega))
theorem l_Mill_quietMinutes {s : MS} {R : Int32 → MS → Prop} (hS : SX g) (hH : HS g b) (et : t = 88 ∨ t = 104) (hm : g.2.2 28 0 = some t) (hE : EC e t s) (hW : WFA e (hr s b)) {n : Nat} (hn : n < 10000) (x2 : Int32)
    (h : ∀ y, (y ≤ 0 ∨ ∃ q, y = nI q ∧ 1 ≤ q ∧ q ≤ n ∧ Quiet e q (hr s b)) → R y s) : ∀ (m k : Nat), eR e - k = m → k ≤ eR e → ∀ y, (y ≤ 0 ∨ ∃ q, y = nI q ∧ 1 ≤ q ∧ q ≤ n ∧ ∀ r, r < k → QR e q (hr s b) r) → AWP E m_Mill_quietMinutes 5 0 0 [(0, .ref 28), (1, .ref b), (2, .int x2), (3, .int y), (4, .int (nI k))] [] (mk g s) (qI g R) := by
  have h8 := hE.2.2.2.2.2.2.2.2.1
  have h1 := hE.1
  intro m
  induction m with
  | zero =>
    intro k hk hk1 y hy
    have hke : k = eR e := by omega
    refine v_Mill_quietMinutes_5 b x2 y (nI k) t hS hH et hm ?_
    rw [h1, hke]
    refine ⟨fun _ => GI.r (h y ?_), fun c => absurd (Int32.le_refl _) c⟩
    rw [hke] at hy
    exact hy
  | succ m ih =>
    intro k hk hk1 y hy
    have hkr : k < eR e := by omega
    refine v_Mill_quietMinutes_5 b x2 y (nI k) t hS hH et hm ?_
    rw [h1, tn_n (Nat.lt_of_lt_of_le hkr (by omega)), nI_1, ← hr42 s b (show k < 8 by omega), ← hr50 s b (show k < 8 by omega)]
    refine ⟨fun c => absurd ((nI_leI (by omega) (by omega)).mp c) (by omega), fun _ => ⟨fun c => GI.r (h y (Or.inl c)), fun c => ⟨vp_in_nI (show k < 8 by omega) (by omega), ?_⟩⟩⟩
    obtain ⟨q, rfl, hq1, hqn, hq⟩ : ∃ q, y = nI q ∧ 1 ≤ q ∧ q ≤ n ∧ ∀ r, r < k → QR e q (hr s b) r := by
      rcases hy with z | z
      · exact absurd z c
      · exact z
    -- a rat that lets p minutes be quiet
    have step : ∀ p, 1 ≤ p → p ≤ q → QR e p (hr s b) k → AWP E m_Mill_quietMinutes 5 0 0 [(0, .ref 28), (1, .ref b), (2, .int x2), (3, .int (nI p)), (4, .int (nI (k + 1)))] [] (mk g s) (qI g R) := by
      intro p hp1 hpq hp
      refine ih (k + 1) (by omega) (by omega) _ (Or.inr ⟨p, rfl, hp1, by omega, fun r hr => ?_⟩)
      by_cases er : r = k
      · rw [er]; exact hp
      · exact (hq r (by omega)).le hpq (by omega)
    refine ⟨fun c0 => ?_, fun c0 => ⟨fun c3 => ?_, fun c3 => ?_⟩⟩
    · refine f_Mill_waits hS hH et hm hE hW hkr c0 hq1 (by omega) (fun y hy => ?_)
      rcases hy with z | ⟨p, rfl, hp1, hpq, hp⟩
      · have : y < nI q := by
          have := nI_lt (a := 0) (b := q) (by omega) (by omega)
          exact Int32.lt_of_le_of_lt z this
        rw [if_pos this]
        exact ih (k + 1) (by omega) (by omega) y (Or.inl z)
      · by_cases d : p < q
        · rw [if_pos (nI_lt d (by omega))]; exact step p hp1 hpq hp
        · rw [if_neg (nI_nlt (by omega) (by omega))]
          exact step q hq1 (Nat.le_refl _) (by rw [show q = p by omega]; exact hp)
    · refine step q hq1 (Nat.le_refl _) ⟨fun z => absurd z c0, fun z => ?_⟩
      rw [c3] at z; rcases z with z | z <;> exact absurd z (by decide)
    · obtain ⟨-, l, hl, hln, hl0, hl1⟩ := hW.2.2.2.2.2 k hkr
      have c12 : hr s b (42 + k) = 1 ∨ hr s b (42 + k) = 2 := by
        rcases (hW.2.1.2.2 k hkr).1 with z | z | z | z
        · exact absurd z c0
        · exact Or.inl z
        · exact Or.inr z
        · exact absurd z c3
      have hl1' := hl1 c12
      rw [hln, show (1 : Int32) = nI 1 from rfl, pk_sub hl1']
      by_cases d : l - 1 < q
      · rw [if_pos (nI_lt d (by omega))]
        rcases Nat.eq_zero_or_pos (l - 1) with z | z
        · rw [z]; exact ih (k + 1) (by omega) (by omega) _ (Or.inl (by decide))
        · exact step (l - 1) z (by omega) ⟨fun w => absurd w c0, fun _ => ⟨l, hln, by omega, hl⟩⟩
      · rw [if_neg (nI_nlt (by omega) (by omega))]
        exact step q hq1 (Nat.le_refl _) ⟨fun w => absurd w c0, fun _ => ⟨l, hln, by omega, hl⟩⟩
theorem f_Mill_quietMinutes {s : MS} {R : Int32 → MS → Prop} (hS : SX g) (hH : HS g b) (et : t = 88 ∨ t = 104) (hm : g.2.2 28 0 = some t) (hE : EC e t s) (hW : WFA e (hr s b)) {n : Nat} (hn1 : 1 ≤ n) (hn : n < 10000)
    (h : ∀ y, (y ≤ 0 ∨ ∃ q, y = nI q ∧ 1 ≤ q ∧ q ≤ n ∧ Quiet e q (hr s b)) → R y s) : GI E m_Mill_quietMinutes [.ref 28, .ref b, .int (nI n)] g s R :=
  v_Mill_quietMinutes (Q := qI g R) b (nI n) (l_Mill_quietMinutes hS hH et hm hE hW hn (nI n) h (eR e) 0 rfl (by omega) (nI n) (Or.inr ⟨n, rfl, hn1, Nat.le_refl _, fun r hr => by omega⟩))
theorem l_Mill_skip {s : MS} {R : MS → Prop} (hS : SX g) (hH : HS g b) (et : t = 88 ∨ t = 104) (hm : g.2.2 28 0 = some t) (hb : HB b) (hE : EC e t s) {q : Nat} (h : ∀ u, hr u b = pEq q (pSk q (eR e) (hr s b)) → CH b u → FrC b t s u → R u) : ∀ (m k : Nat), eR e - k = m → k ≤ eR e → ∀ u, hr u b = pSk q k (hr s b) → CH b u → FrC b t s u → AWP E m_Mill_skip 2 0 0 [(0, .ref 28), (1, .ref b), (2, .int (nI q)), (3, .int (nI k))] [] (mk g u) (qV g R) := by
  have h8 := hE.2.2.2.2.2.2.2.2.1
  have b32 := hb.le
  intro m
  induction m with
  | zero =>
    intro k hk hk1 u hu hC hF
    have hke : k = eR e := by omega
    have hEu := hE.mv et hb hF
    refine v_Mill_skip_2 b (nI q) (nI k) t hS hH et hm ?_
    rw [hEu.1, hke]
    refine ⟨fun _ s1 e1 s2 e2 => GV.r (h s2 ?_ ?_ ?_), fun c => absurd (Int32.le_refl _) c⟩
    · rw [e2, hw_114, ← hr114 s1 b, e1, hw_118, ← hr118 u b, hu, ← hke, pEq, subP, upd_n _ _ (by decide)]
    · intro x hx
      rw [e2, wi_n _ _ _ (by omega), e1, wi_n _ _ _ (by omega)]; exact hC x hx
    · rw [e2, e1]; exact (hF.tr (FrC.in hb (by omega) (by omega))).tr (FrC.in hb (by omega) (by omega))
  | succ m ih =>
    intro k hk hk1 u hu hC hF
    have hkr : k < eR e := by omega
    have hr8 : k < 8 := by omega
    have hEu := hE.mv et hb hF
    have w42 : hr u b (42 + k) = hr s b (42 + k) := by rw [hu, pSk_o (by omega) (by omega)]
    have w74 : hr u b (74 + k) = hr s b (74 + k) := by rw [hu, pSk_74 hr8 (by omega), if_neg (by omega)]
    have w50 : hr u b (50 + k) = hr s b (50 + k) := by rw [hu, pSk_50 hr8 (by omega), if_neg (by omega)]
    refine v_Mill_skip_2 b (nI q) (nI k) t hS hH et hm ?_
    rw [hEu.1, tn_n (Nat.lt_of_lt_of_le hkr (by omega)), nI_1, ← hr42 u b hr8, w42]
    refine ⟨fun c => absurd ((nI_leI (by omega) (by omega)).mp c) (by omega), fun _ => ⟨vp_in_nI hr8 (by omega), fun c3 => ?_, fun c3 s3 e3 s4 e4 => ?_⟩⟩
    · exact ih (k + 1) (by omega) (by omega) u (by rw [hu, pSk_s3 hr8 c3]) hC hF
    · refine ih (k + 1) (by omega) (by omega) s4 ?_ ?_ ?_
      · have r3 : s3.1 (b + 4 + k) 1 = hr s b (50 + k) := by rw [e3, wi_s, upd_n _ _ (by omega), ← hr50 u b hr8, w50]
        rw [e4, hw_r1 _ _ hr8, r3, e3, hw_r4 _ _ hr8, ← hr74 u b hr8, w74, hu, pSk_s hr8 c3, capP, subP]
      · intro x hx
        by_cases ex : x = k
        · subst ex; rw [e4, wi_s, upd_n _ _ (by omega), e3, wi_s, upd_n _ _ (by omega)]; exact hC x hx
        · rw [e4, wi_n _ _ _ (by omega), e3, wi_n _ _ _ (by omega)]; exact hC x hx
      · rw [e4, e3]; exact (hF.tr (FrC.in hb (by omega) (by omega))).tr (FrC.in hb (by omega) (by omega))
theorem f_Mill_skip {s : MS} {R : MS → Prop} (hS : SX g) (hH : HS g b) (et : t = 88 ∨ t = 104) (hm : g.2.2 28 0 = some t) (hb : HB b) (hE : EC e t s) (hC : CH b s) {q : Nat} (h : ∀ u, hr u b = pEq q (pSk q (eR e) (hr s b)) → CH b u → FrC b t s u → R u) : GV E m_Mill_skip [.ref 28, .ref b, .int (nI q)] g s R :=
  v_Mill_skip (Q := qV g R) b (nI q) (l_Mill_skip hS hH et hm hb hE h (eR e) 0 rfl (by omega) s (by
    funext j
    show _ = pSk q 0 (hr s b) j
    rw [pSk, if_neg (by omega), if_neg (by omega)]) hC (FrC.rf b t s))
theorem l_Mill_goOn {s : MS} {R : MS → Prop} (hS : SX g) (hH : HS g b) (et : t = 88 ∨ t = 104) (hm : g.2.2 28 0 = some t) (hb : HB b) (hA : EA e) (hE : EC e t s) (hV : ValOK E g e b t s) (hLv : LvC e) {T : Row} (x2 : Int32) (h : ∀ u, hr u b = T → CH b u → FrC b t s u → R u) : ∀ (m n : Nat), n ≤ m → n < 10000 → ∀ u, pMins e n (hr u b) = T → WFA e (hr u b) → CH b u → (∃ m, m + n < 1000000 ∧ hr u b 114 = nI m) → FrC b t s u → AWP E m_Mill_goOn 2 0 0 [(0, .ref 28), (1, .ref b), (2, .int x2), (3, .int (nI n))] [] (mk g u) (qV g R) := by
  intro m
  induction m with
  | zero =>
    intro n hn hn1 u hT hW hC hmi hF
    have hn0 : n = 0 := by omega
    subst hn0
    refine v_Mill_goOn_2 b x2 (nI 0) hS ⟨fun _ => GV.r (h u hT hC hF), fun c => absurd (show nI 0 ≤ 0 by decide) c⟩
  | succ m ih =>
    intro n hn hn1 u hT hW hC hmi hF
    rcases Nat.eq_zero_or_pos n with hn0 | hn0
    · subst hn0
      refine v_Mill_goOn_2 b x2 (nI 0) hS ⟨fun _ => GV.r (h u hT hC hF), fun c => absurd (show nI 0 ≤ 0 by decide) c⟩
    · have hEu := hE.mv et hb hF
      obtain ⟨mi, hmi, hmin⟩ := hmi
      refine v_Mill_goOn_2 b x2 (nI n) hS ⟨fun c => absurd c (nI_nle hn0 (by omega)), fun _ => f_Mill_quietMinutes hS hH et hm hEu hW hn0 hn1 (fun y hy => ⟨fun c => ?_, fun c => ?_⟩)⟩
      · refine f_Mill_goMinute hS hH et hm hb hEu (hV.mv hF) hLv hC hW.1 hW.2.1 (fun v q1 q2 q3 => ?_)
        have hd : nI n + (-1) = nI (n - 1) := by rw [← pk_sub hn0, Int32.sub_eq_add_neg]; rfl
        rw [hd]
        refine ih (n - 1) (by omega) (by omega) v ?_ ?_ q2 ⟨mi + 1, by omega, ?_⟩ (hF.tr q3)
        · rw [q1, ← hT, show n = (n - 1) + 1 by omega, pMins]; rfl
        · rw [q1]; exact hW.min hA
        · rw [q1, pMin_114 hA.1 hW.1, hmin, nI_1]
      · obtain ⟨q, rfl, hq1, hqn, hq⟩ : ∃ q, y = nI q ∧ 1 ≤ q ∧ q ≤ n ∧ Quiet e q (hr u b) := by
          rcases hy with z | z
          · exact absurd z c
          · exact z
        refine f_Mill_skip hS hH et hm hb hEu hC (fun v q1 q2 q3 => ?_)
        have hqm := quiet_mins hA q (by omega) ⟨mi, by omega, hmin⟩ hW hq
        rw [← hqm] at q1
        rw [pk_sub hqn]
        refine ih (n - q) (by omega) (by omega) v ?_ ?_ q2 ⟨mi + q, by omega, ?_⟩ (hF.tr q3)
        · rw [q1, ← pMins_add, show q + (n - q) = n by omega]; exact hT
        · rw [q1]; exact WFA.mins hA q hW
        · rw [q1, pMins_114 hA.1 q hW.1, hmin, nI_add]
theorem f_Mill_goOn {s : MS} {R : MS → Prop} (hS : SX g) (hH : HS g b) (et : t = 88 ∨ t = 104) (hm : g.2.2 28 0 = some t) (hb : HB b) (hA : EA e) (hE : EC e t s) (hV : ValOK E g e b t s) (hLv : LvC e) (hC : CH b s) (hW : WFA e (hr s b)) {n : Nat} (hn : n < 10000) (hmi : ∃ m, m + n < 1000000 ∧ hr s b 114 = nI m) (h : ∀ u, hr u b = pMins e n (hr s b) → CH b u → FrC b t s u → R u) : GV E m_Mill_goOn [.ref 28, .ref b, .int (nI n)] g s R :=
  v_Mill_goOn (Q := qV g R) b (nI n) (l_Mill_goOn hS hH et hm hb hA hE hV hLv (nI n) h n n (Nat.le_refl _) hn s rfl hW hC hmi (FrC.rf b t s))
end GoOn
