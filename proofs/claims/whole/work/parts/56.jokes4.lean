/-! JOKES: the reference's isSo; both searches; the pair -/
section Jokes2
variable {E : EN} {d : TD} {t lv c : Nat} {π : PS} {g : GS} {s : MS}
theorem le_pd {m L : Nat} (hm : m < 2 ^ 30) (hL : L < 2 ^ 30) : nI m ≤ nI L - 1 ↔ m < L := by
  have p := nI_pos' (n := m) (by omega)
  constructor
  · intro q
    exact (nI_ltI (by omega) (by omega)).mp ((lt_pred hL).mp ⟨p, q⟩).2
  · intro q
    exact ((lt_pred hL).mpr ⟨p, (nI_ltI (by omega) (by omega)).mpr q⟩).2
theorem f_Mo_isSo {R : Int32 → MS → Prop} (hS : SX g) (hO : TOk d) (J : IRf d lv π s) (hK : pK π ≤ 20 ∧ ∀ i, i < pK π → (pF π i).1 < nH d ∧ (pF π i).2.1 < nG d ∧ (pF π i).2.2.1 ≤ 99) {k h o w : Nat} (hk : k ≤ pK π) (hw : w ≤ 60) (h6 : h < 6) (o6 : o < 6) (hR : ∀ u, FrR s u → R (if FJ d π k h o w = true then 1 else 0) u) : GI E m_Mo_isSo [.ref 120, .int (nI h), .int (nI o), .int (nI w), .int (nI k)] g s R := by
  have g6 := hO.g6
  have hH := hO.h6
  have K := J.1
  have F0 := J.2.2.2.2.1
  have fx : ∀ u, FrR s u → ∀ i, i < k → u.1 167 i = nI (pF π i).1 ∧ u.1 168 i = nI (pF π i).2.1 ∧ u.1 169 i = nI (pF π i).2.2.1 ∧ u.1 170 i = (pF π i).2.2.2 := fun u hu i hi => by
    rw [hu.1 167 (by decide) (by decide) (by decide) (by decide) (by decide) (by decide), hu.1 168 (by decide) (by decide) (by decide) (by decide) (by decide) (by decide), hu.1 169 (by decide) (by decide) (by decide) (by decide) (by decide) (by decide), hu.1 170 (by decide) (by decide) (by decide) (by decide) (by decide) (by decide)]
    exact F0.2 i (by omega)
  let ok : Nat → Prop := fun i => jR d h o w (pF π i).2.2.1 (6 + 6 * (pF π i).1 + (pF π i).2.1) = (pF π i).2.2.2
  have yes : (∀ i, i < k → ok i) → ∀ u, FrR s u → R 1 u := fun q u hu => by
    have e : FJ d π k h o w = true := decide_eq_true q
    have := hR u hu
    rw [e] at this; exact this
  have no : ∀ i, i < k → ¬ ok i → ∀ u, FrR s u → R 0 u := fun i hi q u hu => by
    have e : FJ d π k h o w = false := decide_eq_false (fun w => q (w i hi))
    have := hR u hu
    rw [e] at this; exact this
  have l74 : ∀ (L n : Nat) u, n ≤ 99 → FrR s u → nm (dE d) (u.1 163) = jR d h o w n → (∀ i, i < k → (pF π i).2.2.1 < n → ok i) → ((∀ i, i < k → (pF π i).2.2.1 < n + 1 → ok i) → GV E m_Mo_minuteGoes [.ref 120] g u (fun t1_ => AWP E m_Mo_isSo 47 0 0 [(0, .ref 120), (1, .int (nI h)), (2, .int (nI o)), (3, .int (nI w)), (4, .int (nI k)), (5, .int (nI L - 1)), (6, .int (nI (n + 1)))] [] (mk g t1_) (qI g R))) → AWP E m_Mo_isSo 74 0 0 [(0, .ref 120), (1, .int (nI h)), (2, .int (nI o)), (3, .int (nI w)), (4, .int (nI k)), (5, .int (nI L - 1)), (6, .int (nI n)), (7, .int (nI 0))] [] (mk g u) (qI g R) := by
    intro L n u hn hu hN a1 a2
    refine upto (P := fun i => (∀ j, j < i → (pF π j).2.2.1 = n → ok j) → AWP E m_Mo_isSo 74 0 0 [(0, .ref 120), (1, .int (nI h)), (2, .int (nI o)), (3, .int (nI w)), (4, .int (nI k)), (5, .int (nI L - 1)), (6, .int (nI n)), (7, .int (nI i))] [] (mk g u) (qI g R)) k ?_ ?_ 0 (Nat.zero_le _) (fun j hj => absurd hj (by omega))
    · intro b
      refine v_Mo_isSo_74 _ _ _ _ _ _ _ hS (pk_le k k (fun _ => ?_) (fun q => absurd q (by omega)))
      rw [nI_1 n]
      refine a2 (fun i hi hm => ?_)
      by_cases z : (pF π i).2.2.1 = n
      · exact b i hi z
      · exact a1 i hi (by omega)
    · intro i hi ih b
      obtain ⟨f1, f2, f3, f4⟩ := fx u hu i hi
      obtain ⟨l1, l2, l3⟩ := hK.2 i (by omega)
      refine v_Mo_isSo_74 _ _ _ _ _ _ _ hS (pk_le k i (fun q => absurd q (by omega)) (fun _ => ⟨vp_in_nI (by omega) (by omega), ?_⟩))
      rw [tn_n (by omega), f1, f2, f3, f4, z6, tn_n (by omega), nI_1 i]
      refine pk_eq _ n (fun z => ⟨vp_in_nI (by omega) (by omega), ?_⟩) (fun z => ih (fun j hj e => ?_)) rfl rfl (by omega) (by omega)
      · have ce : u.1 163 (6 + 6 * (pF π i).1 + (pF π i).2.1) = jR d h o w (pF π i).2.2.1 (6 + 6 * (pF π i).1 + (pF π i).2.1) := by rw [← nm42 (e := dE d) (R := u.1 163) (by omega), hN, z]
        rw [ce]
        refine ⟨fun q => ih (fun j hj e => ?_), fun q => GI.r (no i hi q u hu)⟩
        by_cases y : j = i
        · rw [y]; exact q
        · exact b j (by omega) e
      · by_cases y : j = i
        · rw [y] at e; exact absurd e z
        · exact b j (by omega) e
  have l47 : ∀ L, L ≤ 100 → (∀ i, i < k → (pF π i).2.2.1 < L) → ∀ u, nm (dE d) (u.1 163) = beg d → u.1 164 = eFa (dE d) → u.1 120 61 = eSd (dE d) → FrR s u → AWP E m_Mo_isSo 47 0 0 [(0, .ref 120), (1, .int (nI h)), (2, .int (nI o)), (3, .int (nI w)), (4, .int (nI k)), (5, .int (nI L - 1)), (6, .int (nI 0))] [] (mk g u) (qI g R) := by
    intro L hL hm u0 p1 p2 p3 p4
    refine upto (P := fun n => ∀ u, nm (dE d) (u.1 163) = (if n ≤ w then pMins (dE d) n (beg d) else jR d h o w n) → u.1 164 = eFa (dE d) → u.1 120 61 = eSd (dE d) → FrR s u → (∀ i, i < k → (pF π i).2.2.1 < n → ok i) → AWP E m_Mo_isSo 47 0 0 [(0, .ref 120), (1, .int (nI h)), (2, .int (nI o)), (3, .int (nI w)), (4, .int (nI k)), (5, .int (nI L - 1)), (6, .int (nI n))] [] (mk g u) (qI g R)) L ?_ ?_ 0 (Nat.zero_le _) u0 (by rw [if_pos (by omega)]; exact p1) p2 p3 p4 (fun i _ q => absurd q (by omega))
    · intro u a1 a2 a3 a4 a5
      refine v_Mo_isSo_47 _ _ _ _ _ _ hS ⟨fun _ => GI.r (yes (fun i hi => a5 i hi (hm i hi)) u a4), fun q => absurd ((le_pd (m := L) (L := L) (by omega) (by omega)).mp (Int32.not_lt.mp q)) (by omega)⟩
    · intro n hn ih u a1 a2 a3 a4 a5
      refine v_Mo_isSo_47 _ _ _ _ _ _ hS ⟨fun q => absurd ((le_pd (m := n) (L := L) (by omega) (by omega)).mpr hn) (Int32.not_le.mpr q), fun _ => ?_⟩
      have fin : ∀ v, FrR s v → nm (dE d) (v.1 163) = jR d h o w n → v.1 164 = eFa (dE d) → v.1 120 61 = eSd (dE d) → AWP E m_Mo_isSo 74 0 0 [(0, .ref 120), (1, .int (nI h)), (2, .int (nI o)), (3, .int (nI w)), (4, .int (nI k)), (5, .int (nI L - 1)), (6, .int (nI n)), (7, .int (nI 0))] [] (mk g v) (qI g R) := by
        intro v b1 b2 b3 b4
        refine l74 L n v (by omega) b1 b2 a5 (fun a6 => ?_)
        refine k_minuteGoes hS hO (K.mv b1) b3 b4 b2 (wfa_jR hO h o w n) (fun z z1 z2 => ih z ?_ (z2.fa.trans b3) (z2.l.trans b4) (b1.tr z2.R) a6)
        rw [z1, eV_self]
        by_cases q : n + 1 ≤ w
        · rw [if_pos q]
          unfold jR
          rw [if_pos (Or.inr (by omega)), pMins_s]
        · rw [if_neg q]
          unfold jR
          by_cases e : h = o
          · rw [if_pos (Or.inl e), if_pos (Or.inl e), pMins_s]
          · rw [if_neg (by omega), if_neg (by omega), ← ad_min hO.1.1 (wfa_begs hO n).1, pMins_s]
      have same : ¬ (n = w ∧ h ≠ o) → nm (dE d) (u.1 163) = jR d h o w n := fun q => by
        rw [a1]
        split
        · unfold jR
          by_cases e : h = o
          · rw [if_pos (Or.inl e)]
          · rw [if_pos (Or.inr (by omega))]
        · rfl
      refine pk_eq n w (fun c1 => pk_eq h o (fun c2 => fin u a4 (same (by omega)) a2 a3) (fun c2 => ?_)) (fun c1 => fin u a4 (same (by omega)) a2 a3)
      refine k_swaps hS h6 o6 a1 (fun v v1 v2 => fin v (a4.tr v2.R) ?_ (v2.fa.trans a2) (v2.l.trans a3))
      rw [v1, if_pos (by omega), pX_ad h6 o6 c2]
      unfold jR
      rw [if_neg (by omega), c1]
  refine v_Mo_isSo (Q := qI g R) _ _ _ _ hS ?_
  refine f_Mo_begins hS hO K (fun u b1 b2 b3 b4 b5 => ?_)
  refine upto (P := fun j => ∀ L, L ≤ 100 → (∀ i, i < j → (pF π i).2.2.1 < L) → AWP E m_Mo_isSo 10 0 0 [(0, .ref 120), (1, .int (nI h)), (2, .int (nI o)), (3, .int (nI w)), (4, .int (nI k)), (5, .int (nI L - 1)), (6, .int (nI j))] [] (mk g u) (qI g R)) k ?_ ?_ 0 (Nat.zero_le _) 0 (by omega) (fun i hi => absurd hi (by omega))
  · intro L hL a
    exact v_Mo_isSo_10 _ _ _ _ _ _ hS (pk_le k k (fun _ => l47 L hL a u b3 b1 b2 b4) (fun q => absurd q (by omega)))
  · intro j hj ih L hL a
    obtain ⟨f1, f2, f3, f4⟩ := fx u b4 j hj
    obtain ⟨l1, l2, l3⟩ := hK.2 j (by omega)
    refine v_Mo_isSo_10 _ _ _ _ _ _ hS (pk_le k j (fun q => absurd q (by omega)) (fun _ => ⟨vp_in_nI (by omega) (by omega), ?_⟩))
    rw [tn_n (by omega), f3, nI_1 j]
    refine ⟨fun q => ?_, fun q => ?_⟩
    · have := (le_pd (by omega) (by omega)).mp q
      refine ih L hL (fun i hi => ?_)
      by_cases z : i = j
      · rw [z]; exact this
      · exact a i (by omega)
    · have lq : ¬ (pF π j).2.2.1 < L := fun z => q ((le_pd (by omega) (by omega)).mpr z)
      have e : nI (pF π j).2.2.1 = nI ((pF π j).2.2.1 + 1) - 1 := by rw [← nI_1]; grind
      rw [e]
      refine ih _ (by omega) (fun i hi => ?_)
      by_cases z : i = j
      · rw [z]; omega
      · have := a i (by omega)
        omega
def jokesA (d : TD) (π : PS) (x1 x2 : Int32) : Int32 := if ¬ (0 ≤ x1 ∧ x1 ≤ nI (pK π)) then -1 else if ¬ -1 ≤ x2 then -1 else if FJ d π x1.toNatClampNeg 0 0 0 = true then (if x2 = 0 then -3 else jgo x2 (jc1 (FJ d π x1.toNatClampNeg) (nH d) (nH d)) 1) else jgo x2 (jc1 (FJ d π x1.toNatClampNeg) (nH d) (nH d)) 0
theorem f_seekJoke {R : Int32 → MS → Prop} (I : ICl d t π g s) (hP : IPu d c π) (h1 : s.1 56 6 = 1) {k : Nat} {x : Int32} (hk : k ≤ pK π) (hR : R (if FJ d π k 0 0 0 = true then (if x = 0 then -3 else jgo x (jc1 (FJ d π k) (nH d) (nH d)) 1) else jgo x (jc1 (FJ d π k) (nH d) (nH d)) 0) s) : GI E m_Facts_seekJoke [.ref 56, .int (nI (nH d)), .int (nI k), .int x] g s R := by
  have hS := I.1.sx
  have hO := I.1.o
  have h6 := hO.h6
  have hF : Fact π s := I.2.2.2.2.2.2.2.1
  have hN : ∀ n, n ≤ 99 → ∀ c, c < 36 → s.1 61 (36 * n + c) = pMins (dE d) n (beg d) (6 + c) := by
    rcases I.2.2.2.2.2.2.2.2.1.1 with q | q
    · rw [h1] at q; exact absurd q (by decide)
    · exact q.2
  have hK := hP.2.2.2.2.1
  have sk : ∀ f ans, jgo x (jc1 (FJ d π k) (nH d) (nH d)) f = ans → R ans s → AWP E m_Facts_seekJoke 27 0 0 [(0, .ref 56), (1, .int (nI (nH d))), (2, .int (nI k)), (3, .int x), (4, .int f), (5, .int (nI 0))] [] (mk g s) (qI g R) := by
    intro f ans e hr
    have := jseek (B := FJ d π k) (H := nH d) (x := x) (ans := ans) (S := fun u => u = s) (A27 := fun h f u => AWP E m_Facts_seekJoke 27 0 0 [(0, .ref 56), (1, .int (nI (nH d))), (2, .int (nI k)), (3, .int x), (4, .int f), (5, .int (nI h))] [] (mk g u) (qI g R)) (A39 := fun h o f u => AWP E m_Facts_seekJoke 39 0 0 [(0, .ref 56), (1, .int (nI (nH d))), (2, .int (nI k)), (3, .int x), (4, .int f), (5, .int (nI h)), (6, .int (nI o))] [] (mk g u) (qI g R)) (A48 := fun h o n f u => AWP E m_Facts_seekJoke 48 0 0 [(0, .ref 56), (1, .int (nI (nH d))), (2, .int (nI k)), (3, .int x), (4, .int f), (5, .int (nI h)), (6, .int (nI o)), (7, .int (nI n))] [] (mk g u) (qI g R)) (Rr := R) ?_ ?_ ?_ (fun u hu => by rw [hu]; exact hr) (nH d) (Nat.le_refl _) f s rfl e
    · rw [Nat.sub_self] at this; exact this
    · intro h f u hu hh a b
      refine v_Facts_seekJoke_27 _ _ _ _ _ (pk_le (nH d) h (fun q => ⟨fun z => GI.r ?_, fun z => GI.r ?_⟩) (fun q => ?_))
      · have := a q; rw [if_pos z] at this; exact this
      · have := a q; rw [if_neg z] at this; exact this
      · rw [nI_1 h]; exact b q
    · intro h o f u hu hh ho a b
      refine v_Facts_seekJoke_39 _ _ _ _ _ _ (pk_le (nH d) o (fun q => ?_) (fun q => b q))
      rw [nI_1 h]; exact a q
    · intro h o n f u hu hho ho hn a b
      refine v_Facts_seekJoke_48 _ _ _ _ _ _ _ hS (pk_lt 60 n (fun q => ?_) (fun q => ?_))
      · rw [nI_1 o]; exact a (by omega)
      · rw [hu]
        have b' := b q s rfl
        rw [nI_1 n]
        refine f_Facts_fits (h := h) (o := o) hO hS hF hK hN hk q (Or.inr ⟨rfl, rfl, by omega, by omega, by omega⟩) ?_
        cases e : FJ d π k h o n with
        | false => exact ⟨fun _ => b'.1 e, fun z => absurd rfl z⟩
        | true => exact ⟨fun z => absurd z (by decide), fun _ => ⟨fun z => GI.r ((b'.2 e).1 z), fun z => (b'.2 e).2 z⟩⟩
  refine v_Facts_seekJoke (Q := qI g R) _ _ _ hS ?_
  refine f_Facts_fits (h := 0) (o := 0) (w := 0) hO hS hF hK hN hk (by omega) (Or.inl ⟨rfl, rfl, rfl⟩) ?_
  cases e : FJ d π k 0 0 0 with
  | false =>
    rw [e] at hR
    exact ⟨fun _ => sk 0 _ rfl hR, fun z => absurd rfl z⟩
  | true =>
    rw [e, if_pos rfl] at hR
    refine ⟨fun z => absurd z (by decide), fun _ => ⟨fun z => GI.r ?_, fun z => ?_⟩⟩
    · rw [if_pos z] at hR; exact hR
    · rw [if_neg z] at hR
      exact sk 1 _ rfl hR
theorem f_Mo_jokes {R : Int32 → MS → Prop} {x1 x2 : Int32} (hS : SX g) (hO : TOk d) (J : IRf d lv π s) (hP : IPu d c π) (hR : ∀ u, FrR s u → R (jokesA d π x1 x2) u) : GI E m_Mo_jokes [.ref 120, .int x1, .int x2] g s R := by
  have h6 := hO.h6
  have hK := hP.2.2.2.2.1
  have F0 := J.2.2.2.2.1
  refine v_Mo_jokes (Q := qI g R) _ _ hS ?_
  rw [F0.1]
  refine f_Mo_in (fun q => ⟨fun _ => GI.r ?_, fun z => absurd rfl z⟩) (fun q => ⟨fun z => absurd z (by decide), fun _ => ⟨fun q2 => ?_, fun q2 => GI.r ?_⟩⟩)
  · have := hR s (FrR.rf s)
    unfold jokesA at this
    rw [if_pos q] at this; exact this
  · unfold jokesA at hR
    rw [if_neg (fun z => z q), if_neg (fun z => z q2)] at hR
    obtain ⟨k, hk, rfl⟩ := le_ex (by omega) rfl q
    rw [tn_n (by omega)] at hR
    have sk : ∀ f ans u, FrR s u → jgo x2 (jc1 (FJ d π k) (nH d) (nH d)) f = ans → (∀ u, FrR s u → R ans u) → AWP E m_Mo_jokes 45 0 0 [(0, .ref 120), (1, .int (nI k)), (2, .int x2), (3, .int f), (4, .int (nI 0))] [] (mk g u) (qI g R) := by
      intro f ans u0 hu0 e hr
      have := jseek (B := FJ d π k) (H := nH d) (x := x2) (ans := ans) (S := fun u => FrR s u) (A27 := fun h f u => AWP E m_Mo_jokes 45 0 0 [(0, .ref 120), (1, .int (nI k)), (2, .int x2), (3, .int f), (4, .int (nI h))] [] (mk g u) (qI g R)) (A39 := fun h o f u => AWP E m_Mo_jokes 65 0 0 [(0, .ref 120), (1, .int (nI k)), (2, .int x2), (3, .int f), (4, .int (nI h)), (5, .int (nI o))] [] (mk g u) (qI g R)) (A48 := fun h o n f u => AWP E m_Mo_jokes 82 0 0 [(0, .ref 120), (1, .int (nI k)), (2, .int x2), (3, .int f), (4, .int (nI h)), (5, .int (nI o)), (6, .int (nI n))] [] (mk g u) (qI g R)) (Rr := R) ?_ ?_ ?_ hr (nH d) (Nat.le_refl _) f u0 hu0 e
      · rw [Nat.sub_self] at this; exact this
      · intro h f u hu hh a b
        have K' := J.1.mv hu
        have hv := K'.2.2.1
        refine v_Mo_jokes_45 _ _ _ _ hS ?_
        rw [K'.2.1, tn_n (by omega), K'.1.ho]
        refine ⟨vp_in_nI (by omega) (by omega), pk_le (nH d) h (fun q => ⟨fun z => GI.r ?_, fun z => GI.r ?_⟩) (fun q => ?_)⟩
        · have := a q; rw [if_pos z] at this; exact this
        · have := a q; rw [if_neg z] at this; exact this
        · rw [nI_1 h]; exact b q
      · intro h o f u hu hh ho a b
        have K' := J.1.mv hu
        have hv := K'.2.2.1
        refine v_Mo_jokes_65 _ _ _ _ _ hS ?_
        rw [K'.2.1, tn_n (by omega), K'.1.ho]
        refine ⟨vp_in_nI (by omega) (by omega), pk_le (nH d) o (fun q => ?_) (fun q => b q)⟩
        rw [nI_1 h]; exact a q
      · intro h o n f u hu hho ho hn a b
        refine v_Mo_jokes_82 _ _ _ _ _ _ hS (pk_lt 60 n (fun q => ?_) (fun q => ?_))
        · rw [nI_1 o]; exact a (by omega)
        · rw [nI_1 n]
          refine f_Mo_isSo (h := h) (o := o) (w := n) hS hO (J.r hu) hK hk q (by omega) (by omega) (fun v hv => ?_)
          have b' := b q v (hu.tr hv)
          cases e : FJ d π k h o n with
          | false => exact ⟨fun _ => b'.1 e, fun z => absurd rfl z⟩
          | true => exact ⟨fun z => absurd z (by decide), fun _ => ⟨fun z => GI.r ((b'.2 e).1 z.symm), fun z => (b'.2 e).2 (fun y => z y.symm)⟩⟩
    refine f_Mo_isSo (h := 0) (o := 0) (w := 0) hS hO J hK hk (by omega) (by omega) (by omega) (fun v hv => ?_)
    cases e : FJ d π k 0 0 0 with
    | false =>
      rw [e] at hR
      exact ⟨fun _ => sk 0 _ v hv rfl hR, fun z => absurd rfl z⟩
    | true =>
      rw [e, if_pos rfl] at hR
      refine ⟨fun z => absurd z (by decide), fun _ => ⟨fun z => GI.r ?_, fun z => ?_⟩⟩
      · rw [if_pos z] at hR; exact hR v hv
      · rw [if_neg z] at hR
        exact sk 1 _ v hv rfl hR
  · have := hR s (FrR.rf s)
    unfold jokesA at this
    rw [if_neg (fun z => z q), if_pos q2] at this; exact this
theorem FWt.FC {u : MS} (et : t = 88 ∨ t = 104) (h : FWt t s u) : FC s u := ⟨fun a h1 h2 => h.1 a (by omega) (by omega) (by omega) (by omega) (by omega), fun a _ _ => by rw [h.2.2.2]⟩
theorem o_jokes {x1 x2 : Int32} {Q : Int32 → Int32 → MS → Prop} (I : INV d t lv c π g s) (hq : ∀ A v, INV d t lv c π g v → Q A A v) : GI E m_Rs_jokes [.ref 16, .int x1, .int x2] g s (fun y u => GI E m_Mo_jokes [.ref 120, .int x1, .int x2] g u (fun y' v => Q y y' v)) := by
  have hS := I.1.1.sx
  have hO := I.1.1.o
  have h6 := hO.h6
  have et := I.1.1.et
  have hK := I.2.2.2.2.2.2.1
  have fin : ∀ u, ICl d t π g u → IRf d lv π u → GI E m_Mo_jokes [.ref 120, .int x1, .int x2] g u (fun y' v => Q (jokesA d π x1 x2) y' v) := fun u C J =>
    f_Mo_jokes hS hO J I.2.2 (fun v hv => hq _ v ⟨C.mv hv.F, J.r hv, I.2.2⟩)
  have ne : ¬ (0 ≤ x1 ∧ x1 ≤ nI (pK π)) ∨ ¬ -1 ≤ x2 → jokesA d π x1 x2 = -1 := fun q => by
    unfold jokesA
    split
    · rfl
    · rename_i w
      rw [if_pos (q.resolve_left w)]
  have F1 : s.1 56 7 = nI (pK π) := I.1.2.2.2.2.2.2.2.1.1
  refine v_Rs_jokes (Q := qI g _) _ _ t hS et I.1.1.ht ?_
  rw [F1]
  refine ⟨fun q => GI.r ?_, fun q => ⟨fun q2 => GI.r ?_, fun q2 => ⟨fun q3 => ?_, fun q3 => GI.r ?_⟩⟩⟩
  · have := fin s I.1 I.2.1
    rw [ne (Or.inl fun w => absurd q (Int32.not_lt.mpr w.1))] at this; exact this
  · have := fin s I.1 I.2.1
    rw [ne (Or.inl fun w => absurd q2 (Int32.not_lt.mpr w.2))] at this; exact this
  · refine f_Facts_watch I.1 (fun u C o1 F => ?_)
    obtain ⟨k, hk, rfl⟩ := le_ex (by omega) rfl ⟨Int32.not_lt.mp q, Int32.not_lt.mp q2⟩
    rw [C.1.tc.ho]
    refine f_seekJoke C I.2.2 o1 hk (GI.r ?_)
    have J := I.2.1.mv (F.FC et)
    have := fin u C J
    unfold jokesA at this
    rw [if_neg (fun z => z ⟨Int32.not_lt.mp q, Int32.not_lt.mp q2⟩), if_neg (fun z => z q3), tn_n (by omega)] at this
    exact this
  · have := fin s I.1 I.2.1
    rw [ne (Or.inr q3)] at this; exact this
end Jokes2
