/-! what is asked of the house as it is: heap, hole, rat, worth, pure -/
def heapA (d : TD) (N : Row) (x : Int32) : Int32 := if 0 ≤ x ∧ x < nI (nG d) then N x.toNatClampNeg else -1
def holeA (d : TD) (N : Row) (x1 x2 : Int32) : Int32 := if (0 ≤ x1 ∧ x1 < nI (nH d)) ∧ 0 ≤ x2 ∧ x2 < nI (nG d) then N (6 + 6 * x1.toNatClampNeg + x2.toNatClampNeg) else -1
def ratA (d : TD) (N : Row) (x1 x2 : Int32) : Int32 := if (0 ≤ x1 ∧ x1 < nI (nR d)) ∧ 0 ≤ x2 ∧ x2 ≤ 8 then N (42 + 8 * x2.toNatClampNeg + x1.toNatClampNeg) else -1
def worthA (d : TD) (N : Row) (x : Int32) : Int32 := if 0 ≤ x ∧ x < nI (nH d) then wOf d N x.toNatClampNeg else -1
def pureB (N : Row) (ow h : Nat) (x2 : Int32) : Int32 := if rsum N (6 + 6 * h) 6 = 0 then (if x2 = 0 then 0 else 1) else if x2 = 0 then nI ((N (6 + 6 * h + ow)).toNatClampNeg / Nat.gcd (N (6 + 6 * h + ow)).toNatClampNeg (rsum N (6 + 6 * h) 6).toNatClampNeg) else nI ((rsum N (6 + 6 * h) 6).toNatClampNeg / Nat.gcd (N (6 + 6 * h + ow)).toNatClampNeg (rsum N (6 + 6 * h) 6).toNatClampNeg)
def pureA (d : TD) (N : Row) (x1 x2 : Int32) : Int32 := if 0 ≤ x1 ∧ x1 < nI (nH d) then pureB N (dOw d x1.toNatClampNeg) x1.toNatClampNeg x2 else -1
theorem hole_n {e : PE} {N : Row} {B h k : Nat} (hB : B < 2 ^ 30) (w : WF4 e B N) (hh : h < 6) (hk : k < 6) : ∃ o a, o ≤ a ∧ a ≤ B ∧ rsum N (6 + 6 * h) 6 = nI a ∧ N (6 + 6 * h + k) = nI o := by
  have rs : ∀ n, n ≤ 6 → rsum N (6 + 6 * h) n = nI (tsum N (6 + 6 * h) n) := by
    intro n
    induction n with
    | zero => intro _; rfl
    | succ n ih =>
      intro hn
      obtain ⟨a, ha, hae⟩ := i_nn (w.1 (6 + 6 * h + n) (by omega))
      rw [rsum, tsum, ih (by omega), hae, tn_n ha, nI_add]
  have sub : tsum N (6 + 6 * h) 6 ≤ B := by
    have := tsum_sh (N := N) (a := 6 + 6 * h) 6
    have := tsum_mono (R := N) (o := 0) (show 6 + 6 * h + 6 ≤ 42 by omega)
    have := w.2.2.1
    unfold tot at this
    omega
  obtain ⟨o, ho, hoe⟩ := i_nn (w.1 (6 + 6 * h + k) (by omega))
  have lo : o ≤ tsum N (6 + 6 * h) 6 := by
    have := tsum_le (R := N) (o := 6 + 6 * h) (j := k) 6 (by omega)
    rw [hoe, tn_n ho] at this; exact this
  exact ⟨o, _, lo, sub, rs 6 (Nat.le_refl _), hoe⟩
/-- rests in a row halve -/
theorem half {S r : Nat} (hr : 0 < r) (h : r < S) : 2 * (S % r) < S := by
  have h1 : S % r < r := Nat.mod_lt _ hr
  have h2 := Nat.div_add_mod S r
  have h3 : 1 ≤ S / r := Nat.div_pos (by omega) hr
  have h4 : r * 1 ≤ r * (S / r) := Nat.mul_le_mul_left _ h3
  omega
section Ask
variable {E : EN} {g : GS} {b t lv : Nat} {d : TD} {s : MS} {N : Row}
theorem max1 {L : Nat} (h0 : 0 < L) (h1 : L < 2 ^ 31) : (if 1 < nI L then nI L else 1) = nI L := by
  by_cases c : 1 < L
  · rw [if_pos (show (1 : Int32) < nI L from nI_lt (a := 1) c h1)]
  · rw [show L = 1 by omega]; decide
theorem f_Rs_commonDivisor {R : Int32 → MS → Prop} {o a : Nat} (ho : o < 2 ^ 30) (ha : a < 2 ^ 30) (h1 : 0 < a) (h : R (nI (Nat.gcd o a)) s) : GI E m_Rs_commonDivisor [.int (nI o), .int (nI a)] g s R := by
  refine v_Rs_commonDivisor (Q := qI g R) _ _ ?_
  have fin : ∀ L, 0 < L → L < 2 ^ 30 → L = Nat.gcd o a → R (nI L) s := by
    intro L l0 l1 e
    subst e
    exact h
  have lp : ∀ f S L i, S < 2 ^ f → L < 2 ^ 30 → S < 2 ^ 30 → 0 < L → (S < L ∨ 2 * f + 1 + i ≤ 64) → 2 * f + i ≤ 64 → Nat.gcd S L = Nat.gcd o a → AWP E m_Rs_commonDivisor 7 0 0 [(0, .int (nI o)), (1, .int (nI a)), (2, .int (nI L)), (3, .int (nI S)), (4, .int (nI i))] [] (mk g s) (qI g R) := by
    intro f
    induction f with
    | zero =>
      intro S L i h1 h2 h3 h4 h5 h6 h7
      have : S = 0 := by rw [Nat.pow_zero] at h1; omega
      subst this
      rw [Nat.gcd_zero_left] at h7
      refine v_Rs_commonDivisor_7 _ _ _ _ _ (pk_le 64 i (fun _ => GI.r (fin L h4 h2 h7)) (fun _ => ⟨fun _ => GI.r (fin L h4 h2 h7), fun q => absurd (by decide) q⟩))
    | succ f ih =>
      intro S L i h1 h2 h3 h4 h5 h6 h7
      rcases Nat.eq_zero_or_pos S with z | z
      · subst z
        rw [Nat.gcd_zero_left] at h7
        exact v_Rs_commonDivisor_7 _ _ _ _ _ (pk_le 64 i (fun _ => GI.r (fin L h4 h2 h7)) (fun _ => ⟨fun _ => GI.r (fin L h4 h2 h7), fun q => absurd (by decide) q⟩))
      · refine v_Rs_commonDivisor_7 _ _ _ _ _ (pk_le 64 i (fun q => absurd q (by omega)) (fun _ => ⟨fun q => absurd q (nI_nle z (by omega)), fun _ => ⟨nI_ne0 z (by omega), ?_⟩⟩))
        rw [pk_rem (by omega) z (by omega), nI_1]
        have r1 : L % S < S := Nat.mod_lt _ z
        have g1 : Nat.gcd (L % S) S = Nat.gcd o a := by rw [← Nat.gcd_rec]; exact h7
        rcases Nat.eq_zero_or_pos (L % S) with y | y
        · rw [y] at g1 ⊢
          rw [Nat.gcd_zero_left] at g1
          exact v_Rs_commonDivisor_7 _ _ _ _ _ (pk_le 64 (i + 1) (fun _ => GI.r (fin S z h3 g1)) (fun _ => ⟨fun _ => GI.r (fin S z h3 g1), fun q => absurd (by decide) q⟩))
        · refine v_Rs_commonDivisor_7 _ _ _ _ _ (pk_le 64 (i + 1) (fun q => absurd q (by omega)) (fun _ => ⟨fun q => absurd q (nI_nle y (by omega)), fun _ => ⟨nI_ne0 y (by omega), ?_⟩⟩))
          rw [pk_rem (by omega) y (by omega), nI_1]
          have hh := half y r1
          have r2 : S % (L % S) < L % S := Nat.mod_lt _ y
          refine ih _ _ _ ?_ (by omega) (by omega) y (Or.inl r2) (by omega) (by rw [← Nat.gcd_rec]; exact g1)
          rw [Nat.pow_succ] at h1
          omega
  have := lp 30 o a 0 ho ha ho h1 (Or.inr (by omega)) (by omega) rfl
  exact this
theorem f_Mo_common {R : Int32 → MS → Prop} {o a : Nat} (ho : o < 2 ^ 30) (ha : a < 2 ^ 30) (h : R (nI (Nat.gcd o a)) s) : GI E m_Mo_common [.int (nI o), .int (nI a)] g s R := by
  refine v_Mo_common (Q := qI g R) _ _ ?_
  have lp : ∀ f X Y, Y ≤ f → X < 2 ^ 30 → Y < 2 ^ 30 → Nat.gcd X Y = Nat.gcd o a → AWP E m_Mo_common 4 0 0 [(0, .int (nI o)), (1, .int (nI a)), (2, .int (nI X)), (3, .int (nI Y))] [] (mk g s) (qI g R) := by
    intro f
    induction f with
    | zero =>
      intro X Y h1 h2 h3 h4
      have : Y = 0 := Nat.eq_zero_of_le_zero h1
      subst this
      rw [Nat.gcd_zero_right] at h4
      exact v_Mo_common_4 _ _ _ _ ⟨fun _ => GI.r (by rw [h4]; exact h), fun q => absurd rfl q⟩
    | succ f ih =>
      intro X Y h1 h2 h3 h4
      rcases Nat.eq_zero_or_pos Y with z | z
      · subst z
        rw [Nat.gcd_zero_right] at h4
        exact v_Mo_common_4 _ _ _ _ ⟨fun _ => GI.r (by rw [h4]; exact h), fun q => absurd rfl q⟩
      · refine v_Mo_common_4 _ _ _ _ ⟨fun q => absurd q (nI_ne0 z (by omega)), fun q => ⟨q, ?_⟩⟩
        rw [pk_rem (by omega) z (by omega)]
        have r1 : X % Y < Y := Nat.mod_lt _ z
        refine ih Y (X % Y) (by omega) h3 (by omega) ?_
        rw [← h4, Nat.gcd_comm Y, Nat.gcd_comm X Y, Nat.gcd_rec Y X]
  exact lp a o a (Nat.le_refl _) ho ha rfl
theorem c_heap {R : Int32 → MS → Prop} {x : Int32} (P : PC d g t N s) (h : R (heapA d N x) s) : GI E m_Rs_heap [.ref 16, .int x] g s R := by
  have g6 := P.1.o.g6
  refine v_Rs_heap (Q := qI g R) _ t P.1.sx P.1.et P.1.ht ?_
  rw [P.1.tc.gr]
  refine f_Rs_isOf (fun q => ⟨fun _ => GI.r ?_, fun c => absurd rfl c⟩) (fun q => ⟨fun c => absurd c (by decide), fun _ => ?_⟩)
  · rw [heapA, if_neg q] at h; exact h
  · rw [heapA, if_pos q] at h
    obtain ⟨k, hk, rfl⟩ := lt_ex (by omega) q
    rw [tn_n (by omega)] at h
    rw [tn_n (by omega)]
    have e : s.1 75 k = N k := by rw [← q_at P.2.1 (lvb_of (k := k) (by omega))]; exact (hr_hp s 74 (by omega)).symm
    rw [e]
    exact ⟨vp_in_nI (by omega) (by omega), GI.r h⟩
theorem r_heap {R : Int32 → MS → Prop} {x : Int32} (hS : SX g) (hO : TOk d) (P : PR d lv N s) (h : R (heapA d N x) s) : GI E m_Mo_heap [.ref 120, .int x] g s R := by
  have g6 := hO.g6
  refine v_Mo_heap (Q := qI g R) _ hS (f_Mo_isGrain hS hO P.1 (fun q => ⟨fun _ => GI.r ?_, fun c => absurd rfl c⟩) (fun q => ⟨fun c => absurd c (by decide), fun _ => ?_⟩))
  · rw [heapA, if_neg q] at h; exact h
  · rw [heapA, if_pos q] at h
    obtain ⟨k, hk, rfl⟩ := lt_ex (by omega) q
    rw [tn_n (by omega)] at h
    rw [tn_n (by omega), q_at P.2 (lvb_of (by omega))]
    exact ⟨vp_in_nI (by omega) (by omega), GI.r h⟩
theorem c_hole {R : Int32 → MS → Prop} {x1 x2 : Int32} (P : PC d g t N s) (h : R (holeA d N x1 x2) s) : GI E m_Rs_hole [.ref 16, .int x1, .int x2] g s R := by
  have g6 := P.1.o.g6
  have h6 := P.1.o.h6
  refine v_Rs_hole (Q := qI g R) _ _ t P.1.sx P.1.et P.1.ht ?_
  rw [P.1.tc.ho]
  refine f_Rs_isOf (fun q => ⟨fun _ => GI.r ?_, fun c => absurd rfl c⟩) (fun q => ⟨fun c => absurd c (by decide), fun _ => ?_⟩)
  · rw [holeA, if_neg (fun w => q w.1)] at h; exact h
  · rw [P.1.tc.gr]
    refine f_Rs_isOf (fun q2 => ⟨fun _ => GI.r ?_, fun c => absurd rfl c⟩) (fun q2 => ⟨fun c => absurd c (by decide), fun _ => ?_⟩)
    · rw [holeA, if_neg (fun w => q2 w.2)] at h; exact h
    · rw [holeA, if_pos ⟨q, q2⟩] at h
      obtain ⟨hh, hh6, rfl⟩ := lt_ex (by omega) q
      obtain ⟨k, hk, rfl⟩ := lt_ex (by omega) q2
      rw [tn_n (by omega), tn_n (by omega)] at h
      refine f_House_inHole (HS74 P.1.sx) (by omega) (by omega) (GI.r ?_)
      rw [q_at P.2.1 (lvb_of (by omega))]; exact h
theorem r_hole {R : Int32 → MS → Prop} {x1 x2 : Int32} (hS : SX g) (hO : TOk d) (P : PR d lv N s) (h : R (holeA d N x1 x2) s) : GI E m_Mo_hole [.ref 120, .int x1, .int x2] g s R := by
  have g6 := hO.g6
  have h6 := hO.h6
  refine v_Mo_hole (Q := qI g R) _ _ hS (f_Mo_isHole hS hO P.1 (fun q => ⟨fun _ => GI.r ?_, fun c => absurd rfl c⟩) (fun q => ⟨fun c => absurd c (by decide), fun _ => f_Mo_isGrain hS hO P.1 (fun q2 => ⟨fun _ => GI.r ?_, fun c => absurd rfl c⟩) (fun q2 => ⟨fun c => absurd c (by decide), fun _ => ?_⟩)⟩))
  · rw [holeA, if_neg (fun w => q w.1)] at h; exact h
  · rw [holeA, if_neg (fun w => q2 w.2)] at h; exact h
  · rw [holeA, if_pos ⟨q, q2⟩] at h
    obtain ⟨hh, hh6, rfl⟩ := lt_ex (by omega) q
    obtain ⟨k, hk, rfl⟩ := lt_ex (by omega) q2
    rw [tn_n (by omega), tn_n (by omega)] at h
    rw [z6, tn_n (by omega), q_at P.2 (lvb_of (by omega))]
    exact ⟨vp_in_nI (by omega) (by omega), GI.r h⟩
theorem sw8 {x : Int32} (h : ¬ (x < 0 ∨ 8 < x)) : ∃ j, j ≤ 8 ∧ x = nI j := le_ex (n := 8) (by decide) rfl ⟨Int32.not_lt.mp (fun w => h (Or.inl w)), Int32.not_lt.mp (fun w => h (Or.inr w))⟩
theorem c_rat {R : Int32 → MS → Prop} {x1 x2 : Int32} (P : PC d g t N s) (h : R (ratA d N x1 x2) s) : GI E m_Rs_rat [.ref 16, .int x1, .int x2] g s R := by
  have h8 : eR (dE d) ≤ 8 := P.1.o.r8
  have h8' := P.1.o.r8
  refine v_Rs_rat (Q := qI g R) _ _ t P.1.sx P.1.et P.1.ht ?_
  rw [P.1.tc.ra]
  refine f_Rs_isOf (fun q => ⟨fun _ => GI.r ?_, fun c => absurd rfl c⟩) (fun q => ⟨fun c => absurd c (by decide), fun _ => ?_⟩)
  · rw [ratA, if_neg (fun w => q w.1)] at h; exact h
  · obtain ⟨r, hr', rfl⟩ := lt_ex (by omega) q
    have hre : r < eR (dE d) := hr'
    have r8 : r < 8 := by omega
    rw [tn_n (by omega)]
    have ad : 78 + r = 74 + 4 + r := by omega
    refine ⟨vp_in_nI (by omega) (by omega), fun c => GI.r ?_, ?_⟩
    · rw [ratA, if_neg (fun w => c.elim (fun e => absurd e (Int32.not_lt.mpr w.2.1)) (fun e => absurd e (Int32.not_lt.mpr w.2.2)))] at h; exact h
    · have go : ∀ j, j ≤ 8 → x2 = nI j → R (N (42 + 8 * j + r)) s := by
        intro j hj e
        subst e
        rw [ratA, if_pos ⟨q, nI_pos' (by omega), nI_le (b := 8) hj (by omega)⟩, tn_n (by omega), tn_n (by omega)] at h
        exact h
      refine ⟨fun c => GI.r ?_, fun c => GI.r ?_, fun c => GI.r ?_, fun c => ⟨fun z => GI.r ?_, fun z => GI.r ?_⟩, fun c => GI.r ?_, fun c => GI.r ?_, fun c => GI.r ?_, fun c => GI.r ?_, fun c => ⟨fun z => GI.r ?_, fun z => GI.r ?_⟩⟩
      · have := go 0 (by omega) c
        rw [← q_at P.2.1 (lvb_of (k := 42 + 8 * 0 + r) (by omega)), show 42 + 8 * 0 + r = 42 + r by omega, hr42 s 74 r8] at this; exact this
      · have := go 1 (by omega) c
        rw [← q_at P.2.1 (lvb_of (k := 42 + 8 * 1 + r) (by omega)), show 42 + 8 * 1 + r = 50 + r by omega, hr50 s 74 r8] at this; exact this
      · have := go 2 (by omega) c
        rw [← q_at P.2.1 (lvb_of (k := 42 + 8 * 2 + r) (by omega)), show 42 + 8 * 2 + r = 58 + r by omega, hr58 s 74 r8] at this; exact this
      · have := go 3 (by omega) c
        rw [← q_at P.2.1 (lvb_of (k := 42 + 8 * 3 + r) (by omega)), show 42 + 8 * 3 + r = 66 + r by omega, hr66 s 74 r8, if_pos z] at this; exact this
      · have := go 3 (by omega) c
        rw [← q_at P.2.1 (lvb_of (k := 42 + 8 * 3 + r) (by omega)), show 42 + 8 * 3 + r = 66 + r by omega, hr66 s 74 r8, if_neg z] at this; exact this
      · have := go 4 (by omega) c
        rw [← q_at P.2.1 (lvb_of (k := 42 + 8 * 4 + r) (by omega)), show 42 + 8 * 4 + r = 74 + r by omega, hr74 s 74 r8] at this; exact this
      · have := go 5 (by omega) c
        rw [← q_at P.2.1 (lvb_of (k := 42 + 8 * 5 + r) (by omega)), show 42 + 8 * 5 + r = 82 + r by omega, hr82 s 74 r8] at this; exact this
      · have := go 6 (by omega) c
        rw [← q_at P.2.1 (lvb_of (k := 42 + 8 * 6 + r) (by omega)), show 42 + 8 * 6 + r = 90 + r by omega, hr90 s 74 r8] at this; exact this
      · have := go 7 (by omega) c
        rw [← q_at P.2.1 (lvb_of (k := 42 + 8 * 7 + r) (by omega)), show 42 + 8 * 7 + r = 98 + r by omega, hr98 s 74 r8] at this; exact this
      · have := go 8 (by omega) c
        rw [← q_at P.2.1 (lvb_of (k := 42 + 8 * 8 + r) (by omega)), show 42 + 8 * 8 + r = 106 + r by omega, hr106 s 74 r8, if_pos z] at this; exact this
      · have := go 8 (by omega) c
        rw [← q_at P.2.1 (lvb_of (k := 42 + 8 * 8 + r) (by omega)), show 42 + 8 * 8 + r = 106 + r by omega, hr106 s 74 r8, if_neg z] at this; exact this
theorem z42 (j r : Nat) : 42 + 8 * nI j + nI r = nI (42 + 8 * j + r) := by rw [show (42 : Int32) = nI 42 from rfl, show (8 : Int32) = nI 8 from rfl, pk_mul, nI_add, nI_add]
theorem r_rat {R : Int32 → MS → Prop} {x1 x2 : Int32} (hS : SX g) (hO : TOk d) (P : PR d lv N s) (h : R (ratA d N x1 x2) s) : GI E m_Mo_rat [.ref 120, .int x1, .int x2] g s R := by
  have h8 : eR (dE d) ≤ 8 := hO.r8
  have h8' := hO.r8
  refine v_Mo_rat (Q := qI g R) _ _ hS (f_Mo_isRat hS hO P.1 (fun q => ⟨fun _ => GI.r ?_, fun c => absurd rfl c⟩) (fun q => ⟨fun c => absurd c (by decide), fun _ => ?_⟩))
  · rw [ratA, if_neg (fun w => q w.1)] at h; exact h
  · obtain ⟨r, hr', rfl⟩ := lt_ex (by omega) q
    have hre : r < eR (dE d) := hr'
    refine ⟨fun c => GI.r ?_, ?_⟩
    · rw [ratA, if_neg (fun w => c.elim (fun e => absurd e (Int32.not_lt.mpr w.2.1)) (fun e => absurd e (Int32.not_lt.mpr w.2.2)))] at h; exact h
    · have go : ∀ j, j ≤ 8 → x2 = nI j → vp_in ((42 + (8 * x2)) + nI r) 120 ∧ qI g R (some (.int (s.1 162 ((((42 + (8 * x2)) + nI r)).toNatClampNeg)))) (mk g s) := by
        intro j hj e
        subst e
        rw [ratA, if_pos ⟨q, nI_pos' (by omega), nI_le (b := 8) hj (by omega)⟩, tn_n (by omega), tn_n (by omega)] at h
        rw [z42, tn_n (by omega), q_at P.2 (lvb_of (by omega))]
        exact ⟨vp_in_nI (by omega) (by omega), GI.r h⟩
      refine ⟨fun c => go 0 (by omega) c, fun c => go 1 (by omega) c, fun c => go 2 (by omega) c, fun c => go 3 (by omega) c, fun c => go 4 (by omega) c, fun c => go 5 (by omega) c, fun c => go 6 (by omega) c, fun c => go 7 (by omega) c, fun c => ?_⟩
      have := go 8 (by omega) c
      rw [c] at this
      exact this
theorem c_worth {R : Int32 → MS → Prop} {x : Int32} (P : PC d g t N s) (h : R (worthA d N x) s) : GI E m_Rs_worth [.ref 16, .int x] g s R := by
  have h6 := P.1.o.h6
  refine v_Rs_worth (Q := qI g R) _ t P.1.sx P.1.et P.1.ht ?_
  rw [P.1.tc.ho]
  refine f_Rs_isOf (fun q => ⟨fun _ => GI.r ?_, fun c => absurd rfl c⟩) (fun q => ⟨fun c => absurd c (by decide), fun _ => ?_⟩)
  · rw [worthA, if_neg q] at h; exact h
  · rw [worthA, if_pos q] at h
    obtain ⟨k, hk, rfl⟩ := lt_ex (by omega) q
    rw [tn_n (by omega)] at h
    exact f_House_worthOf P.1.sx (HS74 P.1.sx) P.1.et P.1.o P.1.tc hk (GI.r (by rw [q_wOf P.1.o P.2.1 hk]; exact h))
theorem r_worth {R : Int32 → MS → Prop} {x : Int32} (hS : SX g) (hO : TOk d) (P : PR d lv N s) (h : ∀ u, FrR s u → R (worthA d N x) u) : GI E m_Mo_worth [.ref 120, .int x] g s R := by
  have h6 := hO.h6
  refine v_Mo_worth (Q := qI g R) _ hS (f_Mo_isHole hS hO P.1 (fun q => ⟨fun _ => GI.r ?_, fun c => absurd rfl c⟩) (fun q => ⟨fun c => absurd c (by decide), fun _ => ?_⟩))
  · have := h s (FrR.rf s)
    rw [worthA, if_neg q] at this; exact this
  · obtain ⟨k, hk, rfl⟩ := lt_ex (by omega) q
    refine k_copies hS P.1 P.2 (fun v b1 b2 b3 b4 => ?_)
    have K := P.1.mv b4
    have hh := h v b4
    rw [worthA, if_pos q, tn_n (by omega)] at hh
    exact f_Mo_worthOf hS hO K.1 K.2.1 K.2.2.1 hk (GI.r (by rw [q_wOf hO b3 hk]; exact hh))
theorem c_pure {R : Int32 → MS → Prop} {x1 x2 : Int32} (P : PC d g t N s) (h : R (pureA d N x1 x2) s) : GI E m_Rs_pure [.ref 16, .int x1, .int x2] g s R := by
  have h6 := P.1.o.h6
  have g6 := P.1.o.g6
  have hS := P.1.sx
  refine v_Rs_pure (Q := qI g R) _ _ t hS P.1.et P.1.ht ?_
  rw [P.1.tc.ho]
  refine f_Rs_isOf (fun q => ⟨fun _ => GI.r ?_, fun c => absurd rfl c⟩) (fun q => ⟨fun c => absurd c (by decide), fun _ => ?_⟩)
  · rw [pureA, if_neg q] at h; exact h
  · rw [pureA, if_pos q] at h
    obtain ⟨k, hk, rfl⟩ := lt_ex (by omega) q
    rw [tn_n (by omega)] at h
    have ow := P.1.o.ow hk
    obtain ⟨o, a, oa, aB, ea, eo⟩ := hole_n (by decide) P.2.2.2.2.1 (h := k) (k := dOw d k) (by omega) (by omega)
    have ra : rsum (hr s 74) (6 + 6 * k) 6 = nI a := by rw [rsum_cg (R' := N) 6 (fun x hx => by rw [← P.2.1, nm42 (by omega)])]; exact ea
    have ro : hr s 74 (6 + 6 * k + dOw d k) = nI o := by rw [q_at P.2.1 (lvb_of (by omega))]; exact eo
    rw [pureB, ea, eo, tn_n (by omega), tn_n (by omega)] at h
    refine f_House_allInHole (HS74 hS) (by omega) ?_
    rw [ra]
    refine ⟨fun c => ?_, fun c => ⟨vp_in_nI (by omega) (by omega), ?_⟩⟩
    · rw [if_pos c] at h
      refine ⟨fun c2 => GI.r ?_, fun c2 => GI.r ?_⟩
      · rw [if_pos c2] at h; exact h
      · rw [if_neg c2] at h; exact h
    · rw [if_neg c] at h
      rw [tn_n (by omega), P.1.tc.ow hk]
      refine f_House_inHole (HS74 hS) (by omega) (by omega) ?_
      rw [ro]
      have a0 : 0 < a := by
        rcases Nat.eq_zero_or_pos a with z | z
        · rw [z] at c; exact absurd rfl c
        · exact z
      have gp : 0 < Nat.gcd o a := Nat.gcd_pos_of_pos_right _ a0
      have gl : Nat.gcd o a ≤ a := Nat.gcd_le_right _ a0
      refine f_Rs_commonDivisor (by omega) (by omega) a0 ?_
      rw [max1 gp (by omega)]
      refine ⟨fun c2 => ⟨nI_ne0 gp (by omega), GI.r ?_⟩, fun c2 => ⟨nI_ne0 gp (by omega), GI.r ?_⟩⟩
      · rw [if_pos c2] at h; rw [pk_div (by omega) gp (by omega)]; exact h
      · rw [if_neg c2] at h; rw [pk_div (by omega) gp (by omega)]; exact h
theorem r_pure {R : Int32 → MS → Prop} {x1 x2 : Int32} (hS : SX g) (hO : TOk d) (P : PR d lv N s) (hW : RW d 400000 N) (h : R (pureA d N x1 x2) s) : GI E m_Mo_pure [.ref 120, .int x1, .int x2] g s R := by
  have h6 := hO.h6
  have g6 := hO.g6
  have hv := P.1.2.2.1
  refine v_Mo_pure (Q := qI g R) _ _ hS (f_Mo_isHole hS hO P.1 (fun q => ⟨fun _ => GI.r ?_, fun c => absurd rfl c⟩) (fun q => ⟨fun c => absurd c (by decide), fun _ => ?_⟩))
  · rw [pureA, if_neg q] at h; exact h
  · rw [pureA, if_pos q] at h
    obtain ⟨k, hk, rfl⟩ := lt_ex (by omega) q
    rw [tn_n (by omega)] at h
    have ow := hO.ow hk
    obtain ⟨o, a, oa, aB, ea, eo⟩ := hole_n (by decide) hW.2.1 (h := k) (k := dOw d k) (by omega) (by omega)
    have ra : rsum (s.1 162) (6 + 6 * k) 6 = nI a := by rw [rsum_cg (R' := N) 6 (fun x hx => by rw [← P.2, nm42 (by omega)])]; exact ea
    have ro : s.1 162 (6 + 6 * k + dOw d k) = nI o := by rw [q_at P.2 (lvb_of (by omega))]; exact eo
    rw [pureB, ea, eo, tn_n (by omega), tn_n (by omega)] at h
    rw [P.1.2.1, y6, tn_n (by omega), P.1.1.ow hk, z6, tn_n (by omega), ro]
    refine ⟨vp_in_nI (by omega) (by omega), vp_in_nI (by omega) (by omega), ?_⟩
    refine upto (P := fun j => AWP E m_Mo_pure 44 0 0 [(0, .ref 120), (1, .int (nI k)), (2, .int x2), (3, .int (nI o)), (4, .int (rsum (s.1 162) (6 + 6 * k) j)), (5, .int (nI j))] [] (mk g s) (qI g R)) 6 ?_ ?_ 0 (Nat.zero_le _)
    · refine v_Mo_pure_44 _ _ _ _ _ hS (pk_le 6 6 (fun _ => ?_) (fun q => absurd q (by omega)))
      rw [ra]
      refine ⟨fun c => ?_, fun c => ?_⟩
      · rw [if_pos c] at h
        refine ⟨fun c2 => GI.r ?_, fun c2 => GI.r ?_⟩
        · rw [if_pos c2] at h; exact h
        · rw [if_neg c2] at h; exact h
      · rw [if_neg c] at h
        have a0 : 0 < a := by
          rcases Nat.eq_zero_or_pos a with z | z
          · rw [z] at c; exact absurd rfl c
          · exact z
        have gp : 0 < Nat.gcd o a := Nat.gcd_pos_of_pos_right _ a0
        have gl : Nat.gcd o a ≤ a := Nat.gcd_le_right _ a0
        refine f_Mo_common (by omega) (by omega) ⟨fun c2 => ⟨nI_ne0 gp (by omega), GI.r ?_⟩, fun c2 => ⟨nI_ne0 gp (by omega), GI.r ?_⟩⟩
        · rw [if_pos c2] at h; rw [pk_div (by omega) gp (by omega)]; exact h
        · rw [if_neg c2] at h; rw [pk_div (by omega) gp (by omega)]; exact h
    · intro j hj ih
      refine v_Mo_pure_44 _ _ _ _ _ hS (pk_le 6 j (fun q => absurd q (by omega)) (fun _ => ?_))
      rw [z6, tn_n (by omega), nI_1]
      rw [rsum] at ih
      exact ⟨vp_in_nI (by omega) (by omega), ih⟩
end Ask
