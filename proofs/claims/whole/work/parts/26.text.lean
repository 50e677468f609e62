/-! WHAT A TEXT TELLS, as both hold it -/
abbrev TD : Type := PE × (Nat → List Br) × Row × Row × (Nat → Nat) × (Nat → Nat) × Row × Row × Nat × Row × (Nat → Nat → Int32)
def dE (d : TD) : PE := d.1
def dL (d : TD) : Nat → List Br := d.2.1
def dPo (d : TD) : Row := d.2.2.1
def dPe (d : TD) : Row := d.2.2.2.1
def dOw (d : TD) : Nat → Nat := d.2.2.2.2.1
def dKn (d : TD) : Nat → Nat := d.2.2.2.2.2.1
def dFt (d : TD) : Row := d.2.2.2.2.2.2.1
def dFe (d : TD) : Row := d.2.2.2.2.2.2.2.1
def dM (d : TD) : Nat := d.2.2.2.2.2.2.2.2.1
def dPy (d : TD) : Row := d.2.2.2.2.2.2.2.2.2.1
def dWa (d : TD) : Nat → Nat → Int32 := d.2.2.2.2.2.2.2.2.2.2
def nG (d : TD) : Nat := eG (dE d)
def nH (d : TD) : Nat := eHo (dE d)
def nR (d : TD) : Nat := eR (dE d)
def eV (e : PE) (f : Row) (sd : Int32) : PE := (e.1, e.2.1, e.2.2.1, e.2.2.2.1, e.2.2.2.2.1, e.2.2.2.2.2.1, f, sd, e.2.2.2.2.2.2.2.2)
def TOk (d : TD) : Prop := EA (dE d) ∧ eLv (dE d) = lawOf (dL d) ∧ (∀ k, wfl (dL d k)) ∧ (∀ h, h < nH d → dOw d h < nG d) ∧ (∀ r, r < nR d → dKn d r < nG d) ∧ (∀ j, j < nG d → ∃ p, p ≤ 9999 ∧ dPo d j = nI p) ∧ (∀ r, r < nR d → (∃ f, f ≤ 9 ∧ dFt d r = nI f) ∧ ∃ f, f ≤ 99 ∧ dFe d r = nI f) ∧ dM d ≤ 5 ∧ (∃ o, 1 ≤ o ∧ o ≤ 99 ∧ eOd (dE d) = nI o) ∧ (∀ j, j < nG d → ∃ p, p ≤ 99 ∧ dPe d j = nI p) ∧ (∀ m k, m < dM d → k < nG d → 0 ≤ dWa d m k)
theorem TOk.wa {d : TD} (h : TOk d) : ∀ m k, m < dM d → k < nG d → 0 ≤ dWa d m k := h.2.2.2.2.2.2.2.2.2.2
theorem TOk.od {d : TD} (h : TOk d) : ∃ o, 1 ≤ o ∧ o ≤ 99 ∧ eOd (dE d) = nI o := h.2.2.2.2.2.2.2.2.1
theorem TOk.pe {d : TD} (h : TOk d) {j : Nat} (hj : j < nG d) : ∃ p, p ≤ 99 ∧ dPe d j = nI p := h.2.2.2.2.2.2.2.2.2.1 j hj
theorem TOk.r8 {d : TD} (h : TOk d) : nR d ≤ 8 := h.1.1.1
theorem TOk.g6 {d : TD} (h : TOk d) : nG d ≤ 6 := h.1.1.2.1
theorem TOk.h6 {d : TD} (h : TOk d) : nH d ≤ 6 := h.1.1.2.2.1
theorem TOk.ow {d : TD} (h : TOk d) {k : Nat} (hk : k < nH d) : dOw d k < nG d := h.2.2.2.1 k hk
theorem TOk.m5 {d : TD} (h : TOk d) : dM d ≤ 5 := h.2.2.2.2.2.2.2.1
def TC (d : TD) (t : Nat) (s : MS) : Prop := s.1 t 11 = nI (nG d) ∧ s.1 t 12 = nI (nH d) ∧ s.1 t 13 = nI (nR d) ∧ s.1 t 14 = nI (dM d) ∧ s.1 t 15 = eLa (dE d) ∧ s.1 t 16 = eOd (dE d) ∧ s.1 t 17 = eSd (dE d) ∧ (∀ j, j < nG d → s.1 (t + 1) j = dPo d j ∧ s.1 (t + 2) j = dPe d j) ∧ (∀ h, h < nH d → s.1 (t + 3) h = eFa (dE d) h ∧ s.1 (t + 4) h = nI (dOw d h)) ∧ (∀ r, r < nR d → s.1 (t + 5) r = nI (dKn d r) ∧ s.1 (t + 6) r = nI (eWh (dE d) r) ∧ s.1 (t + 7) r = dFt d r ∧ s.1 (t + 8) r = dFe d r) ∧ (∀ m, m < dM d → s.1 (t + 9) m = dPy d m ∧ ∀ k, k < nG d → s.1 (t + 10) (6 * m + k) = dWa d m k) ∧ ∀ k, k < 3 → CLaw s (t + 11) k (dL d k)
theorem TC.gr {d : TD} {t : Nat} {s : MS} (h : TC d t s) : s.1 t 11 = nI (nG d) := h.1
theorem TC.ho {d : TD} {t : Nat} {s : MS} (h : TC d t s) : s.1 t 12 = nI (nH d) := h.2.1
theorem TC.ra {d : TD} {t : Nat} {s : MS} (h : TC d t s) : s.1 t 13 = nI (nR d) := h.2.2.1
theorem TC.me {d : TD} {t : Nat} {s : MS} (h : TC d t s) : s.1 t 14 = nI (dM d) := h.2.2.2.1
theorem TC.sd {d : TD} {t : Nat} {s : MS} (h : TC d t s) : s.1 t 17 = eSd (dE d) := h.2.2.2.2.2.2.1
theorem TC.po {d : TD} {t : Nat} {s : MS} (h : TC d t s) {j : Nat} (hj : j < nG d) : s.1 (t + 1) j = dPo d j := (h.2.2.2.2.2.2.2.1 j hj).1
theorem TC.pe {d : TD} {t : Nat} {s : MS} (h : TC d t s) {j : Nat} (hj : j < nG d) : s.1 (t + 2) j = dPe d j := (h.2.2.2.2.2.2.2.1 j hj).2
theorem TC.fa {d : TD} {t : Nat} {s : MS} (h : TC d t s) {j : Nat} (hj : j < nH d) : s.1 (t + 3) j = eFa (dE d) j := (h.2.2.2.2.2.2.2.2.1 j hj).1
theorem TC.ow {d : TD} {t : Nat} {s : MS} (h : TC d t s) {j : Nat} (hj : j < nH d) : s.1 (t + 4) j = nI (dOw d j) := (h.2.2.2.2.2.2.2.2.1 j hj).2
theorem TC.rt {d : TD} {t : Nat} {s : MS} (h : TC d t s) {r : Nat} (hj : r < nR d) : s.1 (t + 5) r = nI (dKn d r) ∧ s.1 (t + 6) r = nI (eWh (dE d) r) ∧ s.1 (t + 7) r = dFt d r ∧ s.1 (t + 8) r = dFe d r := h.2.2.2.2.2.2.2.2.2.1 r hj
theorem TC.mr {d : TD} {t : Nat} {s : MS} (h : TC d t s) {m : Nat} (hj : m < dM d) : s.1 (t + 9) m = dPy d m ∧ ∀ k, k < nG d → s.1 (t + 10) (6 * m + k) = dWa d m k := h.2.2.2.2.2.2.2.2.2.2.1 m hj
theorem TC.lw {d : TD} {t : Nat} {s : MS} (h : TC d t s) : ∀ k, k < 3 → CLaw s (t + 11) k (dL d k) := h.2.2.2.2.2.2.2.2.2.2.2
theorem TC.mv {d : TD} {t : Nat} {s u : MS} (k : ∀ a, t ≤ a → a < t + 14 → u.1 a = s.1 a) (h : TC d t s) : TC d t u := by
  obtain ⟨h1, h2, h3, h4, h5, h6, h7, h8, h9, h10, h11, h12⟩ := h
  refine ⟨?_, ?_, ?_, ?_, ?_, ?_, ?_, ?_, ?_, ?_, ?_, ?_⟩
  all_goals try (rw [k t (by omega) (by omega)]; assumption)
  · intro j hj; rw [k (t + 1) (by omega) (by omega), k (t + 2) (by omega) (by omega)]; exact h8 j hj
  · intro j hj; rw [k (t + 3) (by omega) (by omega), k (t + 4) (by omega) (by omega)]; exact h9 j hj
  · intro j hj; rw [k (t + 5) (by omega) (by omega), k (t + 6) (by omega) (by omega), k (t + 7) (by omega) (by omega), k (t + 8) (by omega) (by omega)]; exact h10 j hj
  · intro j hj; rw [k (t + 9) (by omega) (by omega), k (t + 10) (by omega) (by omega)]; exact h11 j hj
  · intro j hj; exact (h12 j hj).mv (k (t + 11) (by omega) (by omega)) (k (t + 11 + 1) (by omega) (by omega)) (k (t + 11 + 2) (by omega) (by omega))
def wsum (A B : Row) (o k : Nat) : Nat → Int32
  | 0 => 0
  | n + 1 => if A (o + n) = nI k then wsum A B o k n + B (o + n) else wsum A B o k n
/-- a law's branches and codes lie on its side -/
def RReg (s : MS) (lv k : Nat) (l : List Br) : Prop := l = [] ∨ ∃ f, s.1 150 (3 * lv + k) = nI f ∧ 130 * lv ≤ f ∧ f + l.length ≤ 130 * lv + 130 ∧ ∀ i, i < l.length → ∃ i1 i3 i4, s.1 155 (f + i) = nI i3 ∧ s.1 156 (f + i) = nI i4 ∧ i4 ≤ 420 * lv + 420 ∧ 420 * lv ≤ i3 ∧ i3 ≤ i4 ∧ (s.1 152 (f + i) = 1 → s.1 153 (f + i) = nI i1 ∧ 420 * lv ≤ i1 ∧ i1 ≤ i3)
theorem RReg.mv {s u : MS} {lv k : Nat} {l : List Br} (h : ∀ a, 150 ≤ a → a < 159 → u.1 a = s.1 a) (r : RReg s lv k l) : RReg u lv k l := by
  unfold RReg at *
  rw [h 150 (by omega) (by omega), h 152 (by omega) (by omega), h 153 (by omega) (by omega), h 155 (by omega) (by omega), h 156 (by omega) (by omega)]; exact r
def TR (d : TD) (lv : Nat) (s : MS) : Prop := s.1 131 lv = nI (nG d) ∧ s.1 134 lv = nI (nH d) ∧ s.1 137 lv = nI (nR d) ∧ s.1 142 lv = nI (dM d) ∧ s.1 147 lv = eLa (dE d) ∧ s.1 148 lv = eOd (dE d) ∧ s.1 149 lv = eSd (dE d) ∧ (∀ j, j < nG d → s.1 132 (6 * lv + j) = dPo d j ∧ s.1 133 (6 * lv + j) = dPe d j) ∧ ((∀ h, h < 6 → s.1 135 (6 * lv + h) = eFa (dE d) h) ∧ ∀ h, 6 ≤ h → eFa (dE d) h = 0) ∧ (∀ h, h < nH d → s.1 136 (6 * lv + h) = nI (dOw d h)) ∧ (∀ r, r < nR d → s.1 138 (8 * lv + r) = nI (dKn d r) ∧ s.1 139 (8 * lv + r) = nI (eWh (dE d) r) ∧ s.1 140 (8 * lv + r) = dFt d r ∧ s.1 141 (8 * lv + r) = dFe d r) ∧ (∀ m, m < dM d → s.1 143 (5 * lv + m) = dPy d m ∧ ∃ n, n ≤ 4 ∧ s.1 144 (5 * lv + m) = nI n ∧ ∀ k, k < 6 → wsum (s.1 145) (s.1 146) (4 * (5 * lv + m)) k n = if k < nG d then dWa d m k else 0) ∧ (∀ k, k < 3 → RLaw s lv k (dL d k)) ∧ ∀ k, k < 3 → RReg s lv k (dL d k)
theorem TR.gr {d : TD} {lv : Nat} {s : MS} (h : TR d lv s) : s.1 131 lv = nI (nG d) := h.1
theorem TR.ho {d : TD} {lv : Nat} {s : MS} (h : TR d lv s) : s.1 134 lv = nI (nH d) := h.2.1
theorem TR.ra {d : TD} {lv : Nat} {s : MS} (h : TR d lv s) : s.1 137 lv = nI (nR d) := h.2.2.1
theorem TR.me {d : TD} {lv : Nat} {s : MS} (h : TR d lv s) : s.1 142 lv = nI (dM d) := h.2.2.2.1
theorem TR.sd {d : TD} {lv : Nat} {s : MS} (h : TR d lv s) : s.1 149 lv = eSd (dE d) := h.2.2.2.2.2.2.1
theorem TR.po {d : TD} {lv : Nat} {s : MS} (h : TR d lv s) {j : Nat} (hj : j < nG d) : s.1 132 (6 * lv + j) = dPo d j := (h.2.2.2.2.2.2.2.1 j hj).1
theorem TR.pe {d : TD} {lv : Nat} {s : MS} (h : TR d lv s) {j : Nat} (hj : j < nG d) : s.1 133 (6 * lv + j) = dPe d j := (h.2.2.2.2.2.2.2.1 j hj).2
theorem TR.fa {d : TD} {lv : Nat} {s : MS} (h : TR d lv s) {j : Nat} (hj : j < 6) : s.1 135 (6 * lv + j) = eFa (dE d) j := h.2.2.2.2.2.2.2.2.1.1 j hj
theorem TR.fz {d : TD} {lv : Nat} {s : MS} (h : TR d lv s) {j : Nat} (hj : 6 ≤ j) : eFa (dE d) j = 0 := h.2.2.2.2.2.2.2.2.1.2 j hj
theorem TR.ow {d : TD} {lv : Nat} {s : MS} (h : TR d lv s) {j : Nat} (hj : j < nH d) : s.1 136 (6 * lv + j) = nI (dOw d j) := h.2.2.2.2.2.2.2.2.2.1 j hj
theorem TR.rt {d : TD} {lv : Nat} {s : MS} (h : TR d lv s) {r : Nat} (hj : r < nR d) : s.1 138 (8 * lv + r) = nI (dKn d r) ∧ s.1 139 (8 * lv + r) = nI (eWh (dE d) r) ∧ s.1 140 (8 * lv + r) = dFt d r ∧ s.1 141 (8 * lv + r) = dFe d r := h.2.2.2.2.2.2.2.2.2.2.1 r hj
theorem TR.mr {d : TD} {lv : Nat} {s : MS} (h : TR d lv s) {m : Nat} (hj : m < dM d) : s.1 143 (5 * lv + m) = dPy d m ∧ ∃ n, n ≤ 4 ∧ s.1 144 (5 * lv + m) = nI n ∧ ∀ k, k < 6 → wsum (s.1 145) (s.1 146) (4 * (5 * lv + m)) k n = if k < nG d then dWa d m k else 0 := h.2.2.2.2.2.2.2.2.2.2.2.1 m hj
theorem TR.lw {d : TD} {lv : Nat} {s : MS} (h : TR d lv s) : ∀ k, k < 3 → RLaw s lv k (dL d k) := h.2.2.2.2.2.2.2.2.2.2.2.2.1
theorem TR.mv {d : TD} {lv : Nat} {s u : MS} (k : ∀ a, 131 ≤ a → a < 159 → u.1 a = s.1 a) (h : TR d lv s) : TR d lv u := by
  obtain ⟨h1, h2, h3, h4, h5, h6, h7, h8, h9, h10, h11, h12, h13, h14⟩ := h
  refine ⟨?_, ?_, ?_, ?_, ?_, ?_, ?_, ?_, ?_, ?_, ?_, ?_, ?_, fun j hj => (h14 j hj).mv (fun a h1 h2 => k a (by omega) h2)⟩
  · rw [k 131 (by omega) (by omega)]; exact h1
  · rw [k 134 (by omega) (by omega)]; exact h2
  · rw [k 137 (by omega) (by omega)]; exact h3
  · rw [k 142 (by omega) (by omega)]; exact h4
  · rw [k 147 (by omega) (by omega)]; exact h5
  · rw [k 148 (by omega) (by omega)]; exact h6
  · rw [k 149 (by omega) (by omega)]; exact h7
  · rw [k 132 (by omega) (by omega), k 133 (by omega) (by omega)]; exact h8
  · rw [k 135 (by omega) (by omega)]; exact h9
  · rw [k 136 (by omega) (by omega)]; exact h10
  · rw [k 138 (by omega) (by omega), k 139 (by omega) (by omega), k 140 (by omega) (by omega), k 141 (by omega) (by omega)]; exact h11
  · rw [k 143 (by omega) (by omega), k 144 (by omega) (by omega), k 145 (by omega) (by omega), k 146 (by omega) (by omega)]; exact h12
  · intro j hj; exact (h13 j hj).mv (fun a h1 h2 => k a (by omega) h2)
theorem TC.ec {d : TD} {t : Nat} {s : MS} {f : Row} {sd : Int32} (hO : TOk d) (h : TC d t s) (hf : ∀ j, j < nH d → s.1 29 j = f j) (hs : s.1 28 2 = sd) : EC (eV (dE d) f sd) t s :=
  ⟨h.ra, h.gr, h.ho, h.2.2.2.2.1, h.2.2.2.2.2.1, fun r hr => (h.rt hr).2.1, hf, hs, hO.1.1⟩
theorem TR.ev {d : TD} {lv : Nat} {s : MS} {f : Row} {sd : Int32} (hO : TOk d) (h : TR d lv s) (hl : s.1 120 18 = nI lv) (hv : lv < 2) (hf : s.1 164 = f) (hs : s.1 120 61 = sd) : EV0 (eV (dE d) f sd) lv s :=
  ⟨hl, hv, ⟨h.ra, hO.r8⟩, ⟨h.gr, hO.g6⟩, ⟨h.ho, hO.h6⟩, h.2.2.2.2.1, h.2.2.2.2.2.1, fun r hr => ⟨(h.rt hr).2.1, hO.1.1.2.2.2 r hr⟩, hf, hs⟩
/-! pure sums -/
def wOf (d : TD) (R : Row) (h : Nat) : Int32 := if 0 < dPe d (dOw d h) * (R (6 + 6 * h + dOw d h) - 2 * (rsum R (6 + 6 * h) 6 - R (6 + 6 * h + dOw d h))) then dPe d (dOw d h) * (R (6 + 6 * h + dOw d h) - 2 * (rsum R (6 + 6 * h) 6 - R (6 + 6 * h + dOw d h))) else 0
def wAll (d : TD) (R : Row) : Nat → Int32
  | 0 => 0
  | n + 1 => wAll d R n + wOf d R n
def hsum (R : Row) : Nat → Int32
  | 0 => 0
  | n + 1 => hsum R n + rsum R (6 + 6 * n) 6
def mis (d : TD) (R : Row) : Nat → Int32
  | 0 => 0
  | n + 1 => mis d R n + (rsum R (6 + 6 * n) 6 - R (6 + 6 * n + dOw d n))
def thr (d : TD) (R : Row) : Nat → Int32
  | 0 => 0
  | n + 1 => thr d R n + R (6 + 6 * n + dOw d n)
def iHin (R : Row) (o ow : Nat) (th acc : Int32) : Nat → Int32
  | 0 => acc
  | n + 1 => if (if ow = n then 1 else 0) = th then iHin R o ow th acc n + R (o + n) else iHin R o ow th acc n
def hbits (R : Row) : Nat → Int32
  | 0 => 0
  | n + 1 => if R (42 + n) = 3 then hbits R n ||| ((1 : Int32) <<< (nI n &&& 31)) else hbits R n
def cln (e : PE) (all : Prop) (R : Row) : Prop := ∀ r, r < eR e → ¬ R (42 + r) = 1 ∧ ((all ∨ ¬ R (42 + r) = 3) → R (R (90 + r)).toNatClampNeg ≤ 0)
theorem iHin_1 {R : Row} {o ow : Nat} {acc : Int32} (h : ow < 6) : iHin R o ow 1 acc 6 = acc + R (o + ow) := by
  rcases (by omega : ow = 0 ∨ ow = 1 ∨ ow = 2 ∨ ow = 3 ∨ ow = 4 ∨ ow = 5) with rfl | rfl | rfl | rfl | rfl | rfl <;> simp [iHin]
theorem iHin_0 {R : Row} {o ow : Nat} {acc : Int32} (h : ow < 6) : iHin R o ow 0 acc 6 = acc + (rsum R o 6 - R (o + ow)) := by
  rcases (by omega : ow = 0 ∨ ow = 1 ∨ ow = 2 ∨ ow = 3 ∨ ow = 4 ∨ ow = 5) with rfl | rfl | rfl | rfl | rfl | rfl <;> simp [iHin, rsum] <;> grind
theorem hsum_mt {d : TD} {R : Row} : ∀ n, hsum R n = thr d R n + mis d R n
  | 0 => by simp [hsum, thr, mis]
  | n + 1 => by rw [hsum, thr, mis, hsum_mt (d := d) n]; grind
theorem wOf_cg {d : TD} {R R' : Row} {h : Nat} (h6 : h < 6) (ho : dOw d h < 6) (q : ∀ k, k < 42 → R k = R' k) : wOf d R h = wOf d R' h := by
  rw [wOf, wOf, rsum_cg 6 (fun k hk => q _ (by omega)), q (6 + 6 * h + dOw d h) (by omega)]
theorem wAll_cg {d : TD} {R R' : Row} (q : ∀ k, k < 42 → R k = R' k) : ∀ n, n ≤ 6 → (∀ h, h < n → dOw d h < 6) → wAll d R n = wAll d R' n
  | 0, _, _ => rfl
  | n + 1, h, ho => by rw [wAll, wAll, wAll_cg q n (by omega) (fun h hh => ho h (by omega)), wOf_cg (by omega) (ho n (by omega)) q]
theorem mis_cg {d : TD} {R R' : Row} (q : ∀ k, k < 42 → R k = R' k) : ∀ n, n ≤ 6 → (∀ h, h < n → dOw d h < 6) → mis d R n = mis d R' n
  | 0, _, _ => rfl
  | n + 1, h, ho => by
    have := ho n (by omega)
    rw [mis, mis, mis_cg q n (by omega) (fun h hh => ho h (by omega)), rsum_cg 6 (fun k hk => q _ (by omega)), q (6 + 6 * n + dOw d n) (by omega)]
theorem thr_cg {d : TD} {R R' : Row} (q : ∀ k, k < 42 → R k = R' k) : ∀ n, n ≤ 6 → (∀ h, h < n → dOw d h < 6) → thr d R n = thr d R' n
  | 0, _, _ => rfl
  | n + 1, h, ho => by
    have := ho n (by omega)
    rw [thr, thr, thr_cg q n (by omega) (fun h hh => ho h (by omega)), q (6 + 6 * n + dOw d n) (by omega)]
theorem hsum_cg {R R' : Row} (q : ∀ k, k < 42 → R k = R' k) : ∀ n, n ≤ 6 → hsum R n = hsum R' n
  | 0, _ => rfl
  | n + 1, h => by rw [hsum, hsum, hsum_cg q n (by omega), rsum_cg 6 (fun k hk => q _ (by omega))]
theorem rsum_0 {R : Row} {o : Nat} : ∀ n, (∀ k, k < n → R (o + k) = 0) → rsum R o n = 0
  | 0, _ => rfl
  | n + 1, h => by rw [rsum, rsum_0 n (fun k hk => h k (by omega)), h n (by omega)]; rfl
theorem hsum_z {R : Row} {m : Nat} (q : ∀ h, m ≤ h → h < 6 → ∀ k, k < 6 → R (6 + 6 * h + k) = 0) : ∀ n, m ≤ n → n ≤ 6 → hsum R n = hsum R m
  | 0, h, _ => by rw [show m = 0 by omega]
  | n + 1, h, h6 => by
    by_cases e : m = n + 1
    · rw [e]
    · rw [hsum, hsum_z q n (by omega) (by omega), rsum_0 6 (fun k hk => q n (by omega) (by omega) k hk)]; grind
theorem hb_bit {R : Row} : ∀ n, n ≤ 8 → ∀ l, l < 32 → (hbits R n).toBitVec.getLsbD l = decide (l < n ∧ R (42 + l) = 3)
  | 0, _, l, hl => by simp [hbits]
  | n + 1, h, l, hl => by
    have ih := hb_bit (R := R) n (by omega) l hl
    rw [hbits]
    by_cases e : R (42 + n) = 3
    · rw [if_pos e, Int32.toBitVec_or, BitVec.getLsbD_or, ih, sh1 n (by omega), BitVec.getLsbD_twoPow]
      by_cases q : l = n
      · subst q; simp [e, hl]
      · have : (decide (n = l)) = false := by simp; omega
        have q2 : (l < n + 1) ↔ l < n := by omega
        rw [this]
        simp [q2]
    · rw [if_neg e, ih]
      by_cases q : l = n
      · subst q; simp [e]
      · have : (l < n + 1) ↔ l < n := by omega
        simp [this]
theorem hb_not {R : Row} {n l : Nat} (h8 : n ≤ 8) (hl : l < n) : ((hbits R n ^^^ (-1)) &&& ((1 : Int32) <<< (nI l &&& 31)) = 0) ↔ R (42 + l) = 3 := by
  rw [bit0 _ (by omega), Int32.toBitVec_xor, BitVec.getLsbD_xor, hb_bit n h8 l (by omega)]
  have : (Int32.toBitVec (-1)).getLsbD l = true := by
    rw [show (Int32.toBitVec (-1)) = BitVec.allOnes 32 from rfl, BitVec.getLsbD_allOnes]; simp; omega
  rw [this]
  simp [hl]
theorem hb_all {l : Nat} (hl : l < 32) : ¬ ((-1 : Int32) &&& ((1 : Int32) <<< (nI l &&& 31)) = 0) := by
  rw [bit0 _ hl]
  have : (Int32.toBitVec (-1)).getLsbD l = true := by
    rw [show (Int32.toBitVec (-1)) = BitVec.allOnes 32 from rfl, BitVec.getLsbD_allOnes]; simp; omega
  rw [this]; decide
theorem hbits_cg {R R' : Row} : ∀ n, (∀ r, r < n → R (42 + r) = R' (42 + r)) → hbits R n = hbits R' n
  | 0, _ => rfl
  | n + 1, h => by rw [hbits, hbits, hbits_cg n (fun r hr => h r (by omega)), h n (by omega)]
