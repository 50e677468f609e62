/-! WHAT THE CLASS'S MILL AND THE REFERENCE'S ROW GO BY; minutes over rows that are alike -/
def KC (d : TD) (g : GS) (t : Nat) (f : Row) (sd : Int32) (s : MS) : Prop := SX g ∧ (t = 88 ∨ t = 104) ∧ g.2.2 16 10 = some t ∧ g.2.2 28 0 = some t ∧ TOk d ∧ TC d t s ∧ (∀ j, j < nH d → s.1 29 j = f j) ∧ s.1 28 2 = sd ∧ (∀ k, k < 3 → s.1 1 k = unt k) ∧ ∀ h, h < nH d → ∃ x, 1 ≤ x ∧ x ≤ 30 ∧ f h = nI x
def KR (d : TD) (lv : Nat) (s : MS) : Prop := TR d lv s ∧ s.1 120 18 = nI lv ∧ lv < 2 ∧ ∀ k, 6 ≤ k → s.1 164 k = 0
theorem KR.mv {d : TD} {lv : Nat} {s u : MS} (h : FrR s u) (k : KR d lv s) : KR d lv u := ⟨h.tr_ k.1, h.l8.trans k.2.1, k.2.2.1, fun j hj => (h.2.2.2 j hj).trans (k.2.2.2 j hj)⟩
theorem KC.mv {d : TD} {g : GS} {t b : Nat} {f : Row} {sd : Int32} {s u : MS} (hb : HB b) (h : FrC b t s u) (k : KC d g t f sd s) : KC d g t f sd u := by
  obtain ⟨k1, k2, k3, k4, k5, k6, k7, k8, k9, k10⟩ := k
  have hl := hb.le
  have hb' := hb
  unfold HB at hb'
  refine ⟨k1, k2, k3, k4, k5, k6.mv (fun a h1 h2 => h.1 a (by omega) (by omega) (by omega) (by omega)), fun j hj => ?_, ?_, fun j hj => ?_, k10⟩
  · rw [h.1 29 (by omega) (by omega) (by omega) (by omega)]; exact k7 j hj
  · rw [h.2.1 2 (by decide)]; exact k8
  · rw [h.1 1 (by omega) (by omega) (by omega) (by omega)]; exact k9 j hj
theorem KC.o {d : TD} {g : GS} {t : Nat} {f : Row} {sd : Int32} {s : MS} (k : KC d g t f sd s) : TOk d := k.2.2.2.2.1
theorem KC.sx {d : TD} {g : GS} {t : Nat} {f : Row} {sd : Int32} {s : MS} (k : KC d g t f sd s) : SX g := k.1
theorem KC.et {d : TD} {g : GS} {t : Nat} {f : Row} {sd : Int32} {s : MS} (k : KC d g t f sd s) : t = 88 ∨ t = 104 := k.2.1
theorem KC.ht {d : TD} {g : GS} {t : Nat} {f : Row} {sd : Int32} {s : MS} (k : KC d g t f sd s) : g.2.2 16 10 = some t := k.2.2.1
theorem KC.hm {d : TD} {g : GS} {t : Nat} {f : Row} {sd : Int32} {s : MS} (k : KC d g t f sd s) : g.2.2 28 0 = some t := k.2.2.2.1
theorem KC.tc {d : TD} {g : GS} {t : Nat} {f : Row} {sd : Int32} {s : MS} (k : KC d g t f sd s) : TC d t s := k.2.2.2.2.2.1
theorem KC.ec {d : TD} {g : GS} {t : Nat} {f : Row} {sd : Int32} {s : MS} (k : KC d g t f sd s) : EC (eV (dE d) f sd) t s := k.tc.ec k.o k.2.2.2.2.2.2.1 k.2.2.2.2.2.2.2.1
theorem KC.ea {d : TD} {g : GS} {t : Nat} {f : Row} {sd : Int32} {s : MS} (k : KC d g t f sd s) : EA (eV (dE d) f sd) := ⟨k.o.1.1, k.o.1.2.1, k.2.2.2.2.2.2.2.2.2⟩
theorem KC.val {E : EN} {d : TD} {g : GS} {t b : Nat} {f : Row} {sd : Int32} {s : MS} (k : KC d g t f sd s) (hb : HB b) : ValOK E g (eV (dE d) f sd) b t s :=
  val_ok (ld := dL d) k.sx k.et (TS.of k.sx k.et).l hb k.tc.lw k.2.2.2.2.2.2.2.2.1 k.o.2.1
theorem KC.lvc {d : TD} {g : GS} {t : Nat} {f : Row} {sd : Int32} {s : MS} (k : KC d g t f sd s) : LvC (eV (dE d) f sd) := lv_c (ld := dL d) k.o.2.1 k.o.2.2.1
theorem EA.v {d : TD} (hO : TOk d) {f : Row} (hf : ∀ h, h < nH d → ∃ x, 1 ≤ x ∧ x ≤ 30 ∧ f h = nI x) (sd : Int32) : EA (eV (dE d) f sd) := ⟨hO.1.1, hO.1.2.1, hf⟩
theorem TOk.fa {d : TD} (hO : TOk d) : ∀ h, h < nH d → ∃ x, 1 ≤ x ∧ x ≤ 30 ∧ eFa (dE d) h = nI x := hO.1.2.2
/-- a row in which minutes can go by -/
def RW (d : TD) (M : Nat) (N : Row) : Prop := WFA (dE d) N ∧ WF4 (dE d) 5300000 N ∧ ∃ m, m ≤ M ∧ N 114 = nI m
theorem RW.le {d : TD} {M M' : Nat} {N : Row} (h : RW d M N) (hm : M ≤ M') : RW d M' N := by
  obtain ⟨h1, h2, m, h3, h4⟩ := h
  exact ⟨h1, h2, m, by omega, h4⟩
theorem RW.mins {d : TD} {M n : Nat} {N : Row} {f : Row} {sd : Int32} (hO : TOk d) (hf : ∀ h, h < nH d → ∃ x, 1 ≤ x ∧ x ≤ 30 ∧ f h = nI x) (h : RW d M N) : RW d (M + n) (pMins (eV (dE d) f sd) n N) := by
  obtain ⟨h1, h2, m, h3, h4⟩ := h
  have hA := EA.v hO hf sd
  refine ⟨WFA.mins hA n (e := eV (dE d) f sd) h1, WF4.mins (e := eV (dE d) f sd) hA.1 (by omega) n h1.1 h2, m + n, by omega, ?_⟩
  rw [pMins_114 hA.1 n (R := N) h1.1, h4, nI_add]
theorem RW.min {d : TD} {M : Nat} {N : Row} {f : Row} {sd : Int32} (hO : TOk d) (hf : ∀ h, h < nH d → ∃ x, 1 ≤ x ∧ x ≤ 30 ∧ f h = nI x) (h : RW d M N) : RW d (M + 1) (pMin (eV (dE d) f sd) N) := RW.mins (n := 1) hO hf h
section Env
variable {E : EN} {g : GS} {b t lv : Nat} {d : TD} {s : MS} {f : Row} {sd : Int32} {N : Row}
theorem wfa_hr (hO : TOk d) (hN : nm (dE d) (hr s b) = N) (h : WFA (dE d) N) : WFA (dE d) (hr s b) := WFA.of_nm hO.r8 (by rw [hN]; exact h)
theorem k_goOn {R : MS → Prop} (K : KC d g t f sd s) (hb : HB b) (hH : HS g b) (hC : CH b s) (hN : nm (dE d) (hr s b) = N) {M n : Nat} (hW : RW d M N) (hn : n < 10000) (hM : M + n < 1000000) (h : ∀ u, nm (dE d) (hr u b) = pMins (eV (dE d) f sd) n N → CH b u → FrC b t s u → R u) : GV E m_Mill_goOn [.ref 28, .ref b, .int (nI n)] g s R := by
  obtain ⟨w1, w2, m, w3, w4⟩ := hW
  have hW' : WFA (dE d) (hr s b) := wfa_hr K.o hN w1
  refine f_Mill_goOn (e := eV (dE d) f sd) K.sx hH K.et K.hm hb K.ea K.ec (K.val hb) K.lvc hC hW' hn ⟨m, by omega, ?_⟩ (fun u h1 h2 h3 => h u ?_ h2 h3)
  · rw [← w4, ← hN, nm_at (lvb_of (by omega))]
  · rw [h1, ← hN]; exact nm_mins (e := eV (dE d) f sd) K.ea.1 n hW'.1
theorem k_goMinute {R : MS → Prop} (K : KC d g t f sd s) (hb : HB b) (hH : HS g b) (hC : CH b s) (hN : nm (dE d) (hr s b) = N) (hW : WFA (dE d) N) (h : ∀ u, nm (dE d) (hr u b) = pMin (eV (dE d) f sd) N → CH b u → FrC b t s u → R u) : GV E m_Mill_goMinute [.ref 28, .ref b] g s R := by
  have hW' : WFA (dE d) (hr s b) := wfa_hr K.o hN hW
  refine f_Mill_goMinute (e := eV (dE d) f sd) K.sx hH K.et K.hm hb K.ec (K.val hb) K.lvc hC hW'.1 hW'.2.1 (fun u h1 h2 h3 => h u ?_ h2 h3)
  rw [h1, ← hN]; exact nm_min (e := eV (dE d) f sd) K.ea.1 hW'.1
theorem KR.ev (hO : TOk d) (K : KR d lv s) (hf : s.1 164 = f) (hs : s.1 120 61 = sd) : EV0 (eV (dE d) f sd) lv s := K.1.ev hO K.2.1 K.2.2.1 hf hs
theorem k_goes {R : MS → Prop} (hS : SX g) (hO : TOk d) (K : KR d lv s) (hf : s.1 164 = f) (hs : s.1 120 61 = sd) (hN : nm (dE d) (s.1 163) = N) (hW : WFA (dE d) N) {n : Nat} (hn : n < 1000) (h : ∀ u, nm (dE d) (u.1 163) = pMins (eV (dE d) f sd) n N → FrA s u → R u) : GV E m_Mo_goes [.ref 120, .int (nI n)] g s R := by
  have hE := KR.ev hO K hf hs
  have hW' : WFA (dE d) (s.1 163) := WFA.of_nm hO.r8 (by rw [hN]; exact hW)
  refine f_Mo_goes (e := eV (dE d) f sd) hS hn hE (tells_ok (ld := dL d) hS hE K.1.lw hO.2.1) hW'.1 (fun u h1 h2 => h u ?_ h2)
  rw [h1, ← hN]; exact nm_mins (e := eV (dE d) f sd) hE.ok n hW'.1
theorem k_minuteGoes {R : MS → Prop} (hS : SX g) (hO : TOk d) (K : KR d lv s) (hf : s.1 164 = f) (hs : s.1 120 61 = sd) (hN : nm (dE d) (s.1 163) = N) (hW : WFA (dE d) N) (h : ∀ u, nm (dE d) (u.1 163) = pMin (eV (dE d) f sd) N → FrA s u → R u) : GV E m_Mo_minuteGoes [.ref 120] g s R := by
  have hE := KR.ev hO K hf hs
  have hW' : WFA (dE d) (s.1 163) := WFA.of_nm hO.r8 (by rw [hN]; exact hW)
  refine f_Mo_minuteGoes (e := eV (dE d) f sd) hS hE (tells_ok (ld := dL d) hS hE K.1.lw hO.2.1) hW'.1 (fun u h1 h2 => h u ?_ h2)
  rw [h1, ← hN]; exact nm_min (e := eV (dE d) f sd) hE.ok hW'.1
theorem k_copies2 {R : MS → Prop} (hS : SX g) (K : KR d lv s) (hN : nm (dE d) (s.1 162) = N) (h : ∀ u, u.1 164 = eFa (dE d) → u.1 120 61 = eSd (dE d) → nm (dE d) (u.1 163) = N → FrR s u → (∀ j, j ≠ 61 → u.1 120 j = s.1 120 j) → R u) : GV E m_Mo_copies [.ref 120] g s R := by
  refine f_Mo_copies hS K.1 K.2.1 K.2.2.1 K.2.2.2 (fun u h1 h2 h3 h4 h5 => h u h1 h2 ?_ h4 h5)
  rw [← hN]
  refine nm_eq (fun k hk => h3 k ?_)
  have := lvb_to hk
  omega
theorem k_copies {R : MS → Prop} (hS : SX g) (K : KR d lv s) (hN : nm (dE d) (s.1 162) = N) (h : ∀ u, u.1 164 = eFa (dE d) → u.1 120 61 = eSd (dE d) → nm (dE d) (u.1 163) = N → FrR s u → R u) : GV E m_Mo_copies [.ref 120] g s R :=
  k_copies2 hS K hN (fun u h1 h2 h3 h4 _ => h u h1 h2 h3 h4)
theorem FrA.fa {u : MS} (h : FrA s u) : u.1 164 = s.1 164 := h.1 164 (by decide) (by decide) (by decide) (by decide) (by decide)
theorem FrA.l {u : MS} (h : FrA s u) : u.1 120 61 = s.1 120 61 := h.2.1 61 (by decide)
theorem eV_self (e : PE) : eV e (eFa e) (eSd e) = e := rfl
theorem nm42 {e : PE} {R : Row} {k : Nat} (h : k < 42) : nm e R k = R k := nm_at (lvb_of (by omega))
theorem q_wAll (hO : TOk d) {R : Row} (hN : nm (dE d) R = N) : wAll d R (nH d) = wAll d N (nH d) := wAll_cg (fun k hk => by rw [← hN, nm42 hk]) _ hO.h6 (fun h hh => by have := hO.ow hh; have := hO.g6; omega)
theorem q_mis (hO : TOk d) {R : Row} (hN : nm (dE d) R = N) : mis d R (nH d) = mis d N (nH d) := mis_cg (fun k hk => by rw [← hN, nm42 hk]) _ hO.h6 (fun h hh => by have := hO.ow hh; have := hO.g6; omega)
theorem q_thr (hO : TOk d) {R : Row} (hN : nm (dE d) R = N) : thr d R (nH d) = thr d N (nH d) := thr_cg (fun k hk => by rw [← hN, nm42 hk]) _ hO.h6 (fun h hh => by have := hO.ow hh; have := hO.g6; omega)
theorem q_wOf (hO : TOk d) {R : Row} (hN : nm (dE d) R = N) {h : Nat} (hh : h < nH d) : wOf d R h = wOf d N h := wOf_cg (by have := hO.h6; omega) (by have := hO.ow hh; have := hO.g6; omega) (fun k hk => by rw [← hN, nm42 hk])
theorem q_heap {R : Row} (hN : nm (dE d) R = N) : rsum R 0 6 = rsum N 0 6 := rsum_cg 6 (fun k hk => by rw [← hN, nm42 (by omega)])
theorem q_hsum {R : Row} (hN : nm (dE d) R = N) : hsum R 6 = hsum N 6 := hsum_cg (fun k hk => by rw [← hN, nm42 hk]) 6 (by omega)
theorem q_at {R : Row} (hN : nm (dE d) R = N) {k : Nat} (hk : lvb (dE d) k = true) : R k = N k := by rw [← hN, nm_at hk]
theorem q_cln {R : Row} {all : Prop} (hO : TOk d) (hN : nm (dE d) R = N) (hW : WFr (dE d) R) : cln (dE d) all R ↔ cln (dE d) all N := by
  have h8 : eR (dE d) ≤ 8 := hO.r8
  have g6 : eG (dE d) ≤ 6 := hO.g6
  refine forall_congr' fun r => forall_congr' fun hr' => ?_
  obtain ⟨⟨k, hk, hkn⟩, -⟩ := hW r hr'
  have a1 : R (42 + r) = N (42 + r) := q_at hN (lvb_of (by omega))
  have a2 : R (90 + r) = N (90 + r) := q_at hN (lvb_of (by omega))
  have a3 : R k = N k := q_at hN (lvb_of (by omega))
  rw [← a1, ← a2, hkn, tn_n (by omega), a3]
theorem q_hb {R : Row} (hO : TOk d) (hN : nm (dE d) R = N) : hbits R (nR d) = hbits N (nR d) := hbits_cg _ (fun r hr' => by
  have h8 : eR (dE d) ≤ 8 := hO.r8
  have : r < eR (dE d) := hr'
  exact q_at hN (lvb_of (by omega)))
theorem q_car {R : Row} (hO : TOk d) (hN : nm (dE d) R = N) : rsum R 58 (nR d) = rsum N 58 (nR d) := rsum_cg _ (fun r hr' => by
  have h8 : eR (dE d) ≤ 8 := hO.r8
  have : r < eR (dE d) := hr'
  exact q_at hN (lvb_of (by omega)))
end Env
