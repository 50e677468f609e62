/-! THE CLASS ALONE: its shape while the reference is not made yet -/
def rfY (a f : Nat) : Option Nat := if a < 120 then rfT a f else none
def SY (g : GS) : Prop := (∀ a, 16 ≤ a → a < 120 → g.2.1 a = kdT a) ∧ (∀ a f b, rfY a f = some b → g.2.2 a f = some b) ∧ 120 ≤ g.1 ∧ g.2.1 1 = (1, 3)
def okOy (a ci : Nat) : Bool := Nat.ble 16 a && (Nat.blt a 120 && (Nat.beq (kdT a).1 0 && Nat.beq (kdT a).2 ci))
def okAy (a t N : Nat) : Bool := Nat.ble 16 a && (Nat.blt a 120 && (Nat.beq (kdT a).1 (t + 1) && Nat.beq (kdT a).2 N))
theorem SY.o {g : GS} (h : SY g) {a ci : Nat} (e : okOy a ci = true) : OG g a ci := by
  simp only [okOy, Bool.and_eq_true, Nat.ble_eq, Nat.blt_eq, Nat.beq_eq] at e
  obtain ⟨h1, h2, h3, h4⟩ := e
  refine ⟨?_, h1, Nat.lt_of_lt_of_le h2 h.2.2.1⟩
  rw [h.1 a h1 h2]
  exact Prod.ext h3 h4
theorem SY.a {g : GS} (h : SY g) {a t N : Nat} (e : okAy a t N = true) : AG g a t N := by
  simp only [okAy, Bool.and_eq_true, Nat.ble_eq, Nat.blt_eq, Nat.beq_eq] at e
  obtain ⟨h1, h2, h3, h4⟩ := e
  refine ⟨?_, h1, Nat.lt_of_lt_of_le h2 h.2.2.1⟩
  rw [h.1 a h1 h2]
  exact Prod.ext h3 h4
theorem SY.r {g : GS} (h : SY g) {a f b : Nat} (e : rfY a f = some b) : g.2.2 a f = some b := h.2.1 a f b e
def okHy (b : Nat) : Bool := okOy b 2 && (decide (rfY b 0 = some (b + 1)) && (decide (rfY b 1 = some (b + 2)) && (decide (rfY b 2 = some (b + 3)) && (okAy (b + 1) 0 6 && (okAy (b + 2) 0 36 && (okAy (b + 3) 6 8 && (List.range 8).all (fun r => decide (rfY (b + 3) r = some (b + 4 + r)) && okOy (b + 4 + r) 6)))))))
theorem HSy.of {g : GS} (h : SY g) {b : Nat} (e : okHy b = true) : HS g b := by
  simp only [okHy, Bool.and_eq_true, decide_eq_true_eq, List.all_eq_true, List.mem_range] at e
  obtain ⟨h1, h2, h3, h4, h5, h6, h7, h8⟩ := e
  exact ⟨h.o h1, h.r h2, h.r h3, h.r h4, h.a h5, h.a h6, h.a h7, fun r hr => ⟨h.r (h8 r hr).1, h.o (h8 r hr).2⟩⟩
theorem HSy74 {g : GS} (h : SY g) : HS g 74 := HSy.of h (by decide)
theorem TSy.of {g : GS} (h : SY g) {t : Nat} (e : t = 88 ∨ t = 104) : TS g t := by
  rcases e with rfl | rfl
  · exact ⟨h.o rfl, ⟨h.r rfl, h.a rfl⟩, ⟨h.r rfl, h.a rfl⟩, ⟨h.r rfl, h.a rfl⟩, ⟨h.r rfl, h.a rfl⟩, ⟨h.r rfl, h.a rfl⟩, ⟨h.r rfl, h.a rfl⟩, ⟨h.r rfl, h.a rfl⟩, ⟨h.r rfl, h.a rfl⟩, ⟨h.r rfl, h.a rfl⟩, ⟨h.r rfl, h.a rfl⟩, h.r rfl, h.o rfl, ⟨h.r rfl, h.a rfl⟩, ⟨h.r rfl, h.a rfl⟩, ⟨h.r rfl, h.a rfl⟩, ⟨h.r rfl, h.a rfl⟩⟩
  · exact ⟨h.o rfl, ⟨h.r rfl, h.a rfl⟩, ⟨h.r rfl, h.a rfl⟩, ⟨h.r rfl, h.a rfl⟩, ⟨h.r rfl, h.a rfl⟩, ⟨h.r rfl, h.a rfl⟩, ⟨h.r rfl, h.a rfl⟩, ⟨h.r rfl, h.a rfl⟩, ⟨h.r rfl, h.a rfl⟩, ⟨h.r rfl, h.a rfl⟩, ⟨h.r rfl, h.a rfl⟩, h.r rfl, h.o rfl, ⟨h.r rfl, h.a rfl⟩, ⟨h.r rfl, h.a rfl⟩, ⟨h.r rfl, h.a rfl⟩, ⟨h.r rfl, h.a rfl⟩⟩
theorem SY.gro {g : GS} (h : SY g) {a f : Nat} {b : Option Nat} (e : rfT a f = none) : SY (gr g a f b) := by
  refine ⟨h.1, fun a' f' b' e' => ?_, h.2.2.1, h.2.2.2⟩
  have h1 := h.2.1 a' f' b' e'
  show (if a' = a then va_up (g.2.2 a) f b else g.2.2 a') f' = some b'
  by_cases ha : a' = a
  · subst ha
    rw [if_pos rfl]
    have hf : f' ≠ f := fun q => by
      rw [q] at e'
      unfold rfY at e'
      split at e'
      · rw [e] at e'; cases e'
      · cases e'
    simp [va_up, hf, h1]
  · rw [if_neg ha]; exact h1
set_option maxRecDepth 20000 in
theorem vy_Mill_use {E : EN} {g : GS} {s : MS} {Q : Option Value → SG → Prop} (t : Nat) (hS : SY g) (et : t = 88 ∨ t = 104) (h : (∀ s1_, s1_ = wi s 28 2 (s.1 t 17) → (∀ s2_, s2_ = si s1_ 29 (va_cpy (s1_.1 (t + 3)) (s1_.1 29) 0 0 6) → Q none (mk (gr g 28 0 (some t)) s2_)))) : AMet E m_Mill_use [.ref 28, .ref t] (mk g s) Q := by
  refine AMet.of (by decide) k_Mill_use [(0, .ref 28), (1, .ref t)] (Nat.le_of_ble_eq_true rfl) rfl ?_
  refine aw_aload_n (q := 1) (j := 0) rfl rfl rfl (List.mem_of_getElem? (i := 0) rfl) ?_
  refine aw_aload_n (q := 2) (j := 1) rfl rfl rfl (List.mem_of_getElem? (i := 1) rfl) ?_
  refine ag_putR (q := 5) rfl rfl fl_Mill_20 rfl rfl (SY.o hS rfl) ?_
  refine aw_aload_n (q := 6) (j := 0) rfl rfl rfl (List.mem_of_getElem? (i := 0) rfl) ?_
  refine aw_aload_n (q := 7) (j := 1) rfl rfl rfl (List.mem_of_getElem? (i := 1) rfl) ?_
  refine ag_getI (q := 10) rfl rfl fl_Mill_24 rfl (TS.o (TSy.of (SY.gro hS rfl) et)) ?_
  refine ag_putI (q := 13) rfl rfl fl_Mill_30 rfl rfl (SY.o (SY.gro hS rfl) rfl) ?_
  replace h := h _ rfl
  refine aw_aload_n (q := 14) (j := 1) rfl rfl rfl (List.mem_of_getElem? (i := 1) rfl) ?_
  refine ag_getR (q := 17) rfl rfl fl_Mill_31 rfl (TS.o (TSy.of (SY.gro hS rfl) et)) (TS.r2 (TSy.of (SY.gro hS rfl) et)) ?_
  refine aw_iconst (q := 18) (v := 0) rfl rfl (by decide) ?_
  refine aw_aload_n (q := 19) (j := 0) rfl rfl rfl (List.mem_of_getElem? (i := 0) rfl) ?_
  refine ag_getR (q := 22) rfl rfl fl_Mill_9 rfl (SY.o (SY.gro hS rfl) rfl) (SY.r (SY.gro hS rfl) rfl) ?_
  refine aw_iconst (q := 23) (v := 0) rfl rfl (by decide) ?_
  refine aw_aload_n (q := 24) (j := 0) rfl rfl rfl (List.mem_of_getElem? (i := 0) rfl) ?_
  refine ag_getR (q := 27) rfl rfl fl_Mill_9 rfl (SY.o (SY.gro hS rfl) rfl) (SY.r (SY.gro hS rfl) rfl) ?_
  refine ag_alen (q := 28) (t := 0) (N := 6) (v := 6) rfl rfl (by decide) (SY.a (SY.gro hS rfl) rfl) (by decide) ?_
  refine ag_copy (q := 31) (n0 := 6) (n1 := 6) rfl rfl (tb_c2 224 rfl rfl) (tb_c2 226 rfl rfl) (tb_c2 225 rfl rfl) (tb_c1 12 rfl rfl) (by decide) (by decide) (Nat.le_of_ble_eq_true rfl) (TS.a2 (TSy.of (SY.gro hS rfl) et)) (SY.a (SY.gro hS rfl) rfl) (by decide) (by decide) (by decide) (by decide) (by decide) ?_
  replace h := h _ rfl
  exact aw_return rfl rfl (by decide) (by decide) h
set_option maxRecDepth 20000 in
theorem vy_House_begin_2 {E : EN} {g : GS} {s : MS} {Q : Option Value → SG → Prop} (b : Nat) (t : Nat) (x2 : Int32) (hS : SY g) (h_b : HS g b) (et : t = 88 ∨ t = 104) (h : ((6 ≤ x2 → AWP E m_House_begin 40 0 0 [(0, .ref b), (1, .ref t), (2, .int 0)] [] (mk g s) Q) ∧ (¬ 6 ≤ x2 → (((s.1 t 11) ≤ x2 → vp_in x2 6 ∧ (∀ s1_, s1_ = wi s (b + 1) ((x2).toNatClampNeg) 0 → AWP E m_House_begin 2 0 0 [(0, .ref b), (1, .ref t), (2, .int (x2 + 1))] [] (mk g s1_) Q)) ∧ (¬ (s.1 t 11) ≤ x2 → vp_in x2 6 ∧ (∀ s2_, s2_ = wi s (b + 1) ((x2).toNatClampNeg) (s.1 (t + 1) ((x2).toNatClampNeg)) → AWP E m_House_begin 2 0 0 [(0, .ref b), (1, .ref t), (2, .int (x2 + 1))] [] (mk g s2_) Q)))))) : AWP E m_House_begin 2 0 0 [(0, .ref b), (1, .ref t), (2, .int x2)] [] (mk g s) Q := by
  refine aw_iload_n (q := 3) (j := 2) rfl rfl rfl (List.mem_of_getElem? (i := 2) rfl) ?_
  refine aw_bipush (q := 5) (v := 6) rfl rfl (by decide) ?_
  refine aw_icmp_ge (q := 8) (tgt := 38) rfl rfl (by decide) ⟨fun cd_1 => ?_, fun cd_1 => ?_⟩
  · replace h := h.1 cd_1
    refine aw_iconst (q := 39) (v := 0) rfl rfl (by decide) ?_
    refine aw_istore_n (q := 40) (j := 2) (ls' := [(2, .int _), (0, .ref _), (1, .ref _)]) rfl rfl rfl (by decide) rfl ?_
    refine aw_ls [1, 2, 0] rfl ?_
    exact h
  · replace h := h.2 cd_1
    refine aw_aload_n (q := 9) (j := 0) rfl rfl rfl (List.mem_of_getElem? (i := 0) rfl) ?_
    refine ag_getR (q := 12) rfl rfl fl_House_9 rfl (HS.o h_b) (HS.r0 h_b) ?_
    refine aw_iload_n (q := 13) (j := 2) rfl rfl rfl (List.mem_of_getElem? (i := 2) rfl) ?_
    refine aw_iload_n (q := 14) (j := 2) rfl rfl rfl (List.mem_of_getElem? (i := 2) rfl) ?_
    refine aw_aload_n (q := 15) (j := 1) rfl rfl rfl (List.mem_of_getElem? (i := 1) rfl) ?_
    refine ag_getI (q := 18) rfl rfl fl_House_25 rfl (TS.o (TSy.of hS et)) ?_
    refine aw_icmp_ge (q := 21) (tgt := 30) rfl rfl (by decide) ⟨fun cd_2 => ?_, fun cd_2 => ?_⟩
    · replace h := h.1 cd_2
      refine aw_iconst (q := 31) (v := 0) rfl rfl (by decide) ?_
      obtain ⟨bd_3, h⟩ := h
      refine ag_iastore (q := 32) (N := 6) rfl rfl (HS.a0 h_b) bd_3 ?_
      replace h := h _ rfl
      refine aw_iinc (q := 35) (v := _ + 1) (ls' := [(2, .int _), (0, .ref _), (1, .ref _)]) rfl rfl (List.mem_of_getElem? (i := 2) rfl) rfl (by decide) rfl ?_
      refine aw_goto (tgt := 2) rfl (by decide) ?_
      refine aw_ls [1, 2, 0] rfl ?_
      exact h
    · replace h := h.2 cd_2
      refine aw_aload_n (q := 22) (j := 1) rfl rfl rfl (List.mem_of_getElem? (i := 1) rfl) ?_
      refine ag_getR (q := 25) rfl rfl fl_House_31 rfl (TS.o (TSy.of hS et)) (TS.r0 (TSy.of hS et)) ?_
      refine aw_iload_n (q := 26) (j := 2) rfl rfl rfl (List.mem_of_getElem? (i := 2) rfl) ?_
      obtain ⟨bd_4, h⟩ := h
      refine ag_iaload (q := 27) (N := 6) rfl rfl (TS.a0 (TSy.of hS et)) bd_4 ?_
      refine aw_goto (tgt := 31) rfl (by decide) ?_
      refine ag_iastore (q := 32) (N := 6) rfl rfl (HS.a0 h_b) bd_4 ?_
      replace h := h _ rfl
      refine aw_iinc (q := 35) (v := _ + 1) (ls' := [(2, .int _), (0, .ref _), (1, .ref _)]) rfl rfl (List.mem_of_getElem? (i := 2) rfl) rfl (by decide) rfl ?_
      refine aw_goto (tgt := 2) rfl (by decide) ?_
      refine aw_ls [1, 2, 0] rfl ?_
      exact h
set_option maxRecDepth 20000 in
theorem vy_House_begin_40 {E : EN} {g : GS} {s : MS} {Q : Option Value → SG → Prop} (b : Nat) (t : Nat) (x2 : Int32) (h_b : HS g b) (h : ((36 ≤ x2 → AWP E m_House_begin 64 0 0 [(0, .ref b), (1, .ref t), (2, .int 0)] [] (mk g s) Q) ∧ (¬ 36 ≤ x2 → vp_in x2 36 ∧ (∀ s1_, s1_ = wi s (b + 2) ((x2).toNatClampNeg) 0 → AWP E m_House_begin 40 0 0 [(0, .ref b), (1, .ref t), (2, .int (x2 + 1))] [] (mk g s1_) Q)))) : AWP E m_House_begin 40 0 0 [(0, .ref b), (1, .ref t), (2, .int x2)] [] (mk g s) Q := by
  refine aw_iload_n (q := 41) (j := 2) rfl rfl rfl (List.mem_of_getElem? (i := 2) rfl) ?_
  refine aw_aload_n (q := 42) (j := 0) rfl rfl rfl (List.mem_of_getElem? (i := 0) rfl) ?_
  refine ag_getR (q := 45) rfl rfl fl_House_15 rfl (HS.o h_b) (HS.r1 h_b) ?_
  refine ag_alen (q := 46) (t := 0) (N := 36) (v := 36) rfl rfl (by decide) (HS.a1 h_b) (by decide) ?_
  refine aw_icmp_ge (q := 49) (tgt := 62) rfl rfl (by decide) ⟨fun cd_1 => ?_, fun cd_1 => ?_⟩
  · replace h := h.1 cd_1
    refine aw_iconst (q := 63) (v := 0) rfl rfl (by decide) ?_
    refine aw_istore_n (q := 64) (j := 2) (ls' := [(2, .int _), (0, .ref _), (1, .ref _)]) rfl rfl rfl (by decide) rfl ?_
    refine aw_ls [1, 2, 0] rfl ?_
    exact h
  · replace h := h.2 cd_1
    refine aw_aload_n (q := 50) (j := 0) rfl rfl rfl (List.mem_of_getElem? (i := 0) rfl) ?_
    refine ag_getR (q := 53) rfl rfl fl_House_15 rfl (HS.o h_b) (HS.r1 h_b) ?_
    refine aw_iload_n (q := 54) (j := 2) rfl rfl rfl (List.mem_of_getElem? (i := 2) rfl) ?_
    refine aw_iconst (q := 55) (v := 0) rfl rfl (by decide) ?_
    obtain ⟨bd_2, h⟩ := h
    refine ag_iastore (q := 56) (N := 36) rfl rfl (HS.a1 h_b) bd_2 ?_
    replace h := h _ rfl
    refine aw_iinc (q := 59) (v := _ + 1) (ls' := [(2, .int _), (0, .ref _), (1, .ref _)]) rfl rfl (List.mem_of_getElem? (i := 2) rfl) rfl (by decide) rfl ?_
    refine aw_goto (tgt := 40) rfl (by decide) ?_
    refine aw_ls [1, 2, 0] rfl ?_
    exact h
set_option maxRecDepth 20000 in
theorem vy_House_begin_64 {E : EN} {g : GS} {s : MS} {Q : Option Value → SG → Prop} (b : Nat) (t : Nat) (x2 : Int32) (hS : SY g) (h_b : HS g b) (et : t = 88 ∨ t = 104) (h : (((s.1 t 13) ≤ x2 → (∀ s1_, s1_ = wi s b 3 0 → (∀ s2_, s2_ = wi s1_ b 4 0 → (∀ s3_, s3_ = wi s2_ b 5 0 → (∀ s4_, s4_ = wi s3_ b 6 0 → (∀ s5_, s5_ = wi s4_ b 7 0 → (∀ s6_, s6_ = wi s5_ b 8 0 → Q none (mk g s6_)))))))) ∧ (¬ (s.1 t 13) ≤ x2 → vp_in x2 8 ∧ GV E m_Rat_begin [.ref (b + 4 + (x2).toNatClampNeg), .int (s.1 (t + 5) ((x2).toNatClampNeg)), .int (s.1 (t + 7) ((x2).toNatClampNeg))] g s (fun t7_ => AWP E m_House_begin 64 0 0 [(0, .ref b), (1, .ref t), (2, .int (x2 + 1))] [] (mk g t7_) Q)))) : AWP E m_House_begin 64 0 0 [(0, .ref b), (1, .ref t), (2, .int x2)] [] (mk g s) Q := by
  refine aw_iload_n (q := 65) (j := 2) rfl rfl rfl (List.mem_of_getElem? (i := 2) rfl) ?_
  refine aw_aload_n (q := 66) (j := 1) rfl rfl rfl (List.mem_of_getElem? (i := 1) rfl) ?_
  refine ag_getI (q := 69) rfl rfl fl_House_34 rfl (TS.o (TSy.of hS et)) ?_
  refine aw_icmp_ge (q := 72) (tgt := 99) rfl rfl (by decide) ⟨fun cd_1 => ?_, fun cd_1 => ?_⟩
  · replace h := h.1 cd_1
    refine aw_aload_n (q := 100) (j := 0) rfl rfl rfl (List.mem_of_getElem? (i := 0) rfl) ?_
    refine aw_iconst (q := 101) (v := 0) rfl rfl (by decide) ?_
    refine ag_putI (q := 104) rfl rfl fl_House_46 rfl rfl (HS.o h_b) ?_
    replace h := h _ rfl
    refine aw_aload_n (q := 105) (j := 0) rfl rfl rfl (List.mem_of_getElem? (i := 0) rfl) ?_
    refine aw_iconst (q := 106) (v := 0) rfl rfl (by decide) ?_
    refine ag_putI (q := 109) rfl rfl fl_House_49 rfl rfl (HS.o h_b) ?_
    replace h := h _ rfl
    refine aw_aload_n (q := 110) (j := 0) rfl rfl rfl (List.mem_of_getElem? (i := 0) rfl) ?_
    refine aw_iconst (q := 111) (v := 0) rfl rfl (by decide) ?_
    refine ag_putI (q := 114) rfl rfl fl_House_52 rfl rfl (HS.o h_b) ?_
    replace h := h _ rfl
    refine aw_aload_n (q := 115) (j := 0) rfl rfl rfl (List.mem_of_getElem? (i := 0) rfl) ?_
    refine aw_iconst (q := 116) (v := 0) rfl rfl (by decide) ?_
    refine ag_putI (q := 119) rfl rfl fl_House_55 rfl rfl (HS.o h_b) ?_
    replace h := h _ rfl
    refine aw_aload_n (q := 120) (j := 0) rfl rfl rfl (List.mem_of_getElem? (i := 0) rfl) ?_
    refine aw_iconst (q := 121) (v := 0) rfl rfl (by decide) ?_
    refine ag_putI (q := 124) rfl rfl fl_House_58 rfl rfl (HS.o h_b) ?_
    replace h := h _ rfl
    refine aw_aload_n (q := 125) (j := 0) rfl rfl rfl (List.mem_of_getElem? (i := 0) rfl) ?_
    refine aw_iconst (q := 126) (v := 0) rfl rfl (by decide) ?_
    refine ag_putI (q := 129) rfl rfl fl_House_61 rfl rfl (HS.o h_b) ?_
    replace h := h _ rfl
    exact aw_return rfl rfl (by decide) (by decide) h
  · replace h := h.2 cd_1
    refine aw_aload_n (q := 73) (j := 0) rfl rfl rfl (List.mem_of_getElem? (i := 0) rfl) ?_
    refine ag_getR (q := 76) rfl rfl fl_House_20 rfl (HS.o h_b) (HS.r2 h_b) ?_
    refine aw_iload_n (q := 77) (j := 2) rfl rfl rfl (List.mem_of_getElem? (i := 2) rfl) ?_
    obtain ⟨bd_2, h⟩ := h
    refine ag_aaload (q := 78) rfl rfl (Or.inr rfl) (HS.a2 h_b) bd_2 (HS.rr h_b bd_2) ?_
    refine aw_aload_n (q := 79) (j := 1) rfl rfl rfl (List.mem_of_getElem? (i := 1) rfl) ?_
    refine ag_getR (q := 82) rfl rfl fl_House_36 rfl (TS.o (TSy.of hS et)) (TS.r4 (TSy.of hS et)) ?_
    refine aw_iload_n (q := 83) (j := 2) rfl rfl rfl (List.mem_of_getElem? (i := 2) rfl) ?_
    refine ag_iaload (q := 84) (N := 8) rfl rfl (TS.a4 (TSy.of hS et)) bd_2 ?_
    refine aw_aload_n (q := 85) (j := 1) rfl rfl rfl (List.mem_of_getElem? (i := 1) rfl) ?_
    refine ag_getR (q := 88) rfl rfl fl_House_39 rfl (TS.o (TSy.of hS et)) (TS.r6 (TSy.of hS et)) ?_
    refine aw_iload_n (q := 89) (j := 2) rfl rfl rfl (List.mem_of_getElem? (i := 2) rfl) ?_
    refine ag_iaload (q := 90) (N := 8) rfl rfl (TS.a6 (TSy.of hS et)) bd_2 ?_
    refine ag_cvV (z := m_Rat_begin) (ci := 6) (av := [.int _, .int _]) (st := []) (q := 93) (k' := 0) (n' := 0) rfl rfl cv_House_42 ⟨by decide, by decide⟩ rfl rfl (by decide) (by decide) (HS.ro h_b bd_2) rfl rfl rfl (Nat.le_of_ble_eq_true rfl) ?_
    refine GV.mono h (fun t7_ h => ?_)
    refine aw_iinc (q := 96) (v := _ + 1) (ls' := [(2, .int _), (0, .ref _), (1, .ref _)]) rfl rfl (List.mem_of_getElem? (i := 2) rfl) rfl (by decide) rfl ?_
    refine aw_goto (tgt := 64) rfl (by decide) ?_
    refine aw_ls [1, 2, 0] rfl ?_
    exact h
set_option maxRecDepth 20000 in
theorem vy_House_begin {E : EN} {g : GS} {s : MS} {Q : Option Value → SG → Prop} (b : Nat) (t : Nat) (h : AWP E m_House_begin 2 0 0 [(0, .ref b), (1, .ref t), (2, .int 0)] [] (mk g s) Q) : AMet E m_House_begin [.ref b, .ref t] (mk g s) Q := by
  refine AMet.of (by decide) k_House_begin [(0, .ref b), (1, .ref t)] (Nat.le_of_ble_eq_true rfl) rfl ?_
  refine aw_iconst (q := 1) (v := 0) rfl rfl (by decide) ?_
  refine aw_istore_n (q := 2) (j := 2) (ls' := [(2, .int _), (0, .ref _), (1, .ref _)]) rfl rfl rfl (by decide) rfl ?_
  refine aw_ls [1, 2, 0] rfl ?_
  exact h
set_option maxRecDepth 20000 in
theorem vy_Facts_clear {E : EN} {g : GS} {s : MS} {Q : Option Value → SG → Prop}  (hS : SY g) (h : (∀ s1_, s1_ = wi s 56 7 0 → (∀ s2_, s2_ = wi s1_ 56 6 0 → Q none (mk g s2_)))) : AMet E m_Facts_clear [.ref 56] (mk g s) Q := by
  refine AMet.of (by decide) k_Facts_clear [(0, .ref 56)] (Nat.le_of_ble_eq_true rfl) rfl ?_
  refine aw_aload_n (q := 1) (j := 0) rfl rfl rfl (List.mem_of_getElem? (i := 0) rfl) ?_
  refine aw_iconst (q := 2) (v := 0) rfl rfl (by decide) ?_
  refine ag_putI (q := 5) rfl rfl fl_Facts_34 rfl rfl (SY.o hS rfl) ?_
  replace h := h _ rfl
  refine aw_aload_n (q := 6) (j := 0) rfl rfl rfl (List.mem_of_getElem? (i := 0) rfl) ?_
  refine aw_iconst (q := 7) (v := 0) rfl rfl (by decide) ?_
  refine ag_putZ (q := 10) rfl rfl fl_Facts_38 rfl rfl (by decide) (SY.o hS rfl) ?_
  replace h := h _ rfl
  exact aw_return rfl rfl (by decide) (by decide) h
set_option maxRecDepth 20000 in
theorem vy_Planner_dropWays {E : EN} {g : GS} {s : MS} {Q : Option Value → SG → Prop}  (hS : SY g) (h : (∀ s1_, s1_ = wi s 31 4 0 → Q none (mk g s1_))) : AMet E m_Planner_dropWays [.ref 31] (mk g s) Q := by
  refine AMet.of (by decide) k_Planner_dropWays [(0, .ref 31)] (Nat.le_of_ble_eq_true rfl) rfl ?_
  refine aw_aload_n (q := 1) (j := 0) rfl rfl rfl (List.mem_of_getElem? (i := 0) rfl) ?_
  refine aw_iconst (q := 2) (v := 0) rfl rfl (by decide) ?_
  refine ag_putI (q := 5) rfl rfl fl_Planner_21 rfl rfl (SY.o hS rfl) ?_
  replace h := h _ rfl
  exact aw_return rfl rfl (by decide) (by decide) h
set_option maxRecDepth 20000 in
theorem vy_Rs_startOver {E : EN} {g : GS} {s : MS} {Q : Option Value → SG → Prop} (t : Nat) (hS : SY g) (ht : g.2.2 16 10 = some t) (h : XV E m_Mill_use [.ref 28, .ref t] g s (fun g1_ t1_ => SY g1_ ∧ g1_.2.2 16 10 = some t ∧ GV E m_House_begin [.ref 74, .ref t] g1_ t1_ (fun t2_ => GV E m_Facts_clear [.ref 56] g1_ t2_ (fun t3_ => GV E m_Planner_dropWays [.ref 31] g1_ t3_ (fun t4_ => (∀ s5_, s5_ = wi t4_ 16 15 0 → (∀ s6_, s6_ = wi s5_ 16 16 0 → Q none (mk g1_ s6_)))))))) : AMet E m_Rs_startOver [.ref 16] (mk g s) Q := by
  refine AMet.of (by decide) k_Rs_startOver [(0, .ref 16)] (Nat.le_of_ble_eq_true rfl) rfl ?_
  refine aw_aload_n (q := 1) (j := 0) rfl rfl rfl (List.mem_of_getElem? (i := 0) rfl) ?_
  refine ag_getR (q := 4) rfl rfl fl_Rs_81 rfl (SY.o hS rfl) (SY.r hS rfl) ?_
  refine aw_aload_n (q := 5) (j := 0) rfl rfl rfl (List.mem_of_getElem? (i := 0) rfl) ?_
  refine ag_getR (q := 8) rfl rfl fl_Rs_60 rfl (SY.o hS rfl) ht ?_
  refine ax_cvV (z := m_Mill_use) (ci := 4) (av := [.ref _]) (st := []) (q := 11) (k' := 0) (n' := 0) rfl rfl cv_Rs_353 ⟨by decide, by decide⟩ rfl rfl (by decide) (by decide) (SY.o hS rfl) rfl rfl rfl (Nat.le_of_ble_eq_true rfl) ?_
  refine XV.mono h (fun g1_ t1_ h => ?_)
  obtain ⟨hS1_, h⟩ := h
  obtain ⟨ht1_, h⟩ := h
  refine aw_aload_n (q := 12) (j := 0) rfl rfl rfl (List.mem_of_getElem? (i := 0) rfl) ?_
  refine ag_getR (q := 15) rfl rfl fl_Rs_46 rfl (SY.o hS1_ rfl) (SY.r hS1_ rfl) ?_
  refine aw_aload_n (q := 16) (j := 0) rfl rfl rfl (List.mem_of_getElem? (i := 0) rfl) ?_
  refine ag_getR (q := 19) rfl rfl fl_Rs_60 rfl (SY.o hS1_ rfl) ht1_ ?_
  refine ag_cvV (z := m_House_begin) (ci := 2) (av := [.ref _]) (st := []) (q := 22) (k' := 0) (n' := 0) rfl rfl cv_Rs_356 ⟨by decide, by decide⟩ rfl rfl (by decide) (by decide) (HS.o (HSy.of hS1_ (b := 74) rfl)) rfl rfl rfl (Nat.le_of_ble_eq_true rfl) ?_
  refine GV.mono h (fun t2_ h => ?_)
  refine aw_aload_n (q := 23) (j := 0) rfl rfl rfl (List.mem_of_getElem? (i := 0) rfl) ?_
  refine ag_getR (q := 26) rfl rfl fl_Rs_39 rfl (SY.o hS1_ rfl) (SY.r hS1_ rfl) ?_
  refine ag_cvV (z := m_Facts_clear) (ci := 0) (av := []) (st := []) (q := 29) (k' := 0) (n' := 0) rfl rfl cv_Rs_359 ⟨by decide, by decide⟩ rfl rfl (by decide) (by decide) (SY.o hS1_ rfl) rfl rfl rfl (Nat.le_of_ble_eq_true rfl) ?_
  refine GV.mono h (fun t3_ h => ?_)
  refine aw_aload_n (q := 30) (j := 0) rfl rfl rfl (List.mem_of_getElem? (i := 0) rfl) ?_
  refine ag_getR (q := 33) rfl rfl fl_Rs_32 rfl (SY.o hS1_ rfl) (SY.r hS1_ rfl) ?_
  refine ag_cvV (z := m_Planner_dropWays) (ci := 5) (av := []) (st := []) (q := 36) (k' := 0) (n' := 0) rfl rfl cv_Rs_243 ⟨by decide, by decide⟩ rfl rfl (by decide) (by decide) (SY.o hS1_ rfl) rfl rfl rfl (Nat.le_of_ble_eq_true rfl) ?_
  refine GV.mono h (fun t4_ h => ?_)
  refine aw_aload_n (q := 37) (j := 0) rfl rfl rfl (List.mem_of_getElem? (i := 0) rfl) ?_
  refine aw_iconst (q := 38) (v := 0) rfl rfl (by decide) ?_
  refine ag_putI (q := 41) rfl rfl fl_Rs_233 rfl rfl (SY.o hS1_ rfl) ?_
  replace h := h _ rfl
  refine aw_aload_n (q := 42) (j := 0) rfl rfl rfl (List.mem_of_getElem? (i := 0) rfl) ?_
  refine aw_iconst (q := 43) (v := 0) rfl rfl (by decide) ?_
  refine ag_putI (q := 46) rfl rfl fl_Rs_341 rfl rfl (SY.o hS1_ rfl) ?_
  replace h := h _ rfl
  exact aw_return rfl rfl (by decide) (by decide) h
section YBegin
variable {E : EN} {d : TD} {t lv : Nat} {g : GS} {s : MS} {b : Nat}
theorem fy_House_begin {R : MS → Prop} (hS : SY g) (hH : HS g b) (hb : HB b) (et : t = 88 ∨ t = 104) (hO : TOk d) (hT : TC d t s) (hC : CH b s) (h : ∀ u, nm (dE d) (hr u b) = beg d → CH b u → FrH b s u → R u) : GV E m_House_begin [.ref b, .ref t] g s R := by
  have g6 := hO.g6
  have r8 := hO.r8
  have hb' := hb
  unfold HB at hb'
  have tc : ∀ u, FrH b s u → TC d t u := fun u hu => hT.mv (fun a h1 h2 => hu.1 a (by omega))
  have n1 : ∀ x : Nat, x ≠ b + 1 → ∀ (z : MS) k v, (wi z (b + 1) k v).1 x = z.1 x := fun x hx z k v => wi_n z k v hx
  have last : ∀ u, (∀ j, j < 6 → u.1 (b + 1) j = if j < nG d then dPo d j else 0) → (∀ j, j < 36 → u.1 (b + 2) j = 0) → (∀ r, r < nR d → RBg d b r u) → CH b u → FrH b s u → AWP E m_House_begin 64 0 0 [(0, .ref b), (1, .ref t), (2, .int (nI (nR d)))] [] (mk g u) (qV g R) := by
    intro u a1 a2 a3 a4 a5
    refine vy_House_begin_64 b t _ hS hH et ?_
    rw [(tc u a5).ra]
    refine pk_le (nR d) (nR d) (fun _ s1 e1 s2 e2 s3 e3 s4 e4 s5 e5 s6 e6 => GV.r (h s6 ?_ ?_ ?_)) (fun q => absurd q (by omega))
    · have eb : ∀ x, x ≠ b → s6.1 x = u.1 x := fun x hx => by rw [e6, wi_n _ _ _ hx, e5, wi_n _ _ _ hx, e4, wi_n _ _ _ hx, e3, wi_n _ _ _ hx, e2, wi_n _ _ _ hx, e1, wi_n _ _ _ hx]
      have ez : ∀ j, 3 ≤ j → j ≤ 8 → s6.1 b j = 0 := fun j j1 j2 => by
        rw [e6, wi_s, e5, wi_s, e4, wi_s, e3, wi_s, e2, wi_s, e1, wi_s]
        have : j = 3 ∨ j = 4 ∨ j = 5 ∨ j = 6 ∨ j = 7 ∨ j = 8 := by omega
        rcases this with rfl | rfl | rfl | rfl | rfl | rfl <;> simp [upd]
      refine nm_beg r8 (fun k hk => ?_) (fun k k1 k2 => ?_) (fun r hr' => ?_) (fun k k1 k2 => ?_)
      · rw [hr_hp _ _ hk, eb _ (by omega)]; exact a1 k hk
      · rw [show k = 6 + (k - 6) by omega, hr_ho _ _ (by omega), eb _ (by omega)]; exact a2 _ (by omega)
      · obtain ⟨w0, w1, w2, w4, w5, w6, w7⟩ := a3 r hr'
        have l8 : r < 8 := by omega
        have en : s6.1 (b + 4 + r) = u.1 (b + 4 + r) := eb _ (by omega)
        rw [hr42 _ _ l8, hr50 _ _ l8, hr58 _ _ l8, hr66 _ _ l8, hr74 _ _ l8, hr82 _ _ l8, hr90 _ _ l8, hr98 _ _ l8, hr106 _ _ l8, en, w0, w1, w2, w4, w5, w6, w7]
        exact ⟨rfl, rfl, rfl, rfl, rfl, rfl, rfl, rfl, rfl⟩
      · have : k = 114 ∨ k = 115 ∨ k = 116 ∨ k = 117 ∨ k = 118 ∨ k = 119 := by omega
        rcases this with rfl | rfl | rfl | rfl | rfl | rfl
        · rw [hr114]; exact ez 3 (by omega) (by omega)
        · rw [hr115]; exact ez 5 (by omega) (by omega)
        · rw [hr116]; exact ez 6 (by omega) (by omega)
        · rw [hr117]; exact ez 7 (by omega) (by omega)
        · rw [hr118]; exact ez 4 (by omega) (by omega)
        · rw [hr119]; exact ez 8 (by omega) (by omega)
    · rw [e6, e5, e4, e3, e2, e1]
      exact (((((a4.wi (by omega)).wi (by omega)).wi (by omega)).wi (by omega)).wi (by omega)).wi (by omega)
    · rw [e6, e5, e4, e3, e2, e1]
      exact a5.tr ((FrH.w (by omega) (by omega)).tr ((FrH.w (by omega) (by omega)).tr ((FrH.w (by omega) (by omega)).tr ((FrH.w (by omega) (by omega)).tr ((FrH.w (by omega) (by omega)).tr (FrH.w (by omega) (by omega)))))))
  have third : ∀ u, (∀ j, j < 6 → u.1 (b + 1) j = if j < nG d then dPo d j else 0) → (∀ j, j < 36 → u.1 (b + 2) j = 0) → CH b u → FrH b s u → AWP E m_House_begin 64 0 0 [(0, .ref b), (1, .ref t), (2, .int (nI 0))] [] (mk g u) (qV g R) := by
    intro u0 p1 p2 p3 p4
    refine upto (P := fun k => ∀ u, (∀ j, j < 6 → u.1 (b + 1) j = if j < nG d then dPo d j else 0) → (∀ j, j < 36 → u.1 (b + 2) j = 0) → (∀ r, r < k → RBg d b r u) → CH b u → FrH b s u → AWP E m_House_begin 64 0 0 [(0, .ref b), (1, .ref t), (2, .int (nI k))] [] (mk g u) (qV g R)) (nR d) last ?_ 0 (Nat.zero_le _) u0 p1 p2 (fun r hr' => absurd hr' (by omega)) p3 p4
    intro k hk ih u a1 a2 a3 a4 a5
    refine vy_House_begin_64 b t _ hS hH et ?_
    have T := tc u a5
    obtain ⟨q1, -, q3, -⟩ := T.rt hk
    rw [T.ra, tn_n (by omega), nI_1 k, q1, q3]
    refine pk_le (nR d) k (fun q => absurd q (by omega)) (fun _ => ⟨vp_in_nI (by omega) (by omega), ?_⟩)
    refine v_Rat_begin (Q := qV g _) (b + 4 + k) _ _ (hH.2.2.2.2.2.2.2 k (by omega)).2 (fun s1 e1 s2 e2 s3 e3 s4 e4 s5 e5 s6 e6 s7 e7 s8 e8 s9 e9 => GV.r (ih s9 ?_ ?_ ?_ ?_ ?_))
    all_goals have eb : ∀ x, x ≠ b + 4 + k → s9.1 x = u.1 x := fun x hx => by rw [e9, wi_n _ _ _ hx, e8, wi_n _ _ _ hx, e7, wi_n _ _ _ hx, e6, wi_n _ _ _ hx, e5, wi_n _ _ _ hx, e4, wi_n _ _ _ hx, e3, wi_n _ _ _ hx, e2, wi_n _ _ _ hx, e1, wi_n _ _ _ hx]
    · rw [eb _ (by omega)]; exact a1
    · rw [eb _ (by omega)]; exact a2
    · intro r hr'
      by_cases z : r = k
      · subst z
        unfold RBg
        rw [e9, wi_s, e8, wi_s, e7, wi_s, e6, wi_s, e5, wi_s, e4, wi_s, e3, wi_s, e2, wi_s, e1, wi_s]
        refine ⟨?_, ?_, ?_, ?_, ?_, ?_, ?_⟩ <;> simp [upd]
      · unfold RBg
        rw [eb _ (by omega)]; exact a3 r (by omega)
    · intro r hr'
      by_cases z : r = k
      · subst z
        refine ⟨0, by decide, ?_⟩
        rw [e9, wi_s, e8, wi_s, e7, wi_s, e6, wi_s, e5, wi_s, e4, wi_s, e3, wi_s, e2, wi_s, e1, wi_s]
        simp [upd]; rfl
      · rw [eb _ (by omega)]; exact a4 r hr'
    · refine a5.tr ⟨fun a ha => eb a (by omega), ?_⟩
      rw [e9, wi_2, e8, wi_2, e7, wi_2, e6, wi_2, e5, wi_2, e4, wi_2, e3, wi_2, e2, wi_2, e1, wi_2]
  have second : ∀ u, (∀ j, j < 6 → u.1 (b + 1) j = if j < nG d then dPo d j else 0) → CH b u → FrH b s u → AWP E m_House_begin 40 0 0 [(0, .ref b), (1, .ref t), (2, .int (nI 0))] [] (mk g u) (qV g R) := by
    intro u0 p1 p3 p4
    refine upto (P := fun k => ∀ u, (∀ j, j < 6 → u.1 (b + 1) j = if j < nG d then dPo d j else 0) → (∀ j, j < k → u.1 (b + 2) j = 0) → CH b u → FrH b s u → AWP E m_House_begin 40 0 0 [(0, .ref b), (1, .ref t), (2, .int (nI k))] [] (mk g u) (qV g R)) 36 ?_ ?_ 0 (Nat.zero_le _) u0 p1 (fun r hr' => absurd hr' (by omega)) p3 p4
    · intro u a1 a2 a4 a5
      exact vy_House_begin_40 b t _ hH (pk_le 36 36 (fun _ => third u a1 a2 a4 a5) (fun q => absurd q (by omega)))
    · intro k hk ih u a1 a2 a4 a5
      refine vy_House_begin_40 b t _ hH (pk_le 36 k (fun q => absurd q (by omega)) (fun _ => ?_))
      rw [tn_n (by omega), nI_1 k]
      refine ⟨vp_in_nI (by omega) (by omega), fun s1 e1 => ih s1 ?_ ?_ ?_ ?_⟩
      · rw [e1, wi_n _ _ _ (by omega)]; exact a1
      · intro j hj
        rw [e1, wi_s, upd_a]
        split
        · rfl
        · exact a2 j (by omega)
      · rw [e1]; exact a4.wi (by omega)
      · rw [e1]; exact a5.tr (FrH.w (by omega) (by omega))
  refine vy_House_begin (Q := qV g R) b t ?_
  refine upto (P := fun k => ∀ u, (∀ j, j < k → u.1 (b + 1) j = if j < nG d then dPo d j else 0) → CH b u → FrH b s u → AWP E m_House_begin 2 0 0 [(0, .ref b), (1, .ref t), (2, .int (nI k))] [] (mk g u) (qV g R)) 6 ?_ ?_ 0 (Nat.zero_le _) s (fun r hr' => absurd hr' (by omega)) hC (FrH.rf b s)
  · intro u a1 a4 a5
    exact vy_House_begin_2 b t _ hS hH et (pk_le 6 6 (fun _ => second u a1 a4 a5) (fun q => absurd q (by omega)))
  · intro k hk ih u a1 a4 a5
    refine vy_House_begin_2 b t _ hS hH et (pk_le 6 k (fun q => absurd q (by omega)) (fun _ => ?_))
    have T := tc u a5
    rw [T.gr, tn_n (by omega), nI_1 k]
    have fi : ∀ v, v = (if k < nG d then dPo d k else 0) → ∀ s1, s1 = wi u (b + 1) k v → AWP E m_House_begin 2 0 0 [(0, .ref b), (1, .ref t), (2, .int (nI (k + 1)))] [] (mk g s1) (qV g R) := by
      intro v hv s1 e1
      refine ih s1 ?_ ?_ ?_
      · intro j hj
        rw [e1, wi_s, upd_a]
        split
        · rename_i z; rw [z]; exact hv
        · exact a1 j (by omega)
      · rw [e1]; exact a4.wi (by omega)
      · rw [e1]; exact a5.tr (FrH.w (by omega) (by omega))
    refine pk_le (nG d) k (fun q => ⟨vp_in_nI (by omega) (by omega), fun s1 e1 => fi 0 ?_ s1 e1⟩) (fun q => ⟨vp_in_nI (by omega) (by omega), fun s1 e1 => fi _ ?_ s1 e1⟩)
    · rw [if_neg (by omega)]
    · rw [if_pos (by omega)]; exact T.po (by omega)
theorem fy_Facts_clear {R : MS → Prop} (hS : SY g) (h : ∀ u, u.1 56 7 = 0 → u.1 56 6 = 0 → (∀ a, a ≠ 56 → u.1 a = s.1 a) → u.2 = s.2 → R u) : GV E m_Facts_clear [.ref 56] g s R :=
  vy_Facts_clear (Q := qV g R) hS (fun s1 e1 s2 e2 => GV.r (h s2 (by rw [e2, wi_s, upd_n _ _ (by decide), e1, wi_s, upd_s]) (by rw [e2, wi_s, upd_s]) (fun a ha => by rw [e2, wi_n _ _ _ ha, e1, wi_n _ _ _ ha]) (by rw [e2, wi_2, e1, wi_2])))
theorem fy_Rs_start {R : GS → MS → Prop} {d' : TD} {t2 e : Nat} (hS : SY g) (et : t2 = 88 ∨ t2 = 104) (h10 : g.2.2 16 10 = some t2) (hO : TOk d') (hC : TCf d' t2 s) (h74 : CH 74 s) (h62 : CH 62 s)
    (h : ∀ u, TC d' t2 u → (∀ j, j < nH d' → u.1 29 j = eFa (dE d') j) → u.1 28 2 = eSd (dE d') → nm (dE d') (hr u 74) = beg d' → CH 74 u → CH 62 u → u.1 31 4 = 0 → u.1 16 15 = 0 → u.1 16 16 = 0 → u.1 56 7 = 0 → u.1 56 6 = 0 → (∀ j, j ≠ 15 → j ≠ 16 → u.1 16 j = s.1 16 j) → (∀ a, a ≠ 16 → a ≠ 28 → a ≠ 29 → a ≠ 31 → a ≠ 56 → ¬ (74 ≤ a ∧ a < 86) → u.1 a = s.1 a) → u.2 = s.2 → R (gr g 28 0 (some t2)) u) : XV E m_Rs_startOver [.ref 16] g s R := by
  have hS' : SY (gr g 28 0 (some t2)) := SY.gro hS (by decide)
  refine vy_Rs_startOver (Q := rV R) t2 hS h10 ?_
  refine vy_Mill_use (Q := rV _) t2 hS et (fun s1 e1 s2 e2 => ⟨_, _, rfl, rfl, hS', ?_, ?_⟩)
  · rw [gr_rf, if_neg (by decide)]; exact h10
  have h6 := hO.h6
  have k2 : ∀ a, a ≠ 28 → a ≠ 29 → s2.1 a = s.1 a := fun a x1 x2 => by rw [e2]; show (if a = 29 then _ else s1.1 a) = _; rw [if_neg x2, e1, wi_n _ _ _ x1]
  have l2 : s2.2 = s.2 := by rw [e2]; show s1.2 = _; rw [e1, wi_2]
  have c29 : ∀ j, j < 6 → s2.1 29 j = s.1 (t2 + 3) j := fun j hj => by
    rw [e2]
    show (if 29 = 29 then va_cpy (s1.1 (t2 + 3)) (s1.1 29) 0 0 6 else s1.1 29) j = _
    rw [if_pos rfl, cpy_b hj, e1, wi_n _ _ _ (by omega)]
  have c28 : s2.1 28 2 = eSd (dE d') := by
    have e28 : s2.1 28 = s1.1 28 := by rw [e2]; simp [si]
    rw [e28, e1, wi_s, upd_s]; exact hC.1.sd
  have C2 : TC d' t2 s2 := hC.1.mv (fun a x1 x2 => k2 a (by omega) (by omega))
  refine fy_House_begin hS' (HSy74 hS') (Or.inr (Or.inr (Or.inr (Or.inl rfl)))) et hO C2 (h74.cg (fun a x1 x2 => k2 a (by omega) (by omega))) (fun u3 f1 f2 f3 => fy_Facts_clear hS' (fun u4 f4 f5 f6 f7 => vy_Planner_dropWays (Q := qV _ _) hS' (fun u5 e5 => GV.r (fun s6 e6 s7 e7 => ?_))))
  have ka : ∀ a, a ≠ 16 → a ≠ 28 → a ≠ 29 → a ≠ 31 → a ≠ 56 → ¬ (74 ≤ a ∧ a < 86) → s7.1 a = s.1 a := fun a x1 x2 x3 x4 x5 x6 => by rw [e7, wi_n _ _ _ x1, e6, wi_n _ _ _ x1, e5, wi_n _ _ _ x4, f6 a x5, f3.1 a (by omega), k2 a x2 x3]
  have kb : ∀ a, 74 ≤ a → a < 86 → s7.1 a = u3.1 a := fun a x1 x2 => by rw [e7, wi_n _ _ _ (by omega), e6, wi_n _ _ _ (by omega), e5, wi_n _ _ _ (by omega), f6 a (by omega)]
  have kc : ∀ a, a = 28 ∨ a = 29 → s7.1 a = s2.1 a := fun a x => by rw [e7, wi_n _ _ _ (by omega), e6, wi_n _ _ _ (by omega), e5, wi_n _ _ _ (by omega), f6 a (by omega), f3.1 a (by omega)]
  have k16 : s7.1 16 = upd (upd (s.1 16) 15 0) 16 0 := by rw [e7, wi_s, e6, wi_s, e5, wi_n _ _ _ (by decide), f6 16 (by decide), f3.1 16 (by omega), k2 16 (by decide) (by decide)]
  refine rV.mk (h s7 (hC.1.mv (fun a x1 x2 => ka a (by omega) (by omega) (by omega) (by omega) (by omega) (by omega))) (fun j hj => ?_) (by rw [kc 28 (by omega)]; exact c28) (by rw [hr_c2 (s := u3) (fun a x1 x2 => kb a x1 (by omega))]; exact f1) (f2.cg (fun a x1 x2 => kb a x1 (by omega))) (h62.cg (fun a x1 x2 => ka a (by omega) (by omega) (by omega) (by omega) (by omega) (by omega))) ?_ ?_ ?_ ?_ ?_ (fun j x1 x2 => by rw [k16, upd_n _ _ x2, upd_n _ _ x1]) ka ?_)
  · rw [kc 29 (by omega), c29 j (by omega)]; exact hC.1.fa hj
  · rw [e7, wi_n _ _ _ (by decide), e6, wi_n _ _ _ (by decide), e5, wi_s, upd_s]
  · rw [k16, upd_n _ _ (by decide), upd_s]
  · rw [k16, upd_s]
  · rw [e7, wi_n _ _ _ (by decide), e6, wi_n _ _ _ (by decide), e5, wi_n _ _ _ (by decide)]; exact f4
  · rw [e7, wi_n _ _ _ (by decide), e6, wi_n _ _ _ (by decide), e5, wi_n _ _ _ (by decide)]; exact f5
  · rw [e7, wi_2, e6, wi_2, e5, wi_2, f7, f3.2, l2]
end YBegin
