/-! THE LAW: its cases -/
def LSi (i : Nat) : List (Nat × Value) := [(3, .int (nI i)), (2, .ref 120), (1, .ref 16), (0, .ref 0)]
def LWQ : Option Value → SG → Prop := fun v τ => v = some (.int 1) ∧ 120 ≤ sN τ
def bz (x : Int32) : Int32 := if x = 0 then 0 else 1
theorem bz_01 (x : Int32) : bz x = 0 ∨ bz x = 1 := by unfold bz; split <;> simp
section LawRows
variable {E : EN} {d : MD} {pc q k n : Nat} {ls : List (Nat × Value)} {st : List Value} {σ : SG} {Q : Option Value → SG → Prop}
theorem AWP.x (h : (∀ i, i < 16 → sK σ i = sK (eX E) i ∧ sI σ i = sI (eX E) i ∧ sR σ i = sR (eX E) i) → AWP E d pc k n ls st σ Q) : AWP E d pc k n ls st σ Q :=
  fun p e s m args below meth c H locs la C hS hR hl => h hR.2.2.2.2 p e s m args below meth c H locs la C hS hR hl
theorem la_arg {g : GS} {s : MS} {i j L : Nat} {ji : Int} (h1 : mI m_Law_law pc = some (.aload_n 0, 1)) (h2 : mI m_Law_law (pc + 1) = some (.iload_n 3, 1)) (h3 : mI m_Law_law (pc + 2) = some (.iconst ji, 1)) (h4 : mI m_Law_law (pc + 3) = some (.iadd, 1)) (h5 : mI m_Law_law (pc + 4) = some (.iaload, 1)) (hq : pc + 5 = q) (hj : Int32.ofInt ji = nI j) (hE : (sK (eX E) 0).2 = L) (hL : L ≤ 3072) (hi : i + j < L) (h : AWP E m_Law_law q k n (LSi i) (.int (sI (eX E) 0 (i + j)) :: st) (mk g s) Q) : AWP E m_Law_law pc k n (LSi i) st (mk g s) Q := by
  refine aw_aload_n (q := pc + 1) (j := 0) h1 rfl rfl (List.mem_of_getElem? (i := 3) rfl) ?_
  refine aw_iload_n (q := pc + 2) (j := 3) h2 rfl rfl (List.mem_of_getElem? (i := 0) rfl) ?_
  refine aw_iconst (q := pc + 3) (v := nI j) h3 rfl hj ?_
  refine aw_iadd (q := pc + 4) h4 rfl ?_
  rw [nI_add]
  refine AWP.x (fun hx => ?_)
  have e1 : g.2.1 0 = sK (eX E) 0 := (hx 0 (by omega)).1
  have e2 : s.1 0 = sI (eX E) 0 := (hx 0 (by omega)).2.1
  refine ag_xiaload (q := q) h5 hq (by omega) (by rw [e1]; exact hE) (vp_in_nI hi (by omega)) ?_
  rw [tn_n (by omega), e2]; exact h
theorem la_bool {x : Int32} (h1 : mI d pc = some (.ifCond .eq 7, 3)) (h2 : mI d (pc + 3) = some (.iconst 1, 1)) (h3 : mI d (pc + 4) = some (.goto 4, 3)) (h4 : mI d (pc + 7) = some (.iconst 0, 1)) (hq : pc + 8 = q) (h : AWP E d q k n ls (.int (bz x) :: st) σ Q) : AWP E d pc k n ls (.int x :: st) σ Q := by
  refine aw_if_eq (q := pc + 3) (tgt := pc + 7) h1 rfl (by omega) ⟨fun z => ?_, fun z => ?_⟩
  · refine aw_iconst (q := q) (v := 0) h4 (by omega) (by decide) ?_
    rw [show bz x = 0 from if_pos z] at h; exact h
  · refine aw_iconst (q := pc + 4) (v := 1) h2 (by omega) (by decide) ?_
    refine aw_goto (tgt := q) h3 (by omega) ?_
    rw [show bz x = 1 from if_neg z] at h; exact h
end LawRows
theorem law_c : (mR m_Law_law).cells = 600000 := rfl
theorem law_s : (mR m_Law_law).slots = 7302250 := rfl
def NXT (E : EN) (i c k n : Nat) : Prop := ∀ d t lv π g s k' n', INV d t lv (c + 1) π g s → k' ≤ k + 12 → n' ≤ n + 131 → AWP E m_Law_law 1289 k' n' (LSi i) [] (mk g s) LWQ
section LawCases
variable {E : EN} {d : TD} {t lv c : Nat} {π : PS} {g : GS} {s : MS} {k n i L : Nat}
theorem lc_feed (hE : (sK (eX E) 0).2 = L) (hL : L ≤ 3072) (hi : i + 6 ≤ L) (hc : c < 512) (hk : k + 12 ≤ 600000) (hn : n + 131 ≤ 7302250) (I : INV d t lv c π g s) (H : NXT E i c k n) : AWP E m_Law_law 196 k n (LSi i) [] (mk g s) LWQ := by
  have hS : SX g := I.1.1.sx
  refine aw_aload_n (q := 197) (j := 1) rfl rfl rfl (List.mem_of_getElem? (i := 2) rfl) ?_
  refine la_arg (q := 202) (j := 1) rfl rfl rfl rfl rfl rfl (by decide) hE hL (by omega) ?_
  refine la_arg (q := 207) (j := 2) rfl rfl rfl rfl rfl rfl (by decide) hE hL (by omega) ?_
  refine la_arg (q := 212) (j := 3) rfl rfl rfl rfl rfl rfl (by decide) hE hL (by omega) ?_
  refine la_arg (q := 217) (j := 4) rfl rfl rfl rfl rfl rfl (by decide) hE hL (by omega) ?_
  refine la_arg (q := 222) (j := 5) rfl rfl rfl rfl rfl rfl (by decide) hE hL (by omega) ?_
  refine ag_cvI (z := m_Rs_feed) (ci := 10) (a := 16) (av := [.int (sI (eX E) 0 (i + 1)), .int (sI (eX E) 0 (i + 2)), .int (sI (eX E) 0 (i + 3)), .int (sI (eX E) 0 (i + 4)), .int (sI (eX E) 0 (i + 5))]) (st := []) (q := 225) (k' := (k + 0)) (n' := (n + 0)) rfl rfl cv_Law_13 ⟨by decide, by decide⟩ rfl rfl (by rw [law_c]; omega) (by rw [law_s]; omega) (SX.o hS rfl) rfl rfl rfl (Nat.le_of_ble_eq_true rfl) ?_
  refine GI.mono (o_feed (Q := fun y y' v => AWP E m_Law_law 254 (k + 0) (n + 0) (LSi i) [.int y', .int y] (mk g v) LWQ) I (fun A π' v I' => aw_icmp_eq (q := 257) (tgt := 1289) rfl rfl (by decide) ⟨fun _ => H _ _ _ _ _ _ _ _ (I'.le hc) (by omega) (by omega), fun z => absurd rfl z⟩)) (fun y u hgi => ?_)
  refine aw_aload_n (q := 226) (j := 2) rfl rfl rfl (List.mem_of_getElem? (i := 1) rfl) ?_
  refine la_arg (q := 231) (j := 1) rfl rfl rfl rfl rfl rfl (by decide) hE hL (by omega) ?_
  refine la_arg (q := 236) (j := 2) rfl rfl rfl rfl rfl rfl (by decide) hE hL (by omega) ?_
  refine la_arg (q := 241) (j := 3) rfl rfl rfl rfl rfl rfl (by decide) hE hL (by omega) ?_
  refine la_arg (q := 246) (j := 4) rfl rfl rfl rfl rfl rfl (by decide) hE hL (by omega) ?_
  refine la_arg (q := 251) (j := 5) rfl rfl rfl rfl rfl rfl (by decide) hE hL (by omega) ?_
  exact ag_cvI (z := m_Mo_feed) (ci := 11) (a := 120) (av := [.int (sI (eX E) 0 (i + 1)), .int (sI (eX E) 0 (i + 2)), .int (sI (eX E) 0 (i + 3)), .int (sI (eX E) 0 (i + 4)), .int (sI (eX E) 0 (i + 5))]) (st := [.int y]) (q := 254) (k' := (k + 0)) (n' := (n + 0)) rfl rfl cv_Law_17 ⟨by decide, by decide⟩ rfl rfl (by rw [law_c]; omega) (by rw [law_s]; omega) (SX.o hS rfl) rfl rfl rfl (Nat.le_of_ble_eq_true rfl) hgi
theorem lc_back (hE : (sK (eX E) 0).2 = L) (hL : L ≤ 3072) (hi : i + 6 ≤ L) (hc : c < 512) (hk : k + 12 ≤ 600000) (hn : n + 131 ≤ 7302250) (I : INV d t lv c π g s) (H : NXT E i c k n) : AWP E m_Law_law 259 k n (LSi i) [] (mk g s) LWQ := by
  have hS : SX g := I.1.1.sx
  refine aw_aload_n (q := 260) (j := 1) rfl rfl rfl (List.mem_of_getElem? (i := 2) rfl) ?_
  refine la_arg (q := 265) (j := 1) rfl rfl rfl rfl rfl rfl (by decide) hE hL (by omega) ?_
  refine ag_cvI (z := m_Rs_back) (ci := 10) (a := 16) (av := [.int (sI (eX E) 0 (i + 1))]) (st := []) (q := 268) (k' := (k + 0)) (n' := (n + 0)) rfl rfl cv_Law_18 ⟨by decide, by decide⟩ rfl rfl (by rw [law_c]; omega) (by rw [law_s]; omega) (SX.o hS rfl) rfl rfl rfl (Nat.le_of_ble_eq_true rfl) ?_
  refine GI.mono (o_back (Q := fun y y' v => AWP E m_Law_law 277 (k + 0) (n + 0) (LSi i) [.int y', .int y] (mk g v) LWQ) I (fun A π' v I' => aw_icmp_eq (q := 280) (tgt := 1289) rfl rfl (by decide) ⟨fun _ => H _ _ _ _ _ _ _ _ (I'.le hc) (by omega) (by omega), fun z => absurd rfl z⟩)) (fun y u hgi => ?_)
  refine aw_aload_n (q := 269) (j := 2) rfl rfl rfl (List.mem_of_getElem? (i := 1) rfl) ?_
  refine la_arg (q := 274) (j := 1) rfl rfl rfl rfl rfl rfl (by decide) hE hL (by omega) ?_
  exact ag_cvI (z := m_Mo_back) (ci := 11) (a := 120) (av := [.int (sI (eX E) 0 (i + 1))]) (st := [.int y]) (q := 277) (k' := (k + 0)) (n' := (n + 0)) rfl rfl cv_Law_22 ⟨by decide, by decide⟩ rfl rfl (by rw [law_c]; omega) (by rw [law_s]; omega) (SX.o hS rfl) rfl rfl rfl (Nat.le_of_ble_eq_true rfl) hgi
theorem lc_read (hE : (sK (eX E) 0).2 = L) (hL : L ≤ 3072) (hi : i + 6 ≤ L) (hc : c < 512) (hk : k + 12 ≤ 600000) (hn : n + 131 ≤ 7302250) (I : INV d t lv c π g s) (H : NXT E i c k n) : AWP E m_Law_law 282 k n (LSi i) [] (mk g s) LWQ := by
  have hS : SX g := I.1.1.sx
  refine aw_aload_n (q := 283) (j := 1) rfl rfl rfl (List.mem_of_getElem? (i := 2) rfl) ?_
  refine ax_cvI (z := m_Rs_read) (ci := 10) (a := 16) (av := []) (st := []) (q := 286) (k' := (k + 0)) (n' := (n + 0)) rfl rfl cv_Law_23 ⟨by decide, by decide⟩ rfl rfl (by rw [law_c]; omega) (by rw [law_s]; omega) (SX.o hS rfl) rfl rfl rfl (Nat.le_of_ble_eq_true rfl) ?_
  refine XI.mono (p_read (Q := fun y y' g' v => AWP E m_Law_law 290 (k + 0) (n + 0) (LSi i) [.int y', .int y] (mk g' v) LWQ) hc I (fun A d' t' lv' π' g' v I' => aw_icmp_eq (q := 293) (tgt := 1289) rfl rfl (by decide) ⟨fun _ => H _ _ _ _ _ _ _ _ I' (by omega) (by omega), fun z => absurd rfl z⟩)) (fun y g' u hg => ?_)
  obtain ⟨hS', hgi⟩ := hg
  refine aw_aload_n (q := 287) (j := 2) rfl rfl rfl (List.mem_of_getElem? (i := 1) rfl) ?_
  exact ag_cvI (z := m_Mo_read) (ci := 11) (a := 120) (av := []) (st := [.int y]) (q := 290) (k' := (k + 0)) (n' := (n + 0)) rfl rfl cv_Law_27 ⟨by decide, by decide⟩ rfl rfl (by rw [law_c]; omega) (by rw [law_s]; omega) (SX.o hS' rfl) rfl rfl rfl (Nat.le_of_ble_eq_true rfl) hgi
theorem lc_place (hE : (sK (eX E) 0).2 = L) (hL : L ≤ 3072) (hi : i + 6 ≤ L) (hc : c < 512) (hk : k + 12 ≤ 600000) (hn : n + 131 ≤ 7302250) (I : INV d t lv c π g s) (H : NXT E i c k n) : AWP E m_Law_law 295 k n (LSi i) [] (mk g s) LWQ := by
  have hS : SX g := I.1.1.sx
  refine aw_aload_n (q := 296) (j := 1) rfl rfl rfl (List.mem_of_getElem? (i := 2) rfl) ?_
  refine ag_cvI (z := m_Rs_place) (ci := 10) (a := 16) (av := []) (st := []) (q := 299) (k' := (k + 0)) (n' := (n + 0)) rfl rfl cv_Law_28 ⟨by decide, by decide⟩ rfl rfl (by rw [law_c]; omega) (by rw [law_s]; omega) (SX.o hS rfl) rfl rfl rfl (Nat.le_of_ble_eq_true rfl) ?_
  refine GI.mono (o_place (Q := fun y y' v => AWP E m_Law_law 303 (k + 0) (n + 0) (LSi i) [.int y', .int y] (mk g v) LWQ) I (fun A v I' => aw_icmp_eq (q := 306) (tgt := 1289) rfl rfl (by decide) ⟨fun _ => H _ _ _ _ _ _ _ _ (I'.le hc) (by omega) (by omega), fun z => absurd rfl z⟩)) (fun y u hgi => ?_)
  refine aw_aload_n (q := 300) (j := 2) rfl rfl rfl (List.mem_of_getElem? (i := 1) rfl) ?_
  exact ag_cvI (z := m_Mo_place) (ci := 11) (a := 120) (av := []) (st := [.int y]) (q := 303) (k' := (k + 0)) (n' := (n + 0)) rfl rfl cv_Law_31 ⟨by decide, by decide⟩ rfl rfl (by rw [law_c]; omega) (by rw [law_s]; omega) (SX.o hS rfl) rfl rfl rfl (Nat.le_of_ble_eq_true rfl) hgi
theorem lc_heap (hE : (sK (eX E) 0).2 = L) (hL : L ≤ 3072) (hi : i + 6 ≤ L) (hc : c < 512) (hk : k + 12 ≤ 600000) (hn : n + 131 ≤ 7302250) (I : INV d t lv c π g s) (H : NXT E i c k n) : AWP E m_Law_law 308 k n (LSi i) [] (mk g s) LWQ := by
  have hS : SX g := I.1.1.sx
  refine aw_aload_n (q := 309) (j := 1) rfl rfl rfl (List.mem_of_getElem? (i := 2) rfl) ?_
  refine la_arg (q := 314) (j := 1) rfl rfl rfl rfl rfl rfl (by decide) hE hL (by omega) ?_
  refine ag_cvI (z := m_Rs_heap) (ci := 10) (a := 16) (av := [.int (sI (eX E) 0 (i + 1))]) (st := []) (q := 317) (k' := (k + 0)) (n' := (n + 0)) rfl rfl cv_Law_32 ⟨by decide, by decide⟩ rfl rfl (by rw [law_c]; omega) (by rw [law_s]; omega) (SX.o hS rfl) rfl rfl rfl (Nat.le_of_ble_eq_true rfl) ?_
  refine GI.mono (o_heap (Q := fun y y' v => AWP E m_Law_law 326 (k + 0) (n + 0) (LSi i) [.int y', .int y] (mk g v) LWQ) I (fun A v I' => aw_icmp_eq (q := 329) (tgt := 1289) rfl rfl (by decide) ⟨fun _ => H _ _ _ _ _ _ _ _ (I'.le hc) (by omega) (by omega), fun z => absurd rfl z⟩)) (fun y u hgi => ?_)
  refine aw_aload_n (q := 318) (j := 2) rfl rfl rfl (List.mem_of_getElem? (i := 1) rfl) ?_
  refine la_arg (q := 323) (j := 1) rfl rfl rfl rfl rfl rfl (by decide) hE hL (by omega) ?_
  exact ag_cvI (z := m_Mo_heap) (ci := 11) (a := 120) (av := [.int (sI (eX E) 0 (i + 1))]) (st := [.int y]) (q := 326) (k' := (k + 0)) (n' := (n + 0)) rfl rfl cv_Law_35 ⟨by decide, by decide⟩ rfl rfl (by rw [law_c]; omega) (by rw [law_s]; omega) (SX.o hS rfl) rfl rfl rfl (Nat.le_of_ble_eq_true rfl) hgi
theorem lc_hole (hE : (sK (eX E) 0).2 = L) (hL : L ≤ 3072) (hi : i + 6 ≤ L) (hc : c < 512) (hk : k + 12 ≤ 600000) (hn : n + 131 ≤ 7302250) (I : INV d t lv c π g s) (H : NXT E i c k n) : AWP E m_Law_law 331 k n (LSi i) [] (mk g s) LWQ := by
  have hS : SX g := I.1.1.sx
  refine aw_aload_n (q := 332) (j := 1) rfl rfl rfl (List.mem_of_getElem? (i := 2) rfl) ?_
  refine la_arg (q := 337) (j := 1) rfl rfl rfl rfl rfl rfl (by decide) hE hL (by omega) ?_
  refine la_arg (q := 342) (j := 2) rfl rfl rfl rfl rfl rfl (by decide) hE hL (by omega) ?_
  refine ag_cvI (z := m_Rs_hole) (ci := 10) (a := 16) (av := [.int (sI (eX E) 0 (i + 1)), .int (sI (eX E) 0 (i + 2))]) (st := []) (q := 345) (k' := (k + 0)) (n' := (n + 0)) rfl rfl cv_Law_36 ⟨by decide, by decide⟩ rfl rfl (by rw [law_c]; omega) (by rw [law_s]; omega) (SX.o hS rfl) rfl rfl rfl (Nat.le_of_ble_eq_true rfl) ?_
  refine GI.mono (o_hole (Q := fun y y' v => AWP E m_Law_law 359 (k + 0) (n + 0) (LSi i) [.int y', .int y] (mk g v) LWQ) I (fun A v I' => aw_icmp_eq (q := 362) (tgt := 1289) rfl rfl (by decide) ⟨fun _ => H _ _ _ _ _ _ _ _ (I'.le hc) (by omega) (by omega), fun z => absurd rfl z⟩)) (fun y u hgi => ?_)
  refine aw_aload_n (q := 346) (j := 2) rfl rfl rfl (List.mem_of_getElem? (i := 1) rfl) ?_
  refine la_arg (q := 351) (j := 1) rfl rfl rfl rfl rfl rfl (by decide) hE hL (by omega) ?_
  refine la_arg (q := 356) (j := 2) rfl rfl rfl rfl rfl rfl (by decide) hE hL (by omega) ?_
  exact ag_cvI (z := m_Mo_hole) (ci := 11) (a := 120) (av := [.int (sI (eX E) 0 (i + 1)), .int (sI (eX E) 0 (i + 2))]) (st := [.int y]) (q := 359) (k' := (k + 0)) (n' := (n + 0)) rfl rfl cv_Law_40 ⟨by decide, by decide⟩ rfl rfl (by rw [law_c]; omega) (by rw [law_s]; omega) (SX.o hS rfl) rfl rfl rfl (Nat.le_of_ble_eq_true rfl) hgi
theorem lc_rat (hE : (sK (eX E) 0).2 = L) (hL : L ≤ 3072) (hi : i + 6 ≤ L) (hc : c < 512) (hk : k + 12 ≤ 600000) (hn : n + 131 ≤ 7302250) (I : INV d t lv c π g s) (H : NXT E i c k n) : AWP E m_Law_law 364 k n (LSi i) [] (mk g s) LWQ := by
  have hS : SX g := I.1.1.sx
  refine aw_aload_n (q := 365) (j := 1) rfl rfl rfl (List.mem_of_getElem? (i := 2) rfl) ?_
  refine la_arg (q := 370) (j := 1) rfl rfl rfl rfl rfl rfl (by decide) hE hL (by omega) ?_
  refine la_arg (q := 375) (j := 2) rfl rfl rfl rfl rfl rfl (by decide) hE hL (by omega) ?_
  refine ag_cvI (z := m_Rs_rat) (ci := 10) (a := 16) (av := [.int (sI (eX E) 0 (i + 1)), .int (sI (eX E) 0 (i + 2))]) (st := []) (q := 378) (k' := (k + 0)) (n' := (n + 0)) rfl rfl cv_Law_41 ⟨by decide, by decide⟩ rfl rfl (by rw [law_c]; omega) (by rw [law_s]; omega) (SX.o hS rfl) rfl rfl rfl (Nat.le_of_ble_eq_true rfl) ?_
  refine GI.mono (o_rat (Q := fun y y' v => AWP E m_Law_law 392 (k + 0) (n + 0) (LSi i) [.int y', .int y] (mk g v) LWQ) I (fun A v I' => aw_icmp_eq (q := 395) (tgt := 1289) rfl rfl (by decide) ⟨fun _ => H _ _ _ _ _ _ _ _ (I'.le hc) (by omega) (by omega), fun z => absurd rfl z⟩)) (fun y u hgi => ?_)
  refine aw_aload_n (q := 379) (j := 2) rfl rfl rfl (List.mem_of_getElem? (i := 1) rfl) ?_
  refine la_arg (q := 384) (j := 1) rfl rfl rfl rfl rfl rfl (by decide) hE hL (by omega) ?_
  refine la_arg (q := 389) (j := 2) rfl rfl rfl rfl rfl rfl (by decide) hE hL (by omega) ?_
  exact ag_cvI (z := m_Mo_rat) (ci := 11) (a := 120) (av := [.int (sI (eX E) 0 (i + 1)), .int (sI (eX E) 0 (i + 2))]) (st := [.int y]) (q := 392) (k' := (k + 0)) (n' := (n + 0)) rfl rfl cv_Law_44 ⟨by decide, by decide⟩ rfl rfl (by rw [law_c]; omega) (by rw [law_s]; omega) (SX.o hS rfl) rfl rfl rfl (Nat.le_of_ble_eq_true rfl) hgi
theorem lc_worth (hE : (sK (eX E) 0).2 = L) (hL : L ≤ 3072) (hi : i + 6 ≤ L) (hc : c < 512) (hk : k + 12 ≤ 600000) (hn : n + 131 ≤ 7302250) (I : INV d t lv c π g s) (H : NXT E i c k n) : AWP E m_Law_law 397 k n (LSi i) [] (mk g s) LWQ := by
  have hS : SX g := I.1.1.sx
  refine aw_aload_n (q := 398) (j := 1) rfl rfl rfl (List.mem_of_getElem? (i := 2) rfl) ?_
  refine la_arg (q := 403) (j := 1) rfl rfl rfl rfl rfl rfl (by decide) hE hL (by omega) ?_
  refine ag_cvI (z := m_Rs_worth) (ci := 10) (a := 16) (av := [.int (sI (eX E) 0 (i + 1))]) (st := []) (q := 406) (k' := (k + 0)) (n' := (n + 0)) rfl rfl cv_Law_45 ⟨by decide, by decide⟩ rfl rfl (by rw [law_c]; omega) (by rw [law_s]; omega) (SX.o hS rfl) rfl rfl rfl (Nat.le_of_ble_eq_true rfl) ?_
  refine GI.mono (o_worth (Q := fun y y' v => AWP E m_Law_law 415 (k + 0) (n + 0) (LSi i) [.int y', .int y] (mk g v) LWQ) I (fun A v I' => aw_icmp_eq (q := 418) (tgt := 1289) rfl rfl (by decide) ⟨fun _ => H _ _ _ _ _ _ _ _ (I'.le hc) (by omega) (by omega), fun z => absurd rfl z⟩)) (fun y u hgi => ?_)
  refine aw_aload_n (q := 407) (j := 2) rfl rfl rfl (List.mem_of_getElem? (i := 1) rfl) ?_
  refine la_arg (q := 412) (j := 1) rfl rfl rfl rfl rfl rfl (by decide) hE hL (by omega) ?_
  exact ag_cvI (z := m_Mo_worth) (ci := 11) (a := 120) (av := [.int (sI (eX E) 0 (i + 1))]) (st := [.int y]) (q := 415) (k' := (k + 0)) (n' := (n + 0)) rfl rfl cv_Law_48 ⟨by decide, by decide⟩ rfl rfl (by rw [law_c]; omega) (by rw [law_s]; omega) (SX.o hS rfl) rfl rfl rfl (Nat.le_of_ble_eq_true rfl) hgi
theorem lc_pure (hE : (sK (eX E) 0).2 = L) (hL : L ≤ 3072) (hi : i + 6 ≤ L) (hc : c < 512) (hk : k + 12 ≤ 600000) (hn : n + 131 ≤ 7302250) (I : INV d t lv c π g s) (H : NXT E i c k n) : AWP E m_Law_law 420 k n (LSi i) [] (mk g s) LWQ := by
  have hS : SX g := I.1.1.sx
  refine aw_aload_n (q := 421) (j := 1) rfl rfl rfl (List.mem_of_getElem? (i := 2) rfl) ?_
  refine la_arg (q := 426) (j := 1) rfl rfl rfl rfl rfl rfl (by decide) hE hL (by omega) ?_
  refine la_arg (q := 431) (j := 2) rfl rfl rfl rfl rfl rfl (by decide) hE hL (by omega) ?_
  refine la_bool (q := 439) rfl rfl rfl rfl rfl ?_
  refine ag_cvI (z := m_Rs_pure) (ci := 10) (a := 16) (av := [.int (sI (eX E) 0 (i + 1)), .int (bz (sI (eX E) 0 (i + 2)))]) (st := []) (q := 442) (k' := (k + 0)) (n' := (n + 0)) rfl rfl cv_Law_49 ⟨by decide, by decide⟩ rfl rfl (by rw [law_c]; omega) (by rw [law_s]; omega) (SX.o hS rfl) rfl rfl rfl (Nat.le_of_ble_eq_true rfl) ?_
  refine GI.mono (o_pure (Q := fun y y' v => AWP E m_Law_law 464 (k + 0) (n + 0) (LSi i) [.int y', .int y] (mk g v) LWQ) I (fun A v I' => aw_icmp_eq (q := 467) (tgt := 1289) rfl rfl (by decide) ⟨fun _ => H _ _ _ _ _ _ _ _ (I'.le hc) (by omega) (by omega), fun z => absurd rfl z⟩)) (fun y u hgi => ?_)
  refine aw_aload_n (q := 443) (j := 2) rfl rfl rfl (List.mem_of_getElem? (i := 1) rfl) ?_
  refine la_arg (q := 448) (j := 1) rfl rfl rfl rfl rfl rfl (by decide) hE hL (by omega) ?_
  refine la_arg (q := 453) (j := 2) rfl rfl rfl rfl rfl rfl (by decide) hE hL (by omega) ?_
  refine la_bool (q := 461) rfl rfl rfl rfl rfl ?_
  exact ag_cvI (z := m_Mo_pure) (ci := 11) (a := 120) (av := [.int (sI (eX E) 0 (i + 1)), .int (bz (sI (eX E) 0 (i + 2)))]) (st := [.int y]) (q := 464) (k' := (k + 0)) (n' := (n + 0)) rfl rfl cv_Law_53 ⟨by decide, by decide⟩ rfl rfl (by rw [law_c]; omega) (by rw [law_s]; omega) (SX.o hS rfl) rfl rfl rfl (Nat.le_of_ble_eq_true rfl) hgi
theorem lc_minutes (hE : (sK (eX E) 0).2 = L) (hL : L ≤ 3072) (hi : i + 6 ≤ L) (hc : c < 512) (hk : k + 12 ≤ 600000) (hn : n + 131 ≤ 7302250) (I : INV d t lv c π g s) (H : NXT E i c k n) : AWP E m_Law_law 469 k n (LSi i) [] (mk g s) LWQ := by
  have hS : SX g := I.1.1.sx
  refine aw_aload_n (q := 470) (j := 1) rfl rfl rfl (List.mem_of_getElem? (i := 2) rfl) ?_
  refine la_arg (q := 475) (j := 1) rfl rfl rfl rfl rfl rfl (by decide) hE hL (by omega) ?_
  refine ax_cvI (z := m_Rs_minutes) (ci := 10) (a := 16) (av := [.int (sI (eX E) 0 (i + 1))]) (st := []) (q := 478) (k' := (k + 12)) (n' := (n + 131)) rfl rfl cv_Law_54 ⟨by decide, by decide⟩ rfl rfl (by rw [law_c]; omega) (by rw [law_s]; omega) (SX.o hS rfl) rfl rfl rfl (Nat.le_of_ble_eq_true rfl) ?_
  refine XI.mono (p_minutes (Q := fun y y' g' v => AWP E m_Law_law 487 (k + 12) (n + 131) (LSi i) [.int y', .int y] (mk g' v) LWQ) hc I (fun A π' g' v I' => aw_icmp_eq (q := 490) (tgt := 1289) rfl rfl (by decide) ⟨fun _ => H _ _ _ _ _ _ _ _ I' (by omega) (by omega), fun z => absurd rfl z⟩)) (fun y g' u hg => ?_)
  obtain ⟨hS', hgi⟩ := hg
  refine aw_aload_n (q := 479) (j := 2) rfl rfl rfl (List.mem_of_getElem? (i := 1) rfl) ?_
  refine la_arg (q := 484) (j := 1) rfl rfl rfl rfl rfl rfl (by decide) hE hL (by omega) ?_
  exact ag_cvI (z := m_Mo_minutes) (ci := 11) (a := 120) (av := [.int (sI (eX E) 0 (i + 1))]) (st := [.int y]) (q := 487) (k' := (k + 12)) (n' := (n + 131)) rfl rfl cv_Law_57 ⟨by decide, by decide⟩ rfl rfl (by rw [law_c]; omega) (by rw [law_s]; omega) (SX.o hS' rfl) rfl rfl rfl (Nat.le_of_ble_eq_true rfl) hgi
theorem lc_pour (hE : (sK (eX E) 0).2 = L) (hL : L ≤ 3072) (hi : i + 6 ≤ L) (hc : c < 512) (hk : k + 12 ≤ 600000) (hn : n + 131 ≤ 7302250) (I : INV d t lv c π g s) (H : NXT E i c k n) : AWP E m_Law_law 492 k n (LSi i) [] (mk g s) LWQ := by
  have hS : SX g := I.1.1.sx
  refine aw_aload_n (q := 493) (j := 1) rfl rfl rfl (List.mem_of_getElem? (i := 2) rfl) ?_
  refine la_arg (q := 498) (j := 1) rfl rfl rfl rfl rfl rfl (by decide) hE hL (by omega) ?_
  refine la_arg (q := 503) (j := 2) rfl rfl rfl rfl rfl rfl (by decide) hE hL (by omega) ?_
  refine ax_cvI (z := m_Rs_pour) (ci := 10) (a := 16) (av := [.int (sI (eX E) 0 (i + 1)), .int (sI (eX E) 0 (i + 2))]) (st := []) (q := 506) (k' := (k + 12)) (n' := (n + 131)) rfl rfl cv_Law_58 ⟨by decide, by decide⟩ rfl rfl (by rw [law_c]; omega) (by rw [law_s]; omega) (SX.o hS rfl) rfl rfl rfl (Nat.le_of_ble_eq_true rfl) ?_
  refine XI.mono (p_pour (Q := fun y y' g' v => AWP E m_Law_law 520 (k + 12) (n + 131) (LSi i) [.int y', .int y] (mk g' v) LWQ) hc I (fun A π' g' v I' => aw_icmp_eq (q := 523) (tgt := 1289) rfl rfl (by decide) ⟨fun _ => H _ _ _ _ _ _ _ _ I' (by omega) (by omega), fun z => absurd rfl z⟩)) (fun y g' u hg => ?_)
  obtain ⟨hS', hgi⟩ := hg
  refine aw_aload_n (q := 507) (j := 2) rfl rfl rfl (List.mem_of_getElem? (i := 1) rfl) ?_
  refine la_arg (q := 512) (j := 1) rfl rfl rfl rfl rfl rfl (by decide) hE hL (by omega) ?_
  refine la_arg (q := 517) (j := 2) rfl rfl rfl rfl rfl rfl (by decide) hE hL (by omega) ?_
  exact ag_cvI (z := m_Mo_pour) (ci := 11) (a := 120) (av := [.int (sI (eX E) 0 (i + 1)), .int (sI (eX E) 0 (i + 2))]) (st := [.int y]) (q := 520) (k' := (k + 12)) (n' := (n + 131)) rfl rfl cv_Law_61 ⟨by decide, by decide⟩ rfl rfl (by rw [law_c]; omega) (by rw [law_s]; omega) (SX.o hS' rfl) rfl rfl rfl (Nat.le_of_ble_eq_true rfl) hgi
theorem lc_swap (hE : (sK (eX E) 0).2 = L) (hL : L ≤ 3072) (hi : i + 6 ≤ L) (hc : c < 512) (hk : k + 12 ≤ 600000) (hn : n + 131 ≤ 7302250) (I : INV d t lv c π g s) (H : NXT E i c k n) : AWP E m_Law_law 525 k n (LSi i) [] (mk g s) LWQ := by
  have hS : SX g := I.1.1.sx
  refine aw_aload_n (q := 526) (j := 1) rfl rfl rfl (List.mem_of_getElem? (i := 2) rfl) ?_
  refine la_arg (q := 531) (j := 1) rfl rfl rfl rfl rfl rfl (by decide) hE hL (by omega) ?_
  refine la_arg (q := 536) (j := 2) rfl rfl rfl rfl rfl rfl (by decide) hE hL (by omega) ?_
  refine ax_cvI (z := m_Rs_swap) (ci := 10) (a := 16) (av := [.int (sI (eX E) 0 (i + 1)), .int (sI (eX E) 0 (i + 2))]) (st := []) (q := 539) (k' := (k + 12)) (n' := (n + 131)) rfl rfl cv_Law_62 ⟨by decide, by decide⟩ rfl rfl (by rw [law_c]; omega) (by rw [law_s]; omega) (SX.o hS rfl) rfl rfl rfl (Nat.le_of_ble_eq_true rfl) ?_
  refine XI.mono (p_swap (Q := fun y y' g' v => AWP E m_Law_law 553 (k + 12) (n + 131) (LSi i) [.int y', .int y] (mk g' v) LWQ) hc I (fun A π' g' v I' => aw_icmp_eq (q := 556) (tgt := 1289) rfl rfl (by decide) ⟨fun _ => H _ _ _ _ _ _ _ _ I' (by omega) (by omega), fun z => absurd rfl z⟩)) (fun y g' u hg => ?_)
  obtain ⟨hS', hgi⟩ := hg
  refine aw_aload_n (q := 540) (j := 2) rfl rfl rfl (List.mem_of_getElem? (i := 1) rfl) ?_
  refine la_arg (q := 545) (j := 1) rfl rfl rfl rfl rfl rfl (by decide) hE hL (by omega) ?_
  refine la_arg (q := 550) (j := 2) rfl rfl rfl rfl rfl rfl (by decide) hE hL (by omega) ?_
  exact ag_cvI (z := m_Mo_swap) (ci := 11) (a := 120) (av := [.int (sI (eX E) 0 (i + 1)), .int (sI (eX E) 0 (i + 2))]) (st := [.int y]) (q := 553) (k' := (k + 12)) (n' := (n + 131)) rfl rfl cv_Law_66 ⟨by decide, by decide⟩ rfl rfl (by rw [law_c]; omega) (by rw [law_s]; omega) (SX.o hS' rfl) rfl rfl rfl (Nat.le_of_ble_eq_true rfl) hgi
theorem lc_teach (hE : (sK (eX E) 0).2 = L) (hL : L ≤ 3072) (hi : i + 6 ≤ L) (hc : c < 512) (hk : k + 12 ≤ 600000) (hn : n + 131 ≤ 7302250) (I : INV d t lv c π g s) (H : NXT E i c k n) : AWP E m_Law_law 558 k n (LSi i) [] (mk g s) LWQ := by
  have hS : SX g := I.1.1.sx
  refine aw_aload_n (q := 559) (j := 1) rfl rfl rfl (List.mem_of_getElem? (i := 2) rfl) ?_
  refine la_arg (q := 564) (j := 1) rfl rfl rfl rfl rfl rfl (by decide) hE hL (by omega) ?_
  refine la_arg (q := 569) (j := 2) rfl rfl rfl rfl rfl rfl (by decide) hE hL (by omega) ?_
  refine ax_cvI (z := m_Rs_teach) (ci := 10) (a := 16) (av := [.int (sI (eX E) 0 (i + 1)), .int (sI (eX E) 0 (i + 2))]) (st := []) (q := 572) (k' := (k + 12)) (n' := (n + 131)) rfl rfl cv_Law_67 ⟨by decide, by decide⟩ rfl rfl (by rw [law_c]; omega) (by rw [law_s]; omega) (SX.o hS rfl) rfl rfl rfl (Nat.le_of_ble_eq_true rfl) ?_
  refine XI.mono (p_teach (Q := fun y y' g' v => AWP E m_Law_law 586 (k + 12) (n + 131) (LSi i) [.int y', .int y] (mk g' v) LWQ) hc I (fun A π' g' v I' => aw_icmp_eq (q := 589) (tgt := 1289) rfl rfl (by decide) ⟨fun _ => H _ _ _ _ _ _ _ _ I' (by omega) (by omega), fun z => absurd rfl z⟩)) (fun y g' u hg => ?_)
  obtain ⟨hS', hgi⟩ := hg
  refine aw_aload_n (q := 573) (j := 2) rfl rfl rfl (List.mem_of_getElem? (i := 1) rfl) ?_
  refine la_arg (q := 578) (j := 1) rfl rfl rfl rfl rfl rfl (by decide) hE hL (by omega) ?_
  refine la_arg (q := 583) (j := 2) rfl rfl rfl rfl rfl rfl (by decide) hE hL (by omega) ?_
  exact ag_cvI (z := m_Mo_teach) (ci := 11) (a := 120) (av := [.int (sI (eX E) 0 (i + 1)), .int (sI (eX E) 0 (i + 2))]) (st := [.int y]) (q := 586) (k' := (k + 12)) (n' := (n + 131)) rfl rfl cv_Law_70 ⟨by decide, by decide⟩ rfl rfl (by rw [law_c]; omega) (by rw [law_s]; omega) (SX.o hS' rfl) rfl rfl rfl (Nat.le_of_ble_eq_true rfl) hgi
theorem lc_give (hE : (sK (eX E) 0).2 = L) (hL : L ≤ 3072) (hi : i + 6 ≤ L) (hc : c < 512) (hk : k + 12 ≤ 600000) (hn : n + 131 ≤ 7302250) (I : INV d t lv c π g s) (H : NXT E i c k n) : AWP E m_Law_law 591 k n (LSi i) [] (mk g s) LWQ := by
  have hS : SX g := I.1.1.sx
  refine aw_aload_n (q := 592) (j := 1) rfl rfl rfl (List.mem_of_getElem? (i := 2) rfl) ?_
  refine la_arg (q := 597) (j := 1) rfl rfl rfl rfl rfl rfl (by decide) hE hL (by omega) ?_
  refine la_arg (q := 602) (j := 2) rfl rfl rfl rfl rfl rfl (by decide) hE hL (by omega) ?_
  refine la_arg (q := 607) (j := 3) rfl rfl rfl rfl rfl rfl (by decide) hE hL (by omega) ?_
  refine ax_cvI (z := m_Rs_give) (ci := 10) (a := 16) (av := [.int (sI (eX E) 0 (i + 1)), .int (sI (eX E) 0 (i + 2)), .int (sI (eX E) 0 (i + 3))]) (st := []) (q := 610) (k' := (k + 12)) (n' := (n + 131)) rfl rfl cv_Law_71 ⟨by decide, by decide⟩ rfl rfl (by rw [law_c]; omega) (by rw [law_s]; omega) (SX.o hS rfl) rfl rfl rfl (Nat.le_of_ble_eq_true rfl) ?_
  refine XI.mono (p_give (Q := fun y y' g' v => AWP E m_Law_law 629 (k + 12) (n + 131) (LSi i) [.int y', .int y] (mk g' v) LWQ) hc I (fun A π' g' v I' => aw_icmp_eq (q := 632) (tgt := 1289) rfl rfl (by decide) ⟨fun _ => H _ _ _ _ _ _ _ _ I' (by omega) (by omega), fun z => absurd rfl z⟩)) (fun y g' u hg => ?_)
  obtain ⟨hS', hgi⟩ := hg
  refine aw_aload_n (q := 611) (j := 2) rfl rfl rfl (List.mem_of_getElem? (i := 1) rfl) ?_
  refine la_arg (q := 616) (j := 1) rfl rfl rfl rfl rfl rfl (by decide) hE hL (by omega) ?_
  refine la_arg (q := 621) (j := 2) rfl rfl rfl rfl rfl rfl (by decide) hE hL (by omega) ?_
  refine la_arg (q := 626) (j := 3) rfl rfl rfl rfl rfl rfl (by decide) hE hL (by omega) ?_
  exact ag_cvI (z := m_Mo_give) (ci := 11) (a := 120) (av := [.int (sI (eX E) 0 (i + 1)), .int (sI (eX E) 0 (i + 2)), .int (sI (eX E) 0 (i + 3))]) (st := [.int y]) (q := 629) (k' := (k + 12)) (n' := (n + 131)) rfl rfl cv_Law_75 ⟨by decide, by decide⟩ rfl rfl (by rw [law_c]; omega) (by rw [law_s]; omega) (SX.o hS' rfl) rfl rfl rfl (Nat.le_of_ble_eq_true rfl) hgi
theorem lc_send (hE : (sK (eX E) 0).2 = L) (hL : L ≤ 3072) (hi : i + 6 ≤ L) (hc : c < 512) (hk : k + 12 ≤ 600000) (hn : n + 131 ≤ 7302250) (I : INV d t lv c π g s) (H : NXT E i c k n) : AWP E m_Law_law 634 k n (LSi i) [] (mk g s) LWQ := by
  have hS : SX g := I.1.1.sx
  refine aw_aload_n (q := 635) (j := 1) rfl rfl rfl (List.mem_of_getElem? (i := 2) rfl) ?_
  refine la_arg (q := 640) (j := 1) rfl rfl rfl rfl rfl rfl (by decide) hE hL (by omega) ?_
  refine la_arg (q := 645) (j := 2) rfl rfl rfl rfl rfl rfl (by decide) hE hL (by omega) ?_
  refine la_bool (q := 653) rfl rfl rfl rfl rfl ?_
  refine ax_cvI (z := m_Rs_send) (ci := 10) (a := 16) (av := [.int (sI (eX E) 0 (i + 1)), .int (bz (sI (eX E) 0 (i + 2)))]) (st := []) (q := 656) (k' := (k + 12)) (n' := (n + 131)) rfl rfl cv_Law_76 ⟨by decide, by decide⟩ rfl rfl (by rw [law_c]; omega) (by rw [law_s]; omega) (SX.o hS rfl) rfl rfl rfl (Nat.le_of_ble_eq_true rfl) ?_
  refine XI.mono (p_send (Q := fun y y' g' v => AWP E m_Law_law 678 (k + 12) (n + 131) (LSi i) [.int y', .int y] (mk g' v) LWQ) hc (bz_01 _) I (fun A π' g' v I' => aw_icmp_eq (q := 681) (tgt := 1289) rfl rfl (by decide) ⟨fun _ => H _ _ _ _ _ _ _ _ I' (by omega) (by omega), fun z => absurd rfl z⟩)) (fun y g' u hg => ?_)
  obtain ⟨hS', hgi⟩ := hg
  refine aw_aload_n (q := 657) (j := 2) rfl rfl rfl (List.mem_of_getElem? (i := 1) rfl) ?_
  refine la_arg (q := 662) (j := 1) rfl rfl rfl rfl rfl rfl (by decide) hE hL (by omega) ?_
  refine la_arg (q := 667) (j := 2) rfl rfl rfl rfl rfl rfl (by decide) hE hL (by omega) ?_
  refine la_bool (q := 675) rfl rfl rfl rfl rfl ?_
  exact ag_cvI (z := m_Mo_send) (ci := 11) (a := 120) (av := [.int (sI (eX E) 0 (i + 1)), .int (bz (sI (eX E) 0 (i + 2)))]) (st := [.int y]) (q := 678) (k' := (k + 12)) (n' := (n + 131)) rfl rfl cv_Law_80 ⟨by decide, by decide⟩ rfl rfl (by rw [law_c]; omega) (by rw [law_s]; omega) (SX.o hS' rfl) rfl rfl rfl (Nat.le_of_ble_eq_true rfl) hgi
theorem lc_cat (hE : (sK (eX E) 0).2 = L) (hL : L ≤ 3072) (hi : i + 6 ≤ L) (hc : c < 512) (hk : k + 12 ≤ 600000) (hn : n + 131 ≤ 7302250) (I : INV d t lv c π g s) (H : NXT E i c k n) : AWP E m_Law_law 683 k n (LSi i) [] (mk g s) LWQ := by
  have hS : SX g := I.1.1.sx
  refine aw_aload_n (q := 684) (j := 1) rfl rfl rfl (List.mem_of_getElem? (i := 2) rfl) ?_
  refine la_arg (q := 689) (j := 1) rfl rfl rfl rfl rfl rfl (by decide) hE hL (by omega) ?_
  refine ax_cvI (z := m_Rs_cat) (ci := 10) (a := 16) (av := [.int (sI (eX E) 0 (i + 1))]) (st := []) (q := 692) (k' := (k + 12)) (n' := (n + 131)) rfl rfl cv_Law_81 ⟨by decide, by decide⟩ rfl rfl (by rw [law_c]; omega) (by rw [law_s]; omega) (SX.o hS rfl) rfl rfl rfl (Nat.le_of_ble_eq_true rfl) ?_
  refine XI.mono (p_cat (Q := fun y y' g' v => AWP E m_Law_law 701 (k + 12) (n + 131) (LSi i) [.int y', .int y] (mk g' v) LWQ) hc I (fun A π' g' v I' => aw_icmp_eq (q := 704) (tgt := 1289) rfl rfl (by decide) ⟨fun _ => H _ _ _ _ _ _ _ _ I' (by omega) (by omega), fun z => absurd rfl z⟩)) (fun y g' u hg => ?_)
  obtain ⟨hS', hgi⟩ := hg
  refine aw_aload_n (q := 693) (j := 2) rfl rfl rfl (List.mem_of_getElem? (i := 1) rfl) ?_
  refine la_arg (q := 698) (j := 1) rfl rfl rfl rfl rfl rfl (by decide) hE hL (by omega) ?_
  exact ag_cvI (z := m_Mo_cat) (ci := 11) (a := 120) (av := [.int (sI (eX E) 0 (i + 1))]) (st := [.int y]) (q := 701) (k' := (k + 12)) (n' := (n + 131)) rfl rfl cv_Law_84 ⟨by decide, by decide⟩ rfl rfl (by rw [law_c]; omega) (by rw [law_s]; omega) (SX.o hS' rfl) rfl rfl rfl (Nat.le_of_ble_eq_true rfl) hgi
theorem lc_sell (hE : (sK (eX E) 0).2 = L) (hL : L ≤ 3072) (hi : i + 6 ≤ L) (hc : c < 512) (hk : k + 12 ≤ 600000) (hn : n + 131 ≤ 7302250) (I : INV d t lv c π g s) (H : NXT E i c k n) : AWP E m_Law_law 706 k n (LSi i) [] (mk g s) LWQ := by
  have hS : SX g := I.1.1.sx
  refine aw_aload_n (q := 707) (j := 1) rfl rfl rfl (List.mem_of_getElem? (i := 2) rfl) ?_
  refine la_arg (q := 712) (j := 1) rfl rfl rfl rfl rfl rfl (by decide) hE hL (by omega) ?_
  refine ax_cvI (z := m_Rs_sell) (ci := 10) (a := 16) (av := [.int (sI (eX E) 0 (i + 1))]) (st := []) (q := 715) (k' := (k + 12)) (n' := (n + 131)) rfl rfl cv_Law_85 ⟨by decide, by decide⟩ rfl rfl (by rw [law_c]; omega) (by rw [law_s]; omega) (SX.o hS rfl) rfl rfl rfl (Nat.le_of_ble_eq_true rfl) ?_
  refine XI.mono (p_sell (Q := fun y y' g' v => AWP E m_Law_law 724 (k + 12) (n + 131) (LSi i) [.int y', .int y] (mk g' v) LWQ) hc I (fun A π' g' v I' => aw_icmp_eq (q := 727) (tgt := 1289) rfl rfl (by decide) ⟨fun _ => H _ _ _ _ _ _ _ _ I' (by omega) (by omega), fun z => absurd rfl z⟩)) (fun y g' u hg => ?_)
  obtain ⟨hS', hgi⟩ := hg
  refine aw_aload_n (q := 716) (j := 2) rfl rfl rfl (List.mem_of_getElem? (i := 1) rfl) ?_
  refine la_arg (q := 721) (j := 1) rfl rfl rfl rfl rfl rfl (by decide) hE hL (by omega) ?_
  exact ag_cvI (z := m_Mo_sell) (ci := 11) (a := 120) (av := [.int (sI (eX E) 0 (i + 1))]) (st := [.int y]) (q := 724) (k' := (k + 12)) (n' := (n + 131)) rfl rfl cv_Law_89 ⟨by decide, by decide⟩ rfl rfl (by rw [law_c]; omega) (by rw [law_s]; omega) (SX.o hS' rfl) rfl rfl rfl (Nat.le_of_ble_eq_true rfl) hgi
theorem lc_undo (hE : (sK (eX E) 0).2 = L) (hL : L ≤ 3072) (hi : i + 6 ≤ L) (hc : c < 512) (hk : k + 12 ≤ 600000) (hn : n + 131 ≤ 7302250) (I : INV d t lv c π g s) (H : NXT E i c k n) : AWP E m_Law_law 729 k n (LSi i) [] (mk g s) LWQ := by
  have hS : SX g := I.1.1.sx
  refine aw_aload_n (q := 730) (j := 1) rfl rfl rfl (List.mem_of_getElem? (i := 2) rfl) ?_
  refine ag_cvI (z := m_Rs_undo) (ci := 10) (a := 16) (av := []) (st := []) (q := 733) (k' := (k + 0)) (n' := (n + 0)) rfl rfl cv_Law_90 ⟨by decide, by decide⟩ rfl rfl (by rw [law_c]; omega) (by rw [law_s]; omega) (SX.o hS rfl) rfl rfl rfl (Nat.le_of_ble_eq_true rfl) ?_
  refine GI.mono (o_undo (Q := fun y y' v => AWP E m_Law_law 737 (k + 0) (n + 0) (LSi i) [.int y', .int y] (mk g v) LWQ) hc I (fun A π' v I' => aw_icmp_eq (q := 740) (tgt := 1289) rfl rfl (by decide) ⟨fun _ => H _ _ _ _ _ _ _ _ I' (by omega) (by omega), fun z => absurd rfl z⟩)) (fun y u hgi => ?_)
  refine aw_aload_n (q := 734) (j := 2) rfl rfl rfl (List.mem_of_getElem? (i := 1) rfl) ?_
  exact ag_cvI (z := m_Mo_undo) (ci := 11) (a := 120) (av := []) (st := [.int y]) (q := 737) (k' := (k + 0)) (n' := (n + 0)) rfl rfl cv_Law_94 ⟨by decide, by decide⟩ rfl rfl (by rw [law_c]; omega) (by rw [law_s]; omega) (SX.o hS rfl) rfl rfl rfl (Nat.le_of_ble_eq_true rfl) hgi
theorem lc_isClean (hE : (sK (eX E) 0).2 = L) (hL : L ≤ 3072) (hi : i + 6 ≤ L) (hc : c < 512) (hk : k + 12 ≤ 600000) (hn : n + 131 ≤ 7302250) (I : INV d t lv c π g s) (H : NXT E i c k n) : AWP E m_Law_law 742 k n (LSi i) [] (mk g s) LWQ := by
  have hS : SX g := I.1.1.sx
  refine aw_aload_n (q := 743) (j := 1) rfl rfl rfl (List.mem_of_getElem? (i := 2) rfl) ?_
  refine ag_cvI (z := m_Rs_isClean) (ci := 10) (a := 16) (av := []) (st := []) (q := 746) (k' := (k + 0)) (n' := (n + 0)) rfl rfl cv_Law_95 ⟨by decide, by decide⟩ rfl rfl (by rw [law_c]; omega) (by rw [law_s]; omega) (SX.o hS rfl) rfl rfl rfl (Nat.le_of_ble_eq_true rfl) ?_
  refine GI.mono (o_isClean (Q := fun y y' v => AWP E m_Law_law 750 (k + 0) (n + 0) (LSi i) [.int y', .int y] (mk g v) LWQ) I (fun A v I' => aw_icmp_eq (q := 753) (tgt := 1289) rfl rfl (by decide) ⟨fun _ => H _ _ _ _ _ _ _ _ (I'.le hc) (by omega) (by omega), fun z => absurd rfl z⟩)) (fun y u hgi => ?_)
  refine aw_aload_n (q := 747) (j := 2) rfl rfl rfl (List.mem_of_getElem? (i := 1) rfl) ?_
  exact ag_cvI (z := m_Mo_isClean) (ci := 11) (a := 120) (av := []) (st := [.int y]) (q := 750) (k' := (k + 0)) (n' := (n + 0)) rfl rfl cv_Law_98 ⟨by decide, by decide⟩ rfl rfl (by rw [law_c]; omega) (by rw [law_s]; omega) (SX.o hS rfl) rfl rfl rfl (Nat.le_of_ble_eq_true rfl) hgi
theorem lc_clean (hE : (sK (eX E) 0).2 = L) (hL : L ≤ 3072) (hi : i + 6 ≤ L) (hc : c < 512) (hk : k + 12 ≤ 600000) (hn : n + 131 ≤ 7302250) (I : INV d t lv c π g s) (H : NXT E i c k n) : AWP E m_Law_law 755 k n (LSi i) [] (mk g s) LWQ := by
  have hS : SX g := I.1.1.sx
  refine aw_aload_n (q := 756) (j := 1) rfl rfl rfl (List.mem_of_getElem? (i := 2) rfl) ?_
  refine ag_cvI (z := m_Rs_clean) (ci := 10) (a := 16) (av := []) (st := []) (q := 759) (k' := (k + 0)) (n' := (n + 0)) rfl rfl cv_Law_99 ⟨by decide, by decide⟩ rfl rfl (by rw [law_c]; omega) (by rw [law_s]; omega) (SX.o hS rfl) rfl rfl rfl (Nat.le_of_ble_eq_true rfl) ?_
  refine GI.mono (o_clean (Q := fun y y' v => AWP E m_Law_law 763 (k + 0) (n + 0) (LSi i) [.int y', .int y] (mk g v) LWQ) I (fun A v I' => aw_icmp_eq (q := 766) (tgt := 1289) rfl rfl (by decide) ⟨fun _ => H _ _ _ _ _ _ _ _ (I'.le hc) (by omega) (by omega), fun z => absurd rfl z⟩)) (fun y u hgi => ?_)
  refine aw_aload_n (q := 760) (j := 2) rfl rfl rfl (List.mem_of_getElem? (i := 1) rfl) ?_
  exact ag_cvI (z := m_Mo_clean) (ci := 11) (a := 120) (av := []) (st := [.int y]) (q := 763) (k' := (k + 0)) (n' := (n + 0)) rfl rfl cv_Law_102 ⟨by decide, by decide⟩ rfl rfl (by rw [law_c]; omega) (by rw [law_s]; omega) (SX.o hS rfl) rfl rfl rfl (Nat.le_of_ble_eq_true rfl) hgi
theorem lc_then (hE : (sK (eX E) 0).2 = L) (hL : L ≤ 3072) (hi : i + 6 ≤ L) (hc : c < 512) (hk : k + 12 ≤ 600000) (hn : n + 131 ≤ 7302250) (I : INV d t lv c π g s) (H : NXT E i c k n) : AWP E m_Law_law 768 k n (LSi i) [] (mk g s) LWQ := by
  have hS : SX g := I.1.1.sx
  refine aw_aload_n (q := 769) (j := 1) rfl rfl rfl (List.mem_of_getElem? (i := 2) rfl) ?_
  refine la_arg (q := 774) (j := 1) rfl rfl rfl rfl rfl rfl (by decide) hE hL (by omega) ?_
  refine la_arg (q := 779) (j := 2) rfl rfl rfl rfl rfl rfl (by decide) hE hL (by omega) ?_
  refine ag_cvI (z := m_Rs_then) (ci := 10) (a := 16) (av := [.int (sI (eX E) 0 (i + 1)), .int (sI (eX E) 0 (i + 2))]) (st := []) (q := 782) (k' := (k + 0)) (n' := (n + 0)) rfl rfl cv_Law_103 ⟨by decide, by decide⟩ rfl rfl (by rw [law_c]; omega) (by rw [law_s]; omega) (SX.o hS rfl) rfl rfl rfl (Nat.le_of_ble_eq_true rfl) ?_
  refine GI.mono (o_then (Q := fun y y' v => AWP E m_Law_law 796 (k + 0) (n + 0) (LSi i) [.int y', .int y] (mk g v) LWQ) I (fun A v I' => aw_icmp_eq (q := 799) (tgt := 1289) rfl rfl (by decide) ⟨fun _ => H _ _ _ _ _ _ _ _ (I'.le hc) (by omega) (by omega), fun z => absurd rfl z⟩)) (fun y u hgi => ?_)
  refine aw_aload_n (q := 783) (j := 2) rfl rfl rfl (List.mem_of_getElem? (i := 1) rfl) ?_
  refine la_arg (q := 788) (j := 1) rfl rfl rfl rfl rfl rfl (by decide) hE hL (by omega) ?_
  refine la_arg (q := 793) (j := 2) rfl rfl rfl rfl rfl rfl (by decide) hE hL (by omega) ?_
  exact ag_cvI (z := m_Mo_then) (ci := 11) (a := 120) (av := [.int (sI (eX E) 0 (i + 1)), .int (sI (eX E) 0 (i + 2))]) (st := [.int y]) (q := 796) (k' := (k + 0)) (n' := (n + 0)) rfl rfl cv_Law_106 ⟨by decide, by decide⟩ rfl rfl (by rw [law_c]; omega) (by rw [law_s]; omega) (SX.o hS rfl) rfl rfl rfl (Nat.le_of_ble_eq_true rfl) hgi
theorem lc_lies (hE : (sK (eX E) 0).2 = L) (hL : L ≤ 3072) (hi : i + 6 ≤ L) (hc : c < 512) (hk : k + 12 ≤ 600000) (hn : n + 131 ≤ 7302250) (I : INV d t lv c π g s) (H : NXT E i c k n) : AWP E m_Law_law 801 k n (LSi i) [] (mk g s) LWQ := by
  have hS : SX g := I.1.1.sx
  refine aw_aload_n (q := 802) (j := 1) rfl rfl rfl (List.mem_of_getElem? (i := 2) rfl) ?_
  refine la_arg (q := 807) (j := 1) rfl rfl rfl rfl rfl rfl (by decide) hE hL (by omega) ?_
  refine la_arg (q := 812) (j := 2) rfl rfl rfl rfl rfl rfl (by decide) hE hL (by omega) ?_
  refine la_arg (q := 817) (j := 3) rfl rfl rfl rfl rfl rfl (by decide) hE hL (by omega) ?_
  refine ag_cvI (z := m_Rs_lies) (ci := 10) (a := 16) (av := [.int (sI (eX E) 0 (i + 1)), .int (sI (eX E) 0 (i + 2)), .int (sI (eX E) 0 (i + 3))]) (st := []) (q := 820) (k' := (k + 0)) (n' := (n + 0)) rfl rfl cv_Law_107 ⟨by decide, by decide⟩ rfl rfl (by rw [law_c]; omega) (by rw [law_s]; omega) (SX.o hS rfl) rfl rfl rfl (Nat.le_of_ble_eq_true rfl) ?_
  refine GI.mono (o_lies (Q := fun y y' v => AWP E m_Law_law 839 (k + 0) (n + 0) (LSi i) [.int y', .int y] (mk g v) LWQ) I (fun A v I' => aw_icmp_eq (q := 842) (tgt := 1289) rfl rfl (by decide) ⟨fun _ => H _ _ _ _ _ _ _ _ (I'.le hc) (by omega) (by omega), fun z => absurd rfl z⟩)) (fun y u hgi => ?_)
  refine aw_aload_n (q := 821) (j := 2) rfl rfl rfl (List.mem_of_getElem? (i := 1) rfl) ?_
  refine la_arg (q := 826) (j := 1) rfl rfl rfl rfl rfl rfl (by decide) hE hL (by omega) ?_
  refine la_arg (q := 831) (j := 2) rfl rfl rfl rfl rfl rfl (by decide) hE hL (by omega) ?_
  refine la_arg (q := 836) (j := 3) rfl rfl rfl rfl rfl rfl (by decide) hE hL (by omega) ?_
  exact ag_cvI (z := m_Mo_lies) (ci := 11) (a := 120) (av := [.int (sI (eX E) 0 (i + 1)), .int (sI (eX E) 0 (i + 2)), .int (sI (eX E) 0 (i + 3))]) (st := [.int y]) (q := 839) (k' := (k + 0)) (n' := (n + 0)) rfl rfl cv_Law_111 ⟨by decide, by decide⟩ rfl rfl (by rw [law_c]; omega) (by rw [law_s]; omega) (SX.o hS rfl) rfl rfl rfl (Nat.le_of_ble_eq_true rfl) hgi
theorem lc_hire (hE : (sK (eX E) 0).2 = L) (hL : L ≤ 3072) (hi : i + 6 ≤ L) (hc : c < 512) (hk : k + 12 ≤ 600000) (hn : n + 131 ≤ 7302250) (I : INV d t lv c π g s) (H : NXT E i c k n) : AWP E m_Law_law 844 k n (LSi i) [] (mk g s) LWQ := by
  have hS : SX g := I.1.1.sx
  refine aw_aload_n (q := 845) (j := 1) rfl rfl rfl (List.mem_of_getElem? (i := 2) rfl) ?_
  refine la_arg (q := 850) (j := 1) rfl rfl rfl rfl rfl rfl (by decide) hE hL (by omega) ?_
  refine la_arg (q := 855) (j := 2) rfl rfl rfl rfl rfl rfl (by decide) hE hL (by omega) ?_
  refine ag_cvI (z := m_Rs_hire) (ci := 10) (a := 16) (av := [.int (sI (eX E) 0 (i + 1)), .int (sI (eX E) 0 (i + 2))]) (st := []) (q := 858) (k' := (k + 0)) (n' := (n + 0)) rfl rfl cv_Law_112 ⟨by decide, by decide⟩ rfl rfl (by rw [law_c]; omega) (by rw [law_s]; omega) (SX.o hS rfl) rfl rfl rfl (Nat.le_of_ble_eq_true rfl) ?_
  refine GI.mono (o_hire (Q := fun y y' v => AWP E m_Law_law 872 (k + 0) (n + 0) (LSi i) [.int y', .int y] (mk g v) LWQ) I (fun A v I' => aw_icmp_eq (q := 875) (tgt := 1289) rfl rfl (by decide) ⟨fun _ => H _ _ _ _ _ _ _ _ (I'.le hc) (by omega) (by omega), fun z => absurd rfl z⟩)) (fun y u hgi => ?_)
  refine aw_aload_n (q := 859) (j := 2) rfl rfl rfl (List.mem_of_getElem? (i := 1) rfl) ?_
  refine la_arg (q := 864) (j := 1) rfl rfl rfl rfl rfl rfl (by decide) hE hL (by omega) ?_
  refine la_arg (q := 869) (j := 2) rfl rfl rfl rfl rfl rfl (by decide) hE hL (by omega) ?_
  exact ag_cvI (z := m_Mo_hire) (ci := 11) (a := 120) (av := [.int (sI (eX E) 0 (i + 1)), .int (sI (eX E) 0 (i + 2))]) (st := [.int y]) (q := 872) (k' := (k + 0)) (n' := (n + 0)) rfl rfl cv_Law_115 ⟨by decide, by decide⟩ rfl rfl (by rw [law_c]; omega) (by rw [law_s]; omega) (SX.o hS rfl) rfl rfl rfl (Nat.le_of_ble_eq_true rfl) hgi
theorem lc_taught (hE : (sK (eX E) 0).2 = L) (hL : L ≤ 3072) (hi : i + 6 ≤ L) (hc : c < 512) (hk : k + 12 ≤ 600000) (hn : n + 131 ≤ 7302250) (I : INV d t lv c π g s) (H : NXT E i c k n) : AWP E m_Law_law 877 k n (LSi i) [] (mk g s) LWQ := by
  have hS : SX g := I.1.1.sx
  refine aw_aload_n (q := 878) (j := 1) rfl rfl rfl (List.mem_of_getElem? (i := 2) rfl) ?_
  refine la_arg (q := 883) (j := 1) rfl rfl rfl rfl rfl rfl (by decide) hE hL (by omega) ?_
  refine la_arg (q := 888) (j := 2) rfl rfl rfl rfl rfl rfl (by decide) hE hL (by omega) ?_
  refine ag_cvI (z := m_Rs_taught) (ci := 10) (a := 16) (av := [.int (sI (eX E) 0 (i + 1)), .int (sI (eX E) 0 (i + 2))]) (st := []) (q := 891) (k' := (k + 0)) (n' := (n + 0)) rfl rfl cv_Law_116 ⟨by decide, by decide⟩ rfl rfl (by rw [law_c]; omega) (by rw [law_s]; omega) (SX.o hS rfl) rfl rfl rfl (Nat.le_of_ble_eq_true rfl) ?_
  refine GI.mono (o_taught (Q := fun y y' v => AWP E m_Law_law 905 (k + 0) (n + 0) (LSi i) [.int y', .int y] (mk g v) LWQ) I (fun A v I' => aw_icmp_eq (q := 908) (tgt := 1289) rfl rfl (by decide) ⟨fun _ => H _ _ _ _ _ _ _ _ (I'.le hc) (by omega) (by omega), fun z => absurd rfl z⟩)) (fun y u hgi => ?_)
  refine aw_aload_n (q := 892) (j := 2) rfl rfl rfl (List.mem_of_getElem? (i := 1) rfl) ?_
  refine la_arg (q := 897) (j := 1) rfl rfl rfl rfl rfl rfl (by decide) hE hL (by omega) ?_
  refine la_arg (q := 902) (j := 2) rfl rfl rfl rfl rfl rfl (by decide) hE hL (by omega) ?_
  exact ag_cvI (z := m_Mo_taught) (ci := 11) (a := 120) (av := [.int (sI (eX E) 0 (i + 1)), .int (sI (eX E) 0 (i + 2))]) (st := [.int y]) (q := 905) (k' := (k + 0)) (n' := (n + 0)) rfl rfl cv_Law_119 ⟨by decide, by decide⟩ rfl rfl (by rw [law_c]; omega) (by rw [law_s]; omega) (SX.o hS rfl) rfl rfl rfl (Nat.le_of_ble_eq_true rfl) hgi
theorem lc_taughtAt (hE : (sK (eX E) 0).2 = L) (hL : L ≤ 3072) (hi : i + 6 ≤ L) (hc : c < 512) (hk : k + 12 ≤ 600000) (hn : n + 131 ≤ 7302250) (I : INV d t lv c π g s) (H : NXT E i c k n) : AWP E m_Law_law 910 k n (LSi i) [] (mk g s) LWQ := by
  have hS : SX g := I.1.1.sx
  refine aw_aload_n (q := 911) (j := 1) rfl rfl rfl (List.mem_of_getElem? (i := 2) rfl) ?_
  refine la_arg (q := 916) (j := 1) rfl rfl rfl rfl rfl rfl (by decide) hE hL (by omega) ?_
  refine la_arg (q := 921) (j := 2) rfl rfl rfl rfl rfl rfl (by decide) hE hL (by omega) ?_
  refine la_arg (q := 926) (j := 3) rfl rfl rfl rfl rfl rfl (by decide) hE hL (by omega) ?_
  refine ag_cvI (z := m_Rs_taughtAt) (ci := 10) (a := 16) (av := [.int (sI (eX E) 0 (i + 1)), .int (sI (eX E) 0 (i + 2)), .int (sI (eX E) 0 (i + 3))]) (st := []) (q := 929) (k' := (k + 0)) (n' := (n + 0)) rfl rfl cv_Law_120 ⟨by decide, by decide⟩ rfl rfl (by rw [law_c]; omega) (by rw [law_s]; omega) (SX.o hS rfl) rfl rfl rfl (Nat.le_of_ble_eq_true rfl) ?_
  refine GI.mono (o_taughtAt (Q := fun y y' v => AWP E m_Law_law 948 (k + 0) (n + 0) (LSi i) [.int y', .int y] (mk g v) LWQ) I (fun A v I' => aw_icmp_eq (q := 951) (tgt := 1289) rfl rfl (by decide) ⟨fun _ => H _ _ _ _ _ _ _ _ (I'.le hc) (by omega) (by omega), fun z => absurd rfl z⟩)) (fun y u hgi => ?_)
  refine aw_aload_n (q := 930) (j := 2) rfl rfl rfl (List.mem_of_getElem? (i := 1) rfl) ?_
  refine la_arg (q := 935) (j := 1) rfl rfl rfl rfl rfl rfl (by decide) hE hL (by omega) ?_
  refine la_arg (q := 940) (j := 2) rfl rfl rfl rfl rfl rfl (by decide) hE hL (by omega) ?_
  refine la_arg (q := 945) (j := 3) rfl rfl rfl rfl rfl rfl (by decide) hE hL (by omega) ?_
  exact ag_cvI (z := m_Mo_taughtAt) (ci := 11) (a := 120) (av := [.int (sI (eX E) 0 (i + 1)), .int (sI (eX E) 0 (i + 2)), .int (sI (eX E) 0 (i + 3))]) (st := [.int y]) (q := 948) (k' := (k + 0)) (n' := (n + 0)) rfl rfl cv_Law_123 ⟨by decide, by decide⟩ rfl rfl (by rw [law_c]; omega) (by rw [law_s]; omega) (SX.o hS rfl) rfl rfl rfl (Nat.le_of_ble_eq_true rfl) hgi
theorem lc_bestSwap (hE : (sK (eX E) 0).2 = L) (hL : L ≤ 3072) (hi : i + 6 ≤ L) (hc : c < 512) (hk : k + 12 ≤ 600000) (hn : n + 131 ≤ 7302250) (I : INV d t lv c π g s) (H : NXT E i c k n) : AWP E m_Law_law 953 k n (LSi i) [] (mk g s) LWQ := by
  have hS : SX g := I.1.1.sx
  refine aw_aload_n (q := 954) (j := 1) rfl rfl rfl (List.mem_of_getElem? (i := 2) rfl) ?_
  refine la_arg (q := 959) (j := 1) rfl rfl rfl rfl rfl rfl (by decide) hE hL (by omega) ?_
  refine ag_cvI (z := m_Rs_bestSwap) (ci := 10) (a := 16) (av := [.int (sI (eX E) 0 (i + 1))]) (st := []) (q := 962) (k' := (k + 0)) (n' := (n + 0)) rfl rfl cv_Law_124 ⟨by decide, by decide⟩ rfl rfl (by rw [law_c]; omega) (by rw [law_s]; omega) (SX.o hS rfl) rfl rfl rfl (Nat.le_of_ble_eq_true rfl) ?_
  refine GI.mono (o_bestSwap (Q := fun y y' v => AWP E m_Law_law 971 (k + 0) (n + 0) (LSi i) [.int y', .int y] (mk g v) LWQ) I (fun A v I' => aw_icmp_eq (q := 974) (tgt := 1289) rfl rfl (by decide) ⟨fun _ => H _ _ _ _ _ _ _ _ (I'.le hc) (by omega) (by omega), fun z => absurd rfl z⟩)) (fun y u hgi => ?_)
  refine aw_aload_n (q := 963) (j := 2) rfl rfl rfl (List.mem_of_getElem? (i := 1) rfl) ?_
  refine la_arg (q := 968) (j := 1) rfl rfl rfl rfl rfl rfl (by decide) hE hL (by omega) ?_
  exact ag_cvI (z := m_Mo_bestSwap) (ci := 11) (a := 120) (av := [.int (sI (eX E) 0 (i + 1))]) (st := [.int y]) (q := 971) (k' := (k + 0)) (n' := (n + 0)) rfl rfl cv_Law_127 ⟨by decide, by decide⟩ rfl rfl (by rw [law_c]; omega) (by rw [law_s]; omega) (SX.o hS rfl) rfl rfl rfl (Nat.le_of_ble_eq_true rfl) hgi
theorem lc_missed (hE : (sK (eX E) 0).2 = L) (hL : L ≤ 3072) (hi : i + 6 ≤ L) (hc : c < 512) (hk : k + 12 ≤ 600000) (hn : n + 131 ≤ 7302250) (I : INV d t lv c π g s) (H : NXT E i c k n) : AWP E m_Law_law 976 k n (LSi i) [] (mk g s) LWQ := by
  have hS : SX g := I.1.1.sx
  refine aw_aload_n (q := 977) (j := 1) rfl rfl rfl (List.mem_of_getElem? (i := 2) rfl) ?_
  refine la_arg (q := 982) (j := 1) rfl rfl rfl rfl rfl rfl (by decide) hE hL (by omega) ?_
  refine la_arg (q := 987) (j := 2) rfl rfl rfl rfl rfl rfl (by decide) hE hL (by omega) ?_
  refine ag_cvI (z := m_Rs_missed) (ci := 10) (a := 16) (av := [.int (sI (eX E) 0 (i + 1)), .int (sI (eX E) 0 (i + 2))]) (st := []) (q := 990) (k' := (k + 0)) (n' := (n + 0)) rfl rfl cv_Law_128 ⟨by decide, by decide⟩ rfl rfl (by rw [law_c]; omega) (by rw [law_s]; omega) (SX.o hS rfl) rfl rfl rfl (Nat.le_of_ble_eq_true rfl) ?_
  refine GI.mono (o_missed (Q := fun y y' v => AWP E m_Law_law 1004 (k + 0) (n + 0) (LSi i) [.int y', .int y] (mk g v) LWQ) I (fun A v I' => aw_icmp_eq (q := 1007) (tgt := 1289) rfl rfl (by decide) ⟨fun _ => H _ _ _ _ _ _ _ _ (I'.le hc) (by omega) (by omega), fun z => absurd rfl z⟩)) (fun y u hgi => ?_)
  refine aw_aload_n (q := 991) (j := 2) rfl rfl rfl (List.mem_of_getElem? (i := 1) rfl) ?_
  refine la_arg (q := 996) (j := 1) rfl rfl rfl rfl rfl rfl (by decide) hE hL (by omega) ?_
  refine la_arg (q := 1001) (j := 2) rfl rfl rfl rfl rfl rfl (by decide) hE hL (by omega) ?_
  exact ag_cvI (z := m_Mo_missed) (ci := 11) (a := 120) (av := [.int (sI (eX E) 0 (i + 1)), .int (sI (eX E) 0 (i + 2))]) (st := [.int y]) (q := 1004) (k' := (k + 0)) (n' := (n + 0)) rfl rfl cv_Law_131 ⟨by decide, by decide⟩ rfl rfl (by rw [law_c]; omega) (by rw [law_s]; omega) (SX.o hS rfl) rfl rfl rfl (Nat.le_of_ble_eq_true rfl) hgi
theorem lc_catAt (hE : (sK (eX E) 0).2 = L) (hL : L ≤ 3072) (hi : i + 6 ≤ L) (hc : c < 512) (hk : k + 12 ≤ 600000) (hn : n + 131 ≤ 7302250) (I : INV d t lv c π g s) (H : NXT E i c k n) : AWP E m_Law_law 1009 k n (LSi i) [] (mk g s) LWQ := by
  have hS : SX g := I.1.1.sx
  refine aw_aload_n (q := 1010) (j := 1) rfl rfl rfl (List.mem_of_getElem? (i := 2) rfl) ?_
  refine la_arg (q := 1015) (j := 1) rfl rfl rfl rfl rfl rfl (by decide) hE hL (by omega) ?_
  refine la_arg (q := 1020) (j := 2) rfl rfl rfl rfl rfl rfl (by decide) hE hL (by omega) ?_
  refine ag_cvI (z := m_Rs_catAt) (ci := 10) (a := 16) (av := [.int (sI (eX E) 0 (i + 1)), .int (sI (eX E) 0 (i + 2))]) (st := []) (q := 1023) (k' := (k + 0)) (n' := (n + 0)) rfl rfl cv_Law_132 ⟨by decide, by decide⟩ rfl rfl (by rw [law_c]; omega) (by rw [law_s]; omega) (SX.o hS rfl) rfl rfl rfl (Nat.le_of_ble_eq_true rfl) ?_
  refine GI.mono (o_catAt (Q := fun y y' v => AWP E m_Law_law 1037 (k + 0) (n + 0) (LSi i) [.int y', .int y] (mk g v) LWQ) I (fun A v I' => aw_icmp_eq (q := 1040) (tgt := 1289) rfl rfl (by decide) ⟨fun _ => H _ _ _ _ _ _ _ _ (I'.le hc) (by omega) (by omega), fun z => absurd rfl z⟩)) (fun y u hgi => ?_)
  refine aw_aload_n (q := 1024) (j := 2) rfl rfl rfl (List.mem_of_getElem? (i := 1) rfl) ?_
  refine la_arg (q := 1029) (j := 1) rfl rfl rfl rfl rfl rfl (by decide) hE hL (by omega) ?_
  refine la_arg (q := 1034) (j := 2) rfl rfl rfl rfl rfl rfl (by decide) hE hL (by omega) ?_
  exact ag_cvI (z := m_Mo_catAt) (ci := 11) (a := 120) (av := [.int (sI (eX E) 0 (i + 1)), .int (sI (eX E) 0 (i + 2))]) (st := [.int y]) (q := 1037) (k' := (k + 0)) (n' := (n + 0)) rfl rfl cv_Law_135 ⟨by decide, by decide⟩ rfl rfl (by rw [law_c]; omega) (by rw [law_s]; omega) (SX.o hS rfl) rfl rfl rfl (Nat.le_of_ble_eq_true rfl) hgi
theorem lc_starves (hE : (sK (eX E) 0).2 = L) (hL : L ≤ 3072) (hi : i + 6 ≤ L) (hc : c < 512) (hk : k + 12 ≤ 600000) (hn : n + 131 ≤ 7302250) (I : INV d t lv c π g s) (H : NXT E i c k n) : AWP E m_Law_law 1042 k n (LSi i) [] (mk g s) LWQ := by
  have hS : SX g := I.1.1.sx
  refine aw_aload_n (q := 1043) (j := 1) rfl rfl rfl (List.mem_of_getElem? (i := 2) rfl) ?_
  refine la_arg (q := 1048) (j := 1) rfl rfl rfl rfl rfl rfl (by decide) hE hL (by omega) ?_
  refine ag_cvI (z := m_Rs_starves) (ci := 10) (a := 16) (av := [.int (sI (eX E) 0 (i + 1))]) (st := []) (q := 1051) (k' := (k + 0)) (n' := (n + 0)) rfl rfl cv_Law_136 ⟨by decide, by decide⟩ rfl rfl (by rw [law_c]; omega) (by rw [law_s]; omega) (SX.o hS rfl) rfl rfl rfl (Nat.le_of_ble_eq_true rfl) ?_
  refine GI.mono (o_starves (Q := fun y y' v => AWP E m_Law_law 1060 (k + 0) (n + 0) (LSi i) [.int y', .int y] (mk g v) LWQ) I (fun A v I' => aw_icmp_eq (q := 1063) (tgt := 1289) rfl rfl (by decide) ⟨fun _ => H _ _ _ _ _ _ _ _ (I'.le hc) (by omega) (by omega), fun z => absurd rfl z⟩)) (fun y u hgi => ?_)
  refine aw_aload_n (q := 1052) (j := 2) rfl rfl rfl (List.mem_of_getElem? (i := 1) rfl) ?_
  refine la_arg (q := 1057) (j := 1) rfl rfl rfl rfl rfl rfl (by decide) hE hL (by omega) ?_
  exact ag_cvI (z := m_Mo_starves) (ci := 11) (a := 120) (av := [.int (sI (eX E) 0 (i + 1))]) (st := [.int y]) (q := 1060) (k' := (k + 0)) (n' := (n + 0)) rfl rfl cv_Law_139 ⟨by decide, by decide⟩ rfl rfl (by rw [law_c]; omega) (by rw [law_s]; omega) (SX.o hS rfl) rfl rfl rfl (Nat.le_of_ble_eq_true rfl) hgi
theorem lc_mean (hE : (sK (eX E) 0).2 = L) (hL : L ≤ 3072) (hi : i + 6 ≤ L) (hc : c < 512) (hk : k + 12 ≤ 600000) (hn : n + 131 ≤ 7302250) (I : INV d t lv c π g s) (H : NXT E i c k n) : AWP E m_Law_law 1065 k n (LSi i) [] (mk g s) LWQ := by
  have hS : SX g := I.1.1.sx
  refine aw_aload_n (q := 1066) (j := 1) rfl rfl rfl (List.mem_of_getElem? (i := 2) rfl) ?_
  refine la_arg (q := 1071) (j := 1) rfl rfl rfl rfl rfl rfl (by decide) hE hL (by omega) ?_
  refine la_arg (q := 1076) (j := 2) rfl rfl rfl rfl rfl rfl (by decide) hE hL (by omega) ?_
  refine ag_cvI (z := m_Rs_mean) (ci := 10) (a := 16) (av := [.int (sI (eX E) 0 (i + 1)), .int (sI (eX E) 0 (i + 2))]) (st := []) (q := 1079) (k' := (k + 0)) (n' := (n + 0)) rfl rfl cv_Law_140 ⟨by decide, by decide⟩ rfl rfl (by rw [law_c]; omega) (by rw [law_s]; omega) (SX.o hS rfl) rfl rfl rfl (Nat.le_of_ble_eq_true rfl) ?_
  refine GI.mono (o_mean (Q := fun y y' v => AWP E m_Law_law 1093 (k + 0) (n + 0) (LSi i) [.int y', .int y] (mk g v) LWQ) I (fun A v I' => aw_icmp_eq (q := 1096) (tgt := 1289) rfl rfl (by decide) ⟨fun _ => H _ _ _ _ _ _ _ _ (I'.le hc) (by omega) (by omega), fun z => absurd rfl z⟩)) (fun y u hgi => ?_)
  refine aw_aload_n (q := 1080) (j := 2) rfl rfl rfl (List.mem_of_getElem? (i := 1) rfl) ?_
  refine la_arg (q := 1085) (j := 1) rfl rfl rfl rfl rfl rfl (by decide) hE hL (by omega) ?_
  refine la_arg (q := 1090) (j := 2) rfl rfl rfl rfl rfl rfl (by decide) hE hL (by omega) ?_
  exact ag_cvI (z := m_Mo_mean) (ci := 11) (a := 120) (av := [.int (sI (eX E) 0 (i + 1)), .int (sI (eX E) 0 (i + 2))]) (st := [.int y]) (q := 1093) (k' := (k + 0)) (n' := (n + 0)) rfl rfl cv_Law_143 ⟨by decide, by decide⟩ rfl rfl (by rw [law_c]; omega) (by rw [law_s]; omega) (SX.o hS rfl) rfl rfl rfl (Nat.le_of_ble_eq_true rfl) hgi
theorem lc_sales (hE : (sK (eX E) 0).2 = L) (hL : L ≤ 3072) (hi : i + 6 ≤ L) (hc : c < 512) (hk : k + 12 ≤ 600000) (hn : n + 131 ≤ 7302250) (I : INV d t lv c π g s) (H : NXT E i c k n) : AWP E m_Law_law 1098 k n (LSi i) [] (mk g s) LWQ := by
  have hS : SX g := I.1.1.sx
  refine aw_aload_n (q := 1099) (j := 1) rfl rfl rfl (List.mem_of_getElem? (i := 2) rfl) ?_
  refine la_arg (q := 1104) (j := 1) rfl rfl rfl rfl rfl rfl (by decide) hE hL (by omega) ?_
  refine ag_cvI (z := m_Rs_sales) (ci := 10) (a := 16) (av := [.int (sI (eX E) 0 (i + 1))]) (st := []) (q := 1107) (k' := (k + 0)) (n' := (n + 0)) rfl rfl cv_Law_144 ⟨by decide, by decide⟩ rfl rfl (by rw [law_c]; omega) (by rw [law_s]; omega) (SX.o hS rfl) rfl rfl rfl (Nat.le_of_ble_eq_true rfl) ?_
  refine GI.mono (o_sales (Q := fun y y' v => AWP E m_Law_law 1116 (k + 0) (n + 0) (LSi i) [.int y', .int y] (mk g v) LWQ) I (fun A v I' => aw_icmp_eq (q := 1119) (tgt := 1289) rfl rfl (by decide) ⟨fun _ => H _ _ _ _ _ _ _ _ (I'.le hc) (by omega) (by omega), fun z => absurd rfl z⟩)) (fun y u hgi => ?_)
  refine aw_aload_n (q := 1108) (j := 2) rfl rfl rfl (List.mem_of_getElem? (i := 1) rfl) ?_
  refine la_arg (q := 1113) (j := 1) rfl rfl rfl rfl rfl rfl (by decide) hE hL (by omega) ?_
  exact ag_cvI (z := m_Mo_sales) (ci := 11) (a := 120) (av := [.int (sI (eX E) 0 (i + 1))]) (st := [.int y]) (q := 1116) (k' := (k + 0)) (n' := (n + 0)) rfl rfl cv_Law_147 ⟨by decide, by decide⟩ rfl rfl (by rw [law_c]; omega) (by rw [law_s]; omega) (SX.o hS rfl) rfl rfl rfl (Nat.le_of_ble_eq_true rfl) hgi
theorem lc_tell (hE : (sK (eX E) 0).2 = L) (hL : L ≤ 3072) (hi : i + 6 ≤ L) (hc : c < 512) (hk : k + 12 ≤ 600000) (hn : n + 131 ≤ 7302250) (I : INV d t lv c π g s) (H : NXT E i c k n) : AWP E m_Law_law 1121 k n (LSi i) [] (mk g s) LWQ := by
  have hS : SX g := I.1.1.sx
  refine aw_aload_n (q := 1122) (j := 1) rfl rfl rfl (List.mem_of_getElem? (i := 2) rfl) ?_
  refine la_arg (q := 1127) (j := 1) rfl rfl rfl rfl rfl rfl (by decide) hE hL (by omega) ?_
  refine la_arg (q := 1132) (j := 2) rfl rfl rfl rfl rfl rfl (by decide) hE hL (by omega) ?_
  refine la_arg (q := 1137) (j := 3) rfl rfl rfl rfl rfl rfl (by decide) hE hL (by omega) ?_
  refine la_arg (q := 1142) (j := 4) rfl rfl rfl rfl rfl rfl (by decide) hE hL (by omega) ?_
  refine ag_cvI (z := m_Rs_tell) (ci := 10) (a := 16) (av := [.int (sI (eX E) 0 (i + 1)), .int (sI (eX E) 0 (i + 2)), .int (sI (eX E) 0 (i + 3)), .int (sI (eX E) 0 (i + 4))]) (st := []) (q := 1145) (k' := (k + 0)) (n' := (n + 0)) rfl rfl cv_Law_148 ⟨by decide, by decide⟩ rfl rfl (by rw [law_c]; omega) (by rw [law_s]; omega) (SX.o hS rfl) rfl rfl rfl (Nat.le_of_ble_eq_true rfl) ?_
  refine GI.mono (o_tell (Q := fun y y' v => AWP E m_Law_law 1169 (k + 0) (n + 0) (LSi i) [.int y', .int y] (mk g v) LWQ) I (fun A π' v I' => aw_icmp_eq (q := 1172) (tgt := 1289) rfl rfl (by decide) ⟨fun _ => H _ _ _ _ _ _ _ _ (I'.le hc) (by omega) (by omega), fun z => absurd rfl z⟩)) (fun y u hgi => ?_)
  refine aw_aload_n (q := 1146) (j := 2) rfl rfl rfl (List.mem_of_getElem? (i := 1) rfl) ?_
  refine la_arg (q := 1151) (j := 1) rfl rfl rfl rfl rfl rfl (by decide) hE hL (by omega) ?_
  refine la_arg (q := 1156) (j := 2) rfl rfl rfl rfl rfl rfl (by decide) hE hL (by omega) ?_
  refine la_arg (q := 1161) (j := 3) rfl rfl rfl rfl rfl rfl (by decide) hE hL (by omega) ?_
  refine la_arg (q := 1166) (j := 4) rfl rfl rfl rfl rfl rfl (by decide) hE hL (by omega) ?_
  exact ag_cvI (z := m_Mo_tell) (ci := 11) (a := 120) (av := [.int (sI (eX E) 0 (i + 1)), .int (sI (eX E) 0 (i + 2)), .int (sI (eX E) 0 (i + 3)), .int (sI (eX E) 0 (i + 4))]) (st := [.int y]) (q := 1169) (k' := (k + 0)) (n' := (n + 0)) rfl rfl cv_Law_152 ⟨by decide, by decide⟩ rfl rfl (by rw [law_c]; omega) (by rw [law_s]; omega) (SX.o hS rfl) rfl rfl rfl (Nat.le_of_ble_eq_true rfl) hgi
theorem lc_forget (hE : (sK (eX E) 0).2 = L) (hL : L ≤ 3072) (hi : i + 6 ≤ L) (hc : c < 512) (hk : k + 12 ≤ 600000) (hn : n + 131 ≤ 7302250) (I : INV d t lv c π g s) (H : NXT E i c k n) : AWP E m_Law_law 1174 k n (LSi i) [] (mk g s) LWQ := by
  have hS : SX g := I.1.1.sx
  refine aw_aload_n (q := 1175) (j := 1) rfl rfl rfl (List.mem_of_getElem? (i := 2) rfl) ?_
  refine ag_cvI (z := m_Rs_forget) (ci := 10) (a := 16) (av := []) (st := []) (q := 1178) (k' := (k + 0)) (n' := (n + 0)) rfl rfl cv_Law_153 ⟨by decide, by decide⟩ rfl rfl (by rw [law_c]; omega) (by rw [law_s]; omega) (SX.o hS rfl) rfl rfl rfl (Nat.le_of_ble_eq_true rfl) ?_
  refine GI.mono (o_forget (Q := fun y y' v => AWP E m_Law_law 1182 (k + 0) (n + 0) (LSi i) [.int y', .int y] (mk g v) LWQ) I (fun A π' v I' => aw_icmp_eq (q := 1185) (tgt := 1289) rfl rfl (by decide) ⟨fun _ => H _ _ _ _ _ _ _ _ (I'.le hc) (by omega) (by omega), fun z => absurd rfl z⟩)) (fun y u hgi => ?_)
  refine aw_aload_n (q := 1179) (j := 2) rfl rfl rfl (List.mem_of_getElem? (i := 1) rfl) ?_
  exact ag_cvI (z := m_Mo_forget) (ci := 11) (a := 120) (av := []) (st := [.int y]) (q := 1182) (k' := (k + 0)) (n' := (n + 0)) rfl rfl cv_Law_156 ⟨by decide, by decide⟩ rfl rfl (by rw [law_c]; omega) (by rw [law_s]; omega) (SX.o hS rfl) rfl rfl rfl (Nat.le_of_ble_eq_true rfl) hgi
theorem lc_jokes (hE : (sK (eX E) 0).2 = L) (hL : L ≤ 3072) (hi : i + 6 ≤ L) (hc : c < 512) (hk : k + 12 ≤ 600000) (hn : n + 131 ≤ 7302250) (I : INV d t lv c π g s) (H : NXT E i c k n) : AWP E m_Law_law 1187 k n (LSi i) [] (mk g s) LWQ := by
  have hS : SX g := I.1.1.sx
  refine aw_aload_n (q := 1188) (j := 1) rfl rfl rfl (List.mem_of_getElem? (i := 2) rfl) ?_
  refine la_arg (q := 1193) (j := 1) rfl rfl rfl rfl rfl rfl (by decide) hE hL (by omega) ?_
  refine la_arg (q := 1198) (j := 2) rfl rfl rfl rfl rfl rfl (by decide) hE hL (by omega) ?_
  refine ag_cvI (z := m_Rs_jokes) (ci := 10) (a := 16) (av := [.int (sI (eX E) 0 (i + 1)), .int (sI (eX E) 0 (i + 2))]) (st := []) (q := 1201) (k' := (k + 0)) (n' := (n + 0)) rfl rfl cv_Law_157 ⟨by decide, by decide⟩ rfl rfl (by rw [law_c]; omega) (by rw [law_s]; omega) (SX.o hS rfl) rfl rfl rfl (Nat.le_of_ble_eq_true rfl) ?_
  refine GI.mono (o_jokes (Q := fun y y' v => AWP E m_Law_law 1215 (k + 0) (n + 0) (LSi i) [.int y', .int y] (mk g v) LWQ) I (fun A v I' => aw_icmp_eq (q := 1218) (tgt := 1289) rfl rfl (by decide) ⟨fun _ => H _ _ _ _ _ _ _ _ (I'.le hc) (by omega) (by omega), fun z => absurd rfl z⟩)) (fun y u hgi => ?_)
  refine aw_aload_n (q := 1202) (j := 2) rfl rfl rfl (List.mem_of_getElem? (i := 1) rfl) ?_
  refine la_arg (q := 1207) (j := 1) rfl rfl rfl rfl rfl rfl (by decide) hE hL (by omega) ?_
  refine la_arg (q := 1212) (j := 2) rfl rfl rfl rfl rfl rfl (by decide) hE hL (by omega) ?_
  exact ag_cvI (z := m_Mo_jokes) (ci := 11) (a := 120) (av := [.int (sI (eX E) 0 (i + 1)), .int (sI (eX E) 0 (i + 2))]) (st := [.int y]) (q := 1215) (k' := (k + 0)) (n' := (n + 0)) rfl rfl cv_Law_160 ⟨by decide, by decide⟩ rfl rfl (by rw [law_c]; omega) (by rw [law_s]; omega) (SX.o hS rfl) rfl rfl rfl (Nat.le_of_ble_eq_true rfl) hgi
theorem lc_hold (hE : (sK (eX E) 0).2 = L) (hL : L ≤ 3072) (hi : i + 6 ≤ L) (hc : c < 512) (hk : k + 12 ≤ 600000) (hn : n + 131 ≤ 7302250) (I : INV d t lv c π g s) (H : NXT E i c k n) : AWP E m_Law_law 1220 k n (LSi i) [] (mk g s) LWQ := by
  have hS : SX g := I.1.1.sx
  refine aw_aload_n (q := 1221) (j := 1) rfl rfl rfl (List.mem_of_getElem? (i := 2) rfl) ?_
  refine la_arg (q := 1226) (j := 1) rfl rfl rfl rfl rfl rfl (by decide) hE hL (by omega) ?_
  refine ax_cvI (z := m_Rs_hold) (ci := 10) (a := 16) (av := [.int (sI (eX E) 0 (i + 1))]) (st := []) (q := 1229) (k' := (k + 12)) (n' := (n + 131)) rfl rfl cv_Law_161 ⟨by decide, by decide⟩ rfl rfl (by rw [law_c]; omega) (by rw [law_s]; omega) (SX.o hS rfl) rfl rfl rfl (Nat.le_of_ble_eq_true rfl) ?_
  refine XI.mono (p_hold (Q := fun y y' g' v => AWP E m_Law_law 1238 (k + 12) (n + 131) (LSi i) [.int y', .int y] (mk g' v) LWQ) hc I (fun A π' g' v I' => aw_icmp_eq (q := 1241) (tgt := 1289) rfl rfl (by decide) ⟨fun _ => H _ _ _ _ _ _ _ _ I' (by omega) (by omega), fun z => absurd rfl z⟩)) (fun y g' u hg => ?_)
  obtain ⟨hS', hgi⟩ := hg
  refine aw_aload_n (q := 1230) (j := 2) rfl rfl rfl (List.mem_of_getElem? (i := 1) rfl) ?_
  refine la_arg (q := 1235) (j := 1) rfl rfl rfl rfl rfl rfl (by decide) hE hL (by omega) ?_
  exact ag_cvI (z := m_Mo_hold) (ci := 11) (a := 120) (av := [.int (sI (eX E) 0 (i + 1))]) (st := [.int y]) (q := 1238) (k' := (k + 12)) (n' := (n + 131)) rfl rfl cv_Law_164 ⟨by decide, by decide⟩ rfl rfl (by rw [law_c]; omega) (by rw [law_s]; omega) (SX.o hS' rfl) rfl rfl rfl (Nat.le_of_ble_eq_true rfl) hgi
theorem lc_restore (hE : (sK (eX E) 0).2 = L) (hL : L ≤ 3072) (hi : i + 6 ≤ L) (hc : c < 512) (hk : k + 12 ≤ 600000) (hn : n + 131 ≤ 7302250) (I : INV d t lv c π g s) (H : NXT E i c k n) : AWP E m_Law_law 1243 k n (LSi i) [] (mk g s) LWQ := by
  have hS : SX g := I.1.1.sx
  refine aw_aload_n (q := 1244) (j := 1) rfl rfl rfl (List.mem_of_getElem? (i := 2) rfl) ?_
  refine la_arg (q := 1249) (j := 1) rfl rfl rfl rfl rfl rfl (by decide) hE hL (by omega) ?_
  refine ag_cvI (z := m_Rs_restore) (ci := 10) (a := 16) (av := [.int (sI (eX E) 0 (i + 1))]) (st := []) (q := 1252) (k' := (k + 0)) (n' := (n + 0)) rfl rfl cv_Law_165 ⟨by decide, by decide⟩ rfl rfl (by rw [law_c]; omega) (by rw [law_s]; omega) (SX.o hS rfl) rfl rfl rfl (Nat.le_of_ble_eq_true rfl) ?_
  refine GI.mono (o_restore (Q := fun y y' v => AWP E m_Law_law 1261 (k + 0) (n + 0) (LSi i) [.int y', .int y] (mk g v) LWQ) hc I (fun A π' v I' => aw_icmp_eq (q := 1264) (tgt := 1289) rfl rfl (by decide) ⟨fun _ => H _ _ _ _ _ _ _ _ I' (by omega) (by omega), fun z => absurd rfl z⟩)) (fun y u hgi => ?_)
  refine aw_aload_n (q := 1253) (j := 2) rfl rfl rfl (List.mem_of_getElem? (i := 1) rfl) ?_
  refine la_arg (q := 1258) (j := 1) rfl rfl rfl rfl rfl rfl (by decide) hE hL (by omega) ?_
  exact ag_cvI (z := m_Mo_restore) (ci := 11) (a := 120) (av := [.int (sI (eX E) 0 (i + 1))]) (st := [.int y]) (q := 1261) (k' := (k + 0)) (n' := (n + 0)) rfl rfl cv_Law_168 ⟨by decide, by decide⟩ rfl rfl (by rw [law_c]; omega) (by rw [law_s]; omega) (SX.o hS rfl) rfl rfl rfl (Nat.le_of_ble_eq_true rfl) hgi
theorem lc_count (hE : (sK (eX E) 0).2 = L) (hL : L ≤ 3072) (hi : i + 6 ≤ L) (hc : c < 512) (hk : k + 12 ≤ 600000) (hn : n + 131 ≤ 7302250) (I : INV d t lv c π g s) (H : NXT E i c k n) : AWP E m_Law_law 1266 k n (LSi i) [] (mk g s) LWQ := by
  have hS : SX g := I.1.1.sx
  refine aw_aload_n (q := 1267) (j := 1) rfl rfl rfl (List.mem_of_getElem? (i := 2) rfl) ?_
  refine la_arg (q := 1272) (j := 1) rfl rfl rfl rfl rfl rfl (by decide) hE hL (by omega) ?_
  refine ag_cvI (z := m_Rs_count) (ci := 10) (a := 16) (av := [.int (sI (eX E) 0 (i + 1))]) (st := []) (q := 1275) (k' := (k + 0)) (n' := (n + 0)) rfl rfl cv_Law_169 ⟨by decide, by decide⟩ rfl rfl (by rw [law_c]; omega) (by rw [law_s]; omega) (SX.o hS rfl) rfl rfl rfl (Nat.le_of_ble_eq_true rfl) ?_
  refine GI.mono (o_count (Q := fun y y' v => AWP E m_Law_law 1284 (k + 0) (n + 0) (LSi i) [.int y', .int y] (mk g v) LWQ) I (fun A v I' => aw_icmp_eq (q := 1287) (tgt := 1289) rfl rfl (by decide) ⟨fun _ => H _ _ _ _ _ _ _ _ (I'.le hc) (by omega) (by omega), fun z => absurd rfl z⟩)) (fun y u hgi => ?_)
  refine aw_aload_n (q := 1276) (j := 2) rfl rfl rfl (List.mem_of_getElem? (i := 1) rfl) ?_
  refine la_arg (q := 1281) (j := 1) rfl rfl rfl rfl rfl rfl (by decide) hE hL (by omega) ?_
  exact ag_cvI (z := m_Mo_count) (ci := 11) (a := 120) (av := [.int (sI (eX E) 0 (i + 1))]) (st := [.int y]) (q := 1284) (k' := (k + 0)) (n' := (n + 0)) rfl rfl cv_Law_172 ⟨by decide, by decide⟩ rfl rfl (by rw [law_c]; omega) (by rw [law_s]; omega) (SX.o hS rfl) rfl rfl rfl (Nat.le_of_ble_eq_true rfl) hgi
end LawCases
