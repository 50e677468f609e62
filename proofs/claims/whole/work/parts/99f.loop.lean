/-! THE LAW: its loop -/
section LawLoop
variable {E : EN} {L : Nat}
def LPP (E : EN) (c : Nat) : Prop := ∀ d t lv π g s k n, INV d t lv c π g s → k ≤ 157 + 12 * c → n ≤ 25000 + 131 * c → AWP E m_Law_law 18 k n (LSi (6 * c)) [] (mk g s) LWQ
theorem law_hd {L i : Nat} (hL : L ≤ 3072) (hi : i ≤ 3072) (h : ¬ nI L - 6 < nI i) : i + 6 ≤ L := by
  refine Decidable.byContradiction (fun z => h ?_)
  by_cases c : 6 ≤ L
  · have e : nI L - 6 = nI (L - 6) := by
      rw [show L = (L - 6) + 6 from by omega, ← nI_add, show nI 6 = 6 from rfl, show L - 6 + 6 - 6 = L - 6 from by omega]
      grind
    rw [e]; exact nI_lt (by omega) (by omega)
  · have e : nI L - 6 < 0 := by
      have : L = 0 ∨ L = 1 ∨ L = 2 ∨ L = 3 ∨ L = 4 ∨ L = 5 := by omega
      rcases this with rfl | rfl | rfl | rfl | rfl | rfl <;> decide
    exact Int32.lt_of_lt_of_le e (nI_nn (by omega))
theorem law_step (hE : (sK (eX E) 0).2 = L) (hL : L ≤ 3072) {c : Nat} (hc2 : c ≤ 512) (H : c < 512 → LPP E (c + 1)) : LPP E c := by
  intro d t lv π g s k n I hk hn
  refine aw_iload_n (q := 19) (j := 3) rfl rfl rfl (List.mem_of_getElem? (i := 0) rfl) ?_
  refine aw_aload_n (q := 20) (j := 0) rfl rfl rfl (List.mem_of_getElem? (i := 3) rfl) ?_
  refine AWP.x (fun hx => ?_)
  have e1 : g.2.1 0 = sK (eX E) 0 := (hx 0 (by omega)).1
  have e2 : s.1 0 = sI (eX E) 0 := (hx 0 (by omega)).2.1
  refine aw_xalen (q := 21) (v := nI L) rfl rfl (by omega) (show (g.2.1 0).2 = L from by rw [e1]; exact hE) rfl ?_
  refine aw_bipush (q := 23) (v := 6) rfl rfl (by decide) ?_
  refine aw_isub (q := 24) rfl rfl ?_
  refine aw_icmp_gt (q := 27) (tgt := 1295) rfl rfl (by decide) ⟨fun _ => ?_, fun z => ?_⟩
  · refine aw_iconst (q := 1296) (v := 1) rfl rfl (by decide) ?_
    exact aw_ireturn (ty := .boolean) rfl rfl rfl (by rw [law_c]; omega) (by rw [law_s]; omega) ⟨rfl, Nat.le_trans (by decide) I.1.1.sx.2.2.1⟩
  have hi : 6 * c + 6 ≤ L := law_hd hL (by omega) z
  have hc : c < 512 := by omega
  have HN : NXT E (6 * c) c k n := fun d' t' lv' π' g' s' k' n' I' hk' hn' => by
    refine aw_iinc (q := 1292) (j := 3) (v := nI (6 * c + 6)) rfl rfl (List.mem_of_getElem? (i := 0) rfl) (nI_add _ _) (by decide) (ls' := LSi (6 * c + 6)) rfl ?_
    refine aw_goto (tgt := 18) rfl (by decide) ?_
    exact H hc d' t' lv' π' g' s' k' n' I' (by omega) (by omega)
  refine aw_aload_n (q := 28) (j := 0) rfl rfl rfl (List.mem_of_getElem? (i := 3) rfl) ?_
  refine aw_iload_n (q := 29) (j := 3) rfl rfl rfl (List.mem_of_getElem? (i := 0) rfl) ?_
  refine ag_xiaload (q := 30) rfl rfl (by omega) (N := L) (by rw [e1]; exact hE) (vp_in_nI (by omega) (by omega)) ?_
  refine aw_bipush (q := 32) (v := 63) rfl rfl (by decide) ?_
  refine aw_iand (q := 33) rfl rfl ?_
  generalize (s.1 0 (nI (6 * c)).toNatClampNeg &&& 63) = x
  have hk1 : k + 12 ≤ 600000 := by omega
  have hn1 : n + 131 ≤ 7302250 := by omega
  by_cases cd : x < 0 ∨ 36 < x
  · refine aw_tableLt (tgt := 1289) rfl (a := 0) (b := 36) (by decide) (by decide) cd (by decide) ?_
    exact HN _ _ _ _ _ _ _ _ (I.le hc) (by omega) (by omega)
  · obtain ⟨j, hj, ej⟩ := sw_cases 36 36 (fun q => cd (Or.inl q)) (fun q => cd (Or.inr q)) (by decide)
    match j, hj, ej with
    | 0, _, e => exact aw_tableEq (v := 0) (tgt := 196) rfl (Int32.toInt_inj.mp (e.trans (by decide))) (by decide) (by decide) rfl (by decide) (lc_feed hE hL hi hc hk1 hn1 I HN)
    | 1, _, e => exact aw_tableEq (v := 1) (tgt := 259) rfl (Int32.toInt_inj.mp (e.trans (by decide))) (by decide) (by decide) rfl (by decide) (lc_back hE hL hi hc hk1 hn1 I HN)
    | 2, _, e => exact aw_tableEq (v := 2) (tgt := 282) rfl (Int32.toInt_inj.mp (e.trans (by decide))) (by decide) (by decide) rfl (by decide) (lc_read hE hL hi hc hk1 hn1 I HN)
    | 3, _, e => exact aw_tableEq (v := 3) (tgt := 295) rfl (Int32.toInt_inj.mp (e.trans (by decide))) (by decide) (by decide) rfl (by decide) (lc_place hE hL hi hc hk1 hn1 I HN)
    | 4, _, e => exact aw_tableEq (v := 4) (tgt := 308) rfl (Int32.toInt_inj.mp (e.trans (by decide))) (by decide) (by decide) rfl (by decide) (lc_heap hE hL hi hc hk1 hn1 I HN)
    | 5, _, e => exact aw_tableEq (v := 5) (tgt := 331) rfl (Int32.toInt_inj.mp (e.trans (by decide))) (by decide) (by decide) rfl (by decide) (lc_hole hE hL hi hc hk1 hn1 I HN)
    | 6, _, e => exact aw_tableEq (v := 6) (tgt := 364) rfl (Int32.toInt_inj.mp (e.trans (by decide))) (by decide) (by decide) rfl (by decide) (lc_rat hE hL hi hc hk1 hn1 I HN)
    | 7, _, e => exact aw_tableEq (v := 7) (tgt := 397) rfl (Int32.toInt_inj.mp (e.trans (by decide))) (by decide) (by decide) rfl (by decide) (lc_worth hE hL hi hc hk1 hn1 I HN)
    | 8, _, e => exact aw_tableEq (v := 8) (tgt := 420) rfl (Int32.toInt_inj.mp (e.trans (by decide))) (by decide) (by decide) rfl (by decide) (lc_pure hE hL hi hc hk1 hn1 I HN)
    | 9, _, e => exact aw_tableEq (v := 9) (tgt := 469) rfl (Int32.toInt_inj.mp (e.trans (by decide))) (by decide) (by decide) rfl (by decide) (lc_minutes hE hL hi hc hk1 hn1 I HN)
    | 10, _, e => exact aw_tableEq (v := 10) (tgt := 492) rfl (Int32.toInt_inj.mp (e.trans (by decide))) (by decide) (by decide) rfl (by decide) (lc_pour hE hL hi hc hk1 hn1 I HN)
    | 11, _, e => exact aw_tableEq (v := 11) (tgt := 525) rfl (Int32.toInt_inj.mp (e.trans (by decide))) (by decide) (by decide) rfl (by decide) (lc_swap hE hL hi hc hk1 hn1 I HN)
    | 12, _, e => exact aw_tableEq (v := 12) (tgt := 558) rfl (Int32.toInt_inj.mp (e.trans (by decide))) (by decide) (by decide) rfl (by decide) (lc_teach hE hL hi hc hk1 hn1 I HN)
    | 13, _, e => exact aw_tableEq (v := 13) (tgt := 591) rfl (Int32.toInt_inj.mp (e.trans (by decide))) (by decide) (by decide) rfl (by decide) (lc_give hE hL hi hc hk1 hn1 I HN)
    | 14, _, e => exact aw_tableEq (v := 14) (tgt := 634) rfl (Int32.toInt_inj.mp (e.trans (by decide))) (by decide) (by decide) rfl (by decide) (lc_send hE hL hi hc hk1 hn1 I HN)
    | 15, _, e => exact aw_tableEq (v := 15) (tgt := 683) rfl (Int32.toInt_inj.mp (e.trans (by decide))) (by decide) (by decide) rfl (by decide) (lc_cat hE hL hi hc hk1 hn1 I HN)
    | 16, _, e => exact aw_tableEq (v := 16) (tgt := 706) rfl (Int32.toInt_inj.mp (e.trans (by decide))) (by decide) (by decide) rfl (by decide) (lc_sell hE hL hi hc hk1 hn1 I HN)
    | 17, _, e => exact aw_tableEq (v := 17) (tgt := 729) rfl (Int32.toInt_inj.mp (e.trans (by decide))) (by decide) (by decide) rfl (by decide) (lc_undo hE hL hi hc hk1 hn1 I HN)
    | 18, _, e => exact aw_tableEq (v := 18) (tgt := 742) rfl (Int32.toInt_inj.mp (e.trans (by decide))) (by decide) (by decide) rfl (by decide) (lc_isClean hE hL hi hc hk1 hn1 I HN)
    | 19, _, e => exact aw_tableEq (v := 19) (tgt := 755) rfl (Int32.toInt_inj.mp (e.trans (by decide))) (by decide) (by decide) rfl (by decide) (lc_clean hE hL hi hc hk1 hn1 I HN)
    | 20, _, e => exact aw_tableEq (v := 20) (tgt := 768) rfl (Int32.toInt_inj.mp (e.trans (by decide))) (by decide) (by decide) rfl (by decide) (lc_then hE hL hi hc hk1 hn1 I HN)
    | 21, _, e => exact aw_tableEq (v := 21) (tgt := 801) rfl (Int32.toInt_inj.mp (e.trans (by decide))) (by decide) (by decide) rfl (by decide) (lc_lies hE hL hi hc hk1 hn1 I HN)
    | 22, _, e => exact aw_tableEq (v := 22) (tgt := 844) rfl (Int32.toInt_inj.mp (e.trans (by decide))) (by decide) (by decide) rfl (by decide) (lc_hire hE hL hi hc hk1 hn1 I HN)
    | 23, _, e => exact aw_tableEq (v := 23) (tgt := 877) rfl (Int32.toInt_inj.mp (e.trans (by decide))) (by decide) (by decide) rfl (by decide) (lc_taught hE hL hi hc hk1 hn1 I HN)
    | 24, _, e => exact aw_tableEq (v := 24) (tgt := 910) rfl (Int32.toInt_inj.mp (e.trans (by decide))) (by decide) (by decide) rfl (by decide) (lc_taughtAt hE hL hi hc hk1 hn1 I HN)
    | 25, _, e => exact aw_tableEq (v := 25) (tgt := 953) rfl (Int32.toInt_inj.mp (e.trans (by decide))) (by decide) (by decide) rfl (by decide) (lc_bestSwap hE hL hi hc hk1 hn1 I HN)
    | 26, _, e => exact aw_tableEq (v := 26) (tgt := 976) rfl (Int32.toInt_inj.mp (e.trans (by decide))) (by decide) (by decide) rfl (by decide) (lc_missed hE hL hi hc hk1 hn1 I HN)
    | 27, _, e => exact aw_tableEq (v := 27) (tgt := 1009) rfl (Int32.toInt_inj.mp (e.trans (by decide))) (by decide) (by decide) rfl (by decide) (lc_catAt hE hL hi hc hk1 hn1 I HN)
    | 28, _, e => exact aw_tableEq (v := 28) (tgt := 1042) rfl (Int32.toInt_inj.mp (e.trans (by decide))) (by decide) (by decide) rfl (by decide) (lc_starves hE hL hi hc hk1 hn1 I HN)
    | 29, _, e => exact aw_tableEq (v := 29) (tgt := 1065) rfl (Int32.toInt_inj.mp (e.trans (by decide))) (by decide) (by decide) rfl (by decide) (lc_mean hE hL hi hc hk1 hn1 I HN)
    | 30, _, e => exact aw_tableEq (v := 30) (tgt := 1098) rfl (Int32.toInt_inj.mp (e.trans (by decide))) (by decide) (by decide) rfl (by decide) (lc_sales hE hL hi hc hk1 hn1 I HN)
    | 31, _, e => exact aw_tableEq (v := 31) (tgt := 1121) rfl (Int32.toInt_inj.mp (e.trans (by decide))) (by decide) (by decide) rfl (by decide) (lc_tell hE hL hi hc hk1 hn1 I HN)
    | 32, _, e => exact aw_tableEq (v := 32) (tgt := 1174) rfl (Int32.toInt_inj.mp (e.trans (by decide))) (by decide) (by decide) rfl (by decide) (lc_forget hE hL hi hc hk1 hn1 I HN)
    | 33, _, e => exact aw_tableEq (v := 33) (tgt := 1187) rfl (Int32.toInt_inj.mp (e.trans (by decide))) (by decide) (by decide) rfl (by decide) (lc_jokes hE hL hi hc hk1 hn1 I HN)
    | 34, _, e => exact aw_tableEq (v := 34) (tgt := 1220) rfl (Int32.toInt_inj.mp (e.trans (by decide))) (by decide) (by decide) rfl (by decide) (lc_hold hE hL hi hc hk1 hn1 I HN)
    | 35, _, e => exact aw_tableEq (v := 35) (tgt := 1243) rfl (Int32.toInt_inj.mp (e.trans (by decide))) (by decide) (by decide) rfl (by decide) (lc_restore hE hL hi hc hk1 hn1 I HN)
    | 36, _, e => exact aw_tableEq (v := 36) (tgt := 1266) rfl (Int32.toInt_inj.mp (e.trans (by decide))) (by decide) (by decide) rfl (by decide) (lc_count hE hL hi hc hk1 hn1 I HN)
    | n + 37, h, _ => exact absurd h (by omega)
theorem law_all (hE : (sK (eX E) 0).2 = L) (hL : L ≤ 3072) : LPP E 0 :=
  upto (P := LPP E) 512 (law_step hE hL (by omega) (fun h => absurd h (by omega))) (fun c hc h => law_step hE hL (by omega) (fun _ => h)) 0 (by omega)
theorem law_at {g : GS} {s : MS} (hE : (sK (eX E) 0).2 = L) (hL : L ≤ 3072) (hu : ∀ k, k < 3 → sI (eX E) 1 k = unt k) (hK : sK (eX E) 1 = (1, 3)) (hg : g.1 = 16) : AWP E m_Law_law 0 0 0 [(0, .ref 0)] [] (mk g s) LWQ := by
  refine AWP.x (fun hx => ?_)
  have e1 : g.2.1 1 = (1, 3) := (hx 1 (by omega)).1.trans hK
  have e2 : s.1 1 = sI (eX E) 1 := (hx 1 (by omega)).2.1
  have hu' : ∀ k, k < 3 → s.1 1 k = unt k := fun k hk => by rw [e2]; exact hu k hk
  refine ag_new (q := 3) (ci := 10) (k' := 1) (n' := nfc 10) rfl rfl nc_Law_7 rfl (Nat.zero_add _) (by rw [law_c]; omega) (by decide) ?_
  rw [hg]
  have G : GPn 17 0 (gn g (0, 10)) := by
    refine ⟨by rw [gn_1, hg], fun a a1 a2 => ?_, fun j hj => absurd hj (Nat.not_lt_zero _), ?_, fun f hf => absurd hf (by omega), fun f hf => absurd hf (by omega)⟩
    · rw [gn_k, if_pos (by omega), show a = 16 from by omega]; rfl
    · rw [gn_k, if_neg (by omega)]; exact e1
  have Z : MZs s 17 V0 (sn s 16) := by
    refine ⟨fun a ha => by rw [sn_1, if_neg (by omega)], fun a a1 a2 => ?_⟩
    rw [sn_1, if_pos (by omega)]; rfl
  refine aw_dup (q := 4) rfl rfl rfl ?_
  refine ax_cnV (z := m_Rs_init) (a := 16) (av := []) (st := [.ref 16]) (q := 7) (k' := 104) (n' := nfc 10 + 8743) rfl rfl cn_Law_9 ⟨by decide, by decide⟩ rfl rfl (by decide) (by decide) rfl rfl (Nat.le_of_ble_eq_true rfl) (i_Rs_16 G Z hu' (fun g' u G' g28 C hf => ?_))
  refine AWP.rn (τ := mk g' u) (ls' := [(0, .ref 0)]) (st' := [.ref 16]) (show 120 ≤ g'.1 from by rw [G'.1]; exact Nat.le_refl _) rfl rfl (Q' := LWQ) (fun v τ hv => ⟨hv.2, congrArg (Option.map unV) hv.1, hv.2⟩) ?_
  refine aw_astore_n (q := 8) (j := 1) rfl rfl rfl (by decide) (ls' := [(1, .ref 16), (0, .ref 0)]) rfl ?_
  refine ag_new (q := 11) (ci := 11) (k' := 105) (n' := nfc 10 + 8743 + nfc 11) rfl rfl nc_Law_10 rfl rfl (by decide) (by decide) ?_
  rw [G'.1]
  have G2 : GPs 121 107 (gn g' (0, 11)) := G'.new rfl rfl (by omega)
  have Z2 : MZr u 121 V0 (sn u 120) := by
    refine ⟨fun a ha => by rw [sn_1, if_neg (by omega)], fun a a1 a2 => ?_⟩
    rw [sn_1, if_pos (by omega)]; rfl
  refine aw_dup (q := 12) rfl rfl rfl ?_
  refine ax_cnV (z := m_Mo_init) (a := 120) (av := []) (st := [.ref 120]) (q := 15) (k' := 157) (n' := nfc 10 + 8743 + nfc 11 + 14876) rfl rfl cn_Law_12 ⟨by decide, by decide⟩ rfl rfl (by decide) (by decide) rfl rfl (Nat.le_of_ble_eq_true rfl) (i_Mo_120 G2 Z2 (gn28 g28 G'.1 (by omega)) (fun g2 v H1 H2 H3 H4 H5 H6 H7 H8 H9 H10 H11 => ?_))
  refine aw_astore_n (q := 16) (j := 2) rfl rfl rfl (by decide) (ls' := [(2, .ref 120), (1, .ref 16), (0, .ref 0)]) rfl ?_
  refine aw_iconst (q := 17) (v := nI 0) rfl rfl (by decide) ?_
  refine aw_istore_n (q := 18) (j := 3) rfl rfl rfl (by decide) (ls' := LSi 0) rfl ?_
  exact law_all (E := rnE E) hE hL _ _ _ _ _ _ _ _ (st_INV H1 H2 C H3 H4 H5 H6 H7 H8 H9 H10 H11) (by decide) (by decide)
end LawLoop
