/-! STRINGS: a sign of one, where a sign is -/
section Str
variable {E : EN} {g : GS} {s : MS}
theorem f_Pre_checkIndex {R : Int32 → MS → Prop} {x N : Int32} {v : Value} (hv : v = .null ∨ ∃ a, v = .ref a) (h0 : ¬ x < 0) (h1 : x < N) (h : R x s) : GI E m_Pre_checkIndex [.int x, .int N, v] g s R := by
  have key : AWP E m_Pre_checkIndex 0 0 0 [(0, .int x), (1, .int N), (2, v)] [] (mk g s) (qI g R) := by
    refine aw_iload_n (q := 1) (j := 0) rfl rfl rfl (List.mem_of_getElem? (i := 0) rfl) ?_
    refine aw_if_lt (q := 4) (tgt := 9) rfl rfl (by decide) ⟨fun c => absurd c h0, fun _ => ?_⟩
    refine aw_iload_n (q := 5) (j := 0) rfl rfl rfl (List.mem_of_getElem? (i := 0) rfl) ?_
    refine aw_iload_n (q := 6) (j := 1) rfl rfl rfl (List.mem_of_getElem? (i := 1) rfl) ?_
    refine aw_icmp_lt (q := 9) (tgt := 16) rfl rfl (by decide) ⟨fun _ => ?_, fun c => absurd h1 c⟩
    refine aw_iload_n (q := 17) (j := 0) rfl rfl rfl (List.mem_of_getElem? (i := 0) rfl) ?_
    exact aw_ireturn (ty := .int) rfl rfl rfl (by decide) (by decide) (qI.mk h)
  rcases hv with rfl | ⟨a, rfl⟩
  · exact AMet.of (by decide) k_Pre_checkIndex [(0, .int x), (1, .int N), (2, .null)] (Nat.le_of_ble_eq_true rfl) rfl key
  · exact AMet.of (by decide) k_Pre_checkIndex [(0, .int x), (1, .int N), (2, .ref a)] (Nat.le_of_ble_eq_true rfl) rfl key
theorem rv_or (o : Option Nat) : rv o = .null ∨ ∃ a, rv o = .ref a := by
  rcases o with _ | a
  · exact Or.inl rfl
  · exact Or.inr ⟨a, rfl⟩
theorem f_Str_checkIndex {R : MS → Prop} {x N : Int32} (h0 : ¬ x < 0) (h1 : x < N) (h : R s) : GV E m_Str_checkIndex [.int x, .int N] g s R := by
  refine AMet.of (by decide) k_Str_checkIndex [(0, .int x), (1, .int N)] (Nat.le_of_ble_eq_true rfl) rfl ?_
  refine aw_iload_n (q := 1) (j := 0) rfl rfl rfl (List.mem_of_getElem? (i := 0) rfl) ?_
  refine aw_iload_n (q := 2) (j := 1) rfl rfl rfl (List.mem_of_getElem? (i := 1) rfl) ?_
  refine aw_fmt (q := 5) rfl rfl (tb_c3 117 rfl rfl) ?_
  refine ag_csI (z := m_Pre_checkIndex) (av := [.int x, .int N, rv (sR (eX E) 14 0)]) (st := []) (q := 8) (k' := 0) (n' := 0) rfl rfl cs_Str_1059 ⟨by decide, by decide⟩ rfl rfl (by decide) (by decide) rfl rfl (Nat.le_of_ble_eq_true rfl) ?_
  refine f_Pre_checkIndex (rv_or _) h0 h1 ?_
  refine aw_pop (q := 9) rfl rfl rfl ?_
  exact aw_return rfl rfl (by decide) (by decide) (qV.mk h)
end Str
