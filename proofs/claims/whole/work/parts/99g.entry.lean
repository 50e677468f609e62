/-! THE ENTRY: what the Statement gives -/
def gvC : List Cond := flatC (Cond.and given_1 narrow_1)
def tmS (i : Nat) : Term := .string (strT.getD i ("", 0, "")).1 (strT.getD i ("", 0, "")).2.1
def sbB (i : Nat) : Nat := [39, 183, 197, 207, 218, 232].getD i 0
def sbN (i : Nat) : Nat := [0, 196, 205, 215, 228, 238].getD i 0
theorem gv_ex : ∀ i, i < 6 → gvC[sbB i]? = some (.exactly (tmS i) "java/lang/String") := by decide +kernel
theorem gv_co : ∀ i, i < 6 → gvC[sbB i + 1]? = some (.eq (.field (tmS i) "java/lang/String" "code\x72" "B") (.int 0)) := by decide +kernel
theorem gv_ar : ∀ i, i < 6 → gvC[sbB i + 2]? = some (.arrayOf (.field (tmS i) "java/lang/String" "value" "[B") .byte) := by decide +kernel
theorem gv_le : ∀ i, i < 6 → gvC[sbB i + 3]? = some (.eq (.length (.field (tmS i) "java/lang/String" "value" "[B")) (.int (Int32.ofNat (strN.getD i 0)))) := by decide +kernel
theorem gv_el : ∀ i, i < 6 → ∀ j, j < strN.getD i 0 → gvC[sbB i + 4 + j]? = some (.eq (.elem (.field (tmS i) "java/lang/String" "value" "[B") (.int (Int32.ofNat j))) (.int ((strBs.getD i []).getD j 0))) := by decide +kernel
theorem gv_ne : ∀ j, j < 6 → ∀ i, i < j → gvC[sbN j + i]? = some (.not (.eq (tmS i) (tmS j))) := by decide +kernel
theorem gv_ln : ∀ i, i < 6 → strN.getD i 0 < 2 ^ 31 := by decide +kernel
def tmU : Term := .static "RatSorters$Laws" "UNTOLD" "[I"
theorem gv_u0 : gvC[10]? = some (.arrayOf tmU .int) := by decide +kernel
theorem gv_u1 : gvC[11]? = some (.eq (.length tmU) (.int (Int32.ofNat 3))) := by decide +kernel
theorem gv_u2 : ∀ j, j < 3 → gvC[12 + j]? = some (.eq (.elem tmU (.int (Int32.ofNat j))) (.int (unt j))) := by decide +kernel
theorem gv_cs : gvC[4]? = some (.eq (.static "java/lang/String" "COMPACT_STRINGS" "Z") (.int 1)) := by decide +kernel
theorem gv_fm : gvC[5]? = some (.isRef (.static "jdk/internal/util/Preconditions" "SIOOBE_FORMATTER" "Ljava/util/function/BiFunction;")) := by decide +kernel
theorem cl_ins : ∀ ci, ci < 12 → ∀ C T N, classes[ci]? = some (C, T, N) → Cond.instantiable C (nfc ci) ∈ TB := by
  intro ci h C T N e
  match ci, h, e with
  | 0, _, e => exact (nc_Rs_36.2.2 _ _ _ e).2.1
  | 1, _, e => exact (nc_Rs_20.2.2 _ _ _ e).2.1
  | 2, _, e => exact (nc_Planner_9.2.2 _ _ _ e).2.1
  | 3, _, e => exact (nc_Text_42.2.2 _ _ _ e).2.1
  | 4, _, e => exact (nc_Rs_76.2.2 _ _ _ e).2.1
  | 5, _, e => exact (nc_Rs_29.2.2 _ _ _ e).2.1
  | 6, _, e => exact (nc_House_18.2.2 _ _ _ e).2.1
  | 7, _, e => exact (nc_Rs_67.2.2 _ _ _ e).2.1
  | 8, _, e => exact (nc_Rs_57.2.2 _ _ _ e).2.1
  | 9, _, e => exact (nc_Rs_13.2.2 _ _ _ e).2.1
  | 10, _, e => exact (nc_Law_7.2.2 _ _ _ e).2.1
  | 11, _, e => exact (nc_Law_10.2.2 _ _ _ e).2.1
section Entry
variable {s : State} {args : Array Value}
theorem en_kn (hts : ∀ w ∈ TB, w.before args s = true) : ∃ D : va_G, ∀ (c : Nat) (q : vw_C), classes[c]? = some q → u_Kn s q.1 q.2.1 q.2.2 (D.1 c) (D.2 c) := by
  have h : ∀ c : Nat, ∃ z : ClassId × (Nat → Nat), ∀ q : vw_C, classes[c]? = some q → u_Kn s q.1 q.2.1 q.2.2 z.1 z.2 := fun c => by
    by_cases hc : c < 12
    · obtain ⟨C, T, hcl, hin, -, -⟩ := cls_ok c hc
      obtain ⟨cC, iS, hk⟩ := u_known (C := C) (T := T) (N := nfc c) hts hin (hts _ (cl_ins c hc C T _ hcl))
      exact ⟨(cC, iS), fun q hq => by rw [hcl] at hq; cases hq; exact hk⟩
    · exact ⟨((0 : Nat), fun _ => 0), fun q hq => absurd (List.getElem?_eq_some_iff.mp hq).1 (fun z => hc (Nat.lt_of_lt_of_le z (by decide)))⟩
  obtain ⟨f, hf⟩ := Classical.axiomOfChoice h
  exact ⟨(fun c => (f c).1, fun c => (f c).2), hf⟩
theorem en_a1 {t : FieldType} (h : (Cond.arrayClass t).before args s = true) : ∃ c : ClassId, ArrOfT s c t ∧ s.vm.findClass ("[" ++ t.toString) = some c := by
  obtain ⟨c, kA, comp, h1, h2, h3⟩ := Cond.arrayClass_spec (args := args) (first := s) (o := none) (s := s) (idx := []) h
  exact ⟨c, fun n z => ⟨fun k h => (by cases h), kA, h2, comp, h3⟩, h1⟩
theorem en_a2 {C : String} (h : va_AO C s) : ∃ c : ClassId, ArrOfT s c (.object C) ∧ va_RA s c (.object C) := by
  obtain ⟨comp, c, kA, h1, -, h2, h3, h4⟩ := Cond.arrayOver_spec (args := #[]) (first := s) (o := none) (s := s) (idx := []) h
  exact ⟨c, fun n z => ⟨fun k h => (by cases h), kA, h2, comp, h3⟩, kA, comp, h2, h3, h1, h4⟩
theorem en_ar (hts : ∀ w ∈ TB, w.before args s = true) (h2 : va_AO Rc2 s) (h6 : va_AO Rc6 s) : ∃ f : Nat → ClassId, ∀ t, t < 7 → ArrOfT s (f t) (aty t) ∧ va_RA s (f t) (aty t) := by
  have h : ∀ t : Nat, ∃ c : ClassId, t < 7 → ArrOfT s c (aty t) ∧ va_RA s c (aty t) := fun t => by
    match t with
    | 0 => obtain ⟨c, h1, h2⟩ := en_a1 (hts (.arrayClass .int) (tb_in (List.mem_of_getElem? (i := 54) (by decide +kernel)) rfl)); exact ⟨c, fun _ => ⟨h1, h2⟩⟩
    | 1 => obtain ⟨c, h1, h2⟩ := en_a1 (hts (.arrayClass .byte) (tb_in (List.mem_of_getElem? (i := 823) (by decide +kernel)) rfl)); exact ⟨c, fun _ => ⟨h1, h2⟩⟩
    | 2 => obtain ⟨c, h1, h2⟩ := en_a1 (hts (.arrayClass .boolean) (tb_in (List.mem_of_getElem? (i := 1476) (by decide +kernel)) rfl)); exact ⟨c, fun _ => ⟨h1, h2⟩⟩
    | 3 => obtain ⟨c, h1, h2⟩ := en_a1 (hts (.arrayClass .char) (tb_in (List.mem_of_getElem? (i := 53) (by decide +kernel)) rfl)); exact ⟨c, fun _ => ⟨h1, h2⟩⟩
    | 4 => obtain ⟨c, h1, h2⟩ := en_a1 (hts (.arrayClass .long) (tb_in (List.mem_of_getElem? (i := 55) (by decide +kernel)) rfl)); exact ⟨c, fun _ => ⟨h1, h2⟩⟩
    | 5 => obtain ⟨c, h1⟩ := en_a2 h2; exact ⟨c, fun _ => h1⟩
    | 6 => obtain ⟨c, h1⟩ := en_a2 h6; exact ⟨c, fun _ => h1⟩
    | n + 7 => exact ⟨(0 : Nat), fun z => absurd z (by omega)⟩
  exact Classical.axiomOfChoice h
theorem en_ne (hts : ∀ w ∈ tables_1, w.before args s = true) : ∀ w ∈ nestW, va_Nw w s := by
  intro w h
  simp only [nestW, List.mem_cons, List.not_mem_nil, or_false] at h
  rcases h with rfl | rfl | rfl | rfl | rfl | rfl
  · exact va_Nw.of rfl (hts _ (List.mem_of_getElem? (i := 31) (by decide +kernel)))
  · exact va_Nw.of rfl (hts _ (List.mem_of_getElem? (i := 78) (by decide +kernel)))
  · exact va_Nw.of rfl (hts _ (List.mem_of_getElem? (i := 226) (by decide +kernel)))
  · exact va_Nw.of rfl (hts _ (List.mem_of_getElem? (i := 263) (by decide +kernel)))
  · exact va_Nw.of rfl (hts _ (List.mem_of_getElem? (i := 91) (by decide +kernel)))
  · exact va_Nw.of rfl (hts _ (List.mem_of_getElem? (i := 269) (by decide +kernel)))
theorem en_ao (hts : ∀ w ∈ tables_1, w.before args s = true) : va_AO Rc2 s ∧ va_AO Rc6 s :=
  ⟨va_AO.of (hts (.arrayOver (.object Rc2)) (List.mem_of_getElem? (i := 260) (by decide +kernel))), va_AO.of (hts (.arrayOver (.object Rc6)) (List.mem_of_getElem? (i := 89) (by decide +kernel)))⟩
theorem en_sr (hts : ∀ w ∈ tables_1, w.before args s = true) {ak : Nat → Nat} (hev : ∀ i, i < 6 → (tmS i).eval args s none [] s = some (.ref (ak i))) : ∀ i q, strT[i]? = some q → vk_R q.1 q.2.1 q.2.2 (ak i) s := by
  intro i q e
  match i, e with
  | 0, e => cases e; exact vk_R.of (hts _ (List.mem_of_getElem? (i := 580) (by decide +kernel))) (hev 0 (by omega))
  | 1, e => cases e; exact vk_R.of (hts _ (List.mem_of_getElem? (i := 632) (by decide +kernel))) (hev 1 (by omega))
  | 2, e => cases e; exact vk_R.of (hts _ (List.mem_of_getElem? (i := 720) (by decide +kernel))) (hev 2 (by omega))
  | 3, e => cases e; exact vk_R.of (hts _ (List.mem_of_getElem? (i := 731) (by decide +kernel))) (hev 3 (by omega))
  | 4, e => cases e; exact vk_R.of (hts _ (List.mem_of_getElem? (i := 732) (by decide +kernel))) (hev 4 (by omega))
  | 5, e => cases e; exact vk_R.of (hts _ (List.mem_of_getElem? (i := 745) (by decide +kernel))) (hev 5 (by omega))
  | n + 6, e => exact absurd (List.getElem?_eq_some_iff.mp e).1 (fun z => absurd (Nat.lt_of_lt_of_le z (show strT.length ≤ 6 from by decide)) (by omega))
end Entry
