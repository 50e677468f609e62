/-! THE ENTRY: the abstract machine's world -/
def stG (f : Option Nat) (L : Nat) : GS := (16, (fun a => if a = 0 then (1, L) else if a = 1 then (1, 3) else (0, 0)), fun a _ => if a = 14 then f else none)
def stM (xs : Nat → Int32) : MS := ((fun a => if a = 0 then xs else unt), fun _ _ => 0)
def stA (z b tU a14 : Nat) (ak av : Nat → Nat) : Nat → Nat := fun i => if i = 0 then b else if i = 1 then tU else if i < 8 then ak (i - 2) else if i < 14 then av (i - 8) else if i < 16 then a14 else z + (i - 16)
theorem stA_k {z b tU a14 : Nat} {ak av : Nat → Nat} {i : Nat} (h : i < 6) : stA z b tU a14 ak av (2 + i) = ak i := by
  unfold stA
  rw [if_neg (by omega), if_neg (by omega), if_pos (by omega), show 2 + i - 2 = i from by omega]
theorem stA_v {z b tU a14 : Nat} {ak av : Nat → Nat} {i : Nat} (h : i < 6) : stA z b tU a14 ak av (8 + i) = av i := by
  unfold stA
  rw [if_neg (by omega), if_neg (by omega), if_neg (by omega), if_pos (by omega), show 8 + i - 8 = i from by omega]
theorem stA_n {z b tU a14 : Nat} {ak av : Nat → Nat} {i : Nat} (h : 16 ≤ i) : stA z b tU a14 ak av i = z + (i - 16) := by
  unfold stA
  rw [if_neg (by omega), if_neg (by omega), if_neg (by omega), if_neg (by omega), if_neg (by omega)]
theorem stA_14 {z b tU a14 : Nat} {ak av : Nat → Nat} : stA z b tU a14 ak av 14 = a14 := by
  unfold stA
  rw [if_neg (by omega), if_neg (by omega), if_neg (by omega), if_neg (by omega), if_pos (by omega)]
theorem st_KK {s : State} {b L : Nat} {xs : Nat → Int32} (l : Launch) (hts : ∀ w ∈ lw_tbl, w.before #[Value.ref b] s = true) (hX : va_X b L xs s s.heap) (hbl : b < s.heap.size) (hgv : (Jvm.Cond.and given_1 narrow_1).before #[Value.ref b] s = true) :
    ∃ (D : va_G) (eC' : Nat → ClassId) (tU a14 : Nat) (ak av : Nat → Nat) (f : Option Nat), KK (l, D, eC', s.heap, stA s.heap.size b tU a14 ak av, mk (stG f L) (stM xs)) s := by
  have ht1 : ∀ w ∈ tables_1, w.before #[Value.ref b] s = true := fun w hw => hts w (List.mem_append_right _ hw)
  have htb : ∀ w ∈ TB, w.before #[Value.ref b] s = true := fun w hw => hts w (List.mem_filter.mp hw).1
  have hg : ∀ (k : Nat) (w : Cond), gvC[k]? = some w → w.before #[Value.ref b] s = true := fun k w h => flat_of_before _ hgv w (List.mem_of_getElem? h)
  have hA : ∀ a : Nat, a < s.heap.size → ¬ (fun q : Nat => s.heap.size ≤ q) a := fun a h => Nat.not_le.mpr h
  obtain ⟨D, hD⟩ := en_kn htb
  obtain ⟨o2, o6⟩ := en_ao ht1
  obtain ⟨eC', hC⟩ := en_ar htb o2 o6
  obtain ⟨ak, av, hS, hev⟩ := vk_Sof (tm := tmS) (byt := strBs) (A := fun q : Nat => s.heap.size ≤ q) gv_ln (fun i hi => hg _ _ (gv_ex i hi)) (fun i hi => hg _ _ (gv_co i hi)) (fun i hi => hg _ _ (gv_ar i hi)) (fun i hi => hg _ _ (gv_le i hi)) (fun i hi j hj => hg _ _ (gv_el i hi j hj)) (fun i j hi hj hij => by
    rcases Nat.lt_or_gt_of_ne hij with h | h
    · exact Or.inl (hg _ _ (gv_ne j hj i h))
    · exact Or.inr (hg _ _ (gv_ne i hi j h))) hA
  obtain ⟨tU, hU, hT⟩ := va_Tof (tm := tmU) (N := 3) (f := fun j => .int (unt j)) (A := fun q : Nat => s.heap.size ≤ q) (by decide) (hg _ _ gv_u0) (va_eqt (hg _ _ gv_u1)) (fun j hj => va_eqt (hg _ _ (gv_u2 j hj))) hA
  have hZU : va_Z "RatSorters$Laws" "UNTOLD" "[I" (.ref tU) (fun q : Nat => s.heap.size ≤ q) s s.heap := va_Zref (ht1 _ (List.mem_of_getElem? (i := 935) (by decide +kernel))) (ht1 _ (List.mem_of_getElem? (i := 9) (by decide +kernel))) hU hA
  have hZC : va_Z "java/lang/String" "COMPACT_STRINGS" "Z" (.int 1) (fun q : Nat => s.heap.size ≤ q) s s.heap := va_Zof (ht1 _ (List.mem_of_getElem? (i := 590) (by decide +kernel))) (ht1 _ (List.mem_of_getElem? (i := 14) (by decide +kernel))) (va_eqt (hg _ _ gv_cs)) hA
  have hZF : ∃ (a14 : Nat) (f : Option Nat), a14 < s.heap.size ∧ va_Z "jdk/internal/util/Preconditions" "SIOOBE_FORMATTER" "Ljava/util/function/BiFunction;" (va_rf (f.map (stA s.heap.size b tU a14 ak av))) (fun q : Nat => s.heap.size ≤ q) s s.heap := by
    rcases va_Zqof (C := "jdk/internal/util/Preconditions") (n := "SIOOBE_FORMATTER") (d := "Ljava/util/function/BiFunction;") (ht1 _ (List.mem_of_getElem? (i := 598) (by decide +kernel))) (ht1 _ (List.mem_of_getElem? (i := 16) (by decide +kernel))) (hg _ _ gv_fm) hA with h | ⟨t, h⟩
    · exact ⟨b, none, hbl, h⟩
    · by_cases c : t < s.heap.size
      · exact ⟨t, some 14, c, by rw [Option.map_some, stA_14]; exact h⟩
      · exact ⟨b, some (16 + (t - s.heap.size)), hbl, by rw [Option.map_some, stA_n (by omega), show s.heap.size + (16 + (t - s.heap.size) - 16) = t from by omega]; exact h⟩
  obtain ⟨a14, f, h14, hF⟩ := hZF
  refine ⟨D, eC', tU, a14, ak, av, f, ⟨hD, fun k q hq => ?_⟩, ⟨en_ne ht1, o2, o6⟩, fun i hi => ?_, ⟨fun i hi => ?_, fun i j hi hj e => ?_⟩, fun i q hq => ?_, hZU, ⟨hZC, hF⟩, ⟨fun i hi => ?_, fun i j hi hj e => ?_⟩, fun i hi => ?_⟩
  · have hk : k < 7 := by
      have := (List.getElem?_eq_some_iff.mp hq).1
      simpa [tysE] using this
    rw [tysE_at _ hk] at hq
    cases hq
    exact hC k hk
  · have : i = 0 ∨ i = 1 := by omega
    rcases this with rfl | rfl
    · obtain ⟨scr, x1, x2, x3, x4, x5⟩ := hX
      exact ⟨scr, x1, x2, x3, Nat.le_of_eq x4.symm, by rw [x4]; rfl, x5, hA b hbl⟩
    · exact hT
  · have := hS.1 i hi
    show va_O "java/lang/String" (stA s.heap.size b tU a14 ak av (2 + i)) _ _ _ ∧ va_OF "java/lang/String" "code\x72" "B" (.int 0) (stA s.heap.size b tU a14 ak av (2 + i)) _ _ _ ∧ va_OF "java/lang/String" "value" "[B" (.ref (stA s.heap.size b tU a14 ak av (8 + i))) (stA s.heap.size b tU a14 ak av (2 + i)) _ _ _ ∧ va_T .byte (stA s.heap.size b tU a14 ak av (8 + i)) _ _ _ _ _
    rw [stA_k hi, stA_v hi]; exact this
  · have e : stA s.heap.size b tU a14 ak av (2 + i) = stA s.heap.size b tU a14 ak av (2 + j) := e
    rw [stA_k hi, stA_k hj] at e
    exact hS.2 i j hi hj e
  · have h6 : i < 6 := Nat.lt_of_lt_of_le (List.getElem?_eq_some_iff.mp hq).1 (show strT.length ≤ 6 from by decide)
    show vk_R _ _ _ (stA s.heap.size b tU a14 ak av (2 + i)) s
    rw [stA_k h6]
    exact en_sr ht1 hev i q hq
  · show s.heap.size ≤ stA s.heap.size b tU a14 ak av i
    rw [stA_n hi]; omega
  · have e : stA s.heap.size b tU a14 ak av i = stA s.heap.size b tU a14 ak av j := e
    rw [stA_n hi, stA_n hj] at e
    omega
  · show stA s.heap.size b tU a14 ak av i < s.heap.size
    by_cases c0 : i = 0
    · subst c0; exact hbl
    by_cases c1 : i = 1
    · subst c1; exact Nat.not_le.mp hT.out
    by_cases c2 : i < 8
    · have e : stA s.heap.size b tU a14 ak av (2 + (i - 2)) = _ := stA_k (by omega)
      rw [show 2 + (i - 2) = i from by omega] at e
      obtain ⟨cell, -, -, -, z⟩ := (hS.1 (i - 2) (by omega)).1
      rw [e]; exact Nat.not_le.mp z
    by_cases c3 : i < 14
    · have e : stA s.heap.size b tU a14 ak av (8 + (i - 8)) = _ := stA_v (by omega)
      rw [show 8 + (i - 8) = i from by omega] at e
      rw [e]; exact Nat.not_le.mp (hS.1 (i - 8) (by omega)).2.2.2.out
    · unfold stA
      rw [if_neg c0, if_neg c1, if_neg c2, if_neg c3, if_pos hi]; exact h14
theorem law_framed {s t : State} {o : Outcome} {L : List Loc} {k n : Nat} (h : FrameEnd s o t L k n) (hL : ∀ q ∈ L, s.heap.size ≤ q.base) : Framed s o t [] k n := by
  obtain ⟨h1, h2, h3, h4, h5, h6, h7, h8⟩ := h
  refine ⟨h1, h2, h3, h4, h5, h6, h7, fun a c e => ?_⟩
  obtain ⟨c', g1, g2, g3, g4⟩ := h8 a c e
  refine ⟨c', g1, g2, g3, fun i _ => g4 i (fun z => ?_)⟩
  have e1 : a < s.heap.size := (Array.getElem?_eq_some_iff.mp e).1
  have e2 : s.heap.size ≤ a := hL _ z
  exact absurd e2 (Nat.not_le.mpr e1)
/-- from the entry, for every script of at most 3072 ints, the law comes to its end with true -/
theorem whole_start {p : Program} {e : Env} {s : State} {m : MethodId} {below : List Frame} {meth : Method} {c : Code} (l : Launch) {b L : Nat} {xs : Nat → Int32} (hL : L ≤ 3072) (hnm : meth.name = "law") (C0 : lw_At p s m meth c b L xs) : W p l e room_1 s m #[Value.ref b] below meth c s.heap [] 0 0 (lw_Z below #[Value.ref b] s) (entryFrame m ([Value.ref b] : List Value).toArray 4) := by
  obtain ⟨hx, hb, hr, hml, hown, hts, hX, hbl, hlocks, hgv⟩ := C0
  obtain ⟨D, eC', tU, a14, ak, av, f, hK⟩ := st_KK l hts hX hbl hgv
  generalize hE : ((l, D, eC', s.heap, stA s.heap.size b tU a14 ak av, mk (stG f L) (stM xs)) : EN) = E at hK
  have e1 : eL E = l := by rw [← hE]; rfl
  have e2 : eH E = s.heap := by rw [← hE]; rfl
  have e3 : eX E = mk (stG f L) (stM xs) := by rw [← hE]; rfl
  have e4 : ad E 0 = b := by rw [← hE]; rfl
  have htb : ∀ w ∈ TB, w.before #[Value.ref b] s = true := fun w hw => hts w (List.mem_filter.mp hw).1
  have hR : Rep E (mk (stG f L) (stM xs)) s.heap := ⟨fun i h1 h2 => absurd (show i < 16 from h2) (by omega), by rw [e2]; rfl, fun q _ => by rw [e2], ⟨Nat.le_refl _, fun i hi => by rw [← hE]; exact stA_n hi, fun i h1 h2 => absurd (show i < 16 from h2) (by omega)⟩, fun i _ => by rw [e3]; exact ⟨rfl, rfl, rfl⟩⟩
  have hl := lv_entry ([.ref b]) (n := 4) (Nat.le_of_ble_eq_true rfl)
  have hl : lv_has ((lg_sl [.ref b] ++ List.replicate (4 - (lg_sl [.ref b]).length) Slot.unset).toArray) 4 (lsc E [(0, .ref 0)]) := by
    have : lsc E [(0, .ref 0)] = [(0, .ref b)] := by simp [lsc, cv, e4]
    rw [this]; exact hl
  have K := law_at (E := E) (L := L) (g := stG f L) (s := stM xs) (by rw [e3]; rfl) hL (fun k _ => by rw [e3]; rfl) (by rw [e3]; rfl) rfl p e s m #[Value.ref b] below meth c s.heap [] _ ⟨hx, hb, hr, hml, hown, hlocks, hnm, htb, hK, fun q _ => by rw [e2], by rw [e2]; exact Nat.le_refl _, k_Law_law⟩ va_S.rf hR hl
  rw [lg_entry_eq]
  rw [e1] at K
  intro T hT X
  obtain ⟨t, a, o, b1, b2, ⟨v, σ', c1, c2, c3, c4⟩, Ls, b4, b5⟩ := K T hT X
  refine ⟨t, a, o, b1, b2, ?_, law_framed b4 (fun q hq => ?_)⟩
  · rw [c1, show v = some (.int 1) from c3.1]; rfl
  · have := b5 q hq
    unfold eA at this
    rw [e2] at this; exact this
