/-! A RENAMING: the class's cells by the numbers of the first proof. pmA tells where the cell of that number stands in the order of making, pmR is its inverse -/
def pmA (a : Nat) : Nat := if a < 24 then a else if a < 31 then a + 89 else if a < 120 then a - 7 else a
def pmR (p : Nat) : Nat := if p < 24 then p else if p < 113 then p + 7 else if p < 120 then p - 89 else p
theorem pmA_R (p : Nat) : pmA (pmR p) = p := by
  unfold pmR
  by_cases h1 : p < 24
  · rw [if_pos h1]; exact if_pos h1
  · rw [if_neg h1]
    by_cases h2 : p < 113
    · rw [if_pos h2]
      unfold pmA
      rw [if_neg (show ¬ p + 7 < 24 by omega), if_neg (show ¬ p + 7 < 31 by omega), if_pos (show p + 7 < 120 by omega)] <;> omega
    · rw [if_neg h2]
      by_cases h3 : p < 120
      · rw [if_pos h3]
        unfold pmA
        rw [if_neg (show ¬ p - 89 < 24 by omega), if_pos (show p - 89 < 31 by omega)]
        omega
      · rw [if_neg h3]
        unfold pmA
        rw [if_neg h1, if_neg (show ¬ p < 31 by omega), if_neg h3]
theorem pmR_A (a : Nat) : pmR (pmA a) = a := by
  unfold pmA
  by_cases h1 : a < 24
  · rw [if_pos h1]; exact if_pos h1
  · rw [if_neg h1]
    by_cases h2 : a < 31
    · rw [if_pos h2]
      unfold pmR
      rw [if_neg (show ¬ a + 89 < 24 by omega), if_neg (show ¬ a + 89 < 113 by omega), if_pos (show a + 89 < 120 by omega)] <;> omega
    · rw [if_neg h2]
      by_cases h3 : a < 120
      · rw [if_pos h3]
        unfold pmR
        rw [if_neg (show ¬ a - 7 < 24 by omega), if_pos (show a - 7 < 113 by omega)]
        omega
      · rw [if_neg h3]
        unfold pmR
        rw [if_neg h1, if_neg (show ¬ a < 113 by omega), if_neg h3]
theorem pmA_inj {a b : Nat} (h : pmA a = pmA b) : a = b := by rw [← pmR_A a, h, pmR_A]
theorem pmR_inj {a b : Nat} (h : pmR a = pmR b) : a = b := by rw [← pmA_R a, h, pmA_R]
theorem pmA_ne {a c e : Nat} (h : a ≠ c) (q : pmA c = e) : pmA a ≠ e := fun z => h (pmA_inj (z.trans q.symm))
theorem pmA_lo {a : Nat} (h : a < 24) : pmA a = a := if_pos h
theorem pmR_lo {a : Nat} (h : a < 24) : pmR a = a := if_pos h
theorem pmA_hi {a : Nat} (h : 120 ≤ a) : pmA a = a := by
  unfold pmA
  rw [if_neg (show ¬ a < 24 by omega), if_neg (show ¬ a < 31 by omega), if_neg (show ¬ a < 120 by omega)]
theorem pmR_hi {a : Nat} (h : 120 ≤ a) : pmR a = a := by
  unfold pmR
  rw [if_neg (show ¬ a < 24 by omega), if_neg (show ¬ a < 113 by omega), if_neg (show ¬ a < 120 by omega)]
theorem pmA_bd {a : Nat} (h : 16 ≤ a) : 16 ≤ pmA a ∧ (a < 120 → pmA a < 120) := by
  unfold pmA
  by_cases h1 : a < 24
  · rw [if_pos h1]; exact ⟨h, fun q => q⟩
  · rw [if_neg h1]
    by_cases h2 : a < 31
    · rw [if_pos h2]; exact ⟨by omega, fun q => by omega⟩
    · rw [if_neg h2]
      by_cases h3 : a < 120
      · rw [if_pos h3]; exact ⟨by omega, fun q => by omega⟩
      · rw [if_neg h3]; exact ⟨h, fun q => q⟩
theorem pmR_bd {a : Nat} (h : 16 ≤ a) : 16 ≤ pmR a ∧ (a < 120 → pmR a < 120) := by
  unfold pmR
  by_cases h1 : a < 24
  · rw [if_pos h1]; exact ⟨h, fun q => q⟩
  · rw [if_neg h1]
    by_cases h2 : a < 113
    · rw [if_pos h2]; exact ⟨by omega, fun q => by omega⟩
    · rw [if_neg h2]
      by_cases h3 : a < 120
      · rw [if_pos h3]; exact ⟨by omega, fun q => by omega⟩
      · rw [if_neg h3]; exact ⟨h, fun q => q⟩
theorem pmA_n {a n : Nat} (h : 16 ≤ a) (hn : 120 ≤ n) (ha : a < n) : 16 ≤ pmA a ∧ pmA a < n := by
  obtain ⟨h1, h2⟩ := pmA_bd h
  refine ⟨h1, ?_⟩
  by_cases c : a < 120
  · have := h2 c; omega
  · rw [pmA_hi (by omega)]; exact ha
theorem pmR_n {a n : Nat} (h : 16 ≤ a) (hn : 120 ≤ n) (ha : a < n) : 16 ≤ pmR a ∧ pmR a < n := by
  obtain ⟨h1, h2⟩ := pmR_bd h
  refine ⟨h1, ?_⟩
  by_cases c : a < 120
  · have := h2 c; omega
  · rw [pmR_hi (by omega)]; exact ha
def rnS (σ : SG) : SG := (σ.1, (fun i => σ.2.1 (pmA i)), (fun i => σ.2.2.1 (pmA i)), (fun i => σ.2.2.2.1 (pmA i)), fun i k => (σ.2.2.2.2 (pmA i) k).map pmR)
def unS (σ : SG) : SG := (σ.1, (fun i => σ.2.1 (pmR i)), (fun i => σ.2.2.1 (pmR i)), (fun i => σ.2.2.2.1 (pmR i)), fun i k => (σ.2.2.2.2 (pmR i) k).map pmA)
def rnG (g : GS) : GS := (g.1, (fun i => g.2.1 (pmA i)), fun i k => (g.2.2 (pmA i) k).map pmR)
def unG (g : GS) : GS := (g.1, (fun i => g.2.1 (pmR i)), fun i k => (g.2.2 (pmR i) k).map pmA)
def rnM (s : MS) : MS := ((fun i => s.1 (pmA i)), fun i => s.2 (pmA i))
def unM (s : MS) : MS := ((fun i => s.1 (pmR i)), fun i => s.2 (pmR i))
theorem mapRA (r : Option Nat) : (r.map pmA).map pmR = r := by
  cases r
  · rfl
  · simp [pmR_A]
theorem mapAR (r : Option Nat) : (r.map pmR).map pmA = r := by
  cases r
  · rfl
  · simp [pmA_R]
theorem rnS_un (τ : SG) : rnS (unS τ) = τ := by
  obtain ⟨t1, t2, t3, t4, t5⟩ := τ
  simp only [rnS, unS, pmR_A, mapRA]
theorem unS_rn (τ : SG) : unS (rnS τ) = τ := by
  obtain ⟨t1, t2, t3, t4, t5⟩ := τ
  simp only [rnS, unS, pmA_R, mapAR]
theorem gr_same {g : GS} {a f : Nat} {b : Option Nat} (h : g.2.2 a f = b) : gr g a f b = g := by
  refine Prod.ext rfl (Prod.ext rfl ?_)
  funext x y
  show (if x = a then va_up (g.2.2 a) f b else g.2.2 x) y = g.2.2 x y
  by_cases hx : x = a
  · subst hx
    rw [if_pos rfl]
    by_cases hy : y = f
    · subst hy; simp [va_up, h]
    · simp [va_up, hy]
  · rw [if_neg hx]
def rnE (E : EN) : EN := (eL E, eD E, eC E, eH E, (fun i => ad E (pmA i)), rnS (eX E))
def unV (v : Value) : Value := match v with
  | .ref i => .ref (pmA i)
  | w => w
section Ren
variable {E : EN} {σ : SG} {H : Heap}
theorem cv_un (v : Value) : cv E (unV v) = cv (rnE E) v := by cases v <;> rfl
theorem cv_unO (v : Option Value) : (v.map unV).map (cv E) = v.map (cv (rnE E)) := by
  cases v
  · rfl
  · simp [cv_un]
theorem adR (r : Option Nat) : (r.map pmR).map (ad (rnE E)) = r.map (ad E) := by
  cases r with
  | none => rfl
  | some x =>
    show some (ad E (pmA (pmR x))) = some (ad E x)
    rw [pmA_R]
theorem fv_rn (i : Nat) : fv (rnE E) (rnS σ) i = fv E σ (pmA i) := by
  funext ci k
  show (if isRf (tyf ci k) then va_rf (((sR σ (pmA i) k).map pmR).map (ad (rnE E))) else .int (sI σ (pmA i) k)) = _
  rw [adR]; rfl
theorem cnc_rn (i : Nat) : cnc (rnE E) (rnS σ) i = cnc E σ (pmA i) := by
  have e1 : sK (rnS σ) i = sK σ (pmA i) := rfl
  have e2 : sI (rnS σ) i = sI σ (pmA i) := rfl
  have e3 : sL (rnS σ) i = sL σ (pmA i) := rfl
  have e4 : ∀ j, (sR (rnS σ) i j).map (ad (rnE E)) = (sR σ (pmA i) j).map (ad E) := fun j => adR (sR σ (pmA i) j)
  have e5 : ∀ t, eC (rnE E) t = eC E t := fun _ => rfl
  simp only [cnc, cnk, flds, acn, fv_rn, e1, e2, e3, e4, e5]
theorem RA.rn {n : Nat} (hn : 120 ≤ n) (h : RA E n) : RA (rnE E) n := by
  obtain ⟨h1, h2, h3⟩ := h
  refine ⟨h1, fun i hi => ?_, fun i h16 hi => ?_⟩
  · show ad E (pmA i) = _
    rw [pmA_hi (by omega)]; exact h2 i hi
  · obtain ⟨b1, b2⟩ := pmA_n h16 hn hi
    exact h3 (pmA i) b1 b2
theorem RA.un {n : Nat} (hn : 120 ≤ n) (h : RA (rnE E) n) : RA E n := by
  obtain ⟨h1, h2, h3⟩ := h
  refine ⟨h1, fun i hi => ?_, fun i h16 hi => ?_⟩
  · have := h2 i hi
    have : ad E (pmA i) = (eH E).size + (i - 16) := this
    rw [pmA_hi (by omega)] at this; exact this
  · obtain ⟨b1, b2⟩ := pmR_n h16 hn hi
    have := h3 (pmR i) b1 b2
    have : ad E (pmA (pmR i)) + 16 < (eH E).size + n := this
    rw [pmA_R] at this; exact this
theorem pm_mapinj {r q : Option Nat} (h : r.map pmR = q.map pmR) : r = q := by rw [← mapAR r, h, mapAR]
theorem Rep.rn (hn : 120 ≤ sN σ) (h : Rep E σ H) : Rep (rnE E) (rnS σ) H := by
  obtain ⟨r1, r2, r3, r4, r5⟩ := h
  refine ⟨fun i h16 hi => ?_, r2, r3, r4.rn hn, fun i hi => ?_⟩
  · obtain ⟨b1, b2⟩ := pmA_n h16 hn (show i < sN σ from hi)
    rw [cnc_rn]
    exact r1 (pmA i) b1 b2
  · have e : pmA i = i := pmA_lo (by omega)
    obtain ⟨x1, x2, x3⟩ := r5 i hi
    refine ⟨?_, ?_, ?_⟩
    · show sK σ (pmA i) = sK (eX E) (pmA i)
      rw [e]; exact x1
    · show sI σ (pmA i) = sI (eX E) (pmA i)
      rw [e]; exact x2
    · show (fun k => (sR σ (pmA i) k).map pmR) = fun k => (sR (eX E) (pmA i) k).map pmR
      rw [e, x3]
theorem Rep.un (hn : 120 ≤ sN σ) (h : Rep (rnE E) (rnS σ) H) : Rep E σ H := by
  obtain ⟨r1, r2, r3, r4, r5⟩ := h
  refine ⟨fun i h16 hi => ?_, r2, r3, RA.un hn r4, fun i hi => ?_⟩
  · obtain ⟨b1, b2⟩ := pmR_n h16 hn hi
    have := r1 (pmR i) b1 b2
    rw [cnc_rn] at this
    have : va_at (eD E) classes (ad E (pmA (pmR i)), cnc E σ (pmA (pmR i))) H := this
    rw [pmA_R] at this; exact this
  · have e : pmA i = i := pmA_lo (by omega)
    obtain ⟨x1, x2, x3⟩ := r5 i hi
    have x1 : sK σ (pmA i) = sK (eX E) (pmA i) := x1
    have x2 : sI σ (pmA i) = sI (eX E) (pmA i) := x2
    have x3 : (fun k => (sR σ (pmA i) k).map pmR) = fun k => (sR (eX E) (pmA i) k).map pmR := x3
    rw [e] at x1 x2 x3
    exact ⟨x1, x2, funext fun k => pm_mapinj (congrFun x3 k)⟩
theorem vkS_cg {N : List Nat} {B : List (List Int32)} {f f' h h' : Nat → Nat} {A : Nat → Prop} {U : State} {H : Heap} (hf : ∀ i, i < 6 → f' i = f i) (hh : ∀ i, i < 6 → h' i = h i) (k : vk_S 6 N B f h A U H) : vk_S 6 N B f' h' A U H := by
  refine ⟨fun i hi => ?_, fun i j hi hj e => ?_⟩
  · have := k.1 i hi
    rw [← hf i hi, ← hh i hi] at this; exact this
  · rw [hf i hi, hf j hj] at e
    exact k.2 i j hi hj e
theorem KK.rn {U : State} (h : KK E U) : KK (rnE E) U := by
  obtain ⟨h1, h2, h3, h4, h5, h6, ⟨h7, h7'⟩, ⟨h8, h8'⟩, h9⟩ := h
  refine ⟨h1, h2, fun i hi => ?_, vkS_cg (fun i hi => ?_) (fun i hi => ?_) h4, fun i q hq => ?_, h6, ⟨h7, ?_⟩, ⟨fun i hi => ?_, fun i j hi hj e => ?_⟩, fun i hi => ?_⟩
  · have e : pmA i = i := pmA_lo (by omega)
    show va_T .int (ad E (pmA i)) (sK (eX E) (pmA i)).2 (fun j => .int (sI (eX E) (pmA i) j)) _ U (eH E)
    rw [e]; exact h3 i hi
  · show ad E (pmA (2 + i)) = ad E (2 + i)
    rw [pmA_lo (by omega)]
  · show ad E (pmA (8 + i)) = ad E (8 + i)
    rw [pmA_lo (by omega)]
  · have h6 : i < 6 := Nat.lt_of_lt_of_le (List.getElem?_eq_some_iff.mp hq).1 (show strT.length ≤ 6 from by decide)
    show vk_R q.1 q.2.1 q.2.2 (ad E (pmA (2 + i))) U
    rw [pmA_lo (by omega)]; exact h5 i q hq
  · show va_Z _ _ _ (va_rf (((sR (eX E) (pmA 14) 0).map pmR).map (ad (rnE E)))) _ _ _
    rw [adR, pmA_lo (by omega)]; exact h7'
  · exact h8 (pmA i) (pmA_bd hi).1
  · exact pmA_inj (h8' _ _ (pmA_bd hi).1 (pmA_bd hj).1 e)
  · show ad E (pmA i) < (eH E).size
    rw [pmA_lo (by omega)]; exact h9 i hi
theorem AMet.rn {d : MD} {av av' : List Value} {Q Q' : Option Value → SG → Prop} (hn : 120 ≤ sN σ) (ha : av'.map (cv (rnE E)) = av.map (cv E)) (h : AMet (rnE E) d av' (rnS σ) Q') (hq : ∀ v τ, 120 ≤ sN τ → Q' v τ → Q (v.map unV) (unS τ)) : AMet E d av σ Q := by
  intro p e ha2 hc2 hk2 S m args below h1 h2 h3 h4
  obtain ⟨p1, p2, p3⟩ := h3
  obtain ⟨n, o, a1, a2, a3, ⟨v, τ, b1, b2, b3, b4⟩, b5⟩ := h p e ha2 hc2 hk2 S m args below h1 h2 ⟨by rw [ha]; exact p1, p2.rn hn, p3.rn⟩ h4
  have hz : 120 ≤ sN τ := by
    have x1 : S.heap.size + 16 = (eH E).size + sN σ := p2.2.1
    have x2 := b2.2.1
    have x3 : eH (rnE E) = eH E := rfl
    rw [x3] at x2
    omega
  refine ⟨n, o, a1, a2, a3, ⟨v.map unV, unS τ, by rw [cv_unO]; exact b1, ?_, hq v τ hz b3, b4⟩, b5⟩
  refine Rep.un (show 120 ≤ sN (unS τ) from hz) ?_
  rw [rnS_un]; exact b2
theorem XV.rn {z : MD} {av av' : List Value} {g : GS} {s : MS} {R : GS → MS → Prop} (hn : 120 ≤ g.1) (ha : av'.map (cv (rnE E)) = av.map (cv E)) (h : XV (rnE E) z av' (rnG g) (rnM s) (fun g' t => R (unG g') (unM t))) : XV E z av g s R :=
  AMet.rn (σ := mk g s) hn ha h (fun v τ _ hv => by
    obtain ⟨g', t, e1, e2, e3⟩ := hv
    exact ⟨unG g', unM t, congrArg (Option.map unV) e1, congrArg unS e2, e3⟩)
theorem AWP.rn {d : MD} {pc k n : Nat} {ls ls' : List (Nat × Value)} {st st' : List Value} {τ : SG} {Q Q' : Option Value → SG → Prop} (hn : 120 ≤ sN τ) (hls : lsc (rnE E) ls' = lsc E ls) (hst : st'.map (cv (rnE E)) = st.map (cv E)) (hq : ∀ v τ, Q' v τ → 120 ≤ sN τ ∧ Q (v.map unV) (unS τ)) (h : AWP (rnE E) d pc k n ls' st' τ Q') : AWP E d pc k n ls st (unS τ) Q := by
  intro p e s m args below meth c H locs la C hS hR hl
  obtain ⟨c1, c2, c3, c4, c5, c6, c7, c8, c9, c10⟩ := C
  intro T hT X
  have hR' : Rep (rnE E) τ H := by
    have := Rep.rn (show 120 ≤ sN (unS τ) from hn) hR
    rw [rnS_un] at this; exact this
  have K := h p e s m args below meth c H locs la ⟨c1, c2, c3, c4, c5, c6, c7, c8, c9.rn, c10⟩ hS hR' (by rw [hls]; exact hl)
  rw [hst] at K
  obtain ⟨t, a, o, b1, b2, ⟨v, τ', d1, d2, d3, d4⟩, b4⟩ := K T hT X
  obtain ⟨q1, q2⟩ := hq v τ' d3
  refine ⟨t, a, o, b1, b2, ⟨v.map unV, unS τ', by rw [cv_unO]; exact d1, ?_, q2, d4⟩, b4⟩
  refine Rep.un (show 120 ≤ sN (unS τ') from q1) ?_
  rw [rnS_un]; exact d2
end Ren
