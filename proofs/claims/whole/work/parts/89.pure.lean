/-! WHAT IS TOLD keeps in bounds -/
theorem nlF_ap {v sort : Nat} {x : Nat × Nat × Nat} {i : Nat} : ∀ nl : NL, nlF v sort (nl ++ [x]) = some i → nlF v sort nl = some i ∨ (x.2.1 = sort ∧ x.2.2 = i)
  | [], h => by
    rw [List.nil_append, nlF] at h
    split at h
    · rename_i q; injection h with h; exact Or.inr ⟨q.2, h⟩
    · rw [nlF] at h; exact absurd h (by simp)
  | y :: l, h => by
    rw [List.cons_append, nlF] at h
    rw [nlF]
    split at h
    · rename_i q; rw [if_pos q]; exact Or.inl h
    · rename_i q; rw [if_neg q]; exact nlF_ap l h
def NB (d : TD) (nl : NL) : Prop := (∀ v i, nlF v 0 nl = some i → i < nG d) ∧ (∀ v i, nlF v 1 nl = some i → i < nH d) ∧ nl.length = nG d + nH d + nR d
def PIv (d : TD) (nl : NL) : Prop := TOk d ∧ DI d ∧ NB d nl
theorem PIv.gr {d : TD} {nl : NL} {v p e : Nat} (h : PIv d nl) (g6 : nG d < 6) (hp : p ≤ 9999) (he : e ≤ 99) : PIv (aGr d (nI p) (nI e)) (nl ++ [(v, 0, nG d)]) := by
  obtain ⟨⟨⟨⟨a1, a2, a3, a4⟩, a5, a6⟩, t2, t3, t4, t5, t6, t7, t8, t9, t10, t11⟩, dI, n1, n2, n3⟩ := h
  refine ⟨⟨⟨⟨a1, ?_, a3, a4⟩, a5, a6⟩, t2, t3, fun k hk => ?_, fun k hk => ?_, fun j hj => ?_, t7, t8, t9, fun j hj => ?_, fun m k hm hk => ?_⟩, fun m k hk => ?_, fun u i hi => ?_, fun u i hi => ?_, ?_⟩
  · show nG d + 1 ≤ 6; omega
  · have := t4 k hk; show dOw d k < nG d + 1; omega
  · have := t5 k hk; show dKn d k < nG d + 1; omega
  · have hj' : j < nG d + 1 := hj
    show ∃ p', p' ≤ 9999 ∧ upd (dPo d) (nG d) (nI p) j = nI p'
    by_cases z : j = nG d
    · rw [z, upd_s]; exact ⟨p, hp, rfl⟩
    · rw [upd_n _ _ z]; exact t6 j (by omega)
  · have hj' : j < nG d + 1 := hj
    show ∃ p', p' ≤ 99 ∧ upd (dPe d) (nG d) (nI e) j = nI p'
    by_cases z : j = nG d
    · rw [z, upd_s]; exact ⟨e, he, rfl⟩
    · rw [upd_n _ _ z]; exact t10 j (by omega)
  · have hk' : k < nG d + 1 := hk
    show 0 ≤ dWa d m k
    by_cases z : k = nG d
    · rw [dI m k (by omega)]; decide
    · exact t11 m k hm (by omega)
  · have hk' : nG d + 1 ≤ k := hk
    exact dI m k (by omega)
  · show i < nG d + 1
    rcases nlF_ap nl hi with q | ⟨-, q⟩
    · have := n1 u i q; omega
    · have : nG d = i := q
      omega
  · show i < nH d
    rcases nlF_ap nl hi with q | ⟨q, -⟩
    · exact n2 u i q
    · exact absurd (show 0 = 1 from q) (by decide)
  · rw [List.length_append, n3]; show nG d + nH d + nR d + 1 = nG d + 1 + nH d + nR d; omega
theorem PIv.ho {d : TD} {nl : NL} {v f ow : Nat} (h : PIv d nl) (h6 : nH d < 6) (hf : 1 ≤ f ∧ f ≤ 30) (ho : ow < nG d) : PIv (aHo d (nI f) ow) (nl ++ [(v, 1, nH d)]) := by
  obtain ⟨⟨⟨⟨a1, a2, a3, a4⟩, a5, a6⟩, t2, t3, t4, t5, t6, t7, t8, t9, t10, t11⟩, dI, n1, n2, n3⟩ := h
  refine ⟨⟨⟨⟨a1, a2, ?_, fun r hr => ?_⟩, a5, fun k hk => ?_⟩, t2, t3, fun k hk => ?_, t5, t6, t7, t8, t9, t10, t11⟩, dI, fun u i hi => ?_, fun u i hi => ?_, ?_⟩
  · show nH d + 1 ≤ 6; omega
  · have := a4 r hr; show eWh (dE d) r < nH d + 1; exact Nat.lt_succ_of_lt this
  · have hk' : k < nH d + 1 := hk
    show ∃ f', 1 ≤ f' ∧ f' ≤ 30 ∧ upd (eFa (dE d)) (nH d) (nI f) k = nI f'
    by_cases z : k = nH d
    · rw [z, upd_s]; exact ⟨f, hf.1, hf.2, rfl⟩
    · rw [upd_n _ _ z]; exact a6 k (show k < nH d by omega)
  · have hk' : k < nH d + 1 := hk
    show (if k = nH d then ow else dOw d k) < nG d
    split
    · exact ho
    · exact t4 k (by omega)
  · rcases nlF_ap nl hi with q | ⟨q, -⟩
    · exact n1 u i q
    · exact absurd (show 1 = 0 from q) (by decide)
  · show i < nH d + 1
    rcases nlF_ap nl hi with q | ⟨-, q⟩
    · have := n2 u i q; omega
    · have : nH d = i := q
      omega
  · rw [List.length_append, n3]; show nG d + nH d + nR d + 1 = nG d + (nH d + 1) + nR d; omega
theorem PIv.ra {d : TD} {nl : NL} {v kn wh ft fe : Nat} (h : PIv d nl) (r8 : nR d < 8) (hk : kn < nG d) (hw : wh < nH d) (hft : ft ≤ 9) (hfe : fe ≤ 99) : PIv (aRa d kn wh (nI ft) (nI fe)) (nl ++ [(v, 2, nR d)]) := by
  obtain ⟨⟨⟨⟨a1, a2, a3, a4⟩, a5, a6⟩, t2, t3, t4, t5, t6, t7, t8, t9, t10, t11⟩, dI, n1, n2, n3⟩ := h
  refine ⟨⟨⟨⟨?_, a2, a3, fun r hr => ?_⟩, a5, a6⟩, t2, t3, t4, fun k hk => ?_, t6, fun r hr => ?_, t8, t9, t10, t11⟩, dI, fun u i hi => ?_, fun u i hi => ?_, ?_⟩
  · show nR d + 1 ≤ 8; omega
  · have hr' : r < nR d + 1 := hr
    show (if r = nR d then wh else eWh (dE d) r) < nH d
    split
    · exact hw
    · exact a4 r (show r < nR d by omega)
  · have hk' : k < nR d + 1 := hk
    show (if k = nR d then kn else dKn d k) < nG d
    split
    · assumption
    · exact t5 k (by omega)
  · have hr' : r < nR d + 1 := hr
    show (∃ f, f ≤ 9 ∧ upd (dFt d) (nR d) (nI ft) r = nI f) ∧ ∃ f, f ≤ 99 ∧ upd (dFe d) (nR d) (nI fe) r = nI f
    by_cases z : r = nR d
    · rw [z, upd_s, upd_s]; exact ⟨⟨ft, hft, rfl⟩, fe, hfe, rfl⟩
    · rw [upd_n _ _ z, upd_n _ _ z]; exact t7 r (by omega)
  · rcases nlF_ap nl hi with q | ⟨q, -⟩
    · exact n1 u i q
    · exact absurd (show 2 = 0 from q) (by decide)
  · rcases nlF_ap nl hi with q | ⟨q, -⟩
    · exact n2 u i q
    · exact absurd (show 2 = 1 from q) (by decide)
  · rw [List.length_append, n3]; show nG d + nH d + nR d + 1 = nG d + nH d + (nR d + 1); omega
theorem sW_b {T : Nat → Nat} {L : Nat} {nl : NL} {K : Nat → Nat} : ∀ (m a : Nat) (W W' : Nat → Nat), (∀ k, W k ≤ 9999) → sW T L K nl m a W = .inr W' → ∀ k, W' k ≤ 9999
  | 0, _, W, W', h, e => by
    have e' : W = W' := by rw [sW] at e; injection e
    rw [← e']; exact h
  | m + 1, a, W, W', h, e => by
    by_cases k : K a = 2
    · cases hf : nlF (vV T L a) 0 nl with
      | none => rw [sW_n k hf] at e; exact absurd e (by simp)
      | some gi =>
        rw [sW_s k hf] at e
        split at e
        · exact absurd e (by simp)
        · split at e
          · exact absurd e (by simp)
          · rename_i r
            refine sW_b m (a + 2) _ W' (fun k => ?_) e
            show (if k = gi then vV T L (a + 1) else W k) ≤ 9999
            split
            · omega
            · exact h k
    · rw [sW, if_pos k] at e
      have e' : W = W' := by injection e
      rw [← e']; exact h
theorem PIv.me {d : TD} {nl : NL} {py : Int32} {W : Nat → Nat} (h : PIv d nl) (m5 : dM d < 5) (wz : ∀ k, nG d ≤ k → W k = 0) (wb : ∀ k, W k ≤ 9999) : PIv (aMe d py W) nl := by
  obtain ⟨⟨⟨⟨a1, a2, a3, a4⟩, a5, a6⟩, t2, t3, t4, t5, t6, t7, t8, t9, t10, t11⟩, dI, n1, n2, n3⟩ := h
  refine ⟨⟨⟨⟨a1, a2, a3, a4⟩, a5, a6⟩, t2, t3, t4, t5, t6, t7, ?_, t9, t10, fun m k hm hk => ?_⟩, fun m k hk => ?_, n1, n2, n3⟩
  · show dM d + 1 ≤ 5; omega
  · have hm' : m < dM d + 1 := hm
    show 0 ≤ (if m = dM d then nI (W k) else dWa d m k)
    split
    · exact nI_pos' (by have := wb k; omega)
    · exact t11 m k (by omega) hk
  · show (if m = dM d then nI (W k) else dWa d m k) = 0
    split
    · rw [wz k hk]; rfl
    · exact dI m k hk
theorem PIv.lm {d : TD} {nl : NL} {v : Nat} (h : PIv d nl) (hv : v ≤ 9999) : PIv (aLm d (nI v)) nl := by
  obtain ⟨⟨⟨a, a5, a6⟩, t2, t3, t4, t5, t6, t7, t8, t9, t10, t11⟩, dI, n⟩ := h
  exact ⟨⟨⟨a, ⟨v, hv, rfl⟩, a6⟩, t2, t3, t4, t5, t6, t7, t8, t9, t10, t11⟩, dI, n⟩
theorem PIv.od {d : TD} {nl : NL} {v : Nat} (h : PIv d nl) (hv : 1 ≤ v ∧ v ≤ 99) : PIv (aOd d (nI v)) nl := by
  obtain ⟨⟨⟨a, a5, a6⟩, t2, t3, t4, t5, t6, t7, t8, t9, t10, t11⟩, dI, n⟩ := h
  exact ⟨⟨⟨a, a5, a6⟩, t2, t3, t4, t5, t6, t7, t8, ⟨v, hv.1, hv.2, rfl⟩, t10, t11⟩, dI, n⟩
theorem PIv.se {d : TD} {nl : NL} {v : Int32} (h : PIv d nl) : PIv (aSe d v) nl := by
  obtain ⟨⟨⟨a, a5, a6⟩, t2, t3, t4, t5, t6, t7, t8, t9, t10, t11⟩, dI, n⟩ := h
  exact ⟨⟨⟨a, a5, a6⟩, t2, t3, t4, t5, t6, t7, t8, t9, t10, t11⟩, dI, n⟩
theorem PIv.law {d : TD} {nl : NL} {k : Nat} {l : List Br} (h : PIv d nl) (hw : wfl l) : PIv (aLaw d k l) nl := by
  obtain ⟨⟨⟨a, a5, a6⟩, t2, t3, t4, t5, t6, t7, t8, t9, t10, t11⟩, dI, n⟩ := h
  refine ⟨⟨⟨a, a5, a6⟩, rfl, fun j => ?_, t4, t5, t6, t7, t8, t9, t10, t11⟩, dI, n⟩
  show wfl (if j = k then l else dL d j)
  split
  · exact hw
  · exact t3 j
/-- a statement -/
def sTell (T : Nat → Nat) (L : Nat) (K : Nat → Nat) (a : Nat) (d : TD) (nl : NL) : SR := if K a = 4 then sGrain T L (a + 1) d nl else if K a = 5 then sHole T L (a + 1) d nl else if K a = 6 then sRat T L (a + 1) d nl else if K a = 10 then sMer T L K (a + 1) d nl else if K a = 11 then sNum T L 0 9999 (a + 1) aLm d nl else if K a = 12 then sNum T L 1 99 (a + 1) aOd d nl else if K a = 13 then sNum T L 0 9999 (a + 1) aSe d nl else .inr (aLaw d (K a - 7) (sLaw K (vV T L) (a + 1)), nl)
def CNt (c : Nat → Nat) (d : TD) : Prop := nG d = c 4 ∧ nH d = c 5 ∧ nR d = c 6 ∧ dM d = c 10
/-- the grammar lets a statement pass -/
theorem gTell_ok {K : Nat → Nat} {c : Nat → Nat} {q : Nat × Nat} (h : (gTell K c q).2 = 0) : q.2 = 0 ∧ q.1 < 400 ∧ (4 ≤ K q.1 ∧ K q.1 ≤ 13) ∧ c (K q.1) < gMost (K q.1) ∧ gBeg K c q = (q.1 + 1, 0) ∧ gTell K c q = gBody K (K q.1) (q.1 + 1, 0) := by
  unfold gTell at h ⊢
  by_cases z : (gBeg K c q).2 = 0
  · rw [if_neg (fun w => w z)] at h ⊢
    have z' := z
    unfold gBeg at z'
    obtain ⟨g1, g2, g3, g4, g5⟩ := gp_ok z'
    have e : gBeg K c q = (q.1 + 1, 0) := by unfold gBeg; exact g5
    have b : 4 ≤ K q.1 ∧ K q.1 ≤ 13 := by simpa using g2
    have r : (4 ≤ K q.1 ∧ K q.1 ≤ 13) ∧ c (K q.1) < gMost (K q.1) := by simpa using g3
    exact ⟨g1, g4, b, r.2, e, by rw [e]⟩
  · rw [if_pos z] at h; exact absurd h z
theorem sTell_ok {T : Nat → Nat} {L M : Nat} {c : Nat → Nat} {q : Nat × Nat} {d d' : TD} {nl nl' : NL} (hg : (gTell (kK T L M) c q).2 = 0) (h : PIv d nl) (hc : CNt c d) (e : sTell T L (kK T L M) q.1 d nl = .inr (d', nl')) : PIv d' nl' ∧ CNt (gInc c (kK T L M q.1)) d' := by
  obtain ⟨g1, g2, g3, g4, g5, g6⟩ := gTell_ok hg
  obtain ⟨c1, c2, c3, c4⟩ := hc
  have nb := h.2.2
  rw [g6] at hg
  unfold sTell at e
  unfold gMost at g4
  unfold CNt gInc
  by_cases k4 : kK T L M q.1 = 4
  · rw [if_pos k4] at e
    rw [k4] at g4 ⊢
    have g4' : c 4 < 6 := g4
    unfold sGrain at e
    split at e
    · exact absurd e (by simp)
    · split at e
      · exact absurd e (by simp)
      · split at e
        · exact absurd e (by simp)
        · rename_i r1 r2 r3
          injection e with e; injection e with e1 e2
          subst e1 e2
          exact ⟨h.gr (by omega) (by omega) (by omega), by show nG d + 1 = c 4 + 1; omega, c2, c3, c4⟩
  · rw [if_neg k4] at e
    by_cases k5 : kK T L M q.1 = 5
    · rw [if_pos k5] at e
      rw [k5] at g4 ⊢
      have g4' : c 5 < 6 := g4
      unfold sHole at e
      split at e
      · exact absurd e (by simp)
      · split at e
        · exact absurd e (by simp)
        · rename_i r1 r2
          cases hf : nlF (vV T L (q.1 + 1 + 2)) 0 nl with
          | none => rw [hf] at e; exact absurd e (by simp)
          | some i =>
            rw [hf] at e
            injection e with e; injection e with e1 e2
            subst e1 e2
            exact ⟨h.ho (by omega) (by omega) (nb.1 _ _ hf), c1, by show nH d + 1 = c 5 + 1; omega, c3, c4⟩
    · rw [if_neg k5] at e
      by_cases k6 : kK T L M q.1 = 6
      · rw [if_pos k6] at e
        rw [k6] at g4 ⊢
        have g4' : c 6 < 8 := g4
        unfold sRat at e
        split at e
        · exact absurd e (by simp)
        · cases hf : nlF (vV T L (q.1 + 1 + 1)) 0 nl with
          | none => rw [hf] at e; exact absurd e (by simp)
          | some i =>
            cases hf2 : nlF (vV T L (q.1 + 1 + 2)) 1 nl with
            | none => simp only [hf, hf2] at e; exact absurd e (by simp)
            | some j =>
              simp only [hf, hf2] at e
              split at e
              · exact absurd e (by simp)
              · split at e
                · exact absurd e (by simp)
                · rename_i r1 r2 r3
                  injection e with e; injection e with e1 e2
                  subst e1 e2
                  exact ⟨h.ra (by omega) (nb.1 _ _ hf) (nb.2.1 _ _ hf2) (by omega) (by omega), c1, c2, by show nR d + 1 = c 6 + 1; omega, c4⟩
      · rw [if_neg k6] at e
        by_cases k10 : kK T L M q.1 = 10
        · rw [if_pos k10] at e
          rw [k10] at g4 ⊢
          have g4' : c 10 < 5 := g4
          unfold sMer at e
          split at e
          · exact absurd e (by simp)
          · cases hs : sW T L (kK T L M) nl 4 (q.1 + 1 + 1) (fun _ => 0) with
            | inl x => rw [hs] at e; exact absurd e (by simp)
            | inr W =>
              rw [hs] at e
              injection e with e; injection e with e1 e2
              subst e1 e2
              exact ⟨h.me (by omega) (sW_z nb.1 _ _ _ _ (fun _ _ => rfl) hs) (sW_b _ _ _ _ (fun _ => Nat.zero_le _) hs), c1, c2, c3, by show dM d + 1 = c 10 + 1; omega⟩
        · rw [if_neg k10] at e
          have cs : ∀ x, x = 4 ∨ x = 5 ∨ x = 6 ∨ x = 10 → (if x = kK T L M q.1 then c x + 1 else c x) = c x := fun x hx => if_neg (by omega)
          rw [cs 4 (by omega), cs 5 (by omega), cs 6 (by omega), cs 10 (by omega)]
          by_cases k11 : kK T L M q.1 = 11
          · rw [if_pos k11] at e
            unfold sNum at e
            split at e
            · injection e with e; injection e with e1 e2
              subst e1 e2
              exact ⟨h.lm (by omega), c1, c2, c3, c4⟩
            · exact absurd e (by simp)
          · rw [if_neg k11] at e
            by_cases k12 : kK T L M q.1 = 12
            · rw [if_pos k12] at e
              unfold sNum at e
              split at e
              · injection e with e; injection e with e1 e2
                subst e1 e2
                exact ⟨h.od (by omega), c1, c2, c3, c4⟩
              · exact absurd e (by simp)
            · rw [if_neg k12] at e
              by_cases k13 : kK T L M q.1 = 13
              · rw [if_pos k13] at e
                unfold sNum at e
                split at e
                · injection e with e; injection e with e1 e2
                  subst e1 e2
                  exact ⟨h.se, c1, c2, c3, c4⟩
                · exact absurd e (by simp)
              · rw [if_neg k13] at e
                injection e with e; injection e with e1 e2
                subst e1 e2
                unfold gBody at hg
                rw [if_neg k4, if_neg k5, if_neg k6, if_pos (by omega)] at hg
                unfold gLaw at hg
                have z1 := gk_ok (gL_z (gSum_z hg))
                rw [z1.2.2.2] at hg
                have q4 := z1.2.2.1
                have w := wfl_lB (V := vV T L) hVk 4 (q.1 + 1 + 1, 0) (by show q.1 + 1 + 1 ≤ 400; have : q.1 + 1 < 400 := q4; omega) hg
                exact ⟨h.law w, c1, c2, c3, c4⟩
