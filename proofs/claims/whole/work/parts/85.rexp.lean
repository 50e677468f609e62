/-! THE REFERENCE reads an expression -/
section RExp
variable {E : EN} {g : GS} {s : MS} {T : Nat → Nat} {L M c0 : Nat}
theorem gp_ft {q : Nat × Nat} (h : q.2 ≠ 0) (f r : Bool) : gp f r q = q := by unfold gp; rw [if_pos h]
/-- what an expression leaves -/
def XP (T : Nat → Nat) (L M c0 hi : Nat) (s : MS) (qe : Nat × Nat) (code : Cd) (u : MS) : Prop := RQ T L M qe u ∧ FRy c0 hi s u ∧ (∃ c1, u.1 120 51 = nI c1 ∧ c0 ≤ c1 ∧ c1 ≤ hi) ∧ (qe.2 = 0 → u.1 120 12 = 0 ∧ u.1 120 51 = nI (c0 + code.length) ∧ RC (u.1 157) (u.1 158) c0 code)
theorem l_M_expF1 {R : MS → Prop} {hi : Nat} {x1 x2 : Int32} {q : Nat × Nat} {W : List Nat} {C : Cd} {u : MS} {code : Cd} (hS : SX g) (h8 : hi ≤ 840) (hT : TkR T L M u) (hz : q.2 ≠ 0) (hq : RQ T L M q u) (hY : RY c0 W C u) (hb : c0 + C.length < hi) (hF : FRy c0 hi s u) (h : ∀ v, XP T L M c0 hi s q code v → R v) : AWP E m_Mo_expression 23 0 0 [(0, .ref 120), (1, .int x1), (2, .int x2)] [] (mk g u) (qV g R) := by
  refine v_Mo_expression_23 _ _ hS ?_
  refine f_M_is (κ := 31) rfl (by omega) hS hT hq (fun _ => ⟨fun _ => ?_, fun y => absurd rfl y⟩) (fun w => absurd w.1 hz)
  refine f_M_unit hS h8 hT hq hY hb (fun v C' v1 v2 v3 v4 v5 v6 => ?_)
  rw [gp_ft hz] at v1
  rw [v1.1]
  have q7 := v1.2.2.2.2.2.2
  exact pk_le q.2 0 (fun z => absurd z (by omega)) (fun _ => GV.r (h v ⟨v1, hF.tr v2, ⟨c0 + C'.length, v3.2.2.1, by omega, by omega⟩, fun w => absurd w hz⟩)) rfl rfl (by omega) (by omega)
/-- the end of it -/
theorem l_M_expE {R : MS → Prop} {hi o : Nat} {x1 x2 : Int32} {q : Nat × Nat} {W : List Nat} {C : Cd} {u : MS} (hS : SX g) (h8 : hi ≤ 840) (hT : TkR T L M u) (hx : x1 = 0) (hx2 : x2 = 0) (hq : RQ T L M q u) (hk : okL 2 W) (hl : W.length ≤ 21) (hY : RY c0 W C u) (hb : c0 + C.length + oW W ≤ hi) (hF : FRy c0 hi s u) (ho : q.2 = 0 → YI false W C o ∧ u.1 120 12 = nI o) (h : ∀ v, XP T L M c0 hi s (if q.2 ≠ 0 then q else if o = 0 then q else (q.1, 1)) (yF false W C).2 v → R v) : AWP E m_Mo_expression 187 0 0 [(0, .ref 120), (1, .int x1), (2, .int x2)] [] (mk g u) (qV g R) := by
  have fin : ∀ q' v, RQ T L M q' v → FRy c0 hi s v → RY c0 W C v → v.1 120 12 = u.1 120 12 → (if q.2 ≠ 0 then q else if o = 0 then q else (q.1, 1)) = q' → (q'.2 = 0 → q.2 = 0 ∧ o = 0) → AWP E m_Mo_expression 204 0 0 [(0, .ref 120), (1, .int x1), (2, .int x2)] [] (mk g v) (qV g R) := fun q' v v1 v2 v3 v4 v5 v6 => by
    refine v_Mo_expression_204 _ _ hS ?_
    refine f_M_out (st := false) hS h8 (Or.inr ⟨rfl, rfl⟩) v3 hk (by omega) hb (fun t t1 t2 t3 => GV.r (h t ?_))
    rw [v5]
    have bnd : (yF false W C).2.length ≤ C.length + oW W := by
      have gen : ∀ (W : List Nat) (C : Cd) (r : Nat), okL r W → (yF false W C).2.length ≤ C.length + oW W := by
        intro W
        induction W with
        | nil => intro C r _; exact Nat.le_refl _
        | cons k W ih =>
          intro C r hk
          rw [yF]
          split
          · simp only [oW]; omega
          · rename_i nk
            rcases hk with ⟨k1, -⟩ | ⟨k1, k2, k3, k4⟩
            · exact absurd (Or.inl k1) nk
            · have := ih (C ++ [(k - 24, 0)]) _ k4
              rw [List.length_append] at this
              rw [oW, if_neg (by omega)]
              simp only [List.length_cons, List.length_nil] at this
              omega
      exact gen W C 2 hk
    refine ⟨v1.sl (t3 11 (by decide) (by decide)) (t3 13 (by decide) (by decide)) (t3 14 (by decide) (by decide)), v2.tr t2, ⟨c0 + (yF false W C).2.length, t1.2.2.1, by omega, by omega⟩, fun z => ?_⟩
    obtain ⟨z1, z2⟩ := v6 z
    refine ⟨?_, t1.2.2.1, t1.2.2.2⟩
    rw [t3 12 (by decide) (by decide), v4, (ho z1).2, z2]; rfl
  refine v_Mo_expression_187 _ _ hS ?_
  subst hx hx2
  refine ⟨fun _ => ⟨fun y => ?_, fun y => ?_⟩, fun z => absurd rfl z⟩
  · by_cases z : q.2 = 0
    · have o6 := (ho z).1.2.2.1
      have o0 : o = 0 := by
        rw [(ho z).2] at y
        have := (nI_le_iff (b := 0) (by omega) (by omega)).mp y
        omega
      exact fin q u hq hF hY rfl (by rw [if_neg (fun w => w z), if_pos o0]) (fun _ => ⟨z, o0⟩)
    · exact fin q u hq hF hY rfl (by rw [if_pos z]) (fun w => absurd w z)
  · refine f_M_fail (c := 1) rfl (Or.inl rfl) hS hT hq (fun v v1 v2 => ?_)
    have e12 := v2.2.1 12 (by decide) (by decide) (by decide)
    by_cases z : q.2 = 0
    · rw [if_pos z] at v1
      have o0 : ¬ o = 0 := fun w => y (by rw [(ho z).2, w]; decide)
      exact fin (q.1, 1) v v1 (hF.tr v2.y) (hY.p v2) e12 (by rw [if_neg (fun w => w z), if_neg o0]) (fun w => absurd (show (1 : Nat) = 0 from w) (by omega))
    · rw [if_neg z] at v1
      exact fin q v v1 (hF.tr v2.y) (hY.p v2) e12 (by rw [if_pos z]) (fun w => absurd w z)
/-- what binds two -/
theorem l_M_expB {R : MS → Prop} {x1 x2 : Int32} {q : Nat × Nat} {u : MS} (hS : SX g) (hT : TkR T L M u) (hq : RQ T L M q u) (h0 : ¬ (q.2 = 0 ∧ 26 ≤ kK T L M q.1 ∧ kK T L M q.1 ≤ 29) → AWP E m_Mo_expression 187 0 0 [(0, .ref 120), (1, .int x1), (2, .int 0)] [] (mk g u) (qV g R)) (h1 : q.2 = 0 ∧ 26 ≤ kK T L M q.1 ∧ kK T L M q.1 ≤ 29 → AWP E m_Mo_expression 187 0 0 [(0, .ref 120), (1, .int x1), (2, .int 1)] [] (mk g u) (qV g R)) : AWP E m_Mo_expression 145 0 0 [(0, .ref 120), (1, .int x1), (2, .int x2)] [] (mk g u) (qV g R) := by
  have yes : ∀ κ, (26 ≤ κ ∧ κ ≤ 29) → q.2 = 0 ∧ kK T L M q.1 = κ → AWP E m_Mo_expression 181 0 0 [(0, .ref 120), (1, .int x1), (2, .int x2)] [] (mk g u) (qV g R) := fun κ hκ w => v_Mo_expression_181 _ _ (h1 ⟨w.1, by omega, by omega⟩)
  refine v_Mo_expression_145 _ _ hS ?_
  refine f_M_is (κ := 26) rfl (by omega) hS hT hq (fun w1 => ⟨fun _ => ?_, fun y => absurd rfl y⟩) (fun w => ⟨fun y => absurd y (by decide), fun _ => yes 26 (by omega) w⟩)
  refine f_M_is (κ := 27) rfl (by omega) hS hT hq (fun w2 => ⟨fun _ => ?_, fun y => absurd rfl y⟩) (fun w => ⟨fun y => absurd y (by decide), fun _ => yes 27 (by omega) w⟩)
  refine f_M_is (κ := 28) rfl (by omega) hS hT hq (fun w3 => ⟨fun _ => ?_, fun y => absurd rfl y⟩) (fun w => ⟨fun y => absurd y (by decide), fun _ => yes 28 (by omega) w⟩)
  refine f_M_is (κ := 29) rfl (by omega) hS hT hq (fun w4 => ⟨fun _ => ?_, fun y => absurd rfl y⟩) (fun w => ⟨fun y => absurd y (by decide), fun _ => yes 29 (by omega) w⟩)
  refine h0 (fun ⟨z, a, b⟩ => ?_)
  have : kK T L M q.1 = 26 ∨ kK T L M q.1 = 27 ∨ kK T L M q.1 = 28 ∨ kK T L M q.1 = 29 := by omega
  rcases this with k | k | k | k
  · exact w1 ⟨z, k⟩
  · exact w2 ⟨z, k⟩
  · exact w3 ⟨z, k⟩
  · exact w4 ⟨z, k⟩
theorem l_M_exp {R : MS → Prop} {sd : Nat} (hsd : sd < 2) (hS : SX g) (hT : TkR T L M s) : ∀ (n o : Nat) (due : Bool) (q : Nat × Nat) (W : List Nat) (C : Cd) (u : MS), (q.2 = 0 → 401 ≤ q.1 + n) → RQ T L M q u → okL 2 W → W.length ≤ 21 → (q.2 = 0 → YI due W C o ∧ u.1 120 12 = nI o) → RY c0 W C u → FRy c0 (420 * sd + 401) s u → c0 + C.length + oW W ≤ 420 * sd + q.1 → (∀ v, XP T L M c0 (420 * sd + 401) s (gE (kK T L M) n o due q) (gC (kK T L M) (vV T L) n o due q.1 W C) v → R v) → AWP E m_Mo_expression (if due = true then 23 else 96) 0 0 [(0, .ref 120), (1, .int 0), (2, .int 1)] [] (mk g u) (qV g R)
  | n, o, due, q, W, C, u, hn, hq, hk, hl, ho, hY, hF, hb, h => by
    have q5 := hq.2.2.2.2.1
    have q6 := hq.2.2.2.2.2.1
    have q7 := hq.2.2.2.2.2.2
    have TU := hT.y hF
    by_cases z : q.2 = 0
    · obtain ⟨n, rfl⟩ : ∃ n', n = n' + 1 := ⟨n - 1, by have := hn z; omega⟩
      have hn' := hn z
      obtain ⟨hy, h12⟩ := ho z
      have o6 := hy.2.2.1
      have hl20 := hy.len
      have nxt : ∀ f r, (gp f r q).2 = 0 → 401 ≤ (gp f r q).1 + n := fun f r y => by rw [gp_nx y]; omega
      have gge := fun f r => gp_ge f r q
      rw [gE, if_neg (show ¬ q.2 ≠ 0 from fun y => y z), gC] at h
      cases due with
      | true =>
        rw [if_pos rfl]
        refine v_Mo_expression_23 _ _ hS ?_
        refine f_M_is (κ := 31) rfl (by omega) hS TU hq (fun w => ⟨fun _ => ?_, fun y => absurd rfl y⟩) (fun w => ⟨fun y => absurd y (by decide), fun _ => ?_⟩)
        · -- a unit
          have n31 : ¬ (true = true ∧ kK T L M q.1 = 31) := fun y => w ⟨z, y.2⟩
          rw [if_neg n31, if_neg n31, if_pos rfl, if_pos rfl] at h
          refine f_M_unit (hi := 420 * sd + 401) hS (by omega) TU hq hY (by omega) (fun v C' v1 v2 v3 v4 v5 v6 => ?_)
          rw [v1.1]
          have v7 := v1.2.2.2.2.2.2
          refine pk_le _ 0 (fun y => ?_) (fun y => GV.r (h v ⟨?_, hF.tr v2, ⟨c0 + C'.length, v3.2.2.1, by omega, by omega⟩, fun w => ?_⟩)) rfl rfl (by omega) (by omega)
          · have y0 : (gp (decide (kK T L M q.1 = 3 ∨ (17 ≤ kK T L M q.1 ∧ kK T L M q.1 ≤ 23))) true q).2 = 0 := by omega
            have g1 := gp_ok y0
            have u1 : uK (kK T L M q.1) := by simpa [uK] using g1.2.1
            have ec := v6 u1 z
            subst ec
            have e1 : (gp (decide (kK T L M q.1 = 3 ∨ (17 ≤ kK T L M q.1 ∧ kK T L M q.1 ≤ 23))) true q).1 = q.1 + 1 := gp_nx y0
            have yi : YI false W (C ++ [uC (kK T L M) (vV T L) q.1]) o := by
              refine hy.un ?_
              unfold uC
              by_cases k3 : kK T L M q.1 = 3
              · rw [if_pos k3]; exact Or.inl ⟨rfl, hVk (M := M) _ k3⟩
              · rw [if_neg k3]
                rcases u1 with u1 | u1
                · exact absurd u1 k3
                · exact Or.inr ⟨rfl, by show kK T L M q.1 - 17 < 7; omega⟩
            have := l_M_exp hsd hS hT n o false _ W _ v (nxt _ _) v1 hk hl (fun _ => ⟨yi, by rw [v5]; exact h12⟩) v3 (hF.tr v2) (by rw [e1, List.length_append]; show c0 + (C.length + 1) + oW W ≤ _; omega) (by rw [e1]; exact h)
            rw [if_neg (by decide)] at this
            exact this
          · have y0 : (gp (decide (kK T L M q.1 = 3 ∨ (17 ≤ kK T L M q.1 ∧ kK T L M q.1 ≤ 23))) true q).2 ≠ 0 := by omega
            rw [gE_f y0]; exact v1
          · have y0 : (gp (decide (kK T L M q.1 = 3 ∨ (17 ≤ kK T L M q.1 ∧ kK T L M q.1 ≤ 23))) true q).2 ≠ 0 := by omega
            rw [gE_f y0] at w; exact absurd w y0
        · -- an open one
          have k31 : true = true ∧ kK T L M q.1 = 31 := ⟨rfl, w.2⟩
          rw [if_pos k31, if_pos k31] at h
          have after : ∀ t q', RQ T L M q' t → FRp u t → (if q.2 = 0 then gp true true q' else q') = gp true (decide (o < 6)) q → (q'.2 = 0 → q' = q) → AWP E m_Mo_expression 46 0 0 [(0, .ref 120), (1, .int 0), (2, .int 1)] [] (mk g t) (qV g R) := fun t q' t1 t2 t3 t4 => by
            rw [if_pos z] at t3
            refine v_Mo_expression_46 _ _ hS (fun s1 e1 => ?_)
            have F1 : FRy c0 (420 * sd + 401) t s1 := by rw [e1]; exact FRy.w (by omega)
            have q1 : RQ T L M q' s1 := t1.sl (by rw [e1, wi_s, upd_n _ _ (by decide)]) (by rw [e1, wi_s, upd_n _ _ (by decide)]) (by rw [e1, wi_s, upd_n _ _ (by decide)])
            have T1 := TU.y (t2.y.tr F1)
            refine f_M_goesOn hS T1 q1 (fun y => by rw [t4 y, w.2]; decide) (fun v v1 v2 => ?_)
            have y0 := hY.p t2
            have yv : v.1 120 55 = nI W.length := by rw [v2.2.1 55 (by decide) (by decide) (by decide), e1, wi_s, upd_n _ _ (by decide)]; exact y0.1
            rw [yv, tn_n (by omega), nI_1]
            refine ⟨vp_in_nI (by omega) (by omega), fun s3 e3 s4 e4 => ?_⟩
            have F4 : FRy c0 (420 * sd + 401) v s4 := by rw [e4, e3]; exact FRy.w9.tr (FRy.w (by omega))
            have FF := hF.tr (t2.y.tr (F1.tr (v2.y.tr F4)))
            rw [t3] at v1
            have q4 : RQ T L M (gp true (decide (o < 6)) q) s4 := v1.sl (by rw [e4, wi_s, upd_n _ _ (by decide), e3, wi_n _ _ _ (by decide)]) (by rw [e4, wi_s, upd_n _ _ (by decide), e3, wi_n _ _ _ (by decide)]) (by rw [e4, wi_s, upd_n _ _ (by decide), e3, wi_n _ _ _ (by decide)])
            have Y4 : RY c0 (31 :: W) C s4 := by
              have a9 : v.1 159 = u.1 159 := by rw [v2.1 159 (by decide), e1, wi_n _ _ _ (by decide), t2.1 159 (by decide)]
              have a7 : v.1 157 = u.1 157 := by rw [v2.1 157 (by decide), e1, wi_n _ _ _ (by decide), t2.1 157 (by decide)]
              have a8 : v.1 158 = u.1 158 := by rw [v2.1 158 (by decide), e1, wi_n _ _ _ (by decide), t2.1 158 (by decide)]
              refine ⟨by rw [e4, wi_s, upd_s, List.length_cons], ?_, ?_, ?_⟩
              · rw [e4, wi_n _ _ _ (by decide), e3, wi_s, a9]
                have : PL (upd (u.1 159) (W.map (fun k => nI (rk k))).length 6) (6 :: W.map (fun k => nI (rk k))) := hY.2.1.push
                rw [List.length_map] at this; exact this
              · rw [e4, wi_s, upd_n _ _ (by decide), e3, wi_n _ _ _ (by decide), v2.2.1 51 (by decide) (by decide) (by decide), e1, wi_s, upd_n _ _ (by decide)]; exact y0.2.2.1
              · rw [e4, wi_n _ _ _ (by decide), wi_n _ _ _ (by decide), e3, wi_n _ _ _ (by decide), wi_n _ _ _ (by decide), a7, a8]; exact hY.2.2.2
            have g12 : s4.1 120 12 = nI (o + 1) := by rw [e4, wi_s, upd_n _ _ (by decide), e3, wi_n _ _ _ (by decide), v2.2.1 12 (by decide) (by decide) (by decide), e1, wi_s, upd_s, t2.2.1 12 (by decide) (by decide) (by decide), h12, nI_1]
            have hc : c0 + C.length + oW (31 :: W) ≤ 420 * sd + (gp true (decide (o < 6)) q).1 := by
              have := gge true (decide (o < 6))
              rw [oW, if_pos rfl]; omega
            by_cases y : (gp true (decide (o < 6)) q).2 = 0
            · have g1 := gp_ok y
              have o5 : o < 6 := by simpa using g1.2.2.1
              have en := gp_nx y
              have := l_M_exp hsd hS hT n (o + 1) true _ (31 :: W) C s4 (nxt _ _) q4 (Or.inl ⟨rfl, hk⟩) (by rw [List.length_cons]; omega) (fun _ => ⟨hy.op o5, g12⟩) Y4 FF hc (by rw [en]; exact h)
              rw [if_pos rfl] at this
              exact this
            · rw [gE_f y] at h
              have := q4.2.2.2.2.1
              exact l_M_expF1 (code := _) hS (by omega) (hT.y FF) y q4 Y4 (by omega) FF h
          rw [h12]
          refine pk_eq o 6 (fun y => f_M_fail (c := 2) rfl (Or.inr rfl) hS TU hq (fun t t1 t2 => ?_)) (fun y => after u q hq (FRp.rf u) ?_ (fun _ => rfl)) rfl rfl (by omega) (by omega)
          · rw [if_pos z] at t1
            refine after t (q.1, 2) t1 t2 ?_ (fun w => absurd (show (2 : Nat) = 0 from w) (by omega))
            rw [if_pos z, gp_ft (by show (2 : Nat) ≠ 0; omega)]
            unfold gp
            rw [if_neg (fun w => w z), if_neg (by decide), decide_eq_false (by omega), if_pos (Or.inl rfl)]
          · rw [if_pos z, decide_eq_true (by omega)]
      | false =>
        rw [if_neg (by decide)]
        have nt : ¬ (false = true ∧ kK T L M q.1 = 31) := fun y => absurd y.1 (by decide)
        rw [if_neg nt, if_neg nt, if_neg (show ¬ false = true by decide), if_neg (show ¬ false = true by decide)] at h
        have rest : ¬ (kK T L M q.1 = 32 ∧ 0 < o) → AWP E m_Mo_expression 145 0 0 [(0, .ref 120), (1, .int 0), (2, .int 1)] [] (mk g u) (qV g R) := fun nc => by
          rw [if_neg nc, if_neg nc] at h
          refine l_M_expB hS TU hq (fun w => ?_) (fun w => ?_)
          · have nb : ¬ (26 ≤ kK T L M q.1 ∧ kK T L M q.1 ≤ 29) := fun y => w ⟨z, y⟩
            rw [if_neg nb, if_neg nb] at h
            refine l_M_expE hS (by omega) TU rfl rfl hq hk hl hY (by omega) hF ho ?_
            rw [if_neg (show ¬ q.2 ≠ 0 from fun y => y z)]
            exact h
          · obtain ⟨-, kb⟩ := w
            rw [if_pos kb, if_pos kb] at h
            have y4 := yF_ok (decide (28 ≤ kK T L M q.1)) W C 2 hy.1 (by have := hy.2.2.2; rw [if_neg (by decide)] at this; exact this)
            have yb := hy.bi kb
            have yl := yb.len
            rw [List.length_cons] at yl
            have push : ∀ t, RY c0 (yF (decide (28 ≤ kK T L M q.1)) W C).1 (yF (decide (28 ≤ kK T L M q.1)) W C).2 t → FRy c0 (420 * sd + 401) u t → FRz u t → AWP E m_Mo_expression 237 0 0 [(0, .ref 120), (1, .int 0), (2, .int 1)] [] (mk g t) (qV g R) := fun t t1 t2 t3 => by
              refine v_Mo_expression_237 _ _ hS ?_
              have q1 : RQ T L M q t := hq.sl (t3 11 (by decide) (by decide)) (t3 13 (by decide) (by decide)) (t3 14 (by decide) (by decide))
              have TT := TU.y t2
              rw [q1.2.1 z, t1.1, tn_n (by omega), tn_n (by omega), (TT.k q5 q6).1, nI_1]
              refine ⟨vp_in_nI (by omega) (by omega), vp_in_nI (by omega) (by omega), fun s1 e1 s2 e2 => ?_⟩
              have F2 : FRy c0 (420 * sd + 401) t s2 := by rw [e2, e1]; exact FRy.w9.tr (FRy.w (by omega))
              have q2 : RQ T L M q s2 := q1.sl (by rw [e2, wi_s, upd_n _ _ (by decide), e1, wi_n _ _ _ (by decide)]) (by rw [e2, wi_s, upd_n _ _ (by decide), e1, wi_n _ _ _ (by decide)]) (by rw [e2, wi_s, upd_n _ _ (by decide), e1, wi_n _ _ _ (by decide)])
              have Y2 : RY c0 (kK T L M q.1 :: (yF (decide (28 ≤ kK T L M q.1)) W C).1) (yF (decide (28 ≤ kK T L M q.1)) W C).2 s2 := by
                refine ⟨by rw [e2, wi_s, upd_s, List.length_cons], ?_, ?_, ?_⟩
                · rw [e2, wi_n _ _ _ (by decide), e1, wi_s]
                  have : PL (upd (t.1 159) ((yF (decide (28 ≤ kK T L M q.1)) W C).1.map (fun k => nI (rk k))).length (nI (rk (kK T L M q.1)))) (nI (rk (kK T L M q.1)) :: (yF (decide (28 ≤ kK T L M q.1)) W C).1.map (fun k => nI (rk k))) := t1.2.1.push
                  rw [List.length_map] at this; exact this
                · rw [e2, wi_s, upd_n _ _ (by decide), e1, wi_n _ _ _ (by decide)]; exact t1.2.2.1
                · rw [e2, wi_n _ _ _ (by decide), wi_n _ _ _ (by decide), e1, wi_n _ _ _ (by decide), wi_n _ _ _ (by decide)]; exact t1.2.2.2
              refine f_M_goesOn hS (TT.y F2) q2 (fun _ => by omega) (fun v v1 v2 => ?_)
              have FF := hF.tr (t2.tr (F2.tr v2.y))
              have Yv := Y2.p v2
              refine v_Mo_expression_12 _ _ hS ⟨fun y => absurd y (by decide), fun _ => ?_⟩
              rw [v1.1]
              have v7 := v1.2.2.2.2.2.2
              refine pk_eq _ 0 (fun y => ?_) (fun y => v_Mo_expression_272 _ _ (GV.r (h v ?_))) rfl rfl (by omega) (by omega)
              · have en := gp_nx y
                have := l_M_exp hsd hS hT n o true _ _ _ v (nxt _ _) v1 yb.1 (by rw [List.length_cons]; omega) (fun _ => ⟨yb, ?_⟩) Yv FF (by rw [en, oW, if_neg (by omega)]; have := y4.2.2.2; omega) (by rw [en]; exact h)
                · rw [if_pos rfl] at this
                  exact this
                · rw [v2.2.1 12 (by decide) (by decide) (by decide), e2, wi_s, upd_n _ _ (by decide), e1, wi_n _ _ _ (by decide), t3 12 (by decide) (by decide)]; exact h12
              · rw [gE_f y]
                exact ⟨v1, FF, ⟨c0 + (yF (decide (28 ≤ kK T L M q.1)) W C).2.length, Yv.2.2.1, by omega, by have := y4.2.2.2; omega⟩, fun w => absurd w y⟩
            refine v_Mo_expression_187 _ _ hS ⟨fun y => absurd y (by decide), fun _ => ?_⟩
            have bo : c0 + C.length + oW W ≤ 420 * sd + 401 := by omega
            refine f_M_is (κ := 28) rfl (by omega) hS TU hq (fun w1 => ⟨fun _ => ?_, fun y => absurd rfl y⟩) (fun w => ⟨fun y => absurd y (by decide), fun _ => f_M_out (st := decide (28 ≤ kK T L M q.1)) hS (by omega) (Or.inl ⟨decide_eq_true (by omega), rfl⟩) hY hk (by omega) bo push⟩)
            refine f_M_is (κ := 29) rfl (by omega) hS TU hq (fun w2 => ⟨fun _ => ?_, fun y => absurd rfl y⟩) (fun w => ⟨fun y => absurd y (by decide), fun _ => f_M_out (st := decide (28 ≤ kK T L M q.1)) hS (by omega) (Or.inl ⟨decide_eq_true (by omega), rfl⟩) hY hk (by omega) bo push⟩)
            have n28 : ¬ kK T L M q.1 = 28 := fun y => w1 ⟨z, y⟩
            have n29 : ¬ kK T L M q.1 = 29 := fun y => w2 ⟨z, y⟩
            exact f_M_out (st := decide (28 ≤ kK T L M q.1)) hS (by omega) (Or.inr ⟨decide_eq_false (by omega), rfl⟩) hY hk (by omega) bo push
        refine v_Mo_expression_96 _ _ hS ?_
        refine f_M_is (κ := 32) rfl (by omega) hS TU hq (fun w => ⟨fun _ => rest (fun y => w ⟨z, y.1⟩), fun y => absurd rfl y⟩) (fun w => ⟨fun y => absurd y (by decide), fun _ => ?_⟩)
        rw [h12]
        refine pk_le o 0 (fun y => rest (fun w => by omega)) (fun o0 => ?_)
        have kc : kK T L M q.1 = 32 ∧ 0 < o := ⟨w.2, o0⟩
        rw [if_pos kc, if_pos kc] at h
        obtain ⟨W', e1, yc⟩ := hy.cl o0
        have lens := (yF_ok false W C 2 hy.1 (by have := hy.2.2.2; rw [if_neg (by decide)] at this; exact this)).2.2.2
        rw [e1, oW, if_pos rfl] at lens
        have wl := yc.len
        refine f_M_out (st := false) (hi := 420 * sd + 401) hS (by omega) (Or.inr ⟨rfl, rfl⟩) hY hk (by omega) (by omega) (fun t t1 t2 t3 s3 e3 s4 e4 => ?_)
        rw [e1] at t1
        have a5 : t.1 120 55 - 1 = nI W'.length := by rw [t1.1, List.length_cons, nI_pred]
        have a12 : t.1 120 12 - 1 = nI (o - 1) := by
          rw [t3 12 (by decide) (by decide), h12]
          obtain ⟨o', rfl⟩ : ∃ o', o = o' + 1 := ⟨o - 1, by omega⟩
          rw [nI_pred]; rfl
        rw [a5] at e3
        rw [a12] at e4
        have F4 : FRy c0 (420 * sd + 401) t s4 := by rw [e4, e3]; exact (FRy.w (by omega)).tr (FRy.w (by omega))
        have q4 : RQ T L M q s4 := (hq.sl (t3 11 (by decide) (by decide)) (t3 13 (by decide) (by decide)) (t3 14 (by decide) (by decide))).sl (by rw [e4, wi_s, upd_n _ _ (by decide), e3, wi_s, upd_n _ _ (by decide)]) (by rw [e4, wi_s, upd_n _ _ (by decide), e3, wi_s, upd_n _ _ (by decide)]) (by rw [e4, wi_s, upd_n _ _ (by decide), e3, wi_s, upd_n _ _ (by decide)])
        have Y4 : RY c0 W' (yF false W C).2 s4 := by
          refine ⟨by rw [e4, wi_s, upd_n _ _ (by decide), e3, wi_s, upd_s], ?_, ?_, ?_⟩
          · rw [e4, wi_n _ _ _ (by decide), e3, wi_n _ _ _ (by decide)]; exact t1.2.1.2
          · rw [e4, wi_s, upd_n _ _ (by decide), e3, wi_s, upd_n _ _ (by decide)]; exact t1.2.2.1
          · rw [e4, wi_n _ _ _ (by decide), wi_n _ _ _ (by decide), e3, wi_n _ _ _ (by decide), wi_n _ _ _ (by decide)]; exact t1.2.2.2
        refine f_M_goesOn hS (TU.y (t2.tr F4)) q4 (fun _ => by omega) (fun v v1 v2 => ?_)
        have gg := gge true true
        have := l_M_exp hsd hS hT n (o - 1) false (gp true true q) W' (yF false W C).2 v (nxt _ _) v1 yc.1 (by omega) (fun _ => ⟨yc, ?_⟩) (Y4.p v2) (hF.tr (t2.tr (F4.tr v2.y))) (by omega) (fun v' xp => h v' ?_)
        · rw [if_neg (by decide)] at this
          exact this
        · rw [v2.2.1 12 (by decide) (by decide) (by decide), e4, wi_s, upd_s]
        · rw [e1]
          obtain ⟨x1, x2, x3, x4⟩ := xp
          refine ⟨x1, x2, x3, fun zf => ?_⟩
          have en := gp_nx (gE_z zf)
          rw [en] at x4
          exact x4 zf
    · rw [gE_f z] at h
      cases due with
      | true =>
        rw [if_pos rfl]
        exact l_M_expF1 hS (by omega) TU z hq hY (by omega) hF h
      | false =>
        rw [if_neg (by decide)]
        refine v_Mo_expression_96 _ _ hS ?_
        refine f_M_is (κ := 32) rfl (by omega) hS TU hq (fun w => ⟨fun _ => ?_, fun y => absurd rfl y⟩) (fun w => absurd w.1 z)
        refine l_M_expB hS TU hq (fun w => ?_) (fun w => absurd w.1 z)
        refine l_M_expE (o := o) hS (by omega) TU rfl rfl hq hk hl hY (by omega) hF ho (fun v xp => h v ?_)
        rw [if_pos z] at xp
        obtain ⟨x1, x2, x3, x4⟩ := xp
        exact ⟨x1, x2, x3, fun zf => absurd zf z⟩
  termination_by n => n
theorem f_M_exp {R : MS → Prop} {sd : Nat} {q : Nat × Nat} (hsd : sd < 2) (hS : SX g) (hT : TkR T L M s) (hq : RQ T L M q s) (h12 : q.2 = 0 → s.1 120 12 = 0) (h51 : s.1 120 51 = nI c0) (hc : q.2 = 0 → c0 ≤ 420 * sd + q.1) (hc2 : c0 ≤ 420 * sd + 401) (h : ∀ v, XP T L M c0 (420 * sd + 401) s (gE (kK T L M) 401 0 true q) (ceC (kK T L M) (vV T L) q.1) v → R v) : GV E m_Mo_expression [.ref 120] g s R := by
  refine v_Mo_expression (Q := qV g R) hS (fun s1 e1 => v_Mo_expression_12 _ _ hS ⟨fun y => absurd y (by decide), fun _ => ?_⟩)
  have F1 : FRy c0 (420 * sd + 401) s s1 := by rw [e1]; exact FRy.w (by omega)
  have q1 : RQ T L M q s1 := hq.sl (by rw [e1, wi_s, upd_n _ _ (by decide)]) (by rw [e1, wi_s, upd_n _ _ (by decide)]) (by rw [e1, wi_s, upd_n _ _ (by decide)])
  have q7 := hq.2.2.2.2.2.2
  have Y1 : RY c0 [] [] s1 := ⟨by rw [e1, wi_s, upd_s]; rfl, trivial, by rw [e1, wi_s, upd_n _ _ (by decide)]; exact h51, trivial⟩
  rw [q1.1]
  refine pk_eq q.2 0 (fun z => ?_) (fun z => v_Mo_expression_272 _ _ (GV.r (h s1 ?_))) rfl rfl (by omega) (by omega)
  · rw [h12 z]
    have := l_M_exp (E := E) hsd hS hT 401 0 true q [] [] s1 (by omega) q1 trivial (by simp) (fun _ => ⟨YI.nil, by rw [e1, wi_s, upd_n _ _ (by decide)]; exact h12 z⟩) Y1 F1 (by simp only [List.length_nil, oW]; have := hc z; omega) h
    rw [if_pos rfl] at this
    exact this
  · rw [gE_f z]
    exact ⟨q1, F1, ⟨c0, Y1.2.2.1, Nat.le_refl _, hc2⟩, fun w => absurd w z⟩
end RExp
