/-! THE CLASS writes an expression -/
section CExp
variable {E : EN} {g : GS} {s : MS} {w : Nat} {T : Nat → Nat} {L M : Nat}
def CL (w i0 : Nat) (W : List Nat) (C : Cd) (s : MS) : Prop := s.1 w 5 = nI W.length ∧ PL (s.1 (w + 3)) (W.map nI) ∧ s.1 w 4 = nI (i0 + C.length) ∧ SC (s.1 (w + 1)) i0 C
def FLw (w i0 : Nat) (s u : MS) : Prop := (∀ a, a ≠ w → a ≠ w + 1 → a ≠ w + 3 → u.1 a = s.1 a) ∧ (∀ j, j ≠ 4 → j ≠ 5 → u.1 w j = s.1 w j) ∧ (∀ j, j < i0 → u.1 (w + 1) j = s.1 (w + 1) j) ∧ u.2 = s.2
theorem FLw.rf (w i0 : Nat) (s : MS) : FLw w i0 s s := ⟨fun _ _ _ _ => rfl, fun _ _ _ => rfl, fun _ _ => rfl, rfl⟩
theorem FLw.tr {i0 : Nat} {s u v : MS} (h : FLw w i0 s u) (k : FLw w i0 u v) : FLw w i0 s v := ⟨fun a h1 h2 h3 => (k.1 a h1 h2 h3).trans (h.1 a h1 h2 h3), fun j h1 h2 => (k.2.1 j h1 h2).trans (h.2.1 j h1 h2), fun j hj => (k.2.2.1 j hj).trans (h.2.2.1 j hj), k.2.2.2.trans h.2.2.2⟩
theorem FLw.le {i0 i1 : Nat} {s u : MS} (h : FLw w i1 s u) (k : i0 ≤ i1) : FLw w i0 s u := ⟨h.1, h.2.1, fun j hj => h.2.2.1 j (by omega), h.2.2.2⟩
theorem TkC.x {i0 : Nat} {u : MS} (hw : 32 ≤ w) (h : TkC T L M s) (k : FLw w i0 s u) : TkC T L M u := h.mv (k.1 18 (by omega) (by omega) (by omega)) (k.1 19 (by omega) (by omega) (by omega)) (k.1 20 (by omega) (by omega) (by omega)) (by rw [k.2.2.2])
theorem f_Laws_add {R : MS → Prop} {n : Nat} {x : Int32} (hW : LW g w) (h4 : s.1 w 4 = nI n) (hn : n < 400) (h : ∀ u, u.1 w = upd (s.1 w) 4 (nI (n + 1)) → u.1 (w + 1) = upd (s.1 (w + 1)) n x → (∀ a, a ≠ w → a ≠ w + 1 → u.1 a = s.1 a) → u.2 = s.2 → R u) : GV E m_Laws_addStep [.ref w, .int x] g s R := by
  refine v_Laws_addStep (Q := qV g R) w x hW ?_
  rw [h4, tn_n (by omega)]
  refine pk_le 400 n (fun z => absurd z (by omega)) (fun _ => ⟨vp_in_nI (by omega) (by omega), fun s1 e1 s2 e2 => GV.r (h s2 ?_ ?_ (fun a h1 h2 => ?_) ?_)⟩)
  · rw [e2, wi_s, e1, wi_n _ _ _ (by omega), h4, nI_1]
  · rw [e2, wi_n _ _ _ (by omega), e1, wi_s]
  · rw [e2, wi_n _ _ _ h1, e1, wi_n _ _ _ h2]
  · rw [e2, wi_2, e1, wi_2]
theorem CL.add {i0 : Nat} {W : List Nat} {C : Cd} {q : Nat × Nat} {u : MS} (h : CL w i0 W C s) (h1 : u.1 w = upd (s.1 w) 4 (nI (i0 + C.length + 1))) (h2 : u.1 (w + 1) = upd (s.1 (w + 1)) (i0 + C.length) (enc q)) (h3 : ∀ a, a ≠ w → a ≠ w + 1 → u.1 a = s.1 a) : CL w i0 W (C ++ [q]) u := by
  obtain ⟨a1, a2, a3, a4⟩ := h
  refine ⟨by rw [h1, upd_n _ _ (by decide)]; exact a1, by rw [h3 (w + 3) (by omega) (by omega)]; exact a2, by rw [h1, upd_s, List.length_append]; rfl, SC.app C [q] i0 (SC.up C i0 (fun j j1 j2 => by rw [h2, upd_n _ _ (by omega)]) a4) ⟨by rw [h2, upd_s], trivial⟩⟩
theorem FLw.add {i0 n : Nat} {u : MS} {x y : Int32} (hn : i0 ≤ n) (h1 : u.1 w = upd (s.1 w) 4 x) (h2 : u.1 (w + 1) = upd (s.1 (w + 1)) n y) (h3 : ∀ a, a ≠ w → a ≠ w + 1 → u.1 a = s.1 a) (h4 : u.2 = s.2) : FLw w i0 s u := ⟨fun a a1 a2 _ => h3 a a1 a2, fun j j1 _ => by rw [h1, upd_n _ _ j1], fun j hj => by rw [h2, upd_n _ _ (by omega)], h4⟩
theorem f_Laws_step {R : MS → Prop} {i0 : Nat} {W : List Nat} {C : Cd} {q : Nat × Nat} {x : Int32} (hW : LW g w) (hx : x = enc q) (hC : CL w i0 W C s) (hn : i0 + C.length < 400) (h : ∀ u, CL w i0 W (C ++ [q]) u → FLw w i0 s u → R u) : GV E m_Laws_addStep [.ref w, .int x] g s R :=
  f_Laws_add hW hC.2.2.1 hn (fun u h1 h2 h3 h4 => h u (hC.add h1 (by rw [h2, hx]) h3) (FLw.add (by omega) h1 h2 h3 h4))
theorem f_Laws_push {R : MS → Prop} {i0 k : Nat} {W : List Nat} {C : Cd} (hW : LW g w) (hC : CL w i0 W C s) (hn : W.length < 32) (h : ∀ u, CL w i0 (k :: W) C u → FLw w i0 s u → R u) : GV E m_Laws_addWaiting [.ref w, .int (nI k)] g s R := by
  obtain ⟨a1, a2, a3, a4⟩ := hC
  refine v_Laws_addWaiting (Q := qV g R) w _ hW ?_
  rw [a1, tn_n (by omega)]
  refine pk_le 32 W.length (fun z => absurd z (by omega)) (fun _ => ⟨vp_in_nI (by omega) (by omega), fun s1 e1 s2 e2 => GV.r (h s2 ⟨?_, ?_, ?_, ?_⟩ ⟨fun a h1 h2 h3 => ?_, fun j h1 h2 => ?_, fun j hj => ?_, ?_⟩)⟩)
  · rw [e2, wi_s, upd_s, e1, wi_n _ _ _ (by omega), a1, nI_1, List.length_cons]
  · rw [e2, wi_n _ _ _ (by omega), e1, wi_s]
    have : PL (upd (s.1 (w + 3)) (W.map nI).length (nI k)) (nI k :: W.map nI) := a2.push
    rw [List.length_map] at this; exact this
  · rw [e2, wi_s, upd_n _ _ (by decide), e1, wi_n _ _ _ (by omega)]; exact a3
  · rw [e2, wi_n _ _ _ (by omega), e1, wi_n _ _ _ (by omega)]; exact a4
  · rw [e2, wi_n _ _ _ h1, e1, wi_n _ _ _ h3]
  · rw [e2, wi_s, upd_n _ _ h2, e1, wi_n _ _ _ (by omega)]
  · rw [e2, wi_n _ _ _ (by omega), e1, wi_n _ _ _ (by omega)]
  · rw [e2, wi_2, e1, wi_2]
def VCw (E : EN) (g : GS) (w : Nat) (x1 : Int32) (Q : Option Value → SG → Prop) (s : MS) : Prop := (((s.1 w 5) ≤ 0 → Q none (mk g s)) ∧ (¬ (s.1 w 5) ≤ 0 → vp_in ((s.1 w 5) - 1) 32 ∧ (((s.1 (w + 3) ((((s.1 w 5) - 1)).toNatClampNeg)) = 31 → Q none (mk g s)) ∧ (¬ (s.1 (w + 3) ((((s.1 w 5) - 1)).toNatClampNeg)) = 31 → GI E m_Laws_rankOf [.int (s.1 (w + 3) ((((s.1 w 5) - 1)).toNatClampNeg))] g s (fun y1_ t1_ => ((y1_ < x1 → Q none (mk g t1_)) ∧ (¬ y1_ < x1 → (∀ s2_, s2_ = wi t1_ w 5 ((t1_.1 w 5) - 1) → vp_in (s2_.1 w 5) 32 ∧ GV E m_Laws_addStep [.ref w, .int (-(s2_.1 (w + 3) (((s2_.1 w 5)).toNatClampNeg)))] g s2_ (fun t3_ => AWP E m_Laws_writeWaiting 0 0 0 [(0, .ref w), (1, .int x1)] [] (mk g t3_) Q)))))))))
theorem f_rank {R : Int32 → MS → Prop} {k : Nat} (hk : 26 ≤ k ∧ k ≤ 29) (h : R (nI (rkW k)) s) : GI E m_Laws_rankOf [.int (nI k)] g s R := by
  have : k = 26 ∨ k = 27 ∨ k = 28 ∨ k = 29 := by omega
  rcases this with rfl | rfl | rfl | rfl
  · exact v_Laws_rankOf (Q := qI g R) _ ⟨fun z => absurd z (by decide), fun _ => ⟨fun z => absurd z (by decide), fun _ => GI.r h⟩⟩
  · exact v_Laws_rankOf (Q := qI g R) _ ⟨fun z => absurd z (by decide), fun _ => ⟨fun z => absurd z (by decide), fun _ => GI.r h⟩⟩
  · exact v_Laws_rankOf (Q := qI g R) _ ⟨fun _ => GI.r h, fun z => absurd rfl z⟩
  · exact v_Laws_rankOf (Q := qI g R) _ ⟨fun z => absurd z (by decide), fun _ => ⟨fun _ => GI.r h, fun z => absurd rfl z⟩⟩
theorem l_Laws_wait {R : MS → Prop} {i0 rk0 : Nat} {st : Bool} (hW : LW g w) (hr : (st = true ∧ rk0 = 2) ∨ (st = false ∧ rk0 ≤ 1)) : ∀ (W : List Nat) (C : Cd) (r : Nat) (u : MS), CL w i0 W C u → okL r W → W.length ≤ 31 → i0 + C.length + oW W ≤ 400 → FLw w i0 s u → (∀ v, CL w i0 (yF st W C).1 (yF st W C).2 v → FLw w i0 s v → R v) → VCw E g w (nI rk0) (qV g R) u
  | [], C, r, u, hC, _, _, _, hF, h => by
    unfold VCw
    rw [hC.1]
    exact ⟨fun _ => GV.r (h u hC hF), fun z => absurd (by decide) z⟩
  | k :: W, C, r, u, hC, hk, hl, h4, hF, h => by
    obtain ⟨a1, a2, a3, a4⟩ := hC
    have hl' : W.length + 1 ≤ 31 := hl
    have p1 : u.1 (w + 3) W.length = nI k := by
      have := a2.1
      rw [List.length_map] at this; exact this
    have eu : CL w i0 (k :: W) C u := ⟨a1, a2, a3, a4⟩
    unfold VCw
    rw [a1, List.length_cons, nI_pred, tn_n (by omega), p1]
    rw [yF] at h
    refine pk_le (W.length + 1) 0 (fun z => absurd z (by omega)) (fun _ => ⟨vp_in_nI (by omega) (by omega), ?_⟩)
    have k31 : k ≤ 31 := by
      rcases hk with ⟨k1, -⟩ | ⟨-, k2, -⟩ <;> omega
    refine pk_eq k 31 (fun z => GV.r ?_) (fun z => ?_)
    · rw [if_pos (Or.inl z)] at h; exact h u eu hF
    · rcases hk with ⟨k1, -⟩ | ⟨k1, k2, k3, k4⟩
      · exact absurd k1 z
      · have ow : oW (k :: W) = oW W + 1 := by rw [oW, if_neg z]
        refine f_rank ⟨k1, k2⟩ ?_
        have rg := rkW_ge k
        refine pk_lt (rkW k) rk0 (fun y => GV.r ?_) (fun y s2 e2 => ?_) rfl rfl (by omega) (by omega)
        · have sk : st = true ∧ (k = 26 ∨ k = 27) := by
            rcases hr with ⟨r1, r2⟩ | ⟨r1, r2⟩
            · refine ⟨r1, ?_⟩
              have : rkW k = 1 := by omega
              unfold rkW at this
              split at this <;> omega
            · omega
          rw [if_pos (Or.inr sk)] at h; exact h u eu hF
        · have nk : ¬ (k = 31 ∨ (st = true ∧ (k = 26 ∨ k = 27))) := by
            intro q
            rcases q with q | ⟨q1, q2⟩
            · exact z q
            · rcases hr with ⟨r1, r2⟩ | ⟨r1, r2⟩
              · have : rkW k = 1 := by unfold rkW; rw [if_neg (by omega)]
                omega
              · rw [r1] at q1; exact absurd q1 (by decide)
          rw [if_neg nk] at h
          have s5 : s2.1 w 5 = nI W.length := by rw [e2, wi_s, upd_s, a1, List.length_cons, nI_pred]
          have s3 : s2.1 (w + 3) = u.1 (w + 3) := by rw [e2, wi_n _ _ _ (by omega)]
          have C2 : CL w i0 W C s2 := by
            refine ⟨s5, ?_, ?_, ?_⟩
            · rw [s3]; exact a2.2
            · rw [e2, wi_s, upd_n _ _ (by decide)]; exact a3
            · rw [e2, wi_n _ _ _ (by omega)]; exact a4
          have F2 : FLw w i0 u s2 := ⟨fun a h1 _ _ => by rw [e2, wi_n _ _ _ h1], fun j _ h2 => by rw [e2, wi_s, upd_n _ _ h2], fun j _ => by rw [e2, wi_n _ _ _ (by omega)], by rw [e2, wi_2]⟩
          rw [s5, s3, tn_n (by omega), p1]
          refine ⟨vp_in_nI (by omega) (by omega), f_Laws_step (q := (k - 24, 0)) hW ?_ C2 (by omega) (fun v v1 v2 => ?_)⟩
          · rw [enc_2 (show 2 ≤ (k - 24, 0).1 by show 2 ≤ k - 24; omega)]
            show -nI k = -nI (24 + (k - 24))
            rw [show 24 + (k - 24) = k by omega]
          · refine v_Laws_writeWaiting_0 w _ hW ?_
            exact l_Laws_wait hW hr W (C ++ [(k - 24, 0)]) _ v v1 k4 (by omega) (by rw [List.length_append]; show i0 + (C.length + 1) + oW W ≤ 400; omega) (hF.tr (F2.tr v2)) h
theorem f_Laws_wait {R : MS → Prop} {i0 rk0 r : Nat} {st : Bool} {W : List Nat} {C : Cd} {x : Int32} (ex : x = nI rk0) (hW : LW g w) (hr : (st = true ∧ rk0 = 2) ∨ (st = false ∧ rk0 ≤ 1)) (hC : CL w i0 W C s) (hk : okL r W) (hl : W.length ≤ 31) (h4 : i0 + C.length + oW W ≤ 400) (h : ∀ v, CL w i0 (yF st W C).1 (yF st W C).2 v → FLw w i0 s v → R v) : GV E m_Laws_writeWaiting [.ref w, .int x] g s R := by
  subst ex
  exact v_Laws_writeWaiting (Q := qV g R) w _ hW (l_Laws_wait (s := s) hW hr W C r s hC hk hl h4 (FLw.rf w i0 s) h)
/-- a token at the loop's head -/
theorem l_C_tok {Q : Option Value → SG → Prop} {x2 x3 : Int32} {a : Nat} (hS : SX g) (hW : LW g w) (hT : TkC T L M s) (ha : a < 400) (k0 : kK T L M a ≠ 0) (k24 : kK T L M a ≠ 24) (h : GV E m_Laws_writeToken [.ref w, .int (nI (kK T L M a)), .int (nI (vV T L a))] g s (fun t3_ => AWP E m_Laws_write 41 0 0 [(0, .ref w), (1, .ref 18), (2, .int x2), (3, .int x3), (4, .int (nI (a + 1)))] [] (mk g t3_) Q)) : AWP E m_Laws_write 41 0 0 [(0, .ref w), (1, .ref 18), (2, .int x2), (3, .int x3), (4, .int (nI a))] [] (mk g s) Q := by
  obtain ⟨jm, kk⟩ := kK_m rfl k0
  obtain ⟨t1, t2, t3, t4⟩ := hT
  refine v_Laws_write_41 w _ _ _ hS hW ?_
  have e19 : s.1 19 a = nI (kK T L M a) := by rw [(t3 a jm).2.1, kk]
  have e21 : s.2 21 a = lN (vV T L a) := (t3 a jm).2.2.2
  have kl := kK_lt T L M a
  rw [t1, tn_n (by omega), e19, e21, lN_i, nI_1 a]
  exact pk_le M a (fun z => absurd z (by omega)) (fun _ => ⟨vp_in_nI (by omega) (by omega), pk_eq (kK T L M a) 24 (fun z => absurd z k24) (fun _ => h) rfl rfl (by omega) (by omega)⟩)
theorem YI.len {due : Bool} {W : List Nat} {C : Cd} {o : Nat} (h : YI due W C o) : W.length ≤ 20 := by
  obtain ⟨h1, h2, h3, -⟩ := h
  have := okL.len W 2 h1
  omega
theorem l_C_exp {Q : Option Value → SG → Prop} {x2 x3 : Int32} {i0 : Nat} (hS : SX g) (hW : LW g w) (hw : 32 ≤ w) (hT : TkC T L M s) : ∀ (n o : Nat) (due : Bool) (a : Nat) (W : List Nat) (C : Cd) (u : MS), 401 ≤ a + n → a ≤ 400 → (gE (kK T L M) n o due (a, 0)).2 = 0 → YI due W C o → CL w i0 W C u → FLw w i0 s u → i0 + C.length + oW W ≤ a → (∀ a' W' C' v, gE (kK T L M) n o due (a, 0) = (a', 0) → YI false W' C' 0 → gC (kK T L M) (vV T L) n o due a W C = (yF false W' C').2 → CL w i0 W' C' v → FLw w i0 s v → i0 + C'.length + oW W' ≤ a' → AWP E m_Laws_write 41 0 0 [(0, .ref w), (1, .ref 18), (2, .int x2), (3, .int x3), (4, .int (nI a'))] [] (mk g v) Q) → AWP E m_Laws_write 41 0 0 [(0, .ref w), (1, .ref 18), (2, .int x2), (3, .int x3), (4, .int (nI a))] [] (mk g u) Q
  | 0, _, _, a, _, _, _, h1, h2, _, _, _, _, _, _ => absurd h1 (by omega)
  | n + 1, o, due, a, W, C, u, h1, h2, hg, hY, hC, hF, hb, h => by
    have hV : kK T L M a = 3 → vV T L a ≤ 9999 := fun k => tkV_4 (kK_m k (by omega)).2
    have TU := hT.x hw hF
    have wl := hY.len
    rcases gE_st (V := vV T L) (W := W) (C := C) h1 hg hY hV with ⟨rfl, k, a4, g1, g2, y⟩ | ⟨rfl, k, a4, g1, g2, y⟩ | ⟨rfl, k, o0, a4, g1, W', e1, g2, y⟩ | ⟨rfl, k, a4, g1, g2, y⟩ | ⟨rfl, o0, k, g1, g2, y⟩
    · rw [g1] at hg
      rw [g1, g2] at h
      refine l_C_tok hS hW TU a4 (by omega) (by omega) ?_
      rw [k]
      refine tk_31 hW (f_Laws_push (k := 31) hW hC (by omega) (fun v v1 v2 => v_Laws_writeToken_297 w _ _ (GV.r ?_)))
      exact l_C_exp hS hW hw hT n (o + 1) true (a + 1) (31 :: W) C v (by omega) (by omega) hg y v1 (hF.tr v2) (by rw [oW, if_pos rfl]; omega) h
    · rw [g1] at hg
      rw [g1, g2] at h
      have ku : kK T L M a ≠ 0 ∧ kK T L M a ≠ 24 := by rcases k with k | k <;> omega
      refine l_C_tok hS hW TU a4 ku.1 ku.2 ?_
      have nx : ∀ v, CL w i0 W (C ++ [uC (kK T L M) (vV T L) a]) v → FLw w i0 u v → AWP E m_Laws_write 41 0 0 [(0, .ref w), (1, .ref 18), (2, .int x2), (3, .int x3), (4, .int (nI (a + 1)))] [] (mk g v) Q := fun v v1 v2 =>
        l_C_exp hS hW hw hT n o false (a + 1) W _ v (by omega) (by omega) hg y v1 (hF.tr v2) (by rw [List.length_append]; show i0 + (C.length + 1) + oW W ≤ a + 1; omega) h
      by_cases k3 : kK T L M a = 3
      · rw [k3]
        refine tk_3 hW (f_Laws_step (q := uC (kK T L M) (vV T L) a) hW ?_ hC (by omega) (fun v v1 v2 => v_Laws_writeToken_297 w _ _ (GV.r (nx v v1 v2))))
        unfold uC; rw [if_pos k3, enc_0 rfl]
      · have k17 : 17 ≤ kK T L M a ∧ kK T L M a ≤ 23 := k.resolve_left k3
        refine tk_var hW k17 (f_Laws_step (q := uC (kK T L M) (vV T L) a) hW ?_ hC (by omega) (fun v v1 v2 => v_Laws_writeToken_297 w _ _ (GV.r (nx v v1 v2))))
        unfold uC; rw [if_neg k3, enc_1 rfl]
        show _ = -(nI (17 + (kK T L M a - 17)))
        rw [show 17 + (kK T L M a - 17) = kK T L M a by omega]
    · rw [g1] at hg
      rw [g1, g2] at h
      have lens := (yF_ok false W C 2 hY.1 (by have := hY.2.2.2; rw [if_neg (by decide)] at this; exact this)).2.2.2
      refine l_C_tok hS hW TU a4 (by omega) (by omega) ?_
      rw [k]
      refine tk_32 hW (f_Laws_wait (rk0 := 0) (st := false) rfl hW (Or.inr ⟨rfl, by omega⟩) hC hY.1 (by omega) (by omega) (fun v v1 v2 s4 e4 => v_Laws_writeToken_297 w _ _ (GV.r ?_)))
      rw [e1] at v1
      obtain ⟨b1, b2, b3, b4⟩ := v1
      have b1' : v.1 w 5 - 1 = nI W'.length := by rw [b1, List.length_cons, nI_pred]
      have y20 := y.len
      have e4' : s4 = wi v w 5 (nI W'.length) := by
        rw [e4, b1']
        congr 1
        by_cases z : W'.length = 0
        · rw [z]; rfl
        · rw [if_pos]
          exact Int32.not_le.mp (fun q => z (by have := (nI_le_iff (b := 0) (by omega) (by omega)).mp q; omega))
      refine l_C_exp hS hW hw hT n (o - 1) false (a + 1) W' (yF false W C).2 s4 (by omega) (by omega) hg y ⟨?_, ?_, ?_, ?_⟩ (hF.tr (v2.tr ⟨fun x h1 _ _ => by rw [e4', wi_n _ _ _ h1], fun j _ h2 => by rw [e4', wi_s, upd_n _ _ h2], fun j _ => by rw [e4', wi_n _ _ _ (by omega)], by rw [e4', wi_2]⟩)) ?_ h
      · rw [e4', wi_s, upd_s]
      · rw [e4', wi_n _ _ _ (by omega)]; exact b2.2
      · rw [e4', wi_s, upd_n _ _ (by decide)]; exact b3
      · rw [e4', wi_n _ _ _ (by omega)]; exact b4
      · rw [e1, oW, if_pos rfl] at lens; omega
    · rw [g1] at hg
      rw [g1, g2] at h
      have y4 := yF_ok (decide (28 ≤ kK T L M a)) W C 2 hY.1 (by have := hY.2.2.2; rw [if_neg (by decide)] at this; exact this)
      have y20 := y.len
      rw [List.length_cons] at y20
      refine l_C_tok hS hW TU a4 (by omega) (by omega) ?_
      refine tk_bin hW k (f_Laws_wait (rk0 := if 28 ≤ kK T L M a then 2 else 1) (st := decide (28 ≤ kK T L M a)) ?_ hW ?_ hC hY.1 (by omega) (by omega) (fun v v1 v2 => f_Laws_push hW v1 (by omega) (fun v' v3 v4 => v_Laws_writeToken_297 w _ _ (GV.r ?_))))
      · split <;> rfl
      · by_cases z : 28 ≤ kK T L M a
        · rw [decide_eq_true z, if_pos z]; exact Or.inl ⟨rfl, rfl⟩
        · rw [decide_eq_false z, if_neg z]; exact Or.inr ⟨rfl, by omega⟩
      · exact l_C_exp hS hW hw hT n o true (a + 1) _ _ v' (by omega) (by omega) hg y v3 (hF.tr (v2.tr v4)) (by rw [oW, if_neg (by omega)]; have := y4.2.2.2; omega) h
    · exact h a W C u g1 y g2 hC hF hb
end CExp
