/-! THE REFERENCE's yard: emit, comesOut, unit -/
section RYard
variable {E : EN} {g : GS} {s : MS} {T : Nat → Nat} {L M c0 hi : Nat}
def RY (c0 : Nat) (W : List Nat) (C : Cd) (s : MS) : Prop := s.1 120 55 = nI W.length ∧ PL (s.1 159) (W.map (fun k => nI (rk k))) ∧ s.1 120 51 = nI (c0 + C.length) ∧ RC (s.1 157) (s.1 158) c0 C
def FRy (c0 hi : Nat) (s u : MS) : Prop := (∀ a, a ≠ 120 → a ≠ 157 → a ≠ 158 → a ≠ 159 → u.1 a = s.1 a) ∧ (∀ j, ¬ (11 ≤ j ∧ j < 15) → j ≠ 51 → j ≠ 55 → u.1 120 j = s.1 120 j) ∧ (∀ j, (j < c0 ∨ hi ≤ j) → u.1 157 j = s.1 157 j ∧ u.1 158 j = s.1 158 j) ∧ u.2 = s.2
theorem FRy.rf (c0 hi : Nat) (s : MS) : FRy c0 hi s s := ⟨fun _ _ _ _ _ => rfl, fun _ _ _ _ => rfl, fun _ _ => ⟨rfl, rfl⟩, rfl⟩
theorem FRy.tr {s u v : MS} (h : FRy c0 hi s u) (k : FRy c0 hi u v) : FRy c0 hi s v := ⟨fun a h1 h2 h3 h4 => (k.1 a h1 h2 h3 h4).trans (h.1 a h1 h2 h3 h4), fun j h1 h2 h3 => (k.2.1 j h1 h2 h3).trans (h.2.1 j h1 h2 h3), fun j hj => ⟨(k.2.2.1 j hj).1.trans (h.2.2.1 j hj).1, (k.2.2.1 j hj).2.trans (h.2.2.1 j hj).2⟩, k.2.2.2.trans h.2.2.2⟩
theorem FRy.le {c1 : Nat} {s u : MS} (h : FRy c1 hi s u) (k : c0 ≤ c1) : FRy c0 hi s u := ⟨h.1, h.2.1, fun j hj => h.2.2.1 j (by omega), h.2.2.2⟩
theorem FRp.y {u : MS} (h : FRp s u) : FRy c0 hi s u := ⟨fun a h1 _ _ _ => h.1 a h1, fun j h1 _ _ => h.2.1 j (by omega) (by omega) (by omega), fun j _ => by rw [h.1 157 (by decide), h.1 158 (by decide)]; exact ⟨rfl, rfl⟩, h.2.2⟩
theorem FRy.w {j : Nat} {v : Int32} (h : j = 12 ∨ j = 55) : FRy c0 hi s (wi s 120 j v) := ⟨fun a h1 _ _ _ => wi_n _ _ _ h1, fun i h1 _ h3 => by rw [wi_s, upd_n _ _ (by omega)], fun i _ => by rw [wi_n _ _ _ (by decide), wi_n _ _ _ (by decide)]; exact ⟨rfl, rfl⟩, wi_2 _ _ _ _⟩
theorem FRy.w9 {j : Nat} {v : Int32} : FRy c0 hi s (wi s 159 j v) := ⟨fun a _ _ _ h4 => wi_n _ _ _ h4, fun i _ _ _ => by rw [wi_n _ _ _ (by decide)], fun i _ => by rw [wi_n _ _ _ (by decide), wi_n _ _ _ (by decide)]; exact ⟨rfl, rfl⟩, wi_2 _ _ _ _⟩
theorem TkR.y {u : MS} (h : TkR T L M s) (k : FRy c0 hi s u) : TkR T L M u := h.mv (k.1 123 (by decide) (by decide) (by decide) (by decide)) (k.1 124 (by decide) (by decide) (by decide) (by decide)) (k.1 125 (by decide) (by decide) (by decide) (by decide)) (by rw [k.2.2.2])
theorem RY.p {u : MS} {W : List Nat} {C : Cd} (h : RY c0 W C s) (k : FRp s u) : RY c0 W C u := by
  unfold RY; rw [k.2.1 55 (by decide) (by decide) (by decide), k.2.1 51 (by decide) (by decide) (by decide), k.1 159 (by decide), k.1 157 (by decide), k.1 158 (by decide)]; exact h
theorem RQ.sl {u : MS} {q : Nat × Nat} (h : RQ T L M q s) (k1 : u.1 120 11 = s.1 120 11) (k2 : u.1 120 13 = s.1 120 13) (k3 : u.1 120 14 = s.1 120 14) : RQ T L M q u := by unfold RQ; rw [k1, k2, k3]; exact h
theorem f_M_emit {R : MS → Prop} {W : List Nat} {C : Cd} {k v : Nat} {x1 x2 : Int32} (e1 : x1 = nI k) (e2 : x2 = nI v) (hS : SX g) (hY : RY c0 W C s) (hb : c0 + C.length < hi) (h8 : hi ≤ 840) (h : ∀ u, RY c0 W (C ++ [(k, v)]) u → FRy c0 hi s u → (∀ j, j ≠ 51 → u.1 120 j = s.1 120 j) → R u) : GV E m_Mo_emit [.ref 120, .int x1, .int x2] g s R := by
  obtain ⟨a1, a2, a3, a4⟩ := hY
  refine v_Mo_emit (Q := qV g R) _ _ hS ?_
  rw [a3, tn_n (by omega), nI_1, e1, e2]
  refine ⟨vp_in_nI (by omega) (by omega), fun s1 f1 s2 f2 s3 f3 => GV.r (h s3 ⟨?_, ?_, ?_, ?_⟩ ⟨fun a h1 h2 h3 _ => ?_, fun j _ h2 _ => ?_, fun j hj => ?_, ?_⟩ (fun j hj => ?_))⟩
  · rw [f3, wi_s, upd_n _ _ (by decide), f2, wi_n _ _ _ (by decide), f1, wi_n _ _ _ (by decide)]; exact a1
  · rw [f3, wi_n _ _ _ (by decide), f2, wi_n _ _ _ (by decide), f1, wi_n _ _ _ (by decide)]; exact a2
  · rw [f3, wi_s, upd_s, List.length_append]; rfl
  · have b1 : s3.1 157 = upd (s.1 157) (c0 + C.length) (nI k) := by rw [f3, wi_n _ _ _ (by decide), f2, wi_n _ _ _ (by decide), f1, wi_s]
    have b2 : s3.1 158 = upd (s.1 158) (c0 + C.length) (nI v) := by rw [f3, wi_n _ _ _ (by decide), f2, wi_s, f1, wi_n _ _ _ (by decide)]
    refine RC.app C [(k, v)] c0 (RC.up C c0 (fun j j1 j2 => by rw [b1, b2, upd_n _ _ (by omega), upd_n _ _ (by omega)]; exact ⟨rfl, rfl⟩) a4) ⟨by rw [b1, upd_s], by rw [b2, upd_s], trivial⟩
  · rw [f3, wi_n _ _ _ h1, f2, wi_n _ _ _ h3, f1, wi_n _ _ _ h2]
  · rw [f3, wi_s, upd_n _ _ h2, f2, wi_n _ _ _ (by decide), f1, wi_n _ _ _ (by decide)]
  · rw [f3, wi_n _ _ _ (by decide), wi_n _ _ _ (by decide), f2, wi_n _ _ _ (by decide), wi_s, f1, wi_s, wi_n _ _ _ (by decide), upd_n _ _ (by omega), upd_n _ _ (by omega)]; exact ⟨rfl, rfl⟩
  · rw [f3, wi_2, f2, wi_2, f1, wi_2]
  · rw [f3, wi_s, upd_n _ _ hj, f2, wi_n _ _ _ (by decide), f1, wi_n _ _ _ (by decide)]
def VCo (E : EN) (g : GS) (x1 : Int32) (Q : Option Value → SG → Prop) (s : MS) : Prop := (((s.1 120 55) ≤ 0 → Q none (mk g s)) ∧ (¬ (s.1 120 55) ≤ 0 → vp_in ((s.1 120 55) - 1) 64 ∧ (((s.1 159 ((((s.1 120 55) - 1)).toNatClampNeg)) = 6 → Q none (mk g s)) ∧ (¬ (s.1 159 ((((s.1 120 55) - 1)).toNatClampNeg)) = 6 → ((x1 = 0 → (∀ s1_, s1_ = wi s 120 55 ((s.1 120 55) - 1) → (((s.1 159 ((((s.1 120 55) - 1)).toNatClampNeg)) = 8 → GV E m_Mo_emit [.ref 120, .int 2, .int 0] g s1_ (fun t2_ => AWP E m_Mo_comesOut 0 0 0 [(0, .ref 120), (1, .int x1)] [] (mk g t2_) Q)) ∧ (¬ (s.1 159 ((((s.1 120 55) - 1)).toNatClampNeg)) = 8 → (((s.1 159 ((((s.1 120 55) - 1)).toNatClampNeg)) = 9 → GV E m_Mo_emit [.ref 120, .int 3, .int 0] g s1_ (fun t3_ => AWP E m_Mo_comesOut 0 0 0 [(0, .ref 120), (1, .int x1)] [] (mk g t3_) Q)) ∧ (¬ (s.1 159 ((((s.1 120 55) - 1)).toNatClampNeg)) = 9 → (((s.1 159 ((((s.1 120 55) - 1)).toNatClampNeg)) = 10 → GV E m_Mo_emit [.ref 120, .int 4, .int 0] g s1_ (fun t4_ => AWP E m_Mo_comesOut 0 0 0 [(0, .ref 120), (1, .int x1)] [] (mk g t4_) Q)) ∧ (¬ (s.1 159 ((((s.1 120 55) - 1)).toNatClampNeg)) = 10 → GV E m_Mo_emit [.ref 120, .int 5, .int 0] g s1_ (fun t5_ => AWP E m_Mo_comesOut 0 0 0 [(0, .ref 120), (1, .int x1)] [] (mk g t5_) Q))))))))) ∧ (¬ x1 = 0 → (((s.1 159 ((((s.1 120 55) - 1)).toNatClampNeg)) = 8 → Q none (mk g s)) ∧ (¬ (s.1 159 ((((s.1 120 55) - 1)).toNatClampNeg)) = 8 → (((s.1 159 ((((s.1 120 55) - 1)).toNatClampNeg)) = 9 → Q none (mk g s)) ∧ (¬ (s.1 159 ((((s.1 120 55) - 1)).toNatClampNeg)) = 9 → (∀ s6_, s6_ = wi s 120 55 ((s.1 120 55) - 1) → (((s.1 159 ((((s.1 120 55) - 1)).toNatClampNeg)) = 8 → GV E m_Mo_emit [.ref 120, .int 2, .int 0] g s6_ (fun t7_ => AWP E m_Mo_comesOut 0 0 0 [(0, .ref 120), (1, .int x1)] [] (mk g t7_) Q)) ∧ (¬ (s.1 159 ((((s.1 120 55) - 1)).toNatClampNeg)) = 8 → (((s.1 159 ((((s.1 120 55) - 1)).toNatClampNeg)) = 9 → GV E m_Mo_emit [.ref 120, .int 3, .int 0] g s6_ (fun t8_ => AWP E m_Mo_comesOut 0 0 0 [(0, .ref 120), (1, .int x1)] [] (mk g t8_) Q)) ∧ (¬ (s.1 159 ((((s.1 120 55) - 1)).toNatClampNeg)) = 9 → (((s.1 159 ((((s.1 120 55) - 1)).toNatClampNeg)) = 10 → GV E m_Mo_emit [.ref 120, .int 4, .int 0] g s6_ (fun t9_ => AWP E m_Mo_comesOut 0 0 0 [(0, .ref 120), (1, .int x1)] [] (mk g t9_) Q)) ∧ (¬ (s.1 159 ((((s.1 120 55) - 1)).toNatClampNeg)) = 10 → GV E m_Mo_emit [.ref 120, .int 5, .int 0] g s6_ (fun t10_ => AWP E m_Mo_comesOut 0 0 0 [(0, .ref 120), (1, .int x1)] [] (mk g t10_) Q))))))))))))))))))
/-- what it may change: slots 51 and 55 alone -/
def FRz (s u : MS) : Prop := ∀ j, j ≠ 51 → j ≠ 55 → u.1 120 j = s.1 120 j
theorem l_M_out {R : MS → Prop} {st : Bool} {x : Int32} (hS : SX g) (h8 : hi ≤ 840) (hx : (st = true ∧ x = 1) ∨ (st = false ∧ x = 0)) : ∀ (W : List Nat) (C : Cd) (r : Nat) (u : MS), RY c0 W C u → okL r W → W.length ≤ 31 → c0 + C.length + oW W ≤ hi → FRy c0 hi s u → FRz s u → (∀ v, RY c0 (yF st W C).1 (yF st W C).2 v → FRy c0 hi s v → FRz s v → R v) → VCo E g x (qV g R) u
  | [], C, r, u, hC, _, _, _, hF, hZ, h => by
    unfold VCo
    rw [hC.1]
    exact ⟨fun _ => GV.r (h u hC hF hZ), fun z => absurd (by decide) z⟩
  | k :: W, C, r, u, hC, hk, hl, h4, hF, hZ, h => by
    obtain ⟨a1, a2, a3, a4⟩ := hC
    have hl' : W.length + 1 ≤ 31 := hl
    have p1 : u.1 159 W.length = nI (rk k) := by
      have := a2.1
      rw [List.length_map] at this; exact this
    have eu : RY c0 (k :: W) C u := ⟨a1, a2, a3, a4⟩
    unfold VCo
    rw [a1, List.length_cons, nI_pred, tn_n (by omega), p1]
    rw [yF] at h
    refine pk_le (W.length + 1) 0 (fun z => absurd z (by omega)) (fun _ => ⟨vp_in_nI (by omega) (by omega), ?_⟩)
    rcases hk with ⟨k1, -⟩ | ⟨k1, k2, k3, k4⟩
    · rw [if_pos (Or.inl k1)] at h
      subst k1
      exact ⟨fun _ => GV.r (h u eu hF hZ), fun z => absurd rfl z⟩
    · have ow : oW (k :: W) = oW W + 1 := by rw [oW, if_neg (by omega)]
      -- it comes out
      have go : ¬ (k = 31 ∨ (st = true ∧ (k = 26 ∨ k = 27))) → ∀ s1, s1 = wi u 120 55 (nI W.length) → ∀ x1, x1 = nI (k - 24) → GV E m_Mo_emit [.ref 120, .int x1, .int 0] g s1 (fun t2_ => AWP E m_Mo_comesOut 0 0 0 [(0, .ref 120), (1, .int x)] [] (mk g t2_) (qV g R)) := fun nk s1 e1 x1 ex => by
        rw [if_neg nk] at h
        have C1 : RY c0 W C s1 := by
          refine ⟨by rw [e1, wi_s, upd_s], ?_, ?_, ?_⟩
          · rw [e1, wi_n _ _ _ (by decide)]; exact a2.2
          · rw [e1, wi_s, upd_n _ _ (by decide)]; exact a3
          · rw [e1, wi_n _ _ _ (by decide), wi_n _ _ _ (by decide)]; exact a4
        have F1 : FRy c0 hi u s1 := by rw [e1]; exact FRy.w (by omega)
        refine f_M_emit (k := k - 24) (v := 0) ex rfl hS C1 (by omega) h8 (fun v v1 v2 v3 => v_Mo_comesOut_0 _ hS ?_)
        exact l_M_out hS h8 hx W (C ++ [(k - 24, 0)]) _ v v1 k4 (by omega) (by rw [List.length_append]; show c0 + (C.length + 1) + oW W ≤ hi; omega) (hF.tr (F1.tr v2)) (fun j h1 h2 => by rw [v3 j h1, e1, wi_s, upd_n _ _ h2]; exact hZ j h1 h2) h
      have stop : st = true → (k = 26 ∨ k = 27) → R u := fun h1 h2 => by
        rw [if_pos (Or.inr ⟨h1, h2⟩)] at h; exact h u eu hF hZ
      have : k = 26 ∨ k = 27 ∨ k = 28 ∨ k = 29 := by omega
      rcases hx with ⟨hs, hx⟩ | ⟨hs, hx⟩
      · subst hx
        refine ⟨fun z => ?_, fun _ => ⟨fun z => absurd z (by decide), fun _ => ?_⟩⟩
        · rcases this with rfl | rfl | rfl | rfl <;> exact absurd z (by decide)
        · rcases this with rfl | rfl | rfl | rfl
          · exact ⟨fun _ => GV.r (stop hs (Or.inl rfl)), fun z => absurd rfl z⟩
          · exact ⟨fun z => absurd z (by decide), fun _ => ⟨fun _ => GV.r (stop hs (Or.inr rfl)), fun z => absurd rfl z⟩⟩
          · exact ⟨fun z => absurd z (by decide), fun _ => ⟨fun z => absurd z (by decide), fun _ s6 e6 => ⟨fun z => absurd z (by decide), fun _ => ⟨fun z => absurd z (by decide), fun _ => ⟨fun _ => go (by omega) s6 e6 4 rfl, fun z => absurd rfl z⟩⟩⟩⟩⟩
          · exact ⟨fun z => absurd z (by decide), fun _ => ⟨fun z => absurd z (by decide), fun _ s6 e6 => ⟨fun z => absurd z (by decide), fun _ => ⟨fun z => absurd z (by decide), fun _ => ⟨fun z => absurd z (by decide), fun _ => go (by omega) s6 e6 5 rfl⟩⟩⟩⟩⟩
      · subst hx
        have ns : ¬ st = true := by rw [hs]; decide
        refine ⟨fun z => ?_, fun _ => ⟨fun _ s1 e1 => ?_, fun z => absurd rfl z⟩⟩
        · rcases this with rfl | rfl | rfl | rfl <;> exact absurd z (by decide)
        · rcases this with rfl | rfl | rfl | rfl
          · exact ⟨fun _ => go (fun y => y.elim (by omega) (fun y => ns y.1)) s1 e1 2 rfl, fun z => absurd rfl z⟩
          · exact ⟨fun z => absurd z (by decide), fun _ => ⟨fun _ => go (fun y => y.elim (by omega) (fun y => ns y.1)) s1 e1 3 rfl, fun z => absurd rfl z⟩⟩
          · exact ⟨fun z => absurd z (by decide), fun _ => ⟨fun z => absurd z (by decide), fun _ => ⟨fun _ => go (fun y => y.elim (by omega) (fun y => ns y.1)) s1 e1 4 rfl, fun z => absurd rfl z⟩⟩⟩
          · exact ⟨fun z => absurd z (by decide), fun _ => ⟨fun z => absurd z (by decide), fun _ => ⟨fun z => absurd z (by decide), fun _ => go (fun y => y.elim (by omega) (fun y => ns y.1)) s1 e1 5 rfl⟩⟩⟩
theorem f_M_out {R : MS → Prop} {st : Bool} {x : Int32} {r : Nat} {W : List Nat} {C : Cd} (hS : SX g) (h8 : hi ≤ 840) (hx : (st = true ∧ x = 1) ∨ (st = false ∧ x = 0)) (hY : RY c0 W C s) (hk : okL r W) (hl : W.length ≤ 31) (h4 : c0 + C.length + oW W ≤ hi) (h : ∀ v, RY c0 (yF st W C).1 (yF st W C).2 v → FRy c0 hi s v → FRz s v → R v) : GV E m_Mo_comesOut [.ref 120, .int x] g s R :=
  v_Mo_comesOut (Q := qV g R) _ hS (l_M_out (s := s) hS h8 hx W C r s hY hk hl h4 (FRy.rf c0 hi s) (fun _ _ _ => rfl) h)
theorem rk_var : ∀ k, k < 33 → ((rk k < 33 ∨ 39 < rk k) ↔ ¬ (17 ≤ k ∧ k ≤ 23)) ∧ (17 ≤ k ∧ k ≤ 23 → nI (rk k) - 33 = nI (k - 17)) := by decide +kernel
theorem f_M_unit {R : MS → Prop} {W : List Nat} {C : Cd} {q : Nat × Nat} (hS : SX g) (h8 : hi ≤ 840) (hT : TkR T L M s) (hq : RQ T L M q s) (hY : RY c0 W C s) (hb : c0 + C.length < hi) (h : ∀ u C', RQ T L M (gp (decide (kK T L M q.1 = 3 ∨ (17 ≤ kK T L M q.1 ∧ kK T L M q.1 ≤ 23))) true q) u → FRy c0 hi s u → RY c0 W C' u → C'.length ≤ C.length + 1 → u.1 120 12 = s.1 120 12 → (uK (kK T L M q.1) → q.2 = 0 → C' = C ++ [uC (kK T L M) (vV T L) q.1]) → R u) : GV E m_Mo_unit [.ref 120] g s R := by
  have q5 := hq.2.2.2.2.1
  have q6 := hq.2.2.2.2.2.1
  have q7 := hq.2.2.2.2.2.2
  have kl := kK_lt T L M q.1
  have rl := rk_lt _ kl
  obtain ⟨rv1, rv2⟩ := rk_var _ kl
  refine v_Mo_unit (Q := qV g R) hS ?_
  have bad : (q.2 ≠ 0 ∨ ¬ uK (kK T L M q.1)) → GV E m_Mo_fail [.ref 120, .int 1] g s (fun t => qV g R none (mk g t)) := fun w =>
    f_M_fail (c := 1) rfl (Or.inl rfl) hS hT hq (fun u u1 u2 => GV.r (h u C ?_ u2.y (hY.p u2) (by omega) (u2.2.1 12 (by decide) (by decide) (by decide)) (fun w1 w2 => absurd w1 (w.resolve_left (fun y => y w2)))))
  rotate_left
  · unfold gp
    by_cases y : q.2 = 0
    · have nu : ¬ (kK T L M q.1 = 3 ∨ (17 ≤ kK T L M q.1 ∧ kK T L M q.1 ≤ 23)) := w.resolve_left (fun z => z y)
      rw [if_pos y] at u1
      rw [if_neg (fun z => z y), decide_eq_false nu, if_pos rfl]; exact u1
    · rw [if_neg y] at u1
      rw [if_pos y]; exact u1
  refine f_M_is (κ := 3) rfl (by omega) hS hT hq (fun w => ⟨fun _ => ?_, fun y => absurd rfl y⟩) (fun w => ⟨fun y => absurd y (by decide), fun _ => ?_⟩)
  · rw [hq.1]
    refine pk_eq q.2 0 (fun z => ?_) (fun z => bad (Or.inl z)) rfl rfl (by omega) (by omega)
    have n3 : ¬ kK T L M q.1 = 3 := fun y => w ⟨z, y⟩
    rw [hq.2.1 z, tn_n (by omega), (hT.k q5 q6).1]
    refine ⟨vp_in_nI (by omega) (by omega), pk_lt _ 33 (fun y => bad (Or.inr ?_)) (fun y => pk_lt 39 _ (fun y2 => bad (Or.inr ?_)) (fun y2 => ?_) rfl rfl (by omega) (by omega)) rfl rfl (by omega) (by omega)⟩
    · exact fun u => u.elim n3 (rv1.mp (Or.inl y))
    · exact fun u => u.elim n3 (rv1.mp (Or.inr y2))
    · have k17 : 17 ≤ kK T L M q.1 ∧ kK T L M q.1 ≤ 23 := by
        by_cases k : 17 ≤ kK T L M q.1 ∧ kK T L M q.1 ≤ 23
        · exact k
        · have := rv1.mpr k; omega
      refine f_M_emit (k := 1) (v := kK T L M q.1 - 17) rfl (rv2 k17) hS hY hb h8 (fun u u1 u2 u3 => f_M_goesOn hS (hT.y u2) (hq.sl (u3 11 (by decide)) (u3 13 (by decide)) (u3 14 (by decide))) (fun _ => by omega) (fun v v1 v2 => GV.r (h v _ ?_ (u2.tr v2.y) (u1.p v2) ?_ ?_ (fun _ _ => ?_))))
      · rw [decide_eq_true (Or.inr k17)]; exact v1
      · rw [List.length_append]; exact Nat.le_refl _
      · rw [v2.2.1 12 (by decide) (by decide) (by decide), u3 12 (by decide)]
      · unfold uC; rw [if_neg n3]
  · obtain ⟨z, k3⟩ := w
    obtain ⟨jm, kk⟩ := kK_m k3 (by omega)
    have ev : s.1 125 q.1 = nI (vV T L q.1) := (hT.2.1 q.1 jm).2.2.2.1 kk
    rw [hq.2.1 z, tn_n (by omega), ev]
    refine ⟨vp_in_nI (by omega) (by omega), f_M_emit (k := 0) (v := vV T L q.1) rfl rfl hS hY hb h8 (fun u u1 u2 u3 => f_M_goesOn hS (hT.y u2) (hq.sl (u3 11 (by decide)) (u3 13 (by decide)) (u3 14 (by decide))) (fun _ => by omega) (fun v v1 v2 => GV.r (h v _ ?_ (u2.tr v2.y) (u1.p v2) ?_ ?_ (fun _ _ => ?_))))⟩
    · rw [decide_eq_true (Or.inl k3)]; exact v1
    · rw [List.length_append]; exact Nat.le_refl _
    · rw [v2.2.1 12 (by decide) (by decide) (by decide), u3 12 (by decide)]
    · unfold uC; rw [if_pos k3]
end RYard
