/-! NAMES AND NUMBERS: bounded and notes of the reference; takeNumber, takeName, takeNewName of the class -/
section Take
variable {E : EN} {g : GS} {s : MS} {T : Nat → Nat} {L M : Nat}
theorem f_M_bounded {R : Int32 → MS → Prop} {q : Nat × Nat} {lo hi : Nat} {b : Option (Nat × Nat)} {x1 x2 : Int32} (e1 : x1 = nI lo) (e2 : x2 = nI hi) (hlo : lo ≤ 1) (hhi : hi ≤ 9999) (hL : L ≤ 2000) (hS : SX g) (hT : TkR T L M s) (hq : RQ T L M q s) (hw : WQ T L M b s) (hb : q.2 = 0 → BE b q.1)
    (h : ∀ y b' u, RQ T L M (gk (kK T L M) 3 q) u → FRq s u → WQ T L M b' u → (b ≠ none → b' = b) → ((gk (kK T L M) 3 q).2 = 0 → y = nI (vV T L q.1) ∧ (b = none → b' = if lo ≤ vV T L q.1 ∧ vV T L q.1 ≤ hi then none else some (5, q.1))) → R y u) : GI E m_Mo_bounded [.ref 120, .int x1, .int x2] g s R := by
  have q7 := hq.2.2.2.2.2.2
  have q5 := hq.2.2.2.2.1
  refine v_Mo_bounded (Q := qI g R) _ _ hS ?_
  rw [hq.1, e1, e2]
  have bad : q.2 ≠ 0 ∨ ¬ kK T L M q.1 = 3 → GV E m_Mo_fail [.ref 120, .int 1] g s (fun t1_ => qI g R (some (.int (nI lo))) (mk g t1_)) := fun w =>
    f_M_fail (c := 1) rfl (Or.inl rfl) hS hT hq (fun u u1 u2 => by
      have eq : gk (kK T L M) 3 q = if q.2 = 0 then (q.1, 1) else q := by
        unfold gk gp
        by_cases y : q.2 = 0
        · rw [if_neg (fun w => w y), if_pos y, decide_eq_false (w.resolve_left (fun z => z y)), if_pos rfl]
        · rw [if_pos y, if_neg y]
      have nz : (gk (kK T L M) 3 q).2 ≠ 0 := by
        rw [eq]
        split
        · show (1 : Nat) ≠ 0; omega
        · rename_i y; exact y
      exact GI.r (h _ b u (by rw [eq]; exact u1) u2.q (hw.p u2) (fun _ => rfl) (fun y => absurd y nz)))
  refine pk_lt 0 q.2 (fun z => bad (Or.inl (by omega))) (fun z => ?_)
  have z0 : q.2 = 0 := by omega
  refine f_M_is (κ := 3) rfl (by omega) hS hT hq (fun w => ⟨fun _ => bad (Or.inr fun y => w ⟨z0, y⟩), fun y => absurd rfl y⟩) (fun w => ⟨fun y => absurd y (by decide), fun _ => ?_⟩)
  obtain ⟨jm, kk⟩ := kK_m w.2 (by omega)
  have v4 : vV T L q.1 ≤ 9999 := tkV_4 kk
  have ev : s.1 125 q.1 = nI (vV T L q.1) := (hT.2.1 q.1 jm).2.2.2.1 kk
  rw [hq.2.1 z0, tn_n (by omega), ev]
  have ge : gk (kK T L M) 3 q = gp true true q := by unfold gk; rw [decide_eq_true w.2]
  have wr : ¬ (lo ≤ vV T L q.1 ∧ vV T L q.1 ≤ hi) → GV E m_Mo_wrong [.ref 120, .int 5, .int (nI q.1)] g s (fun t4_ => GV E m_Mo_goesOn [.ref 120] g t4_ (fun t5_ => qI g R (some (.int (nI (vV T L q.1)))) (mk g t5_))) := fun nb =>
    f_M_wrong (c := 5) rfl rfl (by omega) jm q5 hL hS hT hq hw (fun _ c' j' e => Or.inl (hb z0 c' j' e)) (fun u u1 u2 => f_M_goesOn hS (hT.w u2) (hq.w u2) (fun _ => by rw [w.2]; decide) (fun v v1 v2 => by
      rw [if_pos z0] at u1
      refine GI.r (h _ _ v (by rw [ge]; exact v1) (u2.q.tr v2.q) (u1.p v2) (fun y => ?_) (fun _ => ⟨rfl, fun y => ?_⟩))
      · cases b with
        | none => exact absurd rfl y
        | some x => rfl
      · rw [y, if_neg nb]; rfl))
  exact ⟨vp_in_nI (by omega) (by omega), pk_lt _ lo (fun y => wr (by omega)) (fun y => pk_le _ hi (fun y2 => f_M_goesOn hS hT hq (fun _ => by rw [w.2]; decide) (fun v v1 v2 => GI.r (h _ b v (by rw [ge]; exact v1) v2.q (hw.p v2) (fun _ => rfl) (fun _ => ⟨rfl, fun y3 => by rw [y3, if_pos ⟨y, y2⟩]⟩)))) (fun y2 => wr (by omega)) rfl rfl (by omega) (by omega)) rfl rfl (by omega) (by omega)⟩
/-- a name noted by the reference -/
theorem f_M_notes {R : MS → Prop} {j sort idx n : Nat} {x1 x2 x3 : Int32} (e1 : x1 = nI j) (e2 : x2 = nI sort) (e3 : x3 = nI idx) (hj : j < M) (hj4 : j ≤ 400) (hk : tkK T L (bp T L j) = 2) (hs : sort < 3) (hS : SX g) (hT : TkR T L M s) (hn : s.1 120 20 = nI n) (n20 : n < 20)
    (h : ∀ u, u.1 120 20 = nI (n + 1) → (∀ nl, NQ nl s → nl.length = n → NQ (nl ++ [(vV T L j, sort, idx)]) u) → (∀ a, a ≠ 120 → a ≠ 129 → a ≠ 130 → u.1 a = s.1 a) → (∀ i, i ≠ 20 → u.1 120 i = s.1 120 i) → (∀ a, a ≠ 128 → u.2 a = s.2 a) → R u) : GV E m_Mo_notes [.ref 120, .int x1, .int x2, .int x3] g s R := by
  refine v_Mo_notes (Q := qV g R) _ _ _ hS ?_
  have ev : s.2 126 j = lN (vV T L j) := (hT.2.1 j hj).2.2.2.2 hk
  rw [hn, e1, e2, e3, tn_n (by omega), tn_n (by omega), ev, nI_1 n]
  refine ⟨vp_in_nI (by omega) (by omega), vp_in_nI (by omega) (by omega), fun s1 f1 s2 f2 s3 f3 s4 f4 => GV.r (h s4 ?_ ?_ ?_ ?_ ?_)⟩
  · rw [f4, wi_s, upd_s]
  · intro nl hnl hl i hi
    have a2 : s4.2 128 = vp_updL (s.2 128) n (lN (vV T L j)) := by rw [f4, wi_2, f3, wi_2, f2, wi_2, f1, wl_s]
    have a3 : s4.1 129 = upd (s.1 129) n (nI sort) := by rw [f4, wi_n _ _ _ (by decide), f3, wi_n _ _ _ (by decide), f2, wi_s, f1, wl_1]
    have a4 : s4.1 130 = upd (s.1 130) n (nI idx) := by rw [f4, wi_n _ _ _ (by decide), f3, wi_s, f2, wi_n _ _ _ (by decide), f1, wl_1]
    rw [a2, a3, a4]
    by_cases z : i = n
    · subst z
      have ge : (nl ++ [(vV T L j, sort, idx)])[i] = (vV T L j, sort, idx) := by
        rw [List.getElem_append_right (by omega)]; simp [hl]
      rw [ge, updL_s, upd_s, upd_s]
      exact ⟨rfl, tkV_63 _ _ _, rfl, hs, rfl⟩
    · have hi' : i < nl.length := by simp at hi; omega
      have ge : (nl ++ [(vV T L j, sort, idx)])[i] = nl[i] := List.getElem_append_left hi'
      rw [ge, updL_n _ _ z, upd_n _ _ z, upd_n _ _ z]; exact hnl i hi'
  · intro a h1 h2 h3
    rw [f4, wi_n _ _ _ h1, f3, wi_n _ _ _ h3, f2, wi_n _ _ _ h2, f1, wl_1]
  · intro i hi
    rw [f4, wi_s, upd_n _ _ hi, f3, wi_n _ _ _ (by decide), f2, wi_n _ _ _ (by decide), f1, wl_1]
  · intro a ha
    rw [f4, wi_2, f3, wi_2, f2, wi_2, f1, wl_n _ _ _ ha]
/-- the class's teller: where it is, its fault; its names -/
def LQ (a f : Nat) (s : MS) : Prop := s.1 24 6 = nI a ∧ s.1 24 7 = nI f ∧ f ≤ 5 ∧ a ≤ 401
def NCl (nl : NL) (s : MS) : Prop := s.1 24 3 = nI nl.length ∧ nl.length ≤ 20 ∧ ∀ i, (h : i < nl.length) → s.2 25 i = lN nl[i].1 ∧ nl[i].1 < 2 ^ 63 ∧ s.1 26 i = nI (4 + nl[i].2.1) ∧ nl[i].2.1 < 3 ∧ s.1 27 i = nI nl[i].2.2
def FTa (s u : MS) : Prop := (∀ a, a ≠ 24 → u.1 a = s.1 a) ∧ (∀ j, j ≠ 6 → j ≠ 7 → u.1 24 j = s.1 24 j) ∧ u.2 = s.2
theorem FTa.rf (s : MS) : FTa s s := ⟨fun _ _ => rfl, fun _ _ _ => rfl, rfl⟩
theorem FTa.tr {s u v : MS} (h : FTa s u) (k : FTa u v) : FTa s v := ⟨fun a ha => (k.1 a ha).trans (h.1 a ha), fun j h1 h2 => (k.2.1 j h1 h2).trans (h.2.1 j h1 h2), k.2.2.trans h.2.2⟩
theorem FTa.w {j : Nat} {v : Int32} (h : j = 6 ∨ j = 7) : FTa s (wi s 24 j v) := ⟨fun a ha => wi_n _ _ _ ha, fun i h1 h2 => by rw [wi_s, upd_n _ _ (by omega)], wi_2 _ _ _ _⟩
theorem LQ.w6 {a f : Nat} (h : LQ a f s) {a' : Nat} (ha : a' ≤ 401) : LQ a' f (wi s 24 6 (nI a')) := ⟨by rw [wi_s, upd_s], by rw [wi_s, upd_n _ _ (by decide)]; exact h.2.1, h.2.2.1, ha⟩
theorem LQ.w7 {a f : Nat} (h : LQ a f s) {f' : Nat} (hf : f' ≤ 5) : LQ a f' (wi s 24 7 (nI f')) := ⟨by rw [wi_s, upd_n _ _ (by decide)]; exact h.1, by rw [wi_s, upd_s], hf, h.2.2.2⟩
theorem f_L_number {R : Int32 → MS → Prop} {a f lo hi : Nat} {x1 x2 : Int32} (e1 : x1 = nI lo) (e2 : x2 = nI hi) (hlo : lo ≤ 1) (hhi : hi ≤ 9999) (hS : SX g) (hy : g.2.2 24 4 = some 18) (hT : TkC T L M s) (hq : LQ a f s) (hk : f = 0 → kK T L M a = 3) (h : ∀ y a' f' u, LQ a' f' u → FTa s u → (f ≠ 0 → a' = a ∧ f' = f ∧ y = 0) → (f = 0 → if lo ≤ vV T L a ∧ vV T L a ≤ hi then a' = a + 1 ∧ f' = 0 ∧ y = nI (vV T L a) else a' = a ∧ f' = 5 ∧ y = 0) → R y u) : GI E m_Teller_takeNumber [.ref 24, .int x1, .int x2] g s R := by
  refine v_Teller_takeNumber (Q := qI g R) _ _ hS hy ?_
  have f5 := hq.2.2.1
  rw [hq.2.1, hq.1, hT.1, e1, e2]
  refine pk_eq f 0 (fun z => ?_) (fun z => GI.r (h 0 a f s hq (FTa.rf s) (fun _ => ⟨rfl, rfl, rfl⟩) (fun w => absurd w z)))
  subst z
  obtain ⟨jm, kk⟩ := kK_m (hk rfl) (by omega)
  have m4 := hT.2.1
  have v4 : vV T L a ≤ 9999 := tkV_4 kk
  have ev : s.2 21 a = lN (vV T L a) := (hT.2.2.1 a jm).2.2.2
  refine pk_lt a M (fun _ => ?_) (fun w => absurd w (by omega))
  rw [tn_n (by omega), ev, lN_i, nI_1 a]
  have bad : ¬ (lo ≤ vV T L a ∧ vV T L a ≤ hi) → ∀ s1, s1 = wi s 24 7 5 → qI g R (some (.int 0)) (mk g s1) := fun nb s1 es => by
    rw [es]
    exact GI.r (h 0 a 5 _ (hq.w7 (by omega)) (FTa.w (by omega)) (fun w => absurd rfl w) (fun _ => by rw [if_neg nb]; exact ⟨rfl, rfl, rfl⟩))
  refine ⟨vp_in_nI (by omega) (by omega), pk_lt _ lo (fun w => bad (by omega)) (fun w => pk_le _ hi (fun w2 s2 es => ?_) (fun w2 => bad (by omega)) rfl rfl (by omega) (by omega)) rfl rfl (by omega) (by omega)⟩
  rw [es]
  exact GI.r (h _ (a + 1) 0 _ (hq.w6 (by omega)) (FTa.w (by omega)) (fun w => absurd rfl w) (fun _ => by rw [if_pos ⟨w, w2⟩]; exact ⟨rfl, rfl, rfl⟩))
theorem f_L_name {R : Int32 → MS → Prop} {a f sort : Nat} {nl : NL} {x1 : Int32} (e1 : x1 = nI (4 + sort)) (hs : sort < 3) (hS : SX g) (hy : g.2.2 24 4 = some 18) (hT : TkC T L M s) (hq : LQ a f s) (hk : f = 0 → kK T L M a = 2) (hN : f = 0 → NCl nl s) (h : ∀ y a' f' u, LQ a' f' u → FTa s u → (f ≠ 0 → a' = a ∧ f' = f ∧ y = 0) → (f = 0 → (∀ i, nlF (vV T L a) sort nl = some i → a' = a + 1 ∧ f' = 0 ∧ y = nI i) ∧ (nlF (vV T L a) sort nl = none → a' = a ∧ f' = 4 ∧ y = 0)) → R y u) : GI E m_Teller_takeName [.ref 24, .int x1] g s R := by
  refine v_Teller_takeName (Q := qI g R) _ hS hy ?_
  have f5 := hq.2.2.1
  rw [hq.2.1, hq.1, hT.1, e1]
  refine pk_eq f 0 (fun z => ?_) (fun z => GI.r (h 0 a f s hq (FTa.rf s) (fun _ => ⟨rfl, rfl, rfl⟩) (fun w => absurd w z)))
  subst z
  obtain ⟨jm, kk⟩ := kK_m (hk rfl) (by omega)
  obtain ⟨n1, n2, n3⟩ := hN rfl
  have m4 := hT.2.1
  have v63 : vV T L a < 2 ^ 63 := tkV_63 _ _ _
  have ev : s.2 21 a = lN (vV T L a) := (hT.2.2.1 a jm).2.2.2
  refine pk_lt a M (fun _ => ?_) (fun w => absurd w (by omega))
  refine upto (P := fun i => nlF (vV T L a) sort nl = nlF (vV T L a) sort (nl.drop i) → AWP E m_Teller_takeName 25 0 0 [(0, .ref 24), (1, .int (nI (4 + sort))), (2, .int (nI i))] [] (mk g s) (qI g R)) nl.length ?_ ?_ 0 (Nat.zero_le _) rfl
  · intro e
    refine v_Teller_takeName_25 _ _ hS hy ?_
    rw [n1]
    refine pk_le nl.length nl.length (fun _ s1 es => ?_) (fun w => absurd w (by omega))
    rw [es]
    rw [List.drop_length, nlF] at e
    exact GI.r (h 0 a 4 _ (hq.w7 (by omega)) (FTa.w (by omega)) (fun w => absurd rfl w) (fun _ => ⟨fun i ei => by rw [e] at ei; exact absurd ei (by simp), fun _ => ⟨rfl, rfl, rfl⟩⟩))
  · intro i hi ih e
    obtain ⟨b1, b2, b3, b4, b5⟩ := n3 i hi
    refine v_Teller_takeName_25 _ _ hS hy ?_
    rw [n1, tn_n (by omega), hq.1, tn_n (by omega), ev, b1, b3, b5, nI_1 i, nI_1 a]
    rw [nlF_step hi] at e
    refine pk_le nl.length i (fun w => absurd w (by omega)) (fun _ => ⟨vp_in_nI (by omega) (by omega), vp_in_nI (by omega) (by omega), fun w => pk_eq (4 + nl[i].2.1) (4 + sort) (fun w2 s2 es => ?_) (fun w2 => ih ?_), fun w => ih ?_⟩)
    · have x1 : nl[i].1 = vV T L a := (lN_eq' b2 v63).mp ((lg_cmp_eq _ _).mp w)
      rw [if_pos ⟨x1, by omega⟩] at e
      rw [es]
      refine GI.r (h _ (a + 1) 0 _ (hq.w6 (by omega)) (FTa.w (by omega)) (fun w => absurd rfl w) (fun _ => ⟨fun k ek => ?_, fun ek => by rw [e] at ek; exact absurd ek (by simp)⟩))
      rw [e] at ek
      injection ek with ek
      exact ⟨rfl, rfl, by rw [ek]⟩
    · rw [if_neg (fun y => w2 (by rw [y.2]))] at e; exact e
    · rw [if_neg (fun y => w ((lg_cmp_eq _ _).mpr (by rw [y.1])))] at e; exact e
end Take
