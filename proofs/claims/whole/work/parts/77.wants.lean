/-! WANTS, pure; the class's fillMerchant -/
def sW (T : Nat → Nat) (L : Nat) (K : Nat → Nat) (nl : NL) : Nat → Nat → (Nat → Nat) → (Nat × Nat) ⊕ (Nat → Nat)
  | 0, _, W => .inr W
  | m + 1, a, W => if ¬ K a = 2 then .inr W else match nlF (vV T L a) 0 nl with
    | none => .inl (4, a)
    | some g => if 0 < W g then .inl (3, a) else if ¬ (1 ≤ vV T L (a + 1) ∧ vV T L (a + 1) ≤ 9999) then .inl (5, a + 1) else sW T L K nl m (a + 2) (fun k => if k = g then vV T L (a + 1) else W k)
theorem sW_n {T : Nat → Nat} {L m a : Nat} {K : Nat → Nat} {nl : NL} {W : Nat → Nat} (k : K a = 2) (hf : nlF (vV T L a) 0 nl = none) : sW T L K nl (m + 1) a W = .inl (4, a) := by rw [sW, if_neg (fun w => w k), hf]
theorem sW_s {T : Nat → Nat} {L m a gi : Nat} {K : Nat → Nat} {nl : NL} {W : Nat → Nat} (k : K a = 2) (hf : nlF (vV T L a) 0 nl = some gi) : sW T L K nl (m + 1) a W = if 0 < W gi then .inl (3, a) else if ¬ (1 ≤ vV T L (a + 1) ∧ vV T L (a + 1) ≤ 9999) then .inl (5, a + 1) else sW T L K nl m (a + 2) (fun k => if k = gi then vV T L (a + 1) else W k) := by rw [sW, if_neg (fun w => w k), hf]
def wk (K : Nat → Nat) : Nat → Nat → Prop
  | 0, a => ¬ K a = 2
  | m + 1, a => K a = 2 → K (a + 1) = 3 ∧ wk K m (a + 2)
def wn (K : Nat → Nat) : Nat → Nat → Nat
  | 0, _ => 0
  | m + 1, a => if K a = 2 then wn K m (a + 2) + 1 else 0
def aMe (d : TD) (py : Int32) (W : Nat → Nat) : TD := (d.1, d.2.1, d.2.2.1, d.2.2.2.1, d.2.2.2.2.1, d.2.2.2.2.2.1, d.2.2.2.2.2.2.1, d.2.2.2.2.2.2.2.1, d.2.2.2.2.2.2.2.2.1 + 1, upd (dPy d) (dM d) py, fun m k => if m = dM d then nI (W k) else dWa d m k)
def sMer (T : Nat → Nat) (L : Nat) (K : Nat → Nat) (a : Nat) (d : TD) (nl : NL) : SR := if ¬ (0 ≤ vV T L a ∧ vV T L a ≤ 9999) then .inl (5, a) else match sW T L K nl 4 (a + 1) (fun _ => 0) with
  | .inl x => .inl x
  | .inr W => .inr (aMe d (nI (vV T L a)) W, nl)
theorem gp_ok {f r : Bool} {q : Nat × Nat} (h : (gp f r q).2 = 0) : q.2 = 0 ∧ f = true ∧ r = true ∧ q.1 < 400 ∧ gp f r q = (q.1 + 1, 0) := by
  unfold gp at h ⊢
  by_cases y : q.2 = 0
  · rw [if_neg (fun w => w y)] at h ⊢
    cases f with
    | false => rw [if_pos rfl] at h; exact absurd (show 1 = 0 from h) (by decide)
    | true =>
      rw [if_neg (by decide)] at h ⊢
      cases r with
      | false => rw [if_pos (Or.inl rfl)] at h; exact absurd (show 2 = 0 from h) (by decide)
      | true =>
        by_cases z : 400 ≤ q.1
        · rw [if_pos (Or.inr z)] at h; exact absurd (show 2 = 0 from h) (by decide)
        · rw [if_neg (fun w => w.elim (fun w => absurd w (by decide)) z)]
          exact ⟨y, rfl, rfl, by omega, rfl⟩
  · rw [if_pos y] at h; exact absurd h y
theorem gW_f {K : Nat → Nat} : ∀ (m : Nat) (q : Nat × Nat), q.2 ≠ 0 → gW K m q = q
  | 0, _, _ => rfl
  | m + 1, q, h => by rw [gW, if_neg (fun w => h w.1)]
theorem gW_ok {K : Nat → Nat} : ∀ (m : Nat) (q : Nat × Nat), (gW K (m + 1) q).2 = 0 → q.2 = 0 ∧ wk K m q.1 ∧ gW K (m + 1) q = (q.1 + 2 * wn K m q.1, 0)
  | m, q, h => by
    have z : q.2 = 0 := by
      by_cases z : q.2 = 0
      · exact z
      · rw [gW_f _ _ z] at h; exact h
    refine ⟨z, ?_⟩
    have qe : q = (q.1, 0) := by rw [← z]
    rw [gW] at h ⊢
    by_cases k : K q.1 = 2
    · rw [if_pos ⟨z, k⟩] at h ⊢
      cases m with
      | zero =>
        rw [gW] at h
        have := (gp_ok (gk_ok h).1).2.2.1
        exact absurd this (by decide)
      | succ m =>
        obtain ⟨a1, a2, a3⟩ := gW_ok m _ h
        obtain ⟨b1, b2, -, b4⟩ := gk_ok a1
        obtain ⟨-, -, -, -, c5⟩ := gp_ok b1
        rw [c5] at b2 b4
        rw [c5, b4] at a2 a3
        refine ⟨fun _ => ⟨b2, a2⟩, ?_⟩
        rw [c5, b4, a3, wn, if_pos k]
        show (q.1 + 1 + 1 + 2 * wn K m (q.1 + 1 + 1), 0) = (q.1 + 2 * (wn K m (q.1 + 2) + 1), 0)
        congr 1
        rw [show q.1 + 1 + 1 = q.1 + 2 by omega]; omega
    · rw [if_neg (fun w => k w.2)]
      refine ⟨?_, ?_⟩
      · cases m with
        | zero => exact k
        | succ m => exact fun w => absurd w k
      · have : wn K m q.1 = 0 := by
          cases m with
          | zero => rfl
          | succ m => rw [wn, if_neg k]
        rw [this]; exact qe
theorem gWants_ok {K : Nat → Nat} {q : Nat × Nat} (h : (gWants K q).2 = 0) : q.2 = 0 ∧ K q.1 = 3 ∧ gk K 3 q = (q.1 + 1, 0) ∧ wk K 4 (q.1 + 1) ∧ gW K 5 (q.1 + 1, 0) = (q.1 + 1 + 2 * wn K 4 (q.1 + 1), 0) ∧ K (q.1 + 1 + 2 * wn K 4 (q.1 + 1)) = 24 ∧ gWants K q = (q.1 + 1 + 2 * wn K 4 (q.1 + 1) + 1, 0) := by
  unfold gWants at h ⊢
  obtain ⟨a1, a2, -, a4⟩ := gk_ok h
  obtain ⟨b1, b2, b3⟩ := gW_ok 4 _ a1
  obtain ⟨c1, c2, -, c4⟩ := gk_ok b1
  rw [c4] at b2 b3
  rw [c4, b3] at a2 a4
  exact ⟨c1, c2, c4, b2, b3, a2, by rw [c4, b3]; exact a4⟩
theorem y6r (D k : Nat) : nI D * 6 + nI k = nI (6 * D + k) := by rw [show (6 : Int32) = nI 6 from rfl, pk_mul, nI_add, Nat.mul_comm]
section Wants
variable {E : EN} {g : GS} {s : MS} {T : Nat → Nat} {L M : Nat} {d : TD} {nl : NL} {t : Nat}
theorem f_Text_want {R : Int32 → MS → Prop} {D k : Nat} (hD : D < 5) (hk : k < 6) (hS : SX g) (et : t = 88 ∨ t = 104) (h : R (s.1 (t + 10) (6 * D + k)) s) : GI E m_Text_wantOf [.ref t, .int (nI D), .int (nI k)] g s R := by
  refine v_Text_wantOf (Q := qI g R) t _ _ hS et ?_
  rw [y6r, tn_n (by omega)]
  exact ⟨vp_in_nI (by omega) (by omega), GI.r h⟩
def MR (t D : Nat) (s v : MS) : Prop := FTl t s v ∧ (∀ j, (j < 6 * D ∨ 6 * D + 6 ≤ j) → v.1 (t + 10) j = s.1 (t + 10) j) ∧ (∀ x, t ≤ x → x < t + 14 → x ≠ t + 10 → v.1 x = s.1 x)
theorem MR.w {D k : Nat} {u : MS} {v : Int32} (h : MR t D s u) (hk : k < 6) : MR t D s (wi u (t + 10) (6 * D + k) v) := ⟨h.1.tr (FTl.w (by omega)), fun j hj => by rw [wi_s, upd_n _ _ (by omega)]; exact h.2.1 j hj, fun x h1 h2 h3 => by rw [wi_n _ _ _ h3]; exact h.2.2 x h1 h2 h3⟩
theorem MR.a {D : Nat} {u v : MS} (et : t = 88 ∨ t = 104) (h : MR t D s u) (k : FTa u v) : MR t D s v := ⟨h.1.tr k.l, fun j hj => by rw [k.1 _ (by omega)]; exact h.2.1 j hj, fun x h1 h2 h3 => by rw [k.1 _ (by omega)]; exact h.2.2 x h1 h2 h3⟩
theorem l_L_mer {R : MS → Prop} (hS : SX g) (et : t = 88 ∨ t = 104) (hy : g.2.2 24 4 = some 18) (hx : g.2.2 24 5 = some t) (hb6 : ∀ v i, nlF v 0 nl = some i → i < 6) {D : Nat} (hD : D < 5) (hD14 : s.1 t 14 = nI D) (hT : TkC T L M s) : ∀ (m i a : Nat) (W : Nat → Nat) (u : MS), i + m = 4 → LQ a 0 u → wk (kK T L M) m a → NCl nl u → MR t D s u → (∀ k, k < 6 → W k ≤ 9999) → (∀ k, k < 6 → u.1 (t + 10) (6 * D + k) = nI (W k)) →
    (∀ v w, MR t D s w → v = wi w t 14 (nI (D + 1)) → (match sW T L (kK T L M) nl m a W with
      | .inl x => LQ x.2 x.1 v ∧ x.1 ≠ 0
      | .inr W' => LQ (a + 2 * wn (kK T L M) m a) 0 v ∧ NCl nl v ∧ ∀ k, k < 6 → v.1 (t + 10) (6 * D + k) = nI (W' k)) → R v) → AWP E m_Teller_fillMerchant 33 0 0 [(0, .ref 24), (1, .int (nI D)), (2, .int (nI i))] [] (mk g u) (qV g R)
  | m, i, a, W, u, him, hq, hk, hN, hM, hW, hw, h => by
    have e14 : ∀ w, MR t D s w → w.1 t 14 = nI D := fun w k => by rw [k.2.2 t (by omega) (by omega) (by omega)]; exact hD14
    have L14 : ∀ w a f, LQ a f w → LQ a f (wi w t 14 (nI (D + 1))) := fun w a f k => k.mv (wi_n _ _ _ (by omega))
    have bad : ∀ (i' a' f' : Nat) (w : MS), i' ≤ 4 → f' ≠ 0 → LQ a' f' w → MR t D s w → (∀ v, v = wi w t 14 (nI (D + 1)) → R v) → AWP E m_Teller_fillMerchant 33 0 0 [(0, .ref 24), (1, .int (nI D)), (2, .int (nI i'))] [] (mk g w) (qV g R) := by
      intro i' a' f' w hi hf q k hr
      refine v_Teller_fillMerchant_33 _ _ t hS et hx hy ?_
      rw [q.2.1, e14 w k, nI_1 D]
      have f5 := q.2.2.1
      exact pk_le 4 i' (fun _ s1 e1 => GV.r (hr s1 e1)) (fun _ => pk_eq f' 0 (fun z => absurd z hf) (fun _ s1 e1 => GV.r (hr s1 e1)))
    have TU := hT.l et hM.1
    have aM := hq.2.2.2
    have ge : u.1 t 14 + 1 = nI (D + 1) := by rw [e14 u hM, nI_1]
    refine v_Teller_fillMerchant_33 _ _ t hS et hx hy ?_
    rw [ge]
    cases m with
    | zero =>
      refine pk_le 4 i (fun _ s1 e1 => GV.r (h s1 u hM e1 ?_)) (fun w => absurd w (by omega))
      rw [sW]
      rw [e1]
      exact ⟨L14 _ _ _ hq, hN.w (by omega), fun k hk => by rw [wi_n _ _ _ (by omega)]; exact hw k hk⟩
    | succ m =>
      refine pk_le 4 i (fun w => absurd w (by omega)) (fun _ => ⟨fun _ => ?_, fun w => absurd (by rw [hq.2.1]; rfl) w⟩)
      rw [hq.1]
      refine f_T_kindOf hS (by omega) TU ?_
      have kl := kK_lt T L M a
      rw [ge, nI_1 i]
      refine pk_eq (kK T L M a) 2 (fun k2 => ?_) (fun k2 s1 e1 => GV.r (h s1 u hM e1 ?_)) rfl rfl (by omega) (by omega)
      · obtain ⟨k3, hk'⟩ := hk k2
        refine f_L_name (sort := 0) (nl := nl) rfl (by omega) hS hy TU hq (fun _ => k2) (fun _ => hN) (fun y3 a3 f3 u3 p1 p2 _ p4 => ?_)
        have M3 := hM.a et p2
        obtain ⟨p5, p6⟩ := p4 rfl
        have TU3 := hT.l et M3.1
        cases hf : nlF (vV T L a) 0 nl with
        | none =>
          obtain ⟨r1, r2, r3⟩ := p6 hf
          rw [r1, r2] at p1
          rw [sW_n k2 hf] at h
          rw [p1.2.1]
          refine ⟨fun w => absurd w (by decide), fun _ => ?_⟩
          refine f_L_number (lo := 1) (hi := 9999) rfl rfl (by omega) (by omega) hS hy TU3 p1 (fun w => absurd w (by omega)) (fun y5 a5 f5 u5 c1 c2 c3 _ => ?_)
          obtain ⟨d1, d2, d3⟩ := c3 (by omega)
          rw [d1, d2] at c1
          have M5 := M3.a et c2
          rw [r3, show (0 : Int32) = nI 0 from rfl, y6r, tn_n (by omega)]
          refine ⟨vp_in_nI (by omega) (by omega), fun s6 e6 => ?_⟩
          have q6 : LQ a 4 s6 := c1.mv (by rw [e6, wi_n _ _ _ (by omega)])
          have M6 : MR t D s s6 := by rw [e6]; exact M5.w (by omega)
          exact bad (i + 1) a 4 s6 (by omega) (by omega) q6 M6 (fun v ev => h v s6 M6 ev ⟨by rw [ev]; exact L14 _ _ _ q6, by show (4 : Nat) ≠ 0; omega⟩)
        | some gi =>
          obtain ⟨r1, r2, r3⟩ := p5 gi hf
          rw [r1, r2] at p1
          rw [sW_s k2 hf] at h
          have g6 := hb6 _ _ hf
          rw [p1.2.1, r3]
          refine ⟨fun _ => ?_, fun w => absurd rfl w⟩
          refine f_Text_want hD g6 hS et ?_
          have ew : u3.1 (t + 10) (6 * D + gi) = nI (W gi) := by rw [p2.1 _ (by omega)]; exact hw gi g6
          have w9 := hW gi g6
          rw [ew, y6r, tn_n (by omega)]
          refine pk_le (W gi) 0 (fun z => ?_) (fun z s7 e7 s8 e8 => ?_)
          · rw [if_neg (show ¬ 0 < W gi by omega)] at h
            refine f_L_number (lo := 1) (hi := 9999) rfl rfl (by omega) (by omega) hS hy TU3 p1 (fun _ => k3) (fun y5 a5 f5 u5 c1 c2 _ c4 => ⟨vp_in_nI (by omega) (by omega), fun s6 e6 => ?_⟩)
            have c4 := c4 rfl
            have M5 := M3.a et c2
            have M6 : MR t D s s6 := by rw [e6]; exact M5.w (by omega)
            by_cases r : 1 ≤ vV T L (a + 1) ∧ vV T L (a + 1) ≤ 9999
            · rw [if_pos r] at c4
              rw [if_neg (fun w => w r)] at h
              obtain ⟨d1, d2, d3⟩ := c4
              rw [d1, d2] at c1
              refine l_L_mer hS et hy hx hb6 hD hD14 hT m (i + 1) (a + 1 + 1) (fun k => if k = gi then vV T L (a + 1) else W k) s6 (by omega) (c1.mv (by rw [e6, wi_n _ _ _ (by omega)])) hk' (by rw [e6]; exact ((hN.a p2).a c2).w (by omega)) M6 (fun k hk => ?_) (fun k hk => ?_) (fun v w hw' ev hh => h v w hw' ev ?_)
              · show (if k = gi then vV T L (a + 1) else W k) ≤ 9999
                split
                · exact r.2
                · exact hW k hk
              · rw [e6, wi_s]
                show upd _ _ _ _ = nI (if k = gi then vV T L (a + 1) else W k)
                by_cases e : k = gi
                · rw [e, upd_s, if_pos rfl, d3]
                · rw [upd_n _ _ (by omega), if_neg e, c2.1 _ (by omega), p2.1 _ (by omega)]; exact hw k hk
              · rw [wn, if_pos k2]
                show match sW T L (kK T L M) nl m (a + 2) (fun k => if k = gi then vV T L (a + 1) else W k) with
                  | .inl x => LQ x.2 x.1 v ∧ x.1 ≠ 0
                  | .inr W' => LQ (a + 2 * (wn (kK T L M) m (a + 2) + 1)) 0 v ∧ NCl nl v ∧ ∀ k, k < 6 → v.1 (t + 10) (6 * D + k) = nI (W' k)
                rw [show a + 2 * (wn (kK T L M) m (a + 2) + 1) = a + 1 + 1 + 2 * wn (kK T L M) m (a + 1 + 1) by rw [show a + 1 + 1 = a + 2 by omega]; omega]
                exact hh
            · rw [if_neg r] at c4
              rw [if_pos r] at h
              obtain ⟨d1, d2, d3⟩ := c4
              rw [d1, d2] at c1
              have q6 : LQ (a + 1) 5 s6 := c1.mv (by rw [e6, wi_n _ _ _ (by omega)])
              exact bad (i + 1) (a + 1) 5 s6 (by omega) (by omega) q6 M6 (fun v ev => h v s6 M6 ev ⟨by rw [ev]; exact L14 _ _ _ q6, by show (5 : Nat) ≠ 0; omega⟩)
          · rw [if_pos z] at h
            have q7 : LQ a 0 s7 := ⟨by rw [e7, wi_s, upd_s]; exact hq.1, by rw [e7, wi_s, upd_n _ _ (by decide)]; exact p1.2.1, by omega, aM⟩
            have q8 : LQ a 3 s8 := by rw [e8]; exact q7.w7 (by omega)
            have F8 : FTa u3 s8 := by rw [e8, e7]; exact (FTa.w (by omega)).tr (FTa.w (by omega))
            have M8 := M3.a et F8
            refine f_L_number (lo := 1) (hi := 9999) rfl rfl (by omega) (by omega) hS hy (hT.l et M8.1) q8 (fun w => absurd w (by omega)) (fun y9 a9 f9 u9 c1 c2 c3 _ => ⟨vp_in_nI (by omega) (by omega), fun s10 e10 => ?_⟩)
            obtain ⟨d1, d2, d3⟩ := c3 (by omega)
            rw [d1, d2] at c1
            have M9 := M8.a et c2
            have M10 : MR t D s s10 := by rw [e10]; exact M9.w (by omega)
            have q10 : LQ a 3 s10 := c1.mv (by rw [e10, wi_n _ _ _ (by omega)])
            exact bad (i + 1) a 3 s10 (by omega) (by omega) q10 M10 (fun v ev => h v s10 M10 ev ⟨by rw [ev]; exact L14 _ _ _ q10, by show (3 : Nat) ≠ 0; omega⟩)
      · rw [sW, if_pos k2, wn, if_neg k2, e1]
        exact ⟨L14 _ _ _ hq, hN.w (by omega), fun k hk => by rw [wi_n _ _ _ (by omega)]; exact hw k hk⟩
theorem TCf.me {u : MS} {py : Int32} {W : Nat → Nat} (m5 : dM d < 5) (h : TCf d t s) (a : u.1 t 14 = nI (dM d + 1)) (b : ∀ j, j ≠ 14 → u.1 t j = s.1 t j) (c : u.1 (t + 9) = upd (s.1 (t + 9)) (dM d) py) (e1 : ∀ j, (j < 6 * dM d ∨ 6 * dM d + 6 ≤ j) → u.1 (t + 10) j = s.1 (t + 10) j) (e2 : ∀ k, k < 6 → u.1 (t + 10) (6 * dM d + k) = nI (W k)) (f : ∀ x, t + 1 ≤ x → x < t + 14 → x ≠ t + 9 → x ≠ t + 10 → u.1 x = s.1 x) (g6 : nG d ≤ 6) : TCf (aMe d py W) t u := by
  obtain ⟨⟨h1, h2, h3, h4, h5', h6', h7, h8, h9, h10, h11, h12⟩, hw⟩ := h
  have tab : ∀ m k, m < 5 → k < 6 → u.1 (t + 10) (6 * m + k) = if m < dM d + 1 then (if m = dM d then nI (W k) else dWa d m k) else 0 := fun m k hm hk => by
    by_cases z : m = dM d
    · rw [if_pos (by omega), if_pos z, z]; exact e2 k hk
    · rw [if_neg z, e1 _ (by omega), hw m k hm hk]
      by_cases y : m < dM d
      · rw [if_pos y, if_pos (by omega)]
      · rw [if_neg y, if_neg (by omega)]
  refine ⟨⟨?_, ?_, ?_, a, ?_, ?_, ?_, fun j hj => ?_, fun j hj => ?_, fun r hr => ?_, fun m hm => ⟨?_, fun k hk => ?_⟩, fun k hk => ?_⟩, tab⟩
  · rw [b 11 (by decide)]; exact h1
  · rw [b 12 (by decide)]; exact h2
  · rw [b 13 (by decide)]; exact h3
  · rw [b 15 (by decide)]; exact h5'
  · rw [b 16 (by decide)]; exact h6'
  · rw [b 17 (by decide)]; exact h7
  · rw [f (t + 1) (by omega) (by omega) (by omega) (by omega), f (t + 2) (by omega) (by omega) (by omega) (by omega)]; exact h8 j hj
  · rw [f (t + 3) (by omega) (by omega) (by omega) (by omega), f (t + 4) (by omega) (by omega) (by omega) (by omega)]; exact h9 j hj
  · rw [f (t + 5) (by omega) (by omega) (by omega) (by omega), f (t + 6) (by omega) (by omega) (by omega) (by omega), f (t + 7) (by omega) (by omega) (by omega) (by omega), f (t + 8) (by omega) (by omega) (by omega) (by omega)]; exact h10 r hr
  · have hm' : m < dM d + 1 := hm
    show u.1 (t + 9) m = upd (dPy d) (dM d) py m
    rw [c]
    by_cases z : m = dM d
    · rw [z, upd_s, upd_s]
    · rw [upd_n _ _ z, upd_n _ _ z]; exact (h11 m (by omega)).1
  · have hm' : m < dM d + 1 := hm
    have hk' : k < nG d := hk
    rw [tab m k (by omega) (by omega), if_pos hm']; rfl
  · exact (h12 k hk).mv (f (t + 11) (by omega) (by omega) (by omega) (by omega)) (f (t + 11 + 1) (by omega) (by omega) (by omega) (by omega)) (f (t + 11 + 2) (by omega) (by omega) (by omega) (by omega))
theorem f_L_mer {R : MS → Prop} {a : Nat} (hS : SX g) (et : t = 88 ∨ t = 104) (hy : g.2.2 24 4 = some 18) (hx : g.2.2 24 5 = some t) (hT : TkC T L M s) (hq : LQ a 0 s) (k1 : kK T L M a = 3) (hk : wk (kK T L M) 4 (a + 1)) (hN : NCl nl s) (hb6 : ∀ v i, nlF v 0 nl = some i → i < 6) (m5 : dM d < 5) (g6 : nG d ≤ 6) (hC : TCf d t s)
    (h : ∀ u, FTl t s u → SRok t (a + 1 + 2 * wn (kK T L M) 4 (a + 1)) (sMer T L (kK T L M) a d nl) u → R u) : GV E m_Teller_fillMerchant [.ref 24] g s R := by
  have e14 : s.1 t 14 = nI (dM d) := hC.1.me
  refine v_Teller_fillMerchant (Q := qV g R) t hS et hx ?_
  rw [e14, tn_n (by omega)]
  refine pk_lt (dM d) 5 (fun _ => ?_) (fun w => absurd w (by omega))
  refine f_L_number (lo := 0) (hi := 9999) rfl rfl (by omega) (by omega) hS hy hT hq (fun _ => k1) (fun y1 a1 f1 u1 c1 c2 _ c4 => ⟨vp_in_nI (by omega) (by omega), fun s2 e2 => ?_⟩)
  have c4 := c4 rfl
  have F2 : FTl t s s2 := c2.l.tr (by rw [e2]; exact FTl.w (by omega))
  have q2 : LQ a1 f1 s2 := c1.mv (by rw [e2, wi_n _ _ _ (by omega)])
  have d14 : s2.1 t 14 = nI (dM d) := by rw [e2, wi_n _ _ _ (by omega), c2.1 t (by omega)]; exact e14
  by_cases r : 0 ≤ vV T L a ∧ vV T L a ≤ 9999
  · rw [if_pos r] at c4
    obtain ⟨d1, d2, d3⟩ := c4
    rw [d1, d2] at q2
    refine l_L_mer hS et hy hx hb6 m5 d14 (hT.l et F2) 4 0 (a + 1) (fun _ => 0) s2 (by omega) q2 hk (by rw [e2]; exact (hN.a c2).w (by omega)) ⟨FTl.rf t s2, fun _ _ => rfl, fun _ _ _ _ => rfl⟩ (fun _ _ => by omega) (fun k hk => ?_) (fun v w hM ev hh => h v (F2.tr (hM.1.tr (by rw [ev]; exact FTl.w (by omega)))) ?_)
    · rw [e2, wi_n _ _ _ (by omega), c2.1 _ (by omega), hC.2 (dM d) k (by omega) hk, if_neg (by omega)]; rfl
    · unfold sMer
      rw [if_neg (fun y => y r)]
      cases hs : sW T L (kK T L M) nl 4 (a + 1) (fun _ => 0) with
      | inl x => rw [hs] at hh; exact hh
      | inr W =>
        rw [hs] at hh
        obtain ⟨o1, o2, o3⟩ := hh
        have vt : ∀ x, t ≤ x → x < t + 14 → x ≠ t → x ≠ t + 9 → x ≠ t + 10 → v.1 x = s.1 x := fun x h1 h2 h3 h4 h5 => by
          rw [ev, wi_n _ _ _ h3, hM.2.2 x h1 h2 h5, e2, wi_n _ _ _ h4, c2.1 x (by omega)]
        refine ⟨o1, hC.me m5 ?_ (fun j hj => ?_) ?_ (fun j hj => ?_) o3 (fun x h1 h2 h3 h4 => vt x (by omega) h2 (by omega) h3 h4) g6, o2⟩
        · rw [ev, wi_s, upd_s]
        · rw [ev, wi_s, upd_n _ _ hj, hM.2.2 t (by omega) (by omega) (by omega), e2, wi_n _ _ _ (by omega), c2.1 t (by omega)]
        · rw [ev, wi_n _ _ _ (by omega), hM.2.2 (t + 9) (by omega) (by omega) (by omega), e2, wi_s, c2.1 _ (by omega), d3]
        · rw [ev, wi_n _ _ _ (by omega), hM.2.1 j hj, e2, wi_n _ _ _ (by omega), c2.1 _ (by omega)]
  · rw [if_neg r] at c4
    obtain ⟨d1, d2, d3⟩ := c4
    rw [d1, d2] at q2
    refine v_Teller_fillMerchant_33 _ _ t hS et hx hy ?_
    rw [q2.2.1, d14, nI_1 (dM d)]
    refine pk_le 4 0 (fun w => absurd w (by omega)) (fun _ => ⟨fun w => absurd w (by decide), fun _ s3 e3 => GV.r (h s3 (F2.tr (by rw [e3]; exact FTl.w (by omega))) ?_)⟩)
    unfold sMer
    rw [if_pos r]
    exact ⟨q2.mv (by rw [e3, wi_n _ _ _ (by omega)]), by show (5 : Nat) ≠ 0; omega⟩
end Wants
