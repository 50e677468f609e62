/-! THE STATIC SHAPE: which cells stand where once both objects are made, by program (gen09.py) -/
def kdT (a : Nat) : Nat × Nat := if a < 94 then (if a < 55 then (if a < 35 then (if a < 25 then (if a < 20 then (if a < 18 then (if a < 17 then ((0, 10)) else ((4, 2000))) else (if a < 19 then ((0, 9)) else ((1, 402)))) else (if a < 22 then (if a < 21 then ((1, 402)) else ((5, 402))) else (if a < 23 then ((0, 1)) else (if a < 24 then ((1, 14)) else ((0, 7)))))) else (if a < 30 then (if a < 27 then (if a < 26 then ((5, 20)) else ((1, 20))) else (if a < 28 then ((1, 20)) else (if a < 29 then ((0, 4)) else ((1, 6))))) else (if a < 32 then (if a < 31 then ((1, 7)) else ((0, 5))) else (if a < 33 then ((0, 2)) else (if a < 34 then ((1, 6)) else ((1, 36))))))) else (if a < 45 then (if a < 40 then (if a < 37 then (if a < 36 then ((7, 8)) else ((0, 6))) else (if a < 38 then ((0, 6)) else (if a < 39 then ((0, 6)) else ((0, 6))))) else (if a < 42 then (if a < 41 then ((0, 6)) else ((0, 6))) else (if a < 43 then ((0, 6)) else (if a < 44 then ((0, 6)) else ((0, 2)))))) else (if a < 50 then (if a < 47 then (if a < 46 then ((1, 6)) else ((1, 36))) else (if a < 48 then ((7, 8)) else (if a < 49 then ((0, 6)) else ((0, 6))))) else (if a < 52 then (if a < 51 then ((0, 6)) else ((0, 6))) else (if a < 53 then ((0, 6)) else (if a < 54 then ((0, 6)) else ((0, 6)))))))) else (if a < 74 then (if a < 64 then (if a < 59 then (if a < 57 then (if a < 56 then ((0, 6)) else ((0, 0))) else (if a < 58 then ((1, 20)) else ((1, 20)))) else (if a < 61 then (if a < 60 then ((1, 20)) else ((1, 20))) else (if a < 62 then ((1, 3600)) else (if a < 63 then ((0, 2)) else ((1, 6)))))) else (if a < 69 then (if a < 66 then (if a < 65 then ((1, 36)) else ((7, 8))) else (if a < 67 then ((0, 6)) else (if a < 68 then ((0, 6)) else ((0, 6))))) else (if a < 71 then (if a < 70 then ((0, 6)) else ((0, 6))) else (if a < 72 then ((0, 6)) else (if a < 73 then ((0, 6)) else ((0, 6))))))) else (if a < 84 then (if a < 79 then (if a < 76 then (if a < 75 then ((0, 2)) else ((1, 6))) else (if a < 77 then ((1, 36)) else (if a < 78 then ((7, 8)) else ((0, 6))))) else (if a < 81 then (if a < 80 then ((0, 6)) else ((0, 6))) else (if a < 82 then ((0, 6)) else (if a < 83 then ((0, 6)) else ((0, 6)))))) else (if a < 89 then (if a < 86 then (if a < 85 then ((0, 6)) else ((0, 6))) else (if a < 87 then ((6, 40)) else (if a < 88 then ((6, 3)) else ((0, 8))))) else (if a < 91 then (if a < 90 then ((1, 6)) else ((1, 6))) else (if a < 92 then ((1, 6)) else (if a < 93 then ((1, 6)) else ((1, 8))))))))) else (if a < 133 then (if a < 113 then (if a < 103 then (if a < 98 then (if a < 96 then (if a < 95 then ((1, 8)) else ((1, 8))) else (if a < 97 then ((1, 8)) else ((1, 5)))) else (if a < 100 then (if a < 99 then ((1, 30)) else ((0, 3))) else (if a < 101 then ((1, 400)) else (if a < 102 then ((1, 3)) else ((1, 32)))))) else (if a < 108 then (if a < 105 then (if a < 104 then ((1, 32)) else ((0, 8))) else (if a < 106 then ((1, 6)) else (if a < 107 then ((1, 6)) else ((1, 6))))) else (if a < 110 then (if a < 109 then ((1, 6)) else ((1, 8))) else (if a < 111 then ((1, 8)) else (if a < 112 then ((1, 8)) else ((1, 8))))))) else (if a < 123 then (if a < 118 then (if a < 115 then (if a < 114 then ((1, 5)) else ((1, 30))) else (if a < 116 then ((0, 3)) else (if a < 117 then ((1, 400)) else ((1, 3))))) else (if a < 120 then (if a < 119 then ((1, 32)) else ((1, 32))) else (if a < 121 then ((0, 11)) else (if a < 122 then ((2, 2000)) else ((2, 2000)))))) else (if a < 128 then (if a < 125 then (if a < 124 then ((1, 403)) else ((1, 403))) else (if a < 126 then ((1, 403)) else (if a < 127 then ((5, 403)) else ((5, 20))))) else (if a < 130 then (if a < 129 then ((5, 20)) else ((1, 20))) else (if a < 131 then ((1, 20)) else (if a < 132 then ((1, 2)) else ((1, 12)))))))) else (if a < 153 then (if a < 143 then (if a < 138 then (if a < 135 then (if a < 134 then ((1, 12)) else ((1, 2))) else (if a < 136 then ((1, 12)) else (if a < 137 then ((1, 12)) else ((1, 2))))) else (if a < 140 then (if a < 139 then ((1, 16)) else ((1, 16))) else (if a < 141 then ((1, 16)) else (if a < 142 then ((1, 16)) else ((1, 2)))))) else (if a < 148 then (if a < 145 then (if a < 144 then ((1, 10)) else ((1, 10))) else (if a < 146 then ((1, 40)) else (if a < 147 then ((1, 40)) else ((1, 2))))) else (if a < 150 then (if a < 149 then ((1, 2)) else ((1, 2))) else (if a < 151 then ((1, 6)) else (if a < 152 then ((1, 6)) else ((3, 260))))))) else (if a < 163 then (if a < 158 then (if a < 155 then (if a < 154 then ((1, 260)) else ((1, 260))) else (if a < 156 then ((1, 260)) else (if a < 157 then ((1, 260)) else ((1, 840))))) else (if a < 160 then (if a < 159 then ((1, 840)) else ((1, 64))) else (if a < 161 then ((1, 7)) else (if a < 162 then ((1, 400)) else ((1, 120)))))) else (if a < 168 then (if a < 165 then (if a < 164 then ((1, 120)) else ((1, 6))) else (if a < 166 then ((3, 6)) else (if a < 167 then ((1, 4800)) else ((1, 20))))) else (if a < 170 then (if a < 169 then ((1, 20)) else ((1, 20))) else (if a < 171 then ((1, 20)) else (if a < 172 then ((3, 3)) else ((1, 360)))))))))
def rfT (a f : Nat) : Option Nat := if a < 56 then (if a < 31 then (if a < 22 then (if a < 18 then (if a = 16 then (if f = 0 then some 17 else if f = 1 then some 18 else if f = 2 then some 22 else if f = 3 then some 24 else if f = 4 then some 28 else if f = 5 then some 31 else if f = 6 then some 56 else if f = 7 then some 74 else if f = 8 then some 86 else if f = 9 then some 87 else none) else none) else (if a = 18 then (if f = 0 then some 19 else if f = 1 then some 20 else if f = 2 then some 21 else none) else none)) else (if a < 24 then (if a = 22 then (if f = 0 then some 18 else if f = 3 then some 23 else none) else none) else (if a < 28 then (if a = 24 then (if f = 0 then some 25 else if f = 1 then some 26 else if f = 2 then some 27 else if f = 4 then some 18 else none) else none) else (if a = 28 then (if f = 1 then some 29 else if f = 3 then some 30 else none) else none)))) else (if a < 35 then (if a < 32 then (if a = 31 then (if f = 0 then some 32 else if f = 1 then some 44 else none) else none) else (if a = 32 then (if f = 0 then some 33 else if f = 1 then some 34 else if f = 2 then some 35 else none) else none)) else (if a < 44 then (if a = 35 then (if f = 0 then some 36 else if f = 1 then some 37 else if f = 2 then some 38 else if f = 3 then some 39 else if f = 4 then some 40 else if f = 5 then some 41 else if f = 6 then some 42 else if f = 7 then some 43 else none) else none) else (if a < 47 then (if a = 44 then (if f = 0 then some 45 else if f = 1 then some 46 else if f = 2 then some 47 else none) else none) else (if a = 47 then (if f = 0 then some 48 else if f = 1 then some 49 else if f = 2 then some 50 else if f = 3 then some 51 else if f = 4 then some 52 else if f = 5 then some 53 else if f = 6 then some 54 else if f = 7 then some 55 else none) else none))))) else (if a < 88 then (if a < 65 then (if a < 62 then (if a = 56 then (if f = 0 then some 57 else if f = 1 then some 58 else if f = 2 then some 59 else if f = 3 then some 60 else if f = 4 then some 61 else if f = 5 then some 62 else none) else none) else (if a = 62 then (if f = 0 then some 63 else if f = 1 then some 64 else if f = 2 then some 65 else none) else none)) else (if a < 74 then (if a = 65 then (if f = 0 then some 66 else if f = 1 then some 67 else if f = 2 then some 68 else if f = 3 then some 69 else if f = 4 then some 70 else if f = 5 then some 71 else if f = 6 then some 72 else if f = 7 then some 73 else none) else none) else (if a < 77 then (if a = 74 then (if f = 0 then some 75 else if f = 1 then some 76 else if f = 2 then some 77 else none) else none) else (if a = 77 then (if f = 0 then some 78 else if f = 1 then some 79 else if f = 2 then some 80 else if f = 3 then some 81 else if f = 4 then some 82 else if f = 5 then some 83 else if f = 6 then some 84 else if f = 7 then some 85 else none) else none)))) else (if a < 104 then (if a < 99 then (if a = 88 then (if f = 0 then some 89 else if f = 1 then some 90 else if f = 2 then some 91 else if f = 3 then some 92 else if f = 4 then some 93 else if f = 5 then some 94 else if f = 6 then some 95 else if f = 7 then some 96 else if f = 8 then some 97 else if f = 9 then some 98 else if f = 10 then some 99 else none) else none) else (if a = 99 then (if f = 0 then some 100 else if f = 1 then some 101 else if f = 2 then some 102 else if f = 3 then some 103 else none) else none)) else (if a < 115 then (if a = 104 then (if f = 0 then some 105 else if f = 1 then some 106 else if f = 2 then some 107 else if f = 3 then some 108 else if f = 4 then some 109 else if f = 5 then some 110 else if f = 6 then some 111 else if f = 7 then some 112 else if f = 8 then some 113 else if f = 9 then some 114 else if f = 10 then some 115 else none) else none) else (if a < 120 then (if a = 115 then (if f = 0 then some 116 else if f = 1 then some 117 else if f = 2 then some 118 else if f = 3 then some 119 else none) else none) else (if a = 120 then (if f = 1 then some 121 else if f = 3 then some 122 else if f = 5 then some 123 else if f = 6 then some 124 else if f = 7 then some 125 else if f = 8 then some 126 else if f = 9 then some 127 else if f = 21 then some 128 else if f = 22 then some 129 else if f = 23 then some 130 else if f = 24 then some 131 else if f = 25 then some 132 else if f = 26 then some 133 else if f = 27 then some 134 else if f = 28 then some 135 else if f = 29 then some 136 else if f = 30 then some 137 else if f = 31 then some 138 else if f = 32 then some 139 else if f = 33 then some 140 else if f = 34 then some 141 else if f = 35 then some 142 else if f = 36 then some 143 else if f = 37 then some 144 else if f = 38 then some 145 else if f = 39 then some 146 else if f = 40 then some 147 else if f = 41 then some 148 else if f = 42 then some 149 else if f = 43 then some 150 else if f = 44 then some 151 else if f = 46 then some 152 else if f = 47 then some 153 else if f = 48 then some 154 else if f = 49 then some 155 else if f = 50 then some 156 else if f = 52 then some 157 else if f = 53 then some 158 else if f = 54 then some 159 else if f = 56 then some 160 else if f = 57 then some 161 else if f = 59 then some 162 else if f = 60 then some 163 else if f = 62 then some 164 else if f = 63 then some 165 else if f = 65 then some 166 else if f = 69 then some 167 else if f = 70 then some 168 else if f = 71 then some 169 else if f = 72 then some 170 else if f = 73 then some 171 else if f = 74 then some 172 else none) else none)))))
def SX (g : GS) : Prop := (∀ a, 16 ≤ a → a < 173 → g.2.1 a = kdT a) ∧ (∀ a f b, rfT a f = some b → g.2.2 a f = some b) ∧ 173 ≤ g.1 ∧ g.2.1 1 = (1, 3)
def okO (a ci : Nat) : Bool := Nat.ble 16 a && (Nat.blt a 173 && (Nat.beq (kdT a).1 0 && Nat.beq (kdT a).2 ci))
def okA (a t N : Nat) : Bool := Nat.ble 16 a && (Nat.blt a 173 && (Nat.beq (kdT a).1 (t + 1) && Nat.beq (kdT a).2 N))
theorem SX.o {g : GS} (h : SX g) {a ci : Nat} (e : okO a ci = true) : OG g a ci := by
  simp only [okO, Bool.and_eq_true, Nat.ble_eq, Nat.blt_eq, Nat.beq_eq] at e
  obtain ⟨h1, h2, h3, h4⟩ := e
  refine ⟨?_, h1, Nat.lt_of_lt_of_le h2 h.2.2.1⟩
  rw [h.1 a h1 h2]
  exact Prod.ext h3 h4
theorem SX.a {g : GS} (h : SX g) {a t N : Nat} (e : okA a t N = true) : AG g a t N := by
  simp only [okA, Bool.and_eq_true, Nat.ble_eq, Nat.blt_eq, Nat.beq_eq] at e
  obtain ⟨h1, h2, h3, h4⟩ := e
  refine ⟨?_, h1, Nat.lt_of_lt_of_le h2 h.2.2.1⟩
  rw [h.1 a h1 h2]
  exact Prod.ext h3 h4
theorem SX.r {g : GS} (h : SX g) {a f b : Nat} (e : rfT a f = some b) : g.2.2 a f = some b := h.2.1 a f b e
def HS (g : GS) (b : Nat) : Prop := OG g b 2 ∧ g.2.2 b 0 = some (b + 1) ∧ g.2.2 b 1 = some (b + 2) ∧ g.2.2 b 2 = some (b + 3) ∧ AG g (b + 1) 0 6 ∧ AG g (b + 2) 0 36 ∧ AG g (b + 3) 6 8 ∧ ∀ r, r < 8 → g.2.2 (b + 3) r = some (b + 4 + r) ∧ OG g (b + 4 + r) 6
theorem HS.o {g : GS} {b : Nat} (h : HS g b) : OG g b 2 := h.1
theorem HS.r0 {g : GS} {b : Nat} (h : HS g b) : g.2.2 b 0 = some (b + 1) := h.2.1
theorem HS.r1 {g : GS} {b : Nat} (h : HS g b) : g.2.2 b 1 = some (b + 2) := h.2.2.1
theorem HS.r2 {g : GS} {b : Nat} (h : HS g b) : g.2.2 b 2 = some (b + 3) := h.2.2.2.1
theorem HS.a0 {g : GS} {b : Nat} (h : HS g b) : AG g (b + 1) 0 6 := h.2.2.2.2.1
theorem HS.a1 {g : GS} {b : Nat} (h : HS g b) : AG g (b + 2) 0 36 := h.2.2.2.2.2.1
theorem HS.a2 {g : GS} {b : Nat} (h : HS g b) : AG g (b + 3) 6 8 := h.2.2.2.2.2.2.1
theorem HS.rr {g : GS} {b : Nat} (h : HS g b) {i : Int32} (hi : vp_in i 8) : g.2.2 (b + 3) i.toNatClampNeg = some (b + 4 + i.toNatClampNeg) := (h.2.2.2.2.2.2.2 _ (Nat.not_le.mp fun q => hi (Or.inr q))).1
theorem HS.ro {g : GS} {b : Nat} (h : HS g b) {i : Int32} (hi : vp_in i 8) : OG g (b + 4 + i.toNatClampNeg) 6 := (h.2.2.2.2.2.2.2 _ (Nat.not_le.mp fun q => hi (Or.inr q))).2
def okH (b : Nat) : Bool := okO b 2 && (decide (rfT b 0 = some (b + 1)) && (decide (rfT b 1 = some (b + 2)) && (decide (rfT b 2 = some (b + 3)) && (okA (b + 1) 0 6 && (okA (b + 2) 0 36 && (okA (b + 3) 6 8 && (List.range 8).all (fun r => decide (rfT (b + 3) r = some (b + 4 + r)) && okO (b + 4 + r) 6)))))))
theorem HS.of {g : GS} (h : SX g) {b : Nat} (e : okH b = true) : HS g b := by
  simp only [okH, Bool.and_eq_true, decide_eq_true_eq, List.all_eq_true, List.mem_range] at e
  obtain ⟨h1, h2, h3, h4, h5, h6, h7, h8⟩ := e
  exact ⟨h.o h1, h.r h2, h.r h3, h.r h4, h.a h5, h.a h6, h.a h7, fun r hr => ⟨h.r (h8 r hr).1, h.o (h8 r hr).2⟩⟩
def LW (g : GS) (w : Nat) : Prop := OG g w 3 ∧ (g.2.2 w 0 = some (w + 1) ∧ AG g (w + 1) 0 400) ∧ (g.2.2 w 1 = some (w + 2) ∧ AG g (w + 2) 0 3) ∧ (g.2.2 w 2 = some (w + 3) ∧ AG g (w + 3) 0 32) ∧ (g.2.2 w 3 = some (w + 4) ∧ AG g (w + 4) 0 32)
theorem LW.o {g : GS} {w : Nat} (h : LW g w) : OG g w 3 := h.1
theorem LW.r0 {g : GS} {w : Nat} (h : LW g w) : g.2.2 w 0 = some (w + 1) := (h.2.1).1
theorem LW.a0 {g : GS} {w : Nat} (h : LW g w) : AG g (w + 1) 0 400 := (h.2.1).2
theorem LW.r1 {g : GS} {w : Nat} (h : LW g w) : g.2.2 w 1 = some (w + 2) := (h.2.2.1).1
theorem LW.a1 {g : GS} {w : Nat} (h : LW g w) : AG g (w + 2) 0 3 := (h.2.2.1).2
theorem LW.r2 {g : GS} {w : Nat} (h : LW g w) : g.2.2 w 2 = some (w + 3) := (h.2.2.2.1).1
theorem LW.a2 {g : GS} {w : Nat} (h : LW g w) : AG g (w + 3) 0 32 := (h.2.2.2.1).2
theorem LW.r3 {g : GS} {w : Nat} (h : LW g w) : g.2.2 w 3 = some (w + 4) := (h.2.2.2.2).1
theorem LW.a3 {g : GS} {w : Nat} (h : LW g w) : AG g (w + 4) 0 32 := (h.2.2.2.2).2
def TS (g : GS) (t : Nat) : Prop := OG g t 8 ∧ (g.2.2 t 0 = some (t + 1) ∧ AG g (t + 1) 0 6) ∧ (g.2.2 t 1 = some (t + 2) ∧ AG g (t + 2) 0 6) ∧ (g.2.2 t 2 = some (t + 3) ∧ AG g (t + 3) 0 6) ∧ (g.2.2 t 3 = some (t + 4) ∧ AG g (t + 4) 0 6) ∧ (g.2.2 t 4 = some (t + 5) ∧ AG g (t + 5) 0 8) ∧ (g.2.2 t 5 = some (t + 6) ∧ AG g (t + 6) 0 8) ∧ (g.2.2 t 6 = some (t + 7) ∧ AG g (t + 7) 0 8) ∧ (g.2.2 t 7 = some (t + 8) ∧ AG g (t + 8) 0 8) ∧ (g.2.2 t 8 = some (t + 9) ∧ AG g (t + 9) 0 5) ∧ (g.2.2 t 9 = some (t + 10) ∧ AG g (t + 10) 0 30) ∧ (g.2.2 t 10 = some (t + 11) ∧ LW g (t + 11))
theorem TS.o {g : GS} {t : Nat} (h : TS g t) : OG g t 8 := h.1
theorem TS.r0 {g : GS} {t : Nat} (h : TS g t) : g.2.2 t 0 = some (t + 1) := (h.2.1).1
theorem TS.a0 {g : GS} {t : Nat} (h : TS g t) : AG g (t + 1) 0 6 := (h.2.1).2
theorem TS.r1 {g : GS} {t : Nat} (h : TS g t) : g.2.2 t 1 = some (t + 2) := (h.2.2.1).1
theorem TS.a1 {g : GS} {t : Nat} (h : TS g t) : AG g (t + 2) 0 6 := (h.2.2.1).2
theorem TS.r2 {g : GS} {t : Nat} (h : TS g t) : g.2.2 t 2 = some (t + 3) := (h.2.2.2.1).1
theorem TS.a2 {g : GS} {t : Nat} (h : TS g t) : AG g (t + 3) 0 6 := (h.2.2.2.1).2
theorem TS.r3 {g : GS} {t : Nat} (h : TS g t) : g.2.2 t 3 = some (t + 4) := (h.2.2.2.2.1).1
theorem TS.a3 {g : GS} {t : Nat} (h : TS g t) : AG g (t + 4) 0 6 := (h.2.2.2.2.1).2
theorem TS.r4 {g : GS} {t : Nat} (h : TS g t) : g.2.2 t 4 = some (t + 5) := (h.2.2.2.2.2.1).1
theorem TS.a4 {g : GS} {t : Nat} (h : TS g t) : AG g (t + 5) 0 8 := (h.2.2.2.2.2.1).2
theorem TS.r5 {g : GS} {t : Nat} (h : TS g t) : g.2.2 t 5 = some (t + 6) := (h.2.2.2.2.2.2.1).1
theorem TS.a5 {g : GS} {t : Nat} (h : TS g t) : AG g (t + 6) 0 8 := (h.2.2.2.2.2.2.1).2
theorem TS.r6 {g : GS} {t : Nat} (h : TS g t) : g.2.2 t 6 = some (t + 7) := (h.2.2.2.2.2.2.2.1).1
theorem TS.a6 {g : GS} {t : Nat} (h : TS g t) : AG g (t + 7) 0 8 := (h.2.2.2.2.2.2.2.1).2
theorem TS.r7 {g : GS} {t : Nat} (h : TS g t) : g.2.2 t 7 = some (t + 8) := (h.2.2.2.2.2.2.2.2.1).1
theorem TS.a7 {g : GS} {t : Nat} (h : TS g t) : AG g (t + 8) 0 8 := (h.2.2.2.2.2.2.2.2.1).2
theorem TS.r8 {g : GS} {t : Nat} (h : TS g t) : g.2.2 t 8 = some (t + 9) := (h.2.2.2.2.2.2.2.2.2.1).1
theorem TS.a8 {g : GS} {t : Nat} (h : TS g t) : AG g (t + 9) 0 5 := (h.2.2.2.2.2.2.2.2.2.1).2
theorem TS.r9 {g : GS} {t : Nat} (h : TS g t) : g.2.2 t 9 = some (t + 10) := (h.2.2.2.2.2.2.2.2.2.2.1).1
theorem TS.a9 {g : GS} {t : Nat} (h : TS g t) : AG g (t + 10) 0 30 := (h.2.2.2.2.2.2.2.2.2.2.1).2
theorem TS.r10 {g : GS} {t : Nat} (h : TS g t) : g.2.2 t 10 = some (t + 11) := (h.2.2.2.2.2.2.2.2.2.2.2).1
theorem TS.l {g : GS} {t : Nat} (h : TS g t) : LW g (t + 11) := (h.2.2.2.2.2.2.2.2.2.2.2).2
theorem TS.of {g : GS} (h : SX g) {t : Nat} (e : t = 88 ∨ t = 104) : TS g t := by
  rcases e with rfl | rfl
  · exact ⟨h.o rfl, ⟨h.r rfl, h.a rfl⟩, ⟨h.r rfl, h.a rfl⟩, ⟨h.r rfl, h.a rfl⟩, ⟨h.r rfl, h.a rfl⟩, ⟨h.r rfl, h.a rfl⟩, ⟨h.r rfl, h.a rfl⟩, ⟨h.r rfl, h.a rfl⟩, ⟨h.r rfl, h.a rfl⟩, ⟨h.r rfl, h.a rfl⟩, ⟨h.r rfl, h.a rfl⟩, h.r rfl, h.o rfl, ⟨h.r rfl, h.a rfl⟩, ⟨h.r rfl, h.a rfl⟩, ⟨h.r rfl, h.a rfl⟩, ⟨h.r rfl, h.a rfl⟩⟩
  · exact ⟨h.o rfl, ⟨h.r rfl, h.a rfl⟩, ⟨h.r rfl, h.a rfl⟩, ⟨h.r rfl, h.a rfl⟩, ⟨h.r rfl, h.a rfl⟩, ⟨h.r rfl, h.a rfl⟩, ⟨h.r rfl, h.a rfl⟩, ⟨h.r rfl, h.a rfl⟩, ⟨h.r rfl, h.a rfl⟩, ⟨h.r rfl, h.a rfl⟩, ⟨h.r rfl, h.a rfl⟩, h.r rfl, h.o rfl, ⟨h.r rfl, h.a rfl⟩, ⟨h.r rfl, h.a rfl⟩, ⟨h.r rfl, h.a rfl⟩, ⟨h.r rfl, h.a rfl⟩⟩
theorem SX.gro {g : GS} (h : SX g) {a f : Nat} {b : Option Nat} (e : rfT a f = none) : SX (gr g a f b) := by
  refine ⟨h.1, fun a' f' b' e' => ?_, h.2.2.1, h.2.2.2⟩
  have h1 := h.2.1 a' f' b' e'
  show (if a' = a then va_up (g.2.2 a) f b else g.2.2 a') f' = some b'
  by_cases ha : a' = a
  · subst ha
    rw [if_pos rfl]
    have hf : f' ≠ f := fun q => by rw [q, e] at e'; cases e'
    simp [va_up, hf, h1]
  · rw [if_neg ha]; exact h1
theorem HS.gro {g : GS} {c : Nat} (h : HS g c) {a f : Nat} {b : Option Nat} (e : a ≠ c ∧ a ≠ c + 3) : HS (gr g a f b) c := by
  obtain ⟨h1, h2, h3, h4, h5, h6, h7, h8⟩ := h
  have q : ∀ x, x ≠ a → (gr g a f b).2.2 x = g.2.2 x := fun x hx => by show (if x = a then _ else _) = _; rw [if_neg hx]
  exact ⟨h1, by rw [q _ e.1.symm]; exact h2, by rw [q _ e.1.symm]; exact h3, by rw [q _ e.1.symm]; exact h4, h5, h6, h7, fun r hr => ⟨by rw [q _ e.2.symm]; exact (h8 r hr).1, (h8 r hr).2⟩⟩
theorem gr_s (g : GS) (a f : Nat) (b : Option Nat) : (gr g a f b).2.2 a f = b := by simp [gr, va_up]
theorem gr_n {g : GS} {a f a' f' : Nat} {b c : Option Nat} (h : a' ≠ a ∨ f' ≠ f) (e : g.2.2 a' f' = c) : (gr g a f b).2.2 a' f' = c := by
  show (if a' = a then va_up (g.2.2 a) f b else g.2.2 a') f' = c
  by_cases ha : a' = a
  · subst ha
    have hf : f' ≠ f := by rcases h with h | h; exact absurd rfl h; exact h
    rw [if_pos rfl]; simp [va_up, hf, e]
  · rw [if_neg ha]; exact e
section GMono
variable {E : EN} {z : MD} {av : List Value} {g : GS} {s : MS}
theorem GI.mono {R R' : Int32 → MS → Prop} (h : GI E z av g s R) (hr : ∀ r t, R r t → R' r t) : GI E z av g s R' := AMet.mono h (fun v τ hv => by obtain ⟨r, t, h1, h2, h3⟩ := hv; exact ⟨r, t, h1, h2, hr r t h3⟩)
theorem GL.mono {R R' : Int64 → MS → Prop} (h : GL E z av g s R) (hr : ∀ r t, R r t → R' r t) : GL E z av g s R' := AMet.mono h (fun v τ hv => by obtain ⟨r, t, h1, h2, h3⟩ := hv; exact ⟨r, t, h1, h2, hr r t h3⟩)
theorem GA.mono {R R' : Nat → MS → Prop} (h : GA E z av g s R) (hr : ∀ r t, R r t → R' r t) : GA E z av g s R' := AMet.mono h (fun v τ hv => by obtain ⟨r, t, h1, h2, h3⟩ := hv; exact ⟨r, t, h1, h2, hr r t h3⟩)
theorem GV.mono {R R' : MS → Prop} (h : GV E z av g s R) (hr : ∀ t, R t → R' t) : GV E z av g s R' := AMet.mono h (fun v τ hv => by obtain ⟨t, h1, h2, h3⟩ := hv; exact ⟨t, h1, h2, hr t h3⟩)
theorem XI.mono {R R' : Int32 → GS → MS → Prop} (h : XI E z av g s R) (hr : ∀ r g t, R r g t → R' r g t) : XI E z av g s R' := AMet.mono h (fun v τ hv => by obtain ⟨r, g, t, h1, h2, h3⟩ := hv; exact ⟨r, g, t, h1, h2, hr r g t h3⟩)
theorem XV.mono {R R' : GS → MS → Prop} (h : XV E z av g s R) (hr : ∀ g t, R g t → R' g t) : XV E z av g s R' := AMet.mono h (fun v τ hv => by obtain ⟨g, t, h1, h2, h3⟩ := hv; exact ⟨g, t, h1, h2, hr g t h3⟩)
theorem ag_xiaload {d : MD} {pc q k n a N : Nat} {ls : List (Nat × Value)} {st : List Value} {Q : Option Value → SG → Prop} {i : Int32} (hd : mI d pc = some (.iaload, 1)) (hq : pc + 1 = q) (ha : a < 2) (hN : (g.2.1 a).2 = N) (hi : vp_in i N) (h : AWP E d q k n ls (.int (s.1 a i.toNatClampNeg) :: st) (mk g s) Q) : AWP E d pc k n ls (.int i :: .ref a :: st) (mk g s) Q := aw_xiaload (σ := mk g s) hd hq ha hN hi h
theorem aw_tableEq {d : MD} {pc k n : Nat} {ls : List (Nat × Value)} {st : List Value} {σ : SG} {Q : Option Value → SG → Prop} {dflt lo hi : Int} {offs : Array Int} {len : Nat} {x v : Int32} {off : Int} {tgt : Nat} (hd : mI d pc = some (.tableswitch dflt lo hi offs, len)) (e : x = v) (h1 : ¬ v.toInt < lo) (h2 : ¬ hi < v.toInt) (ho : offs[(v.toInt - lo).toNat]? = some off) (ht : (pc : Int) + off = (tgt : Int)) (h : AWP E d tgt k n ls st σ Q) : AWP E d pc k n ls (.int x :: st) σ Q := by
  subst e
  exact aw_tableIn hd h1 h2 ho ht h
theorem aw_tableLt {d : MD} {pc k n : Nat} {ls : List (Nat × Value)} {st : List Value} {σ : SG} {Q : Option Value → SG → Prop} {dflt lo hi : Int} {offs : Array Int} {len : Nat} {x a b : Int32} {tgt : Nat} (hd : mI d pc = some (.tableswitch dflt lo hi offs, len)) (ha : a.toInt = lo) (hb : b.toInt = hi) (e : x < a ∨ b < x) (ht : (pc : Int) + dflt = (tgt : Int)) (h : AWP E d tgt k n ls st σ Q) : AWP E d pc k n ls (.int x :: st) σ Q := by
  refine aw_tableOut hd ?_ ht h
  rcases e with e | e
  · exact Or.inl (by have := Int32.lt_iff_toInt_lt.mp e; omega)
  · exact Or.inr (by have := Int32.lt_iff_toInt_lt.mp e; omega)
theorem sw_cases {x a : Int32} (N : Nat) (b : Int32) (h1 : ¬ x < a) (h2 : ¬ b < x) (hb : b.toInt = a.toInt + N) : ∃ j : Nat, j ≤ N ∧ x.toInt = a.toInt + j := by
  have g1 : ¬ x.toInt < a.toInt := fun q => h1 (Int32.lt_iff_toInt_lt.mpr q)
  have g2 : ¬ b.toInt < x.toInt := fun q => h2 (Int32.lt_iff_toInt_lt.mpr q)
  exact ⟨(x.toInt - a.toInt).toNat, by omega, by omega⟩
end GMono
