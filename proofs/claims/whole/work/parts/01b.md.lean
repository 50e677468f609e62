/-! methods as data -/
/-- a method: its name, bytes, instructions by place, locals, answer, room -/
abbrev MD : Type := MethodName × ByteArray × (Nat → Option (Instr × Nat)) × Nat × Option FieldType × Room
def mY (d : MD) : MethodName := d.1
def mB (d : MD) : ByteArray := d.2.1
def mI (d : MD) : Nat → Option (Instr × Nat) := d.2.2.1
def mL (d : MD) : Nat := d.2.2.2.1
def mT (d : MD) : Option FieldType := d.2.2.2.2.1
def mR (d : MD) : Room := d.2.2.2.2.2
def mW (d : MD) : List Cond := .code (mY d) (mB d) (mL d) (mT d) :: TB
def okI (d : MD) (pc : Nat) : Bool := match mI d pc with
  | none => true
  | some q => decide (decode (mB d) pc = .ok q)
def mOk (d : MD) : Prop := ∀ pc q, mI d pc = some q → decode (mB d) pc = .ok q
theorem mOk_of {d : MD} (N : Nat) (hN : ∀ pc, N ≤ pc → mI d pc = none) (h : ∀ pc, pc < N → okI d pc = true) : mOk d := by
  intro pc q hq
  rcases Nat.lt_or_ge pc N with hl | hg
  · have h1 := h pc hl
    unfold okI at h1
    rw [hq] at h1
    exact of_decide_eq_true h1
  · rw [hN pc hg] at hq
    cases hq
