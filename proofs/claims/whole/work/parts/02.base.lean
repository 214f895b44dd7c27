abbrev zM : Type := Nat → Nat → Int32
abbrev zLo : Type := List (Option Value)
abbrev zE : Type := Instr × Nat × Value × List Nat
abbrev zSh : Type := (FieldType × Nat) ⊕ (Nat × List (Option Nat))
abbrev zCp : Type := Nat × Nat × Value × List Nat
abbrev zMe : Type := Nat × MethodName × ByteArray × Nat × Option FieldType × Nat × Nat × Nat
def znth {α : Type} : List α → Nat → Option α
  | [], _ => none
  | a :: _, 0 => some a
  | _ :: l, n + 1 => znth l n
theorem znth_eq {α : Type} : ∀ (l : List α) (i : Nat), znth l i = l[i]?
  | [], i => by simp [znth]
  | a :: l, 0 => by simp [znth]
  | a :: l, n + 1 => by simp [znth, znth_eq l n]
