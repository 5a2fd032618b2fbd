/-! ===== THE ABSTRACT MACHINE: the program over a heap of numbered cells, as a function. Its runs are the machine's (part 05). =====
Cell numbers: 0 the empty row of lists, 1 .. 3 the constants WORD, BEGINNING, PHRASE, 4 the class object of rows of objects, 5 the law's script; from 6 on what is made. Kinds of rows: 0 int, 1 byte, 2 boolean, 3 long, 4 Object, 5 Language. -/
abbrev am_C : Type := (Nat × vp_A) ⊕ (Nat × List Value)
abbrev am_e : Type := Jvm.ClassFile.Instr × Nat × Nat × Nat × Nat × Int32 × Int64
def am_get {α : Type} : List α → Nat → Option α
  | [], _ => none
  | x :: _, 0 => some x
  | _ :: l, n + 1 => am_get l n
def am_set {α : Type} : List α → Nat → α → List α
  | [], _, _ => []
  | _ :: l, 0, v => v :: l
  | x :: l, n + 1, v => x :: am_set l n v
