-- decode rows, many at a time
def dOk (c : ByteArray) (l : List (Nat × Jvm.ClassFile.Instr × Nat)) : Bool := l.all fun q => decide (Jvm.ClassFile.decode c q.1 = .ok q.2)
theorem dOk_get {c : ByteArray} {l : List (Nat × Jvm.ClassFile.Instr × Nat)} (h : dOk c l = true) {i pc n : Nat} {ins : Jvm.ClassFile.Instr} (hi : l[i]? = some (pc, ins, n)) : Jvm.ClassFile.decode c pc = .ok (ins, n) :=
  of_decide_eq_true (List.all_eq_true.mp h (pc, ins, n) (List.mem_of_getElem? hi))
