-- THE ABSTRACT MACHINE, ground: numbers as Int, memory as place × index → Int
abbrev gSt : Type := Nat → Int → Int
def iv (x : Int) : Value := .int (Int32.ofInt x)
def jv (x : Int) : Value := .long (Int64.ofInt x)
def wr (M : gSt) (o : Nat) (i x : Int) : gSt := fun o' i' => if o' = o ∧ i' = i then x else M o' i'
/-- an int's own value -/
def wrap (x : Int) : Int := (x + 2147483648) % 4294967296 - 2147483648
def wrapL (x : Int) : Int := (x + 9223372036854775808) % 18446744073709551616 - 9223372036854775808
theorem wrap_in {x : Int} (h1 : -2147483648 ≤ x) (h2 : x < 2147483648) : wrap x = x := by unfold wrap; omega
theorem wrapL_in {x : Int} (h1 : -9223372036854775808 ≤ x) (h2 : x < 9223372036854775808) : wrapL x = x := by unfold wrapL; omega
theorem wrap_rng (x : Int) : -2147483648 ≤ wrap x ∧ wrap x < 2147483648 := by unfold wrap; omega
theorem ofInt_toInt (x : Int) : (Int32.ofInt x).toInt = wrap x := by
  rw [Int32.toInt_ofInt]
  unfold wrap
  rw [Int.bmod_def]
  simp only [Int32.size]
  split <;> omega
theorem ofInt_toIntL (x : Int) : (Int64.ofInt x).toInt = wrapL x := by
  rw [Int64.toInt_ofInt]
  unfold wrapL
  rw [Int.bmod_def]
  simp only [Int64.size]
  split <;> omega
theorem ofInt_wrap (x : Int) : Int32.ofInt (wrap x) = Int32.ofInt x := by
  rw [← ofInt_toInt, Int32.ofInt_toInt]
theorem iv_wrap (x : Int) : iv (wrap x) = iv x := by unfold iv; rw [ofInt_wrap]
theorem ofInt_eq_iff (x y : Int) : Int32.ofInt x = Int32.ofInt y ↔ wrap x = wrap y := by
  rw [← Int32.toInt_inj, ofInt_toInt, ofInt_toInt]
theorem ofInt_lt_iff (x y : Int) : Int32.ofInt x < Int32.ofInt y ↔ wrap x < wrap y := by
  rw [Int32.lt_iff_toInt_lt, ofInt_toInt, ofInt_toInt]
theorem ofInt_le_iff (x y : Int) : Int32.ofInt x ≤ Int32.ofInt y ↔ wrap x ≤ wrap y := by
  rw [Int32.le_iff_toInt_le, ofInt_toInt, ofInt_toInt]
theorem ofInt_div (x y : Int) : Int32.ofInt x / Int32.ofInt y = Int32.ofInt ((wrap x).tdiv (wrap y)) := by
  rw [← Int32.toInt_inj, Int32.toInt_div, ofInt_toInt, ofInt_toInt, ofInt_toInt]
  unfold wrap
  rw [Int.bmod_def]
  split <;> omega
theorem ofInt_clamp {i : Int} (h0 : 0 ≤ i) (h1 : i < 2147483648) : (Int32.ofInt i).toNatClampNeg = i.toNat := by
  show (Int32.ofInt i).toInt.toNat = i.toNat
  rw [ofInt_toInt, wrap_in (by omega) h1]
theorem ofInt_in {i : Int} {n : Nat} (h0 : 0 ≤ i) (h1 : i < n) (hn : n < 2147483648) : vp_in (Int32.ofInt i) n := by
  rintro (h | h)
  · rw [Int32.lt_iff_toInt_lt, ofInt_toInt, wrap_in (by omega) (by omega)] at h
    simp at h
    omega
  · rw [ofInt_clamp h0 (by omega)] at h
    omega
