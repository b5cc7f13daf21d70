theorem z_upme (f : Nat → Nat) (j x : Nat) : va_up f j (f j) x = f x := by
  by_cases h : x = j
  · rw [h, va_up_self]
  · rw [va_up_ne f (f j) h]
