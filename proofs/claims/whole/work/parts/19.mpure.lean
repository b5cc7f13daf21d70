theorem z_upme (f : Nat → Nat) (j x : Nat) : va_up f j (f j) x = f x := by
  by_cases h : x = j
  · rw [h, va_up_self]
  · rw [va_up_ne f (f j) h]
def zm_w (po pw : Nat → Int32) (j k : Nat) : Int32 := if po k = po j then pw k else 0
theorem zm_w_all (po pw : Nat → Int32) (j k : Nat) : zs_wof po pw (po j) (k + 1) = zs_wof po pw (po j) k + (zm_w po pw j k).toInt64 := by
  simp only [zs_wof, zm_w]
  split
  · rfl
  · exact (Int64.add_zero _).symm
theorem zm_w_lo (po pw : Nat → Int32) (j k : Nat) (h : k ≤ j) : zs_wof po pw (po j) (min (k + 1) (j + 1)) = zs_wof po pw (po j) (min k (j + 1)) + (zm_w po pw j k).toInt64 := by
  rw [Nat.min_eq_left (by omega), Nat.min_eq_left (by omega), zm_w_all]
theorem zm_w_hi (po pw : Nat → Int32) (j k : Nat) (h : j < k) : zs_wof po pw (po j) (min (k + 1) (j + 1)) = zs_wof po pw (po j) (min k (j + 1)) + 0 := by
  rw [Nat.min_eq_right (by omega), Nat.min_eq_right (by omega), Int64.add_zero]
