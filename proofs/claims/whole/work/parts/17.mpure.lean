theorem z_njl {k j : Nat} (hk : k < 2 ^ 31) (hj : j < 2 ^ 31) (c : ¬ nI k ≤ nI j) : j < k := Nat.lt_of_not_le (fun h => c ((nI_leI hk hj).mpr h))
theorem z_jle {k j : Nat} (hk : k < 2 ^ 31) (hj : j < 2 ^ 31) (c : nI k ≤ nI j) : k ≤ j := (nI_leI hk hj).mp c
def zmost (j en : Nat) : Nat := if j < 2 then 8 else if j = 2 then 12 else en
def zm_told (M : zM) (j : Nat) (p2 : Int32) : Int64 := if j < 3 then zm_bal M.2.1 M.2.2 j p2 M.1 else if j = 3 then (M.2.2 p2.toNatClampNeg).toInt64 else (M.2.1 (4 * p2.toNatClampNeg + j - 4)).toInt64
def zm_share (wt : Nat → Int32) (p1 p2 : Int32) : Int64 := p2.toInt64 * zm_to wt p1 8 / zs_lsum wt 8 - p2.toInt64 * (zm_to wt p1 8 - (wt p1.toNatClampNeg).toInt64) / zs_lsum wt 8
/-- the reference's taking: what is left, the cost, how many layers, the pieces, the cents -/
abbrev zK5 : Type := Int32 × Int64 × Nat × (Nat → Int32) × (Nat → Int32)
def zm_sh (f : Nat → Int32) (b : Nat) : Nat → (Nat → Int32)
  | 0 => f
  | k + 1 => upd (zm_sh f b k) (b + k) (zm_sh f b k (b + k + 1))
def zm_so (b : Nat) (t : zK5) : Int32 := if t.2.2.2.1 b < t.1 then t.2.2.2.1 b else t.1
def zm_step (b : Nat) (t : zK5) : zK5 :=
  if t.2.2.2.1 b - zm_so b t = 0 then (t.1 - zm_so b t, t.2.1 + (zm_so b t).toInt64 * (t.2.2.2.2 b).toInt64, t.2.2.1 - 1, zm_sh (upd t.2.2.2.1 b (t.2.2.2.1 b - zm_so b t)) b (t.2.2.1 - 1), zm_sh t.2.2.2.2 b (t.2.2.1 - 1))
  else (t.1 - zm_so b t, t.2.1 + (zm_so b t).toInt64 * (t.2.2.2.2 b).toInt64, t.2.2.1, upd t.2.2.2.1 b (t.2.2.2.1 b - zm_so b t), t.2.2.2.2)
def zm_it (b : Nat) (t : zK5) : Nat → zK5
  | 0 => t
  | i + 1 => zm_step b (zm_it b t i)
def zm_abs (x : Int64) : Int64 := if x < 0 then -x else x
def zm_part (s t w a : Int64) : Int64 := if s < 0 then -(zm_abs s * t / a - zm_abs s * (t - w) / a) else zm_abs s * t / a - zm_abs s * (t - w) / a
