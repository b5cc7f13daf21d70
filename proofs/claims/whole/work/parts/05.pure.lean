/-! WHAT THE LOOPS OF THE CLASS COMPUTE, in the machine's own numbers -/
def zs_lsum (f : Nat → Int32) : Nat → Int64
  | 0 => 0
  | k + 1 => zs_lsum f k + (f k).toInt64
def zs_isum (f : Nat → Int32) : Nat → Int32
  | 0 => 0
  | k + 1 => zs_isum f k + f k
def zs_worth (p c : Nat → Int32) : Nat → Int64
  | 0 => 0
  | k + 1 => zs_worth p c k + (p k).toInt64 * (c k).toInt64
def zs_cnt (f : Nat → Int32) (b : Int32) : Nat → Nat
  | 0 => 0
  | k + 1 => if f k = b then zs_cnt f b k + 1 else zs_cnt f b k
def zs_rate (d c : Nat → Int32) (x : Int32) : Nat → Int32
  | 0 => 0
  | k + 1 => if d k ≤ x then c k else zs_rate d c x k
def zs_wof (o w : Nat → Int32) (x : Int32) : Nat → Int64
  | 0 => 0
  | k + 1 => if o k = x then zs_wof o w x k + (w k).toInt64 else zs_wof o w x k
theorem zs_cnt_le (f : Nat → Int32) (b : Int32) : ∀ k, zs_cnt f b k ≤ k
  | 0 => Nat.le_refl 0
  | k + 1 => by
    have := zs_cnt_le f b k
    simp only [zs_cnt]
    split <;> omega
/-- the books' rows: how many, accounts, orders, months, cents, batches; the balances -/
abbrev zE : Type := Nat × (Nat → Int32) × (Nat → Int32) × (Nat → Int32) × (Nat → Int32) × (Nat → Int32) × (Nat → Int64) × (Nat → Int64) × (Nat → Int64)
def zs_enter (E : zE) (bt oa oo om x : Int32) : zE :=
  (E.1 + 1, upd E.2.1 E.1 oa, upd E.2.2.1 E.1 oo, upd E.2.2.2.1 E.1 om, upd E.2.2.2.2.1 E.1 x, upd E.2.2.2.2.2.1 E.1 bt,
   vp_updL E.2.2.2.2.2.2.1 oa.toNatClampNeg (E.2.2.2.2.2.2.1 oa.toNatClampNeg + x.toInt64), vp_updL E.2.2.2.2.2.2.2.1 oo.toNatClampNeg (E.2.2.2.2.2.2.2.1 oo.toNatClampNeg + x.toInt64), vp_updL E.2.2.2.2.2.2.2.2 om.toNatClampNeg (E.2.2.2.2.2.2.2.2 om.toNatClampNeg + x.toInt64))
def zs_turn (E : zE) (bt num im : Int32) : Nat → zE
  | 0 => E
  | k + 1 => if (zs_turn E bt num im k).2.2.2.2.2.1 k = num then zs_enter (zs_turn E bt num im k) bt ((zs_turn E bt num im k).2.1 k) ((zs_turn E bt num im k).2.2.1 k) im (-((zs_turn E bt num im k).2.2.2.2.1 k)) else zs_turn E bt num im k
/-- a layer's taking: what is left to take, the cost, how many layers are empty, the pieces -/
abbrev zK4 : Type := Int32 × Int64 × Nat × (Nat → Int32)
def zs_some (t : zK4) (k : Nat) : Int32 := if t.2.2.2 k < t.1 then t.2.2.2 k else t.1
def zs_take1 (t : zK4) (c : Nat → Int32) (k : Nat) : zK4 :=
  (t.1 - zs_some t k, t.2.1 + (zs_some t k).toInt64 * (c k).toInt64, (if t.2.2.2 k - zs_some t k = 0 then t.2.2.1 + 1 else t.2.2.1), upd t.2.2.2 k (t.2.2.2 k - zs_some t k))
def zs_take (p c : Nat → Int32) (x : Int32) : Nat → zK4
  | 0 => (x, 0, 0, p)
  | k + 1 => zs_take1 (zs_take p c x k) c k
def zs_mv (f : Nat → Int32) (e : Nat) : Nat → (Nat → Int32)
  | 0 => f
  | j + 1 => upd (zs_mv f e j) j (zs_mv f e j (e + j))
theorem zs_cnt_mono (f : Nat → Int32) (b : Int32) {i k : Nat} (h : i ≤ k) : zs_cnt f b i ≤ zs_cnt f b k := by
  induction h with
  | refl => exact Nat.le_refl _
  | step _ ih =>
    refine Nat.le_trans ih ?_
    simp only [zs_cnt]
    split <;> omega
theorem zs_turn_ok (E : zE) (bt num im : Int32) : ∀ k, k ≤ E.1 → (zs_turn E bt num im k).1 = E.1 + zs_cnt E.2.2.2.2.2.1 num k ∧
    ∀ i, i < E.1 → (zs_turn E bt num im k).2.1 i = E.2.1 i ∧ (zs_turn E bt num im k).2.2.1 i = E.2.2.1 i ∧ (zs_turn E bt num im k).2.2.2.1 i = E.2.2.2.1 i ∧ (zs_turn E bt num im k).2.2.2.2.1 i = E.2.2.2.2.1 i ∧ (zs_turn E bt num im k).2.2.2.2.2.1 i = E.2.2.2.2.2.1 i
  | 0, _ => ⟨rfl, fun i _ => ⟨rfl, rfl, rfl, rfl, rfl⟩⟩
  | k + 1, hk => by
    obtain ⟨h1, h2⟩ := zs_turn_ok E bt num im k (by omega)
    have hb := (h2 k (by omega)).2.2.2.2
    by_cases c : E.2.2.2.2.2.1 k = num
    · have e : zs_turn E bt num im (k + 1) = zs_enter (zs_turn E bt num im k) bt ((zs_turn E bt num im k).2.1 k) ((zs_turn E bt num im k).2.2.1 k) im (-((zs_turn E bt num im k).2.2.2.2.1 k)) := by
        simp only [zs_turn]; rw [if_pos (by rw [hb]; exact c)]
      rw [e]
      refine ⟨?_, fun i hi => ?_⟩
      · show (zs_turn E bt num im k).1 + 1 = _
        rw [h1]; simp only [zs_cnt]; rw [if_pos c]; rfl
      · have hne : i ≠ (zs_turn E bt num im k).1 := by omega
        obtain ⟨a1, a2, a3, a4, a5⟩ := h2 i hi
        refine ⟨?_, ?_, ?_, ?_, ?_⟩
        · show upd _ _ _ i = _; rw [pk_un hne]; exact a1
        · show upd _ _ _ i = _; rw [pk_un hne]; exact a2
        · show upd _ _ _ i = _; rw [pk_un hne]; exact a3
        · show upd _ _ _ i = _; rw [pk_un hne]; exact a4
        · show upd _ _ _ i = _; rw [pk_un hne]; exact a5
    · have e : zs_turn E bt num im (k + 1) = zs_turn E bt num im k := by
        simp only [zs_turn]; rw [if_neg (by rw [hb]; exact c)]
      rw [e]
      refine ⟨?_, h2⟩
      rw [h1]; simp only [zs_cnt]; rw [if_neg c]
abbrev zin (x n : Int32) : Prop := ¬ x < 0 ∧ ¬ n ≤ x
theorem z_ix {x : Int32} {n : Nat} (hn : n < 2 ^ 31) (h : zin x (nI n)) : ∃ j, j < n ∧ x = nI j := by
  rcases pk_ix x hn with h1 | h1 | h1
  · exact absurd h1 h.1
  · exact absurd h1 h.2
  · exact h1
theorem z_viN {x : Int32} {n : Nat} (hn : n < 2 ^ 31) (h : zin x (nI n)) : vp_in x n := by
  obtain ⟨j, hj, rfl⟩ := z_ix hn h
  exact vp_in_nI hj hn
theorem z_vi {x : Int32} {n : Nat} (h : zin x (nI n)) (hn : n < 2 ^ 31 := by decide) : vp_in x n := z_viN hn h
theorem z_vle {x : Int32} {n k : Nat} (h : vp_in x n) (hk : n ≤ k) : vp_in x k := by
  rw [vp_in_iff] at h ⊢
  exact ⟨h.1, by omega⟩
theorem z_no {j n : Nat} (h : j < n) (hn : n < 2 ^ 31) (c : nI j < 0 ∨ nI n ≤ nI j) : False := c.elim (nI_pos (by omega)) (nI_ge h hn)
theorem z_room {k n : Nat} (hE : n ≤ 200) (hk : k ≤ 200) (h : nI k ≤ 200 - nI n) : n + k ≤ 200 := by
  have h1 : (200 : Int32) - nI n = nI (200 - n) := pk_sub (a := 200) hE
  rw [h1, nI_leI (by omega) (by omega)] at h
  omega
theorem z_cmp0 {x y : Int64} : lg_cmp x y = 0 ↔ x = y := lg_cmp_eq x y
def zs_part (a b c d : Int64) : Int64 := if d = 0 then 0 else a * (b + c) / d - a * b / d
def zs_put (E : zE) (bt : Int32) (fa fo fm fc : Nat → Int32) : Nat → zE
  | 0 => E
  | k + 1 => zs_enter (zs_put E bt fa fo fm fc k) bt (fa k) (fo k) (fm k) (fc k)
theorem zs_put_1 (E : zE) (bt : Int32) (fa fo fm fc : Nat → Int32) : ∀ k, (zs_put E bt fa fo fm fc k).1 = E.1 + k
  | 0 => rfl
  | k + 1 => by
    show (zs_put E bt fa fo fm fc k).1 + 1 = _
    rw [zs_put_1]; rfl
theorem zs_take_le (p c : Nat → Int32) (x : Int32) : ∀ k, (zs_take p c x k).2.2.1 ≤ k
  | 0 => Nat.le_refl 0
  | k + 1 => by
    have := zs_take_le p c x k
    show (if _ then (zs_take p c x k).2.2.1 + 1 else (zs_take p c x k).2.2.1) ≤ k + 1
    split
    · exact Nat.succ_le_succ this
    · exact Nat.le_succ_of_le this
theorem z_tx0 {p1 p2 : Int32} {n : Nat} {E9 X : String} (s : p1 = 0) (h1 : E9 = X) (h2 : ¬ zin p2 8) : E9 = X ∧ ¬ (p1 = 0 ∧ zin p2 8) ∧ ¬ (p1 = 1 ∧ zin p2 8) ∧ ¬ (p1 = 2 ∧ zin p2 12) ∧ ¬ (zin p2 (nI n) ∧ (p1 = 3 ∨ p1 = 4 ∨ p1 = 5 ∨ p1 = 6 ∨ p1 = 7)) := by
  subst s
  exact ⟨h1, fun h => h2 h.2, fun h => absurd h.1 (by decide), fun h => absurd h.1 (by decide), fun h => absurd h.2 (by decide)⟩
theorem z_tx1 {p1 p2 : Int32} {n : Nat} {E9 X : String} (s : p1 = 1) (h1 : E9 = X) (h2 : ¬ zin p2 8) : E9 = X ∧ ¬ (p1 = 0 ∧ zin p2 8) ∧ ¬ (p1 = 1 ∧ zin p2 8) ∧ ¬ (p1 = 2 ∧ zin p2 12) ∧ ¬ (zin p2 (nI n) ∧ (p1 = 3 ∨ p1 = 4 ∨ p1 = 5 ∨ p1 = 6 ∨ p1 = 7)) := by
  subst s
  exact ⟨h1, fun h => absurd h.1 (by decide), fun h => h2 h.2, fun h => absurd h.1 (by decide), fun h => absurd h.2 (by decide)⟩
theorem z_tx2 {p1 p2 : Int32} {n : Nat} {E9 X : String} (s : p1 = 2) (h1 : E9 = X) (h2 : ¬ zin p2 12) : E9 = X ∧ ¬ (p1 = 0 ∧ zin p2 8) ∧ ¬ (p1 = 1 ∧ zin p2 8) ∧ ¬ (p1 = 2 ∧ zin p2 12) ∧ ¬ (zin p2 (nI n) ∧ (p1 = 3 ∨ p1 = 4 ∨ p1 = 5 ∨ p1 = 6 ∨ p1 = 7)) := by
  subst s
  exact ⟨h1, fun h => absurd h.1 (by decide), fun h => absurd h.1 (by decide), fun h => h2 h.2, fun h => absurd h.2 (by decide)⟩
