/-! THE REFERENCE: what its loops compute, and the numbers of its tests -/
theorem z_mono {a b : Int32} : a.toInt64 ≤ b.toInt64 ↔ a ≤ b := by rw [Int64.le_iff_toInt_le, Int32.le_iff_toInt_le, Int32.toInt_toInt64, Int32.toInt_toInt64]
theorem z_li {x a b r : Int32} {A B : Int64} (hA : a.toInt64 = A) (hB : b.toInt64 = B) (w : (r = 1 ∧ A ≤ x.toInt64 ∧ x.toInt64 ≤ B) ∨ (r = 0 ∧ ¬ (A ≤ x.toInt64 ∧ x.toInt64 ≤ B))) : (r = 1 ∧ ¬ x < a ∧ x ≤ b) ∨ (r = 0 ∧ ¬ (¬ x < a ∧ x ≤ b)) := by
  subst hA; subst hB
  simp only [z_mono] at w
  exact w.imp (fun h => ⟨h.1, Int32.not_lt.mpr h.2.1, h.2.2⟩) (fun h => ⟨h.1, fun g => h.2 ⟨Int32.not_lt.mp g.1, g.2⟩⟩)
theorem z_zle {x : Int32} {k : Nat} (hk : k + 1 < 2 ^ 31) : (¬ x < 0 ∧ x ≤ nI k) ↔ zin x (nI (k + 1)) := by
  have h1 : (nI k).toInt = k := nI_toInt (by omega)
  have h2 : (nI (k + 1)).toInt = (k : Int) + 1 := by rw [nI_toInt hk]; rfl
  simp only [zin, Int32.le_iff_toInt_le, h1, h2]
  refine and_congr_right (fun _ => ?_)
  omega
theorem z_zlm {x : Int32} {k : Nat} (hk : k < 2 ^ 30) : (¬ x < 0 ∧ x ≤ nI k - 1) ↔ zin x (nI k) := by
  have h1 : (nI k).toInt = k := nI_toInt (by omega)
  have h2 : (nI k - 1).toInt = (k : Int) - 1 := pk_sub_toInt (b := 1) hk (by decide)
  simp only [zin, Int32.le_iff_toInt_le, h1, h2]
  refine and_congr_right (fun _ => ?_)
  omega
theorem z_lz {x r : Int32} (k : Nat) (hk : k + 1 < 2 ^ 31) {b : Int64} (hb : (nI k).toInt64 = b) (w : (r = 1 ∧ 0 ≤ x.toInt64 ∧ x.toInt64 ≤ b) ∨ (r = 0 ∧ ¬ (0 ≤ x.toInt64 ∧ x.toInt64 ≤ b))) : (r = 1 ∧ zin x (nI (k + 1))) ∨ (r = 0 ∧ ¬ zin x (nI (k + 1))) := by
  have h := z_li (a := 0) (b := nI k) rfl hb w
  rw [z_zle hk] at h
  exact h
theorem z_lzn {x r : Int32} (k : Nat) (hk : k < 2 ^ 30) (w : (r = 1 ∧ 0 ≤ x.toInt64 ∧ x.toInt64 ≤ (nI k - 1).toInt64) ∨ (r = 0 ∧ ¬ (0 ≤ x.toInt64 ∧ x.toInt64 ≤ (nI k - 1).toInt64))) : (r = 1 ∧ zin x (nI k)) ∨ (r = 0 ∧ ¬ zin x (nI k)) := by
  have h := z_li (a := 0) (b := nI k - 1) rfl rfl w
  rw [z_zlm hk] at h
  exact h
theorem z_b1 {r : Int32} {P : Prop} (f : (r = 1 ∧ P) ∨ (r = 0 ∧ ¬ P)) (c : ¬ r = 0) : P := f.elim (fun h => h.2) (fun h => absurd h.1 c)
theorem z_b0 {r : Int32} {P : Prop} (f : (r = 1 ∧ P) ∨ (r = 0 ∧ ¬ P)) (c : r = 0) : ¬ P := f.elim (fun h => absurd (h.1.symm.trans c) (by decide)) (fun h => h.2)
theorem z_full {n t : Nat} (h : n ≤ t) (ht : t < 2 ^ 31) (c : nI t ≤ nI n) : nI n = nI t := by rw [z_ge h ht c]
theorem z_updN (f : Nat → Nat) (j k : Nat) : upd (fun i => nI (f i)) j (nI k) = fun i => nI (va_up f j k i) := by
  funext i
  simp only [upd, va_up]
  split <;> rfl
def zth (a b c d : Int32) : Int32 := if a = 0 then (if b = 0 then (if c = 0 then (if d = 0 then 0 else 4) else 3) else 2) else 1
/-- the reference's books: how many, of, cents -/
abbrev zM : Type := Nat × (Nat → Int32) × (Nat → Int32)
def zm_enter (M : zM) (bt a o m x : Int32) : zM := (M.1 + 1, upd (upd (upd (upd M.2.1 (4 * M.1) a) (4 * M.1 + 1) o) (4 * M.1 + 2) m) (4 * M.1 + 3) bt, upd M.2.2 M.1 x)
def zm_put (M : zM) (bt : Int32) (lo lc : Nat → Int32) : Nat → zM
  | 0 => M
  | k + 1 => zm_enter (zm_put M bt lo lc k) bt (lo (3 * k)) (lo (3 * k + 1)) (lo (3 * k + 2)) (lc k)
theorem zm_put_1 (M : zM) (bt : Int32) (lo lc : Nat → Int32) : ∀ k, (zm_put M bt lo lc k).1 = M.1 + k
  | 0 => rfl
  | k + 1 => by
    show (zm_put M bt lo lc k).1 + 1 = _
    rw [zm_put_1]; rfl
def zm_cnt (q : Nat → Int32) (b : Int32) : Nat → Nat
  | 0 => 0
  | k + 1 => if q (4 * k + 3) = b then zm_cnt q b k + 1 else zm_cnt q b k
theorem zm_cnt_le (f : Nat → Int32) (b : Int32) : ∀ k, zm_cnt f b k ≤ k
  | 0 => Nat.le_refl 0
  | k + 1 => by
    have := zm_cnt_le f b k
    simp only [zm_cnt]
    split <;> omega
theorem zm_cnt_mono (f : Nat → Int32) (b : Int32) {i k : Nat} (h : i ≤ k) : zm_cnt f b i ≤ zm_cnt f b k := by
  induction h with
  | refl => exact Nat.le_refl _
  | step _ ih =>
    refine Nat.le_trans ih ?_
    simp only [zm_cnt]
    split <;> omega
def zm_turn (M : zM) (bt num im : Int32) : Nat → zM
  | 0 => M
  | k + 1 => if (zm_turn M bt num im k).2.1 (4 * k + 3) = num then zm_enter (zm_turn M bt num im k) bt ((zm_turn M bt num im k).2.1 (4 * k)) ((zm_turn M bt num im k).2.1 (4 * k + 1)) im (-((zm_turn M bt num im k).2.2 k)) else zm_turn M bt num im k
theorem zm_enter_old (M : zM) (bt a o m x : Int32) {i : Nat} (h : i < 4 * M.1) : (zm_enter M bt a o m x).2.1 i = M.2.1 i := by
  show upd (upd (upd (upd M.2.1 (4 * M.1) a) (4 * M.1 + 1) o) (4 * M.1 + 2) m) (4 * M.1 + 3) bt i = _
  rw [pk_un (by omega), pk_un (by omega), pk_un (by omega), pk_un (by omega)]
theorem zm_turn_ok (M : zM) (bt num im : Int32) : ∀ k, k ≤ M.1 → (zm_turn M bt num im k).1 = M.1 + zm_cnt M.2.1 num k ∧ (∀ i, i < 4 * M.1 → (zm_turn M bt num im k).2.1 i = M.2.1 i) ∧ ∀ i, i < M.1 → (zm_turn M bt num im k).2.2 i = M.2.2 i
  | 0, _ => ⟨rfl, fun i _ => rfl, fun i _ => rfl⟩
  | k + 1, hk => by
    obtain ⟨h1, h2, h3⟩ := zm_turn_ok M bt num im k (by omega)
    have hb := h2 (4 * k + 3) (by omega)
    by_cases c : M.2.1 (4 * k + 3) = num
    · have e : zm_turn M bt num im (k + 1) = zm_enter (zm_turn M bt num im k) bt ((zm_turn M bt num im k).2.1 (4 * k)) ((zm_turn M bt num im k).2.1 (4 * k + 1)) im (-((zm_turn M bt num im k).2.2 k)) := by
        simp only [zm_turn]; rw [if_pos (by rw [hb]; exact c)]
      rw [e]
      refine ⟨?_, fun i hi => ?_, fun i hi => ?_⟩
      · show (zm_turn M bt num im k).1 + 1 = _
        rw [h1]; simp only [zm_cnt]; rw [if_pos c]; rfl
      · rw [zm_enter_old _ _ _ _ _ _ (by omega)]; exact h2 i hi
      · show upd _ _ _ i = _
        rw [pk_un (by omega)]; exact h3 i hi
    · have e : zm_turn M bt num im (k + 1) = zm_turn M bt num im k := by
        simp only [zm_turn]; rw [if_neg (by rw [hb]; exact c)]
      rw [e]
      refine ⟨?_, h2, h3⟩
      rw [h1]; simp only [zm_cnt]; rw [if_neg c]
def zm_bal (q c : Nat → Int32) (j : Nat) (k : Int32) : Nat → Int64
  | 0 => 0
  | e + 1 => zm_bal q c j k e + (if q (4 * e + j) = k then (c e).toInt64 else 0)
def zm_shut (lo : Nat → Int32) (cl : Int32) : Nat → Int32
  | 0 => 0
  | k + 1 => if zm_shut lo cl k = 0 then (if lo (3 * k + 2) < cl then 1 else 0) else 1
def zm_to (f : Nat → Int32) (x : Int32) : Nat → Int64
  | 0 => 0
  | k + 1 => zm_to f x k + (if nI k ≤ x then (f k).toInt64 else 0)
def zm_lsum (f : Nat → Int32) (b : Nat) : Nat → Int64
  | 0 => 0
  | k + 1 => zm_lsum f b k + (f (b + k)).toInt64
def zm_worth (p c : Nat → Int32) (b : Nat) : Nat → Int64
  | 0 => 0
  | k + 1 => zm_worth p c b k + (p (b + k)).toInt64 * (c (b + k)).toInt64
def zm_rate (d v : Nat → Int32) (b : Nat) (x : Int32) : Nat → Int32
  | 0 => 0
  | k + 1 => if d (b + k) ≤ x then v (b + k) else zm_rate d v b x k
theorem zm_shut01 (lo : Nat → Int32) (cl : Int32) : ∀ k, zm_shut lo cl k = 0 ∨ zm_shut lo cl k = 1
  | 0 => Or.inl rfl
  | k + 1 => by
    simp only [zm_shut]
    split
    · split
      · exact Or.inr rfl
      · exact Or.inl rfl
    · exact Or.inr rfl
