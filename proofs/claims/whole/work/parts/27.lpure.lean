/-! the questions: told, share, the stocks, the moneys, the pieces -/
theorem zl_add {a b : Int64} {A B : Int} (ha : a.toInt = A) (hb : b.toInt = B) (h1 : -4611686018427387904 ≤ A + B) (h2 : A + B ≤ 4611686018427387904) : (a + b).toInt = A + B := by
  rw [Int64.toInt_add, ha, hb]; exact Int.bmod_eq_of_le (by omega) (by omega)
theorem zl_mul {a b : Int64} {A B : Int} (ha : a.toInt = A) (hb : b.toInt = B) (h1 : -4611686018427387904 ≤ A * B) (h2 : A * B ≤ 4611686018427387904) : (a * b).toInt = A * B := by
  rw [Int64.toInt_mul, ha, hb]; exact Int.bmod_eq_of_le (by omega) (by omega)
theorem zl_div {a b : Int64} {A B : Int} (ha : a.toInt = A) (hb : b.toInt = B) (h1 : 0 ≤ A) (h2 : 0 < B) : (a / b).toInt = A / B := by
  have hne : b ≠ -1 := by
    intro e
    have : b.toInt = -1 := by rw [e]; decide
    omega
  rw [Int64.toInt_div_of_ne_right a b hne, ha, hb, Int.tdiv_eq_ediv_of_nonneg h1]
theorem zi_add {a b : Int32} {A B : Int} (ha : a.toInt = A) (hb : b.toInt = B) (h1 : -1073741824 ≤ A + B) (h2 : A + B ≤ 1073741824) : (a + b).toInt = A + B := by
  rw [Int32.toInt_add, ha, hb]; exact Int.bmod_eq_of_le (by omega) (by omega)
theorem zi_sub {a b : Int32} {A B : Int} (ha : a.toInt = A) (hb : b.toInt = B) (h1 : -1073741824 ≤ A - B) (h2 : A - B ≤ 1073741824) : (a - b).toInt = A - B := by
  rw [Int32.toInt_sub, ha, hb]; exact Int.bmod_eq_of_le (by omega) (by omega)
theorem z_told_b {f : Nat → Int64} {N c : Nat} {E : zE} {p2 : Int32} (hc : c < 3) (hN : N < 2 ^ 31) (h : zin p2 (nI N)) (hb : ∀ k, k < N → f k = zbal E c (nI k)) : f p2.toNatClampNeg = zm_told (zMof E) c p2 := by
  obtain ⟨k, hk, rfl⟩ := z_ix hN h
  rw [nI_clamp (by omega), hb k hk]
  exact (if_pos hc).symm
theorem z_told_4 {E : zE} {p2 : Int32} {g : Nat → Int32} (c : Nat) (hc : ¬ c + 4 < 3) (hc2 : ¬ c + 4 = 3) (h : ∀ k, zMix E (4 * k + c) = g k) : (g p2.toNatClampNeg).toInt64 = zm_told (zMof E) (c + 4) p2 := by
  simp only [zm_told]
  rw [if_neg hc, if_neg hc2]
  show _ = (zMix E (4 * p2.toNatClampNeg + (c + 4) - 4)).toInt64
  rw [show 4 * p2.toNatClampNeg + (c + 4) - 4 = 4 * p2.toNatClampNeg + c by omega, h]
theorem z_8 {j : Nat} (h : j < 8) : j = 0 ∨ j = 1 ∨ j = 2 ∨ j = 3 ∨ j = 4 ∨ j = 5 ∨ j = 6 ∨ j = 7 := by omega
theorem zm_to_min (f : Nat → Int32) {j : Nat} (hj : j < 8) : ∀ k, k ≤ 8 → zm_to f (nI j) k = zs_lsum f (min k (j + 1))
  | 0, _ => by rw [Nat.zero_min]; rfl
  | k + 1, hk => by
    simp only [zm_to]
    rw [zm_to_min f hj k (by omega)]
    by_cases h : k ≤ j
    · rw [if_pos ((nI_leI (by omega) (by omega)).mpr h), Nat.min_eq_left (by omega), Nat.min_eq_left (by omega)]; rfl
    · rw [if_neg (fun g => h ((nI_leI (by omega) (by omega)).mp g)), Nat.min_eq_right (by omega), Nat.min_eq_right (by omega), Int64.add_zero]
theorem z_share_is (f : Nat → Int32) {j : Nat} (hj : j < 8) (p2 : Int32) (h : ¬ zs_lsum f 8 = 0) : zs_part p2.toInt64 (zs_lsum f j) (f j).toInt64 (zs_lsum f 8) = zm_share f (nI j) p2 := by
  have e : zm_to f (nI j) 8 = zs_lsum f j + (f j).toInt64 := by rw [zm_to_min f hj 8 (Nat.le_refl _), Nat.min_eq_right (by omega)]; rfl
  simp only [zs_part, zm_share]
  rw [if_neg h, e, nI_clamp (by omega), Int64.add_sub_cancel]
theorem z_split4 (x : Int32) : x = nI 0 ∨ x = nI 1 ∨ x = nI 2 ∨ x = nI 3 ∨ ¬ zin x 4 := by
  by_cases h : zin x 4
  · obtain ⟨j, hj, rfl⟩ := z_ix (n := 4) (by decide) h
    have hc : j = 0 ∨ j = 1 ∨ j = 2 ∨ j = 3 := by omega
    rcases hc with rfl | rfl | rfl | rfl
    · exact Or.inl rfl
    · exact Or.inr (Or.inl rfl)
    · exact Or.inr (Or.inr (Or.inl rfl))
    · exact Or.inr (Or.inr (Or.inr (Or.inl rfl)))
  · exact Or.inr (Or.inr (Or.inr (Or.inr h)))
theorem z_split3 (x : Int32) : x = nI 0 ∨ x = nI 1 ∨ x = nI 2 ∨ ¬ zin x 3 := by
  by_cases h : zin x 3
  · obtain ⟨j, hj, rfl⟩ := z_ix (n := 3) (by decide) h
    have hc : j = 0 ∨ j = 1 ∨ j = 2 := by omega
    rcases hc with rfl | rfl | rfl
    · exact Or.inl rfl
    · exact Or.inr (Or.inl rfl)
    · exact Or.inr (Or.inr (Or.inl rfl))
  · exact Or.inr (Or.inr (Or.inr h))
section ZST
variable {n b : Nat} {fp fc lp lq : Nat → Int32}
theorem z_isum_b (hn : n ≤ 12) (hs : ∀ k, k < n → lp (b + k) = fp k ∧ lq (b + k) = fc k ∧ 1 ≤ (fp k).toInt ∧ (fp k).toInt ≤ 1000000) : ∀ k, k ≤ n → 0 ≤ (zs_isum fp k).toInt ∧ (zs_isum fp k).toInt ≤ 1000000 * k ∧ zm_lsum lp b k = (zs_isum fp k).toInt64
  | 0, _ => ⟨(by decide : (0 : Int) ≤ (0 : Int32).toInt), (by decide : (0 : Int32).toInt ≤ 1000000 * ((0 : Nat) : Int)), rfl⟩
  | k + 1, hk => by
    obtain ⟨h1, h2, h3⟩ := z_isum_b hn hs k (by omega)
    obtain ⟨g1, -, g2, g3⟩ := hs k (by omega)
    have e : (zs_isum fp (k + 1)).toInt = (zs_isum fp k).toInt + (fp k).toInt := zi_add rfl rfl (by omega) (by omega)
    refine ⟨by omega, by omega, ?_⟩
    rw [← Int64.toInt_inj, Int32.toInt_toInt64, e]
    show (zm_lsum lp b k + (lp (b + k)).toInt64).toInt = _
    exact zl_add (by rw [h3, Int32.toInt_toInt64]) (by rw [g1, Int32.toInt_toInt64]) (by omega) (by omega)
theorem z_worth_is (hs : ∀ k, k < n → lp (b + k) = fp k ∧ lq (b + k) = fc k ∧ 1 ≤ (fp k).toInt ∧ (fp k).toInt ≤ 1000000) : ∀ k, k ≤ n → zm_worth lp lq b k = zs_worth fp fc k
  | 0, _ => rfl
  | k + 1, hk => by
    obtain ⟨g1, g2, -⟩ := hs k (by omega)
    simp only [zm_worth, zs_worth]
    rw [z_worth_is hs k (by omega), g1, g2]
theorem z_has (hn : n ≤ 12) (hs : ∀ k, k < n → lp (b + k) = fp k ∧ lq (b + k) = fc k ∧ 1 ≤ (fp k).toInt ∧ (fp k).toInt ≤ 1000000) (x : Int32) : (¬ zm_lsum lp b n < x.toInt64) ↔ x ≤ zs_isum fp n := by
  rw [(z_isum_b hn hs n (Nat.le_refl _)).2.2, Int64.not_lt, z_mono]
/-! taking: the class goes over the layers, the reference over its first -/
theorem z_tail (fp fc : Nat → Int32) (x : Int32) : ∀ k i, k ≤ i → (zs_take fp fc x k).2.2.2 i = fp i
  | 0, _, _ => rfl
  | k + 1, i, h => by
    show upd (zs_take fp fc x k).2.2.2 k _ i = fp i
    rw [pk_un (by omega)]; exact z_tail fp fc x k i (by omega)
theorem z_take_lt {x : Int32} {k : Nat} (h : fp k < (zs_take fp fc x k).1) : zs_some (zs_take fp fc x k) k = fp k := by
  have e := z_tail fp fc x k k (Nat.le_refl _)
  simp only [zs_some]; rw [e, if_pos h]
theorem z_take_ge {x : Int32} {k : Nat} (h : ¬ fp k < (zs_take fp fc x k).1) : zs_some (zs_take fp fc x k) k = (zs_take fp fc x k).1 := by
  have e := z_tail fp fc x k k (Nat.le_refl _)
  simp only [zs_some]; rw [e, if_neg h]
theorem z_left (hn : n ≤ 12) (hs : ∀ k, k < n → lp (b + k) = fp k ∧ lq (b + k) = fc k ∧ 1 ≤ (fp k).toInt ∧ (fp k).toInt ≤ 1000000) {x : Int32} (hx : 0 ≤ x.toInt ∧ x.toInt ≤ 1000000) : ∀ k, k ≤ n → 0 ≤ (zs_take fp fc x k).1.toInt ∧ (zs_take fp fc x k).1.toInt ≤ 1000000 ∧ ((zs_take fp fc x k).1.toInt = 0 ∨ (zs_take fp fc x k).1.toInt = x.toInt - (zs_isum fp k).toInt)
  | 0, _ => ⟨hx.1, hx.2, Or.inr (by show x.toInt = x.toInt - 0; omega)⟩
  | k + 1, hk => by
    obtain ⟨h1, h2, h3⟩ := z_left hn hs hx k (by omega)
    obtain ⟨-, -, g2, g3⟩ := hs k (by omega)
    obtain ⟨s1, s2, -⟩ := z_isum_b hn hs k (by omega)
    have e : (zs_isum fp (k + 1)).toInt = (zs_isum fp k).toInt + (fp k).toInt := zi_add rfl rfl (by omega) (by omega)
    by_cases c : fp k < (zs_take fp fc x k).1
    · have e1 : (zs_take fp fc x (k + 1)).1 = (zs_take fp fc x k).1 - fp k := by
        show (zs_take fp fc x k).1 - zs_some (zs_take fp fc x k) k = _
        rw [z_take_lt c]
      have c' := Int32.lt_iff_toInt_lt.mp c
      have e2 : (zs_take fp fc x (k + 1)).1.toInt = (zs_take fp fc x k).1.toInt - (fp k).toInt := by rw [e1]; exact zi_sub rfl rfl (by omega) (by omega)
      rw [e2, e]
      refine ⟨by omega, by omega, ?_⟩
      rcases h3 with h3 | h3
      · omega
      · right; omega
    · have e1 : (zs_take fp fc x (k + 1)).1 = 0 := by
        show (zs_take fp fc x k).1 - zs_some (zs_take fp fc x k) k = _
        rw [z_take_ge c, Int32.sub_self]
      rw [e1]
      exact ⟨by decide, by decide, Or.inl rfl⟩
theorem z_first {P : Nat → Prop} : ∀ n, P n → ∃ N, N ≤ n ∧ P N ∧ ∀ i, i < N → ¬ P i
  | 0, h => ⟨0, Nat.le_refl _, h, fun i hi => absurd hi (Nat.not_lt_zero i)⟩
  | n + 1, h => by
    by_cases c : ∃ i, i ≤ n ∧ P i
    · obtain ⟨i, hi, hp⟩ := c
      obtain ⟨N, h1, h2, h3⟩ := z_first i hp
      exact ⟨N, by omega, h2, h3⟩
    · exact ⟨n + 1, Nat.le_refl _, h, fun i hi hp => c ⟨i, by omega, hp⟩⟩
theorem zm_sh_at (f : Nat → Int32) (b : Nat) : ∀ k i, zm_sh f b k i = if b ≤ i ∧ i < b + k then f (i + 1) else f i
  | 0, i => by rw [if_neg (by omega)]; rfl
  | k + 1, i => by
    show upd (zm_sh f b k) (b + k) (zm_sh f b k (b + k + 1)) i = _
    by_cases e : i = b + k
    · rw [e, pk_us, zm_sh_at f b k (b + k + 1), if_neg (by omega), if_pos (by omega)]
    · rw [pk_un e, zm_sh_at f b k i]
      by_cases c : b ≤ i ∧ i < b + k
      · rw [if_pos c, if_pos (by omega)]
      · rw [if_neg c, if_neg (by omega)]
theorem zs_mv_at (f : Nat → Int32) (e : Nat) : ∀ k i, zs_mv f e k i = if i < k then f (e + i) else f i
  | 0, i => by rw [if_neg (by omega)]; rfl
  | k + 1, i => by
    show upd (zs_mv f e k) k (zs_mv f e k (e + k)) i = _
    by_cases c : i = k
    · rw [c, pk_us, zs_mv_at f e k (e + k), if_neg (by omega), if_pos (by omega)]
    · rw [pk_un c, zs_mv_at f e k i]
      by_cases d : i < k
      · rw [if_pos d, if_pos (by omega)]
      · rw [if_neg d, if_neg (by omega)]
/-- after k emptied layers both sides stand alike -/
def zSim (n b : Nat) (fp fc lp lq : Nat → Int32) (x : Int32) (k : Nat) : Prop :=
  (zm_it b (x, 0, n, lp, lq) k).1 = (zs_take fp fc x k).1 ∧ (zm_it b (x, 0, n, lp, lq) k).2.1 = (zs_take fp fc x k).2.1 ∧ (zm_it b (x, 0, n, lp, lq) k).2.2.1 = n - k ∧ (zs_take fp fc x k).2.2.1 = k ∧
  (∀ i, i < n - k → (zm_it b (x, 0, n, lp, lq) k).2.2.2.1 (b + i) = fp (k + i) ∧ (zm_it b (x, 0, n, lp, lq) k).2.2.2.2 (b + i) = fc (k + i)) ∧
  ∀ i, i < b ∨ b + n ≤ i → (zm_it b (x, 0, n, lp, lq) k).2.2.2.1 i = lp i ∧ (zm_it b (x, 0, n, lp, lq) k).2.2.2.2 i = lq i
theorem z_sim0 (hs : ∀ k, k < n → lp (b + k) = fp k ∧ lq (b + k) = fc k ∧ 1 ≤ (fp k).toInt ∧ (fp k).toInt ≤ 1000000) (x : Int32) : zSim n b fp fc lp lq x 0 := by
  refine ⟨rfl, rfl, rfl, rfl, fun i hi => ?_, fun i _ => ⟨rfl, rfl⟩⟩
  rw [Nat.zero_add]
  exact ⟨(hs i hi).1, (hs i hi).2.1⟩
theorem z_sim1 {x : Int32} {k : Nat} (hk : k < n) (h : zSim n b fp fc lp lq x k) (c : fp k < (zs_take fp fc x k).1) : zSim n b fp fc lp lq x (k + 1) := by
  obtain ⟨h1, h2, h3, h4, h5, h6⟩ := h
  have h50 := h5 0 (by omega)
  rw [Nat.add_zero, Nat.add_zero] at h50
  have so : zm_so b (zm_it b (x, 0, n, lp, lq) k) = fp k := by
    simp only [zm_so]; rw [h50.1, h1, if_pos c]
  have sm := z_take_lt c
  have e : zm_it b (x, 0, n, lp, lq) (k + 1) = ((zs_take fp fc x k).1 - fp k, (zs_take fp fc x k).2.1 + (fp k).toInt64 * (fc k).toInt64, n - k - 1, zm_sh (upd (zm_it b (x, 0, n, lp, lq) k).2.2.2.1 b (fp k - fp k)) b (n - k - 1), zm_sh (zm_it b (x, 0, n, lp, lq) k).2.2.2.2 b (n - k - 1)) := by
    show zm_step b (zm_it b (x, 0, n, lp, lq) k) = _
    simp only [zm_step]
    rw [so, h50.1, h50.2, if_pos (Int32.sub_self _), h1, h2, h3]
  have e' : zs_take fp fc x (k + 1) = ((zs_take fp fc x k).1 - fp k, (zs_take fp fc x k).2.1 + (fp k).toInt64 * (fc k).toInt64, k + 1, upd (zs_take fp fc x k).2.2.2 k (fp k - fp k)) := by
    show zs_take1 (zs_take fp fc x k) fc k = _
    simp only [zs_take1]
    rw [sm, z_tail fp fc x k k (Nat.le_refl _), if_pos (Int32.sub_self _), h4]
  refine ⟨by rw [e, e'], by rw [e, e'], by rw [e]; show n - k - 1 = n - (k + 1); omega, by rw [e'], fun i hi => ?_, fun i hi => ?_⟩
  · have hq := h5 (i + 1) (by omega)
    rw [e]
    refine ⟨?_, ?_⟩
    · show zm_sh _ b (n - k - 1) (b + i) = _
      rw [zm_sh_at, if_pos (by omega), pk_un (by omega), show b + i + 1 = b + (i + 1) by omega, hq.1, show k + (i + 1) = k + 1 + i by omega]
    · show zm_sh _ b (n - k - 1) (b + i) = _
      rw [zm_sh_at, if_pos (by omega), show b + i + 1 = b + (i + 1) by omega, hq.2, show k + (i + 1) = k + 1 + i by omega]
  · have hq := h6 i hi
    rw [e]
    refine ⟨?_, ?_⟩
    · show zm_sh _ b (n - k - 1) i = _
      rw [zm_sh_at, if_neg (by omega), pk_un (by omega), hq.1]
    · show zm_sh _ b (n - k - 1) i = _
      rw [zm_sh_at, if_neg (by omega), hq.2]
theorem z_rest (hs : ∀ k, k < n → lp (b + k) = fp k ∧ lq (b + k) = fc k ∧ 1 ≤ (fp k).toInt ∧ (fp k).toInt ≤ 1000000) {x : Int32} {m : Nat} (h0 : (zs_take fp fc x m).1 = 0) : ∀ d, m + d ≤ n → (zs_take fp fc x (m + d)).1 = 0 ∧ (zs_take fp fc x (m + d)).2.1 = (zs_take fp fc x m).2.1 ∧ (zs_take fp fc x (m + d)).2.2.1 = (zs_take fp fc x m).2.2.1 ∧ ∀ i, (zs_take fp fc x (m + d)).2.2.2 i = (zs_take fp fc x m).2.2.2 i
  | 0, _ => ⟨h0, rfl, rfl, fun _ => rfl⟩
  | d + 1, hd => by
    obtain ⟨h1, h2, h3, h4⟩ := z_rest hs h0 d (by omega)
    obtain ⟨-, -, g2, g3⟩ := hs (m + d) (by omega)
    have hc : ¬ fp (m + d) < (zs_take fp fc x (m + d)).1 := by
      rw [h1, Int32.lt_iff_toInt_lt]
      have : (0 : Int32).toInt = 0 := by decide
      omega
    have hz : ¬ fp (m + d) - 0 = 0 := by
      rw [Int32.sub_zero]
      intro e
      have : (fp (m + d)).toInt = 0 := by rw [e]; decide
      omega
    have sm := (z_take_ge hc).trans h1
    have ep := z_tail fp fc x (m + d) (m + d) (Nat.le_refl _)
    have e' : zs_take fp fc x (m + (d + 1)) = ((zs_take fp fc x (m + d)).1 - 0, (zs_take fp fc x (m + d)).2.1 + (0 : Int32).toInt64 * (fc (m + d)).toInt64, (zs_take fp fc x (m + d)).2.2.1, upd (zs_take fp fc x (m + d)).2.2.2 (m + d) (fp (m + d) - 0)) := by
      show zs_take1 (zs_take fp fc x (m + d)) fc (m + d) = _
      simp only [zs_take1]
      rw [sm, ep, if_neg hz]
    rw [e']
    refine ⟨?_, ?_, h3, fun i => ?_⟩
    · show (zs_take fp fc x (m + d)).1 - 0 = 0
      rw [h1, Int32.sub_zero]
    · show (zs_take fp fc x (m + d)).2.1 + (0 : Int32).toInt64 * (fc (m + d)).toInt64 = _
      rw [h2, show (0 : Int32).toInt64 = 0 by decide, Int64.zero_mul, Int64.add_zero]
    · show upd (zs_take fp fc x (m + d)).2.2.2 (m + d) (fp (m + d) - 0) i = _
      by_cases e : i = m + d
      · rw [e, pk_us, Int32.sub_zero, ← ep]; exact h4 _
      · rw [pk_un e]; exact h4 i
/-- what both sides are after a taking -/
def zTk (n b : Nat) (fp fc lp lq : Nat → Int32) (x : Int32) (N : Nat) : Prop :=
  (zm_it b (x, 0, n, lp, lq) N).2.1 = (zs_take fp fc x n).2.1 ∧ (zm_it b (x, 0, n, lp, lq) N).2.2.1 = n - (zs_take fp fc x n).2.2.1 ∧
  (∀ i, i < n - (zs_take fp fc x n).2.2.1 → (zm_it b (x, 0, n, lp, lq) N).2.2.2.1 (b + i) = (zs_take fp fc x n).2.2.2 ((zs_take fp fc x n).2.2.1 + i) ∧ (zm_it b (x, 0, n, lp, lq) N).2.2.2.2 (b + i) = fc ((zs_take fp fc x n).2.2.1 + i) ∧ 1 ≤ ((zs_take fp fc x n).2.2.2 ((zs_take fp fc x n).2.2.1 + i)).toInt ∧ ((zs_take fp fc x n).2.2.2 ((zs_take fp fc x n).2.2.1 + i)).toInt ≤ 1000000) ∧
  ∀ i, i < b ∨ b + n ≤ i → (zm_it b (x, 0, n, lp, lq) N).2.2.2.1 i = lp i ∧ (zm_it b (x, 0, n, lp, lq) N).2.2.2.2 i = lq i
theorem z_sims (hn : n ≤ 12) (hs : ∀ k, k < n → lp (b + k) = fp k ∧ lq (b + k) = fc k ∧ 1 ≤ (fp k).toInt ∧ (fp k).toInt ≤ 1000000) {x : Int32} (hx : 1 ≤ x.toInt ∧ x.toInt ≤ 1000000) {k : Nat} (hk : k ≤ n) (h : ∀ i, i ≤ k → ¬ (zs_take fp fc x i).1 ≤ 0) : ∀ i, i ≤ k → zSim n b fp fc lp lq x i
  | 0, _ => z_sim0 hs x
  | i + 1, hi => by
    have h9 := z_sims hn hs hx hk h i (by omega)
    refine z_sim1 (by omega) h9 ?_
    have g := h (i + 1) hi
    by_cases c : fp i < (zs_take fp fc x i).1
    · exact c
    · exfalso
      refine g ?_
      have e1 : (zs_take fp fc x (i + 1)).1 = 0 := by
        show (zs_take fp fc x i).1 - zs_some (zs_take fp fc x i) i = _
        rw [z_take_ge c, Int32.sub_self]
      rw [e1]; decide
theorem z_taken (hn : n ≤ 12) (hs : ∀ k, k < n → lp (b + k) = fp k ∧ lq (b + k) = fc k ∧ 1 ≤ (fp k).toInt ∧ (fp k).toInt ≤ 1000000) {x : Int32} (hx : 1 ≤ x.toInt ∧ x.toInt ≤ 1000000) (hm : x ≤ zs_isum fp n) :
    ∃ N, ((zm_it b (x, 0, n, lp, lq) N).1 ≤ 0 ∧ ∀ i, i < N → ¬ (zm_it b (x, 0, n, lp, lq) i).1 ≤ 0 ∧ 0 < (zm_it b (x, 0, n, lp, lq) i).2.2.1 ∧ (zm_it b (x, 0, n, lp, lq) i).2.2.1 ≤ 12) ∧ zTk n b fp fc lp lq x N := by
  have z0 : (0 : Int32).toInt = 0 := by decide
  have hl := z_left hn hs ⟨by omega, hx.2⟩ n (Nat.le_refl _)
  have hm' := Int32.le_iff_toInt_le.mp hm
  have hz : (zs_take fp fc x n).1 ≤ 0 := by
    rw [Int32.le_iff_toInt_le]
    rcases hl.2.2 with h | h <;> omega
  obtain ⟨N, hN, hP, hno⟩ := z_first (P := fun k => (zs_take fp fc x k).1 ≤ 0) n hz
  have hN0 : N ≠ 0 := by
    intro e
    rw [e] at hP
    have : x ≤ 0 := hP
    have := Int32.le_iff_toInt_le.mp this
    omega
  obtain ⟨k, rfl⟩ := Nat.exists_eq_succ_of_ne_zero hN0
  have hk : k < n := hN
  have sims := z_sims hn hs hx (Nat.le_of_lt hk) (fun i hi => hno i (by omega))
  obtain ⟨h1, h2, h3, h4, h5, h6⟩ := sims k (Nat.le_refl _)
  obtain ⟨l1, l2, -⟩ := z_left hn hs (x := x) ⟨by omega, hx.2⟩ k (by omega)
  have hpos : 0 < (zs_take fp fc x k).1.toInt := by
    have g := hno k (by omega)
    rw [Int32.le_iff_toInt_le] at g
    omega
  obtain ⟨-, -, g2, g3⟩ := hs k hk
  have c : ¬ fp k < (zs_take fp fc x k).1 := by
    intro c
    have hP2 : (zs_take fp fc x k).1 - zs_some (zs_take fp fc x k) k ≤ 0 := hP
    rw [z_take_lt c, Int32.le_iff_toInt_le, zi_sub rfl rfl (by omega) (by omega)] at hP2
    have := Int32.lt_iff_toInt_lt.mp c
    omega
  have c' : (zs_take fp fc x k).1.toInt ≤ (fp k).toInt := by
    have := Int32.not_lt.mp c
    exact Int32.le_iff_toInt_le.mp this
  have h50 := h5 0 (by omega)
  rw [Nat.add_zero, Nat.add_zero] at h50
  have so : zm_so b (zm_it b (x, 0, n, lp, lq) k) = (zs_take fp fc x k).1 := by
    simp only [zm_so]; rw [h50.1, h1, if_neg c]
  have sm := z_take_ge c
  have ep := z_tail fp fc x k k (Nat.le_refl _)
  have hd : (fp k - (zs_take fp fc x k).1).toInt = (fp k).toInt - (zs_take fp fc x k).1.toInt := zi_sub rfl rfl (by omega) (by omega)
  have hout : ∀ i, i < k + 1 → ¬ (zm_it b (x, 0, n, lp, lq) i).1 ≤ 0 ∧ 0 < (zm_it b (x, 0, n, lp, lq) i).2.2.1 ∧ (zm_it b (x, 0, n, lp, lq) i).2.2.1 ≤ 12 := by
    intro i hi
    obtain ⟨q1, -, q3, -⟩ := sims i (by omega)
    rw [q1, q3]
    exact ⟨hno i hi, by omega, by omega⟩
  have e0 : (zs_take fp fc x (k + 1)).1 = 0 := by
    show (zs_take fp fc x k).1 - zs_some (zs_take fp fc x k) k = _
    rw [sm, Int32.sub_self]
  obtain ⟨r1, r2, r3, r4⟩ := z_rest hs e0 (n - (k + 1)) (by omega)
  rw [show k + 1 + (n - (k + 1)) = n by omega] at r1 r2 r3 r4
  refine ⟨k + 1, ⟨?_, hout⟩, ?_⟩
  · show (zm_step b (zm_it b (x, 0, n, lp, lq) k)).1 ≤ 0
    simp only [zm_step]
    rw [so, h1]
    split
    · show (zs_take fp fc x k).1 - (zs_take fp fc x k).1 ≤ 0
      rw [Int32.sub_self]; decide
    · show (zs_take fp fc x k).1 - (zs_take fp fc x k).1 ≤ 0
      rw [Int32.sub_self]; decide
  by_cases z : fp k - (zs_take fp fc x k).1 = 0
  · have e : zm_it b (x, 0, n, lp, lq) (k + 1) = ((zs_take fp fc x k).1 - (zs_take fp fc x k).1, (zs_take fp fc x k).2.1 + (zs_take fp fc x k).1.toInt64 * (fc k).toInt64, n - k - 1, zm_sh (upd (zm_it b (x, 0, n, lp, lq) k).2.2.2.1 b (fp k - (zs_take fp fc x k).1)) b (n - k - 1), zm_sh (zm_it b (x, 0, n, lp, lq) k).2.2.2.2 b (n - k - 1)) := by
      show zm_step b (zm_it b (x, 0, n, lp, lq) k) = _
      simp only [zm_step]
      rw [so, h50.1, h50.2, if_pos z, h1, h2, h3]
    have e' : zs_take fp fc x (k + 1) = ((zs_take fp fc x k).1 - (zs_take fp fc x k).1, (zs_take fp fc x k).2.1 + (zs_take fp fc x k).1.toInt64 * (fc k).toInt64, k + 1, upd (zs_take fp fc x k).2.2.2 k (fp k - (zs_take fp fc x k).1)) := by
      show zs_take1 (zs_take fp fc x k) fc k = _
      simp only [zs_take1]
      rw [sm, ep, if_pos z, h4]
    have r3' : (zs_take fp fc x n).2.2.1 = k + 1 := by rw [r3, e']
    refine ⟨by rw [r2, e, e'], by rw [r3', e]; show n - k - 1 = n - (k + 1); omega, ?_, ?_⟩
    · rw [r3', e]
      intro i hi
      have hq := h5 (i + 1) (by omega)
      obtain ⟨-, -, y1, y2⟩ := hs (k + 1 + i) (by omega)
      have et : (zs_take fp fc x n).2.2.2 (k + 1 + i) = fp (k + 1 + i) := by rw [r4]; exact z_tail fp fc x (k + 1) _ (by omega)
      rw [et]
      refine ⟨?_, ?_, y1, y2⟩
      · show zm_sh _ b (n - k - 1) (b + i) = _
        rw [zm_sh_at, if_pos (by omega), pk_un (by omega), show b + i + 1 = b + (i + 1) by omega, hq.1, show k + (i + 1) = k + 1 + i by omega]
      · show zm_sh _ b (n - k - 1) (b + i) = _
        rw [zm_sh_at, if_pos (by omega), show b + i + 1 = b + (i + 1) by omega, hq.2, show k + (i + 1) = k + 1 + i by omega]
    · intro i hi
      have hq := h6 i hi
      rw [e]
      refine ⟨?_, ?_⟩
      · show zm_sh _ b (n - k - 1) i = _
        rw [zm_sh_at, if_neg (by omega), pk_un (by omega), hq.1]
      · show zm_sh _ b (n - k - 1) i = _
        rw [zm_sh_at, if_neg (by omega), hq.2]
  · have e : zm_it b (x, 0, n, lp, lq) (k + 1) = ((zs_take fp fc x k).1 - (zs_take fp fc x k).1, (zs_take fp fc x k).2.1 + (zs_take fp fc x k).1.toInt64 * (fc k).toInt64, n - k, upd (zm_it b (x, 0, n, lp, lq) k).2.2.2.1 b (fp k - (zs_take fp fc x k).1), (zm_it b (x, 0, n, lp, lq) k).2.2.2.2) := by
      show zm_step b (zm_it b (x, 0, n, lp, lq) k) = _
      simp only [zm_step]
      rw [so, h50.1, h50.2, if_neg z, h1, h2, h3]
    have e' : zs_take fp fc x (k + 1) = ((zs_take fp fc x k).1 - (zs_take fp fc x k).1, (zs_take fp fc x k).2.1 + (zs_take fp fc x k).1.toInt64 * (fc k).toInt64, k, upd (zs_take fp fc x k).2.2.2 k (fp k - (zs_take fp fc x k).1)) := by
      show zs_take1 (zs_take fp fc x k) fc k = _
      simp only [zs_take1]
      rw [sm, ep, if_neg z, h4]
    have hdz : (fp k - (zs_take fp fc x k).1).toInt ≠ 0 := by
      intro h
      refine z (Int32.toInt_inj.mp ?_)
      rw [h, z0]
    have r3' : (zs_take fp fc x n).2.2.1 = k := by rw [r3, e']
    refine ⟨by rw [r2, e, e'], by rw [r3', e], ?_, ?_⟩
    · rw [r3', e]
      intro i hi
      have hq := h5 i (by omega)
      rw [r4, e']
      by_cases e9 : i = 0
      · subst e9
        refine ⟨?_, ?_, ?_⟩
        · show upd _ b _ (b + 0) = upd _ k _ (k + 0)
          rw [Nat.add_zero, Nat.add_zero, pk_us, pk_us]
        · exact hq.2
        · show 1 ≤ (upd _ k _ (k + 0)).toInt ∧ (upd _ k _ (k + 0)).toInt ≤ _
          rw [Nat.add_zero, pk_us, hd]
          omega
      · obtain ⟨-, -, y1, y2⟩ := hs (k + i) (by omega)
        have et := z_tail fp fc x k (k + i) (by omega)
        refine ⟨?_, hq.2, ?_⟩
        · show upd _ b _ (b + i) = upd _ k _ (k + i)
          rw [pk_un (by omega), pk_un (by omega), hq.1, et]
        · show 1 ≤ (upd _ k _ (k + i)).toInt ∧ (upd _ k _ (k + i)).toInt ≤ _
          rw [pk_un (by omega), et]
          exact ⟨y1, y2⟩
    · intro i hi
      have hq := h6 i hi
      rw [e]
      refine ⟨?_, hq.2⟩
      show upd _ b _ i = _
      rw [pk_un (by omega), hq.1]
theorem z_takeE (hn : n ≤ 12) (hs : ∀ k, k < n → lp (b + k) = fp k ∧ lq (b + k) = fc k ∧ 1 ≤ (fp k).toInt ∧ (fp k).toInt ≤ 1000000) (x : Int32) :
    ∃ N, (¬ x < 1 ∧ x ≤ 1000000) → (¬ zm_lsum lp b n < x.toInt64) → ((zm_it b (x, 0, n, lp, lq) N).1 ≤ 0 ∧ ∀ i, i < N → ¬ (zm_it b (x, 0, n, lp, lq) i).1 ≤ 0 ∧ 0 < (zm_it b (x, 0, n, lp, lq) i).2.2.1 ∧ (zm_it b (x, 0, n, lp, lq) i).2.2.1 ≤ 12) ∧ zTk n b fp fc lp lq x N := by
  by_cases c : (¬ x < 1 ∧ x ≤ 1000000) ∧ ¬ zm_lsum lp b n < x.toInt64
  · obtain ⟨N, h⟩ := z_taken hn hs (z_toI (A := 1) (B := 1000000) (by decide) (by decide) c.1) ((z_has hn hs x).mp c.2)
    exact ⟨N, fun _ _ => h⟩
  · exact ⟨0, fun h1 h2 => absurd ⟨h1, h2⟩ c⟩
end ZST
