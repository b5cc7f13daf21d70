/-! the questions: told, share, the stocks, the moneys, the pieces -/
theorem zl_add {a b : Int64} {A B : Int} (ha : a.toInt = A) (hb : b.toInt = B) (h1 : -4611686018427387904 ≤ A + B) (h2 : A + B ≤ 4611686018427387904) : (a + b).toInt = A + B := by
  rw [Int64.toInt_add, ha, hb]; exact Int.bmod_eq_of_le (by omega) (by omega)
theorem zl_mul {a b : Int64} {A B : Int} (ha : a.toInt = A) (hb : b.toInt = B) (h1 : -4611686018427387904 ≤ A * B) (h2 : A * B ≤ 4611686018427387904) : (a * b).toInt = A * B := by
  rw [Int64.toInt_mul, ha, hb]; exact Int.bmod_eq_of_le (by omega) (by omega)
theorem zl_div {a b : Int64} {A B : Int} (ha : a.toInt = A) (hb : b.toInt = B) (h1 : 0 ≤ A) (h2 : 0 < B) : (a / b).toInt = A / B := by
  have hne : b ≠ -1 := by
    intro e
    have : b.toInt = -1 := by rw [e]; decide
    omega
  rw [Int64.toInt_div_of_ne_right a b hne, ha, hb, Int.tdiv_eq_ediv_of_nonneg h1]
theorem zi_add {a b : Int32} {A B : Int} (ha : a.toInt = A) (hb : b.toInt = B) (h1 : -1073741824 ≤ A + B) (h2 : A + B ≤ 1073741824) : (a + b).toInt = A + B := by
  rw [Int32.toInt_add, ha, hb]; exact Int.bmod_eq_of_le (by omega) (by omega)
theorem zi_sub {a b : Int32} {A B : Int} (ha : a.toInt = A) (hb : b.toInt = B) (h1 : -1073741824 ≤ A - B) (h2 : A - B ≤ 1073741824) : (a - b).toInt = A - B := by
  rw [Int32.toInt_sub, ha, hb]; exact Int.bmod_eq_of_le (by omega) (by omega)
theorem z_told_b {f : Nat → Int64} {N c : Nat} {E : zE} {p2 : Int32} (hc : c < 3) (hN : N < 2 ^ 31) (h : zin p2 (nI N)) (hb : ∀ k, k < N → f k = zbal E c (nI k)) : f p2.toNatClampNeg = zm_told (zMof E) c p2 := by
  obtain ⟨k, hk, rfl⟩ := z_ix hN h
  rw [nI_clamp (by omega), hb k hk]
  exact (if_pos hc).symm
theorem z_told_4 {E : zE} {p2 : Int32} {g : Nat → Int32} (c : Nat) (hc : ¬ c + 4 < 3) (hc2 : ¬ c + 4 = 3) (h : ∀ k, zMix E (4 * k + c) = g k) : (g p2.toNatClampNeg).toInt64 = zm_told (zMof E) (c + 4) p2 := by
  simp only [zm_told]
  rw [if_neg hc, if_neg hc2]
  show _ = (zMix E (4 * p2.toNatClampNeg + (c + 4) - 4)).toInt64
  rw [show 4 * p2.toNatClampNeg + (c + 4) - 4 = 4 * p2.toNatClampNeg + c by omega, h]
theorem z_8 {j : Nat} (h : j < 8) : j = 0 ∨ j = 1 ∨ j = 2 ∨ j = 3 ∨ j = 4 ∨ j = 5 ∨ j = 6 ∨ j = 7 := by omega
theorem zm_to_min (f : Nat → Int32) {j : Nat} (hj : j < 8) : ∀ k, k ≤ 8 → zm_to f (nI j) k = zs_lsum f (min k (j + 1))
  | 0, _ => by rw [Nat.zero_min]; rfl
  | k + 1, hk => by
    simp only [zm_to]
    rw [zm_to_min f hj k (by omega)]
    by_cases h : k ≤ j
    · rw [if_pos ((nI_leI (by omega) (by omega)).mpr h), Nat.min_eq_left (by omega), Nat.min_eq_left (by omega)]; rfl
    · rw [if_neg (fun g => h ((nI_leI (by omega) (by omega)).mp g)), Nat.min_eq_right (by omega), Nat.min_eq_right (by omega), Int64.add_zero]
theorem z_share_is (f : Nat → Int32) {j : Nat} (hj : j < 8) (p2 : Int32) (h : ¬ zs_lsum f 8 = 0) : zs_part p2.toInt64 (zs_lsum f j) (f j).toInt64 (zs_lsum f 8) = zm_share f (nI j) p2 := by
  have e : zm_to f (nI j) 8 = zs_lsum f j + (f j).toInt64 := by rw [zm_to_min f hj 8 (Nat.le_refl _), Nat.min_eq_right (by omega)]; rfl
  simp only [zs_part, zm_share]
  rw [if_neg h, e, nI_clamp (by omega), Int64.add_sub_cancel]
theorem z_split4 (x : Int32) : x = nI 0 ∨ x = nI 1 ∨ x = nI 2 ∨ x = nI 3 ∨ ¬ zin x 4 := by
  by_cases h : zin x 4
  · obtain ⟨j, hj, rfl⟩ := z_ix (n := 4) (by decide) h
    have hc : j = 0 ∨ j = 1 ∨ j = 2 ∨ j = 3 := by omega
    rcases hc with rfl | rfl | rfl | rfl
    · exact Or.inl rfl
    · exact Or.inr (Or.inl rfl)
    · exact Or.inr (Or.inr (Or.inl rfl))
    · exact Or.inr (Or.inr (Or.inr (Or.inl rfl)))
  · exact Or.inr (Or.inr (Or.inr (Or.inr h)))
theorem z_split3 (x : Int32) : x = nI 0 ∨ x = nI 1 ∨ x = nI 2 ∨ ¬ zin x 3 := by
  by_cases h : zin x 3
  · obtain ⟨j, hj, rfl⟩ := z_ix (n := 3) (by decide) h
    have hc : j = 0 ∨ j = 1 ∨ j = 2 := by omega
    rcases hc with rfl | rfl | rfl
    · exact Or.inl rfl
    · exact Or.inr (Or.inl rfl)
    · exact Or.inr (Or.inr (Or.inl rfl))
  · exact Or.inr (Or.inr (Or.inr h))
section ZST
variable {n b : Nat} {fp fc lp lq : Nat → Int32}
theorem z_isum_b (hn : n ≤ 12) (hs : ∀ k, k < n → lp (b + k) = fp k ∧ lq (b + k) = fc k ∧ 1 ≤ (fp k).toInt ∧ (fp k).toInt ≤ 1000000) : ∀ k, k ≤ n → 0 ≤ (zs_isum fp k).toInt ∧ (zs_isum fp k).toInt ≤ 1000000 * k ∧ zm_lsum lp b k = (zs_isum fp k).toInt64
  | 0, _ => ⟨(by decide : (0 : Int) ≤ (0 : Int32).toInt), (by decide : (0 : Int32).toInt ≤ 1000000 * ((0 : Nat) : Int)), rfl⟩
  | k + 1, hk => by
    obtain ⟨h1, h2, h3⟩ := z_isum_b hn hs k (by omega)
    obtain ⟨g1, -, g2, g3⟩ := hs k (by omega)
    have e : (zs_isum fp (k + 1)).toInt = (zs_isum fp k).toInt + (fp k).toInt := zi_add rfl rfl (by omega) (by omega)
    refine ⟨by omega, by omega, ?_⟩
    rw [← Int64.toInt_inj, Int32.toInt_toInt64, e]
    show (zm_lsum lp b k + (lp (b + k)).toInt64).toInt = _
    exact zl_add (by rw [h3, Int32.toInt_toInt64]) (by rw [g1, Int32.toInt_toInt64]) (by omega) (by omega)
theorem z_worth_is (hs : ∀ k, k < n → lp (b + k) = fp k ∧ lq (b + k) = fc k ∧ 1 ≤ (fp k).toInt ∧ (fp k).toInt ≤ 1000000) : ∀ k, k ≤ n → zm_worth lp lq b k = zs_worth fp fc k
  | 0, _ => rfl
  | k + 1, hk => by
    obtain ⟨g1, g2, -⟩ := hs k (by omega)
    simp only [zm_worth, zs_worth]
    rw [z_worth_is hs k (by omega), g1, g2]
theorem z_has (hn : n ≤ 12) (hs : ∀ k, k < n → lp (b + k) = fp k ∧ lq (b + k) = fc k ∧ 1 ≤ (fp k).toInt ∧ (fp k).toInt ≤ 1000000) (x : Int32) : (¬ zm_lsum lp b n < x.toInt64) ↔ x ≤ zs_isum fp n := by
  rw [(z_isum_b hn hs n (Nat.le_refl _)).2.2, Int64.not_lt, z_mono]
/-! taking: the class goes over the layers, the reference over its first -/
theorem z_tail (fp fc : Nat → Int32) (x : Int32) : ∀ k i, k ≤ i → (zs_take fp fc x k).2.2.2 i = fp i
  | 0, _, _ => rfl
  | k + 1, i, h => by
    show upd (zs_take fp fc x k).2.2.2 k _ i = fp i
    rw [pk_un (by omega)]; exact z_tail fp fc x k i (by omega)
theorem z_take_lt {x : Int32} {k : Nat} (h : fp k < (zs_take fp fc x k).1) : zs_some (zs_take fp fc x k) k = fp k := by
  have e := z_tail fp fc x k k (Nat.le_refl _)
  simp only [zs_some]; rw [e, if_pos h]
theorem z_take_ge {x : Int32} {k : Nat} (h : ¬ fp k < (zs_take fp fc x k).1) : zs_some (zs_take fp fc x k) k = (zs_take fp fc x k).1 := by
  have e := z_tail fp fc x k k (Nat.le_refl _)
  simp only [zs_some]; rw [e, if_neg h]
theorem z_left (hn : n ≤ 12) (hs : ∀ k, k < n → lp (b + k) = fp k ∧ lq (b + k) = fc k ∧ 1 ≤ (fp k).toInt ∧ (fp k).toInt ≤ 1000000) {x : Int32} (hx : 0 ≤ x.toInt ∧ x.toInt ≤ 1000000) : ∀ k, k ≤ n → 0 ≤ (zs_take fp fc x k).1.toInt ∧ (zs_take fp fc x k).1.toInt ≤ 1000000 ∧ ((zs_take fp fc x k).1.toInt = 0 ∨ (zs_take fp fc x k).1.toInt = x.toInt - (zs_isum fp k).toInt)
  | 0, _ => ⟨hx.1, hx.2, Or.inr (by show x.toInt = x.toInt - 0; omega)⟩
  | k + 1, hk => by
    obtain ⟨h1, h2, h3⟩ := z_left hn hs hx k (by omega)
    obtain ⟨-, -, g2, g3⟩ := hs k (by omega)
    obtain ⟨s1, s2, -⟩ := z_isum_b hn hs k (by omega)
    have e : (zs_isum fp (k + 1)).toInt = (zs_isum fp k).toInt + (fp k).toInt := zi_add rfl rfl (by omega) (by omega)
    by_cases c : fp k < (zs_take fp fc x k).1
    · have e1 : (zs_take fp fc x (k + 1)).1 = (zs_take fp fc x k).1 - fp k := by
        show (zs_take fp fc x k).1 - zs_some (zs_take fp fc x k) k = _
        rw [z_take_lt c]
      have c' := Int32.lt_iff_toInt_lt.mp c
      have e2 : (zs_take fp fc x (k + 1)).1.toInt = (zs_take fp fc x k).1.toInt - (fp k).toInt := by rw [e1]; exact zi_sub rfl rfl (by omega) (by omega)
      rw [e2, e]
      refine ⟨by omega, by omega, ?_⟩
      rcases h3 with h3 | h3
      · omega
      · right; omega
    · have e1 : (zs_take fp fc x (k + 1)).1 = 0 := by
        show (zs_take fp fc x k).1 - zs_some (zs_take fp fc x k) k = _
        rw [z_take_ge c, Int32.sub_self]
      rw [e1]
      exact ⟨by decide, by decide, Or.inl rfl⟩
theorem z_first {P : Nat → Prop} : ∀ n, P n → ∃ N, N ≤ n ∧ P N ∧ ∀ i, i < N → ¬ P i
  | 0, h => ⟨0, Nat.le_refl _, h, fun i hi => absurd hi (Nat.not_lt_zero i)⟩
  | n + 1, h => by
    by_cases c : ∃ i, i ≤ n ∧ P i
    · obtain ⟨i, hi, hp⟩ := c
      obtain ⟨N, h1, h2, h3⟩ := z_first i hp
      exact ⟨N, by omega, h2, h3⟩
    · exact ⟨n + 1, Nat.le_refl _, h, fun i hi hp => c ⟨i, by omega, hp⟩⟩
theorem zm_sh_at (f : Nat → Int32) (b : Nat) : ∀ k i, zm_sh f b k i = if b ≤ i ∧ i < b + k then f (i + 1) else f i
  | 0, i => by rw [if_neg (by omega)]; rfl
  | k + 1, i => by
    show upd (zm_sh f b k) (b + k) (zm_sh f b k (b + k + 1)) i = _
    by_cases e : i = b + k
    · rw [e, pk_us, zm_sh_at f b k (b + k + 1), if_neg (by omega), if_pos (by omega)]
    · rw [pk_un e, zm_sh_at f b k i]
      by_cases c : b ≤ i ∧ i < b + k
      · rw [if_pos c, if_pos (by omega)]
      · rw [if_neg c, if_neg (by omega)]
theorem zs_mv_at (f : Nat → Int32) (e : Nat) : ∀ k i, zs_mv f e k i = if i < k then f (e + i) else f i
  | 0, i => by rw [if_neg (by omega)]; rfl
  | k + 1, i => by
    show upd (zs_mv f e k) k (zs_mv f e k (e + k)) i = _
    by_cases c : i = k
    · rw [c, pk_us, zs_mv_at f e k (e + k), if_neg (by omega), if_pos (by omega)]
    · rw [pk_un c, zs_mv_at f e k i]
      by_cases d : i < k
      · rw [if_pos d, if_pos (by omega)]
      · rw [if_neg d, if_neg (by omega)]
/-- after k emptied layers both sides stand alike -/
def zSim (n b : Nat) (fp fc lp lq : Nat → Int32) (x : Int32) (k : Nat) : Prop :=
  (zm_it b (x, 0, n, lp, lq) k).1 = (zs_take fp fc x k).1 ∧ (zm_it b (x, 0, n, lp, lq) k).2.1 = (zs_take fp fc x k).2.1 ∧ (zm_it b (x, 0, n, lp, lq) k).2.2.1 = n - k ∧ (zs_take fp fc x k).2.2.1 = k ∧
  (∀ i, i < n - k → (zm_it b (x, 0, n, lp, lq) k).2.2.2.1 (b + i) = fp (k + i) ∧ (zm_it b (x, 0, n, lp, lq) k).2.2.2.2 (b + i) = fc (k + i)) ∧
  ∀ i, i < b ∨ b + n ≤ i → (zm_it b (x, 0, n, lp, lq) k).2.2.2.1 i = lp i ∧ (zm_it b (x, 0, n, lp, lq) k).2.2.2.2 i = lq i
theorem z_sim0 (hs : ∀ k, k < n → lp (b + k) = fp k ∧ lq (b + k) = fc k ∧ 1 ≤ (fp k).toInt ∧ (fp k).toInt ≤ 1000000) (x : Int32) : zSim n b fp fc lp lq x 0 := by
  refine ⟨rfl, rfl, rfl, rfl, fun i hi => ?_, fun i _ => ⟨rfl, rfl⟩⟩
  rw [Nat.zero_add]
  exact ⟨(hs i hi).1, (hs i hi).2.1⟩
theorem z_sim1 {x : Int32} {k : Nat} (hk : k < n) (h : zSim n b fp fc lp lq x k) (c : fp k < (zs_take fp fc x k).1) : zSim n b fp fc lp lq x (k + 1) := by
  obtain ⟨h1, h2, h3, h4, h5, h6⟩ := h
  have h50 := h5 0 (by omega)
  rw [Nat.add_zero, Nat.add_zero] at h50
  have so : zm_so b (zm_it b (x, 0, n, lp, lq) k) = fp k := by
    simp only [zm_so]; rw [h50.1, h1, if_pos c]
  have sm := z_take_lt c
  have e : zm_it b (x, 0, n, lp, lq) (k + 1) = ((zs_take fp fc x k).1 - fp k, (zs_take fp fc x k).2.1 + (fp k).toInt64 * (fc k).toInt64, n - k - 1, zm_sh (upd (zm_it b (x, 0, n, lp, lq) k).2.2.2.1 b (fp k - fp k)) b (n - k - 1), zm_sh (zm_it b (x, 0, n, lp, lq) k).2.2.2.2 b (n - k - 1)) := by
    show zm_step b (zm_it b (x, 0, n, lp, lq) k) = _
    simp only [zm_step]
    rw [so, h50.1, h50.2, if_pos (Int32.sub_self _), h1, h2, h3]
  have e' : zs_take fp fc x (k + 1) = ((zs_take fp fc x k).1 - fp k, (zs_take fp fc x k).2.1 + (fp k).toInt64 * (fc k).toInt64, k + 1, upd (zs_take fp fc x k).2.2.2 k (fp k - fp k)) := by
    show zs_take1 (zs_take fp fc x k) fc k = _
    simp only [zs_take1]
    rw [sm, z_tail fp fc x k k (Nat.le_refl _), if_pos (Int32.sub_self _), h4]
  refine ⟨by rw [e, e'], by rw [e, e'], by rw [e]; show n - k - 1 = n - (k + 1); omega, by rw [e'], fun i hi => ?_, fun i hi => ?_⟩
  · have hq := h5 (i + 1) (by omega)
    rw [e]
    refine ⟨?_, ?_⟩
    · show zm_sh _ b (n - k - 1) (b + i) = _
      rw [zm_sh_at, if_pos (by omega), pk_un (by omega), show b + i + 1 = b + (i + 1) by omega, hq.1, show k + (i + 1) = k + 1 + i by omega]
    · show zm_sh _ b (n - k - 1) (b + i) = _
      rw [zm_sh_at, if_pos (by omega), show b + i + 1 = b + (i + 1) by omega, hq.2, show k + (i + 1) = k + 1 + i by omega]
  · have hq := h6 i hi
    rw [e]
    refine ⟨?_, ?_⟩
    · show zm_sh _ b (n - k - 1) i = _
      rw [zm_sh_at, if_neg (by omega), pk_un (by omega), hq.1]
    · show zm_sh _ b (n - k - 1) i = _
      rw [zm_sh_at, if_neg (by omega), hq.2]
theorem z_rest (hs : ∀ k, k < n → lp (b + k) = fp k ∧ lq (b + k) = fc k ∧ 1 ≤ (fp k).toInt ∧ (fp k).toInt ≤ 1000000) {x : Int32} {m : Nat} (h0 : (zs_take fp fc x m).1 = 0) : ∀ d, m + d ≤ n → (zs_take fp fc x (m + d)).1 = 0 ∧ (zs_take fp fc x (m + d)).2.1 = (zs_take fp fc x m).2.1 ∧ (zs_take fp fc x (m + d)).2.2.1 = (zs_take fp fc x m).2.2.1 ∧ ∀ i, (zs_take fp fc x (m + d)).2.2.2 i = (zs_take fp fc x m).2.2.2 i
  | 0, _ => ⟨h0, rfl, rfl, fun _ => rfl⟩
  | d + 1, hd => by
    obtain ⟨h1, h2, h3, h4⟩ := z_rest hs h0 d (by omega)
    obtain ⟨-, -, g2, g3⟩ := hs (m + d) (by omega)
    have hc : ¬ fp (m + d) < (zs_take fp fc x (m + d)).1 := by
      rw [h1, Int32.lt_iff_toInt_lt]
      have : (0 : Int32).toInt = 0 := by decide
      omega
    have hz : ¬ fp (m + d) - 0 = 0 := by
      rw [Int32.sub_zero]
      intro e
      have : (fp (m + d)).toInt = 0 := by rw [e]; decide
      omega
    have sm := (z_take_ge hc).trans h1
    have ep := z_tail fp fc x (m + d) (m + d) (Nat.le_refl _)
    have e' : zs_take fp fc x (m + (d + 1)) = ((zs_take fp fc x (m + d)).1 - 0, (zs_take fp fc x (m + d)).2.1 + (0 : Int32).toInt64 * (fc (m + d)).toInt64, (zs_take fp fc x (m + d)).2.2.1, upd (zs_take fp fc x (m + d)).2.2.2 (m + d) (fp (m + d) - 0)) := by
      show zs_take1 (zs_take fp fc x (m + d)) fc (m + d) = _
      simp only [zs_take1]
      rw [sm, ep, if_neg hz]
    rw [e']
    refine ⟨?_, ?_, h3, fun i => ?_⟩
    · show (zs_take fp fc x (m + d)).1 - 0 = 0
      rw [h1, Int32.sub_zero]
    · show (zs_take fp fc x (m + d)).2.1 + (0 : Int32).toInt64 * (fc (m + d)).toInt64 = _
      rw [h2, show (0 : Int32).toInt64 = 0 by decide, Int64.zero_mul, Int64.add_zero]
    · show upd (zs_take fp fc x (m + d)).2.2.2 (m + d) (fp (m + d) - 0) i = _
      by_cases e : i = m + d
      · rw [e, pk_us, Int32.sub_zero, ← ep]; exact h4 _
      · rw [pk_un e]; exact h4 i
/-- what both sides are after a taking -/
def zTk (n b : Nat) (fp fc lp lq : Nat → Int32) (x : Int32) (N : Nat) : Prop :=
  (zm_it b (x, 0, n, lp, lq) N).2.1 = (zs_take fp fc x n).2.1 ∧ (zm_it b (x, 0, n, lp, lq) N).2.2.1 = n - (zs_take fp fc x n).2.2.1 ∧
  (∀ i, i < n - (zs_take fp fc x n).2.2.1 → (zm_it b (x, 0, n, lp, lq) N).2.2.2.1 (b + i) = (zs_take fp fc x n).2.2.2 ((zs_take fp fc x n).2.2.1 + i) ∧ (zm_it b (x, 0, n, lp, lq) N).2.2.2.2 (b + i) = fc ((zs_take fp fc x n).2.2.1 + i) ∧ 1 ≤ ((zs_take fp fc x n).2.2.2 ((zs_take fp fc x n).2.2.1 + i)).toInt ∧ ((zs_take fp fc x n).2.2.2 ((zs_take fp fc x n).2.2.1 + i)).toInt ≤ 1000000) ∧
  ∀ i, i < b ∨ b + n ≤ i → (zm_it b (x, 0, n, lp, lq) N).2.2.2.1 i = lp i ∧ (zm_it b (x, 0, n, lp, lq) N).2.2.2.2 i = lq i
theorem z_sims (hn : n ≤ 12) (hs : ∀ k, k < n → lp (b + k) = fp k ∧ lq (b + k) = fc k ∧ 1 ≤ (fp k).toInt ∧ (fp k).toInt ≤ 1000000) {x : Int32} (hx : 1 ≤ x.toInt ∧ x.toInt ≤ 1000000) {k : Nat} (hk : k ≤ n) (h : ∀ i, i ≤ k → ¬ (zs_take fp fc x i).1 ≤ 0) : ∀ i, i ≤ k → zSim n b fp fc lp lq x i
  | 0, _ => z_sim0 hs x
  | i + 1, hi => by
    have h9 := z_sims hn hs hx hk h i (by omega)
    refine z_sim1 (by omega) h9 ?_
    have g := h (i + 1) hi
    by_cases c : fp i < (zs_take fp fc x i).1
    · exact c
    · exfalso
      refine g ?_
      have e1 : (zs_take fp fc x (i + 1)).1 = 0 := by
        show (zs_take fp fc x i).1 - zs_some (zs_take fp fc x i) i = _
        rw [z_take_ge c, Int32.sub_self]
      rw [e1]; decide
theorem z_taken (hn : n ≤ 12) (hs : ∀ k, k < n → lp (b + k) = fp k ∧ lq (b + k) = fc k ∧ 1 ≤ (fp k).toInt ∧ (fp k).toInt ≤ 1000000) {x : Int32} (hx : 1 ≤ x.toInt ∧ x.toInt ≤ 1000000) (hm : x ≤ zs_isum fp n) :
    ∃ N, ((zm_it b (x, 0, n, lp, lq) N).1 ≤ 0 ∧ ∀ i, i < N → ¬ (zm_it b (x, 0, n, lp, lq) i).1 ≤ 0 ∧ 0 < (zm_it b (x, 0, n, lp, lq) i).2.2.1 ∧ (zm_it b (x, 0, n, lp, lq) i).2.2.1 ≤ 12) ∧ zTk n b fp fc lp lq x N := by
  have z0 : (0 : Int32).toInt = 0 := by decide
  have hl := z_left hn hs ⟨by omega, hx.2⟩ n (Nat.le_refl _)
  have hm' := Int32.le_iff_toInt_le.mp hm
  have hz : (zs_take fp fc x n).1 ≤ 0 := by
    rw [Int32.le_iff_toInt_le]
    rcases hl.2.2 with h | h <;> omega
  obtain ⟨N, hN, hP, hno⟩ := z_first (P := fun k => (zs_take fp fc x k).1 ≤ 0) n hz
  have hN0 : N ≠ 0 := by
    intro e
    rw [e] at hP
    have : x ≤ 0 := hP
    have := Int32.le_iff_toInt_le.mp this
    omega
  obtain ⟨k, rfl⟩ := Nat.exists_eq_succ_of_ne_zero hN0
  have hk : k < n := hN
  have sims := z_sims hn hs hx (Nat.le_of_lt hk) (fun i hi => hno i (by omega))
  obtain ⟨h1, h2, h3, h4, h5, h6⟩ := sims k (Nat.le_refl _)
  obtain ⟨l1, l2, -⟩ := z_left hn hs (x := x) ⟨by omega, hx.2⟩ k (by omega)
  have hpos : 0 < (zs_take fp fc x k).1.toInt := by
    have g := hno k (by omega)
    rw [Int32.le_iff_toInt_le] at g
    omega
  obtain ⟨-, -, g2, g3⟩ := hs k hk
  have c : ¬ fp k < (zs_take fp fc x k).1 := by
    intro c
    have hP2 : (zs_take fp fc x k).1 - zs_some (zs_take fp fc x k) k ≤ 0 := hP
    rw [z_take_lt c, Int32.le_iff_toInt_le, zi_sub rfl rfl (by omega) (by omega)] at hP2
    have := Int32.lt_iff_toInt_lt.mp c
    omega
  have c' : (zs_take fp fc x k).1.toInt ≤ (fp k).toInt := by
    have := Int32.not_lt.mp c
    exact Int32.le_iff_toInt_le.mp this
  have h50 := h5 0 (by omega)
  rw [Nat.add_zero, Nat.add_zero] at h50
  have so : zm_so b (zm_it b (x, 0, n, lp, lq) k) = (zs_take fp fc x k).1 := by
    simp only [zm_so]; rw [h50.1, h1, if_neg c]
  have sm := z_take_ge c
  have ep := z_tail fp fc x k k (Nat.le_refl _)
  have hd : (fp k - (zs_take fp fc x k).1).toInt = (fp k).toInt - (zs_take fp fc x k).1.toInt := zi_sub rfl rfl (by omega) (by omega)
  have hout : ∀ i, i < k + 1 → ¬ (zm_it b (x, 0, n, lp, lq) i).1 ≤ 0 ∧ 0 < (zm_it b (x, 0, n, lp, lq) i).2.2.1 ∧ (zm_it b (x, 0, n, lp, lq) i).2.2.1 ≤ 12 := by
    intro i hi
    obtain ⟨q1, -, q3, -⟩ := sims i (by omega)
    rw [q1, q3]
    exact ⟨hno i hi, by omega, by omega⟩
  have e0 : (zs_take fp fc x (k + 1)).1 = 0 := by
    show (zs_take fp fc x k).1 - zs_some (zs_take fp fc x k) k = _
    rw [sm, Int32.sub_self]
  obtain ⟨r1, r2, r3, r4⟩ := z_rest hs e0 (n - (k + 1)) (by omega)
  rw [show k + 1 + (n - (k + 1)) = n by omega] at r1 r2 r3 r4
  refine ⟨k + 1, ⟨?_, hout⟩, ?_⟩
  · show (zm_step b (zm_it b (x, 0, n, lp, lq) k)).1 ≤ 0
    simp only [zm_step]
    rw [so, h1]
    split
    · show (zs_take fp fc x k).1 - (zs_take fp fc x k).1 ≤ 0
      rw [Int32.sub_self]; decide
    · show (zs_take fp fc x k).1 - (zs_take fp fc x k).1 ≤ 0
      rw [Int32.sub_self]; decide
  by_cases z : fp k - (zs_take fp fc x k).1 = 0
  · have e : zm_it b (x, 0, n, lp, lq) (k + 1) = ((zs_take fp fc x k).1 - (zs_take fp fc x k).1, (zs_take fp fc x k).2.1 + (zs_take fp fc x k).1.toInt64 * (fc k).toInt64, n - k - 1, zm_sh (upd (zm_it b (x, 0, n, lp, lq) k).2.2.2.1 b (fp k - (zs_take fp fc x k).1)) b (n - k - 1), zm_sh (zm_it b (x, 0, n, lp, lq) k).2.2.2.2 b (n - k - 1)) := by
      show zm_step b (zm_it b (x, 0, n, lp, lq) k) = _
      simp only [zm_step]
      rw [so, h50.1, h50.2, if_pos z, h1, h2, h3]
    have e' : zs_take fp fc x (k + 1) = ((zs_take fp fc x k).1 - (zs_take fp fc x k).1, (zs_take fp fc x k).2.1 + (zs_take fp fc x k).1.toInt64 * (fc k).toInt64, k + 1, upd (zs_take fp fc x k).2.2.2 k (fp k - (zs_take fp fc x k).1)) := by
      show zs_take1 (zs_take fp fc x k) fc k = _
      simp only [zs_take1]
      rw [sm, ep, if_pos z, h4]
    have r3' : (zs_take fp fc x n).2.2.1 = k + 1 := by rw [r3, e']
    refine ⟨by rw [r2, e, e'], by rw [r3', e]; show n - k - 1 = n - (k + 1); omega, ?_, ?_⟩
    · rw [r3', e]
      intro i hi
      have hq := h5 (i + 1) (by omega)
      obtain ⟨-, -, y1, y2⟩ := hs (k + 1 + i) (by omega)
      have et : (zs_take fp fc x n).2.2.2 (k + 1 + i) = fp (k + 1 + i) := by rw [r4]; exact z_tail fp fc x (k + 1) _ (by omega)
      rw [et]
      refine ⟨?_, ?_, y1, y2⟩
      · show zm_sh _ b (n - k - 1) (b + i) = _
        rw [zm_sh_at, if_pos (by omega), pk_un (by omega), show b + i + 1 = b + (i + 1) by omega, hq.1, show k + (i + 1) = k + 1 + i by omega]
      · show zm_sh _ b (n - k - 1) (b + i) = _
        rw [zm_sh_at, if_pos (by omega), show b + i + 1 = b + (i + 1) by omega, hq.2, show k + (i + 1) = k + 1 + i by omega]
    · intro i hi
      have hq := h6 i hi
      rw [e]
      refine ⟨?_, ?_⟩
      · show zm_sh _ b (n - k - 1) i = _
        rw [zm_sh_at, if_neg (by omega), pk_un (by omega), hq.1]
      · show zm_sh _ b (n - k - 1) i = _
        rw [zm_sh_at, if_neg (by omega), hq.2]
  · have e : zm_it b (x, 0, n, lp, lq) (k + 1) = ((zs_take fp fc x k).1 - (zs_take fp fc x k).1, (zs_take fp fc x k).2.1 + (zs_take fp fc x k).1.toInt64 * (fc k).toInt64, n - k, upd (zm_it b (x, 0, n, lp, lq) k).2.2.2.1 b (fp k - (zs_take fp fc x k).1), (zm_it b (x, 0, n, lp, lq) k).2.2.2.2) := by
      show zm_step b (zm_it b (x, 0, n, lp, lq) k) = _
      simp only [zm_step]
      rw [so, h50.1, h50.2, if_neg z, h1, h2, h3]
    have e' : zs_take fp fc x (k + 1) = ((zs_take fp fc x k).1 - (zs_take fp fc x k).1, (zs_take fp fc x k).2.1 + (zs_take fp fc x k).1.toInt64 * (fc k).toInt64, k, upd (zs_take fp fc x k).2.2.2 k (fp k - (zs_take fp fc x k).1)) := by
      show zs_take1 (zs_take fp fc x k) fc k = _
      simp only [zs_take1]
      rw [sm, ep, if_neg z, h4]
    have hdz : (fp k - (zs_take fp fc x k).1).toInt ≠ 0 := by
      intro h
      refine z (Int32.toInt_inj.mp ?_)
      rw [h, z0]
    have r3' : (zs_take fp fc x n).2.2.1 = k := by rw [r3, e']
    refine ⟨by rw [r2, e, e'], by rw [r3', e], ?_, ?_⟩
    · rw [r3', e]
      intro i hi
      have hq := h5 i (by omega)
      rw [r4, e']
      by_cases e9 : i = 0
      · subst e9
        refine ⟨?_, ?_, ?_⟩
        · show upd _ b _ (b + 0) = upd _ k _ (k + 0)
          rw [Nat.add_zero, Nat.add_zero, pk_us, pk_us]
        · exact hq.2
        · show 1 ≤ (upd _ k _ (k + 0)).toInt ∧ (upd _ k _ (k + 0)).toInt ≤ _
          rw [Nat.add_zero, pk_us, hd]
          omega
      · obtain ⟨-, -, y1, y2⟩ := hs (k + i) (by omega)
        have et := z_tail fp fc x k (k + i) (by omega)
        refine ⟨?_, hq.2, ?_⟩
        · show upd _ b _ (b + i) = upd _ k _ (k + i)
          rw [pk_un (by omega), pk_un (by omega), hq.1, et]
        · show 1 ≤ (upd _ k _ (k + i)).toInt ∧ (upd _ k _ (k + i)).toInt ≤ _
          rw [pk_un (by omega), et]
          exact ⟨y1, y2⟩
    · intro i hi
      have hq := h6 i hi
      rw [e]
      refine ⟨?_, hq.2⟩
      show upd _ b _ i = _
      rw [pk_un (by omega), hq.1]
theorem z_takeE (hn : n ≤ 12) (hs : ∀ k, k < n → lp (b + k) = fp k ∧ lq (b + k) = fc k ∧ 1 ≤ (fp k).toInt ∧ (fp k).toInt ≤ 1000000) (x : Int32) :
    ∃ N, (¬ x < 1 ∧ x ≤ 1000000) → (¬ zm_lsum lp b n < x.toInt64) → ((zm_it b (x, 0, n, lp, lq) N).1 ≤ 0 ∧ ∀ i, i < N → ¬ (zm_it b (x, 0, n, lp, lq) i).1 ≤ 0 ∧ 0 < (zm_it b (x, 0, n, lp, lq) i).2.2.1 ∧ (zm_it b (x, 0, n, lp, lq) i).2.2.1 ≤ 12) ∧ zTk n b fp fc lp lq x N := by
  by_cases c : (¬ x < 1 ∧ x ≤ 1000000) ∧ ¬ zm_lsum lp b n < x.toInt64
  · obtain ⟨N, h⟩ := z_taken hn hs (z_toI (A := 1) (B := 1000000) (by decide) (by decide) c.1) ((z_has hn hs x).mp c.2)
    exact ⟨N, fun _ _ => h⟩
  · exact ⟨0, fun h1 h2 => absurd ⟨h1, h2⟩ c⟩
end ZST
/-! moneys, pieces, and what the stocks' and the moneys' calls leave -/
theorem zRow_at (f : Nat → Nat → Int32) {j k : Nat} (hk : k < 10) : zRow f (10 * j + k) = f j k := by
  simp only [zRow]
  rw [show (10 * j + k) / 10 = j by omega, show (10 * j + k) % 10 = k by omega]
theorem zRow_upd (f : Nat → Nat → Int32) {j k : Nat} (hk : k < 10) (x : Int32) : upd (zRow f) (10 * j + k) x = zRow (va_up f j (upd (f j) k x)) := by
  funext i
  by_cases e : i = 10 * j + k
  · rw [e, pk_us, zRow_at _ hk, va_up_self, pk_us]
  · rw [pk_un e]
    simp only [zRow]
    by_cases c : i / 10 = j
    · rw [c, va_up_self, pk_un (by omega)]
    · rw [va_up_ne f _ c]
theorem z_rate_is (d c : Nat → Nat → Int32) {j : Nat} (x : Int32) : ∀ k, k ≤ 10 → zm_rate (zRow d) (zRow c) (10 * j) x k = zs_rate (d j) (c j) x k
  | 0, _ => rfl
  | k + 1, hk => by
    simp only [zm_rate, zs_rate]
    rw [z_rate_is d c x k (by omega), zRow_at d (by omega), zRow_at c (by omega)]
theorem z_rate_b {d c : Nat → Int32} (x : Int32) : ∀ k, (∀ i, i < k → 1 ≤ (c i).toInt ∧ (c i).toInt ≤ 100000000) → 0 ≤ (zs_rate d c x k).toInt ∧ (zs_rate d c x k).toInt ≤ 100000000
  | 0, _ => by
    show 0 ≤ (0 : Int32).toInt ∧ (0 : Int32).toInt ≤ 100000000
    decide
  | k + 1, h => by
    simp only [zs_rate]
    split
    · have := h k (by omega)
      omega
    · exact z_rate_b x k (fun i hi => h i (by omega))
theorem z_frn {p r : Int32} (hp : 0 ≤ p.toInt ∧ p.toInt ≤ 1000000000) (hr : 0 ≤ r.toInt ∧ r.toInt ≤ 100000000) : (p.toInt64 * r.toInt64 + 5000) / 10000 = (2 * p.toInt64 * r.toInt64 + 10000) / 20000 := by
  have h1 : 0 ≤ p.toInt * r.toInt := Int.mul_nonneg hp.1 hr.1
  have h2 : p.toInt * r.toInt ≤ 1000000000 * 100000000 := Int.mul_le_mul hp.2 hr.2 hr.1 (by decide)
  have m1 : (p.toInt64 * r.toInt64).toInt = p.toInt * r.toInt := zl_mul (Int32.toInt_toInt64 _) (Int32.toInt_toInt64 _) (by omega) (by omega)
  have m2 : (2 * p.toInt64).toInt = 2 * p.toInt := zl_mul (A := 2) (by decide) (Int32.toInt_toInt64 _) (by omega) (by omega)
  have m3 : (2 * p.toInt64 * r.toInt64).toInt = 2 * p.toInt * r.toInt := zl_mul m2 (Int32.toInt_toInt64 _) (by rw [Int.mul_assoc]; omega) (by rw [Int.mul_assoc]; omega)
  rw [Int.mul_assoc] at m3
  have a1 : (p.toInt64 * r.toInt64 + 5000).toInt = p.toInt * r.toInt + 5000 := zl_add m1 (by decide) (by omega) (by omega)
  have a2 : (2 * p.toInt64 * r.toInt64 + 10000).toInt = 2 * (p.toInt * r.toInt) + 10000 := zl_add m3 (by decide) (by omega) (by omega)
  rw [← Int64.toInt_inj, zl_div a1 (B := 10000) (by decide) (by omega) (by decide), zl_div a2 (B := 20000) (by decide) (by omega) (by decide)]
  omega
theorem z_n0 {r : Int32} : (¬ r.toInt64 = 0) ↔ ¬ r = 0 := by
  have z0 : (0 : Int32).toInt64 = 0 := by decide
  refine not_congr ⟨fun h => ?_, fun h => by rw [h]; exact z0⟩
  rw [← Int32.toInt_inj, ← Int32.toInt_toInt64, h]; decide
theorem z_lastd {n : Nat} {fd : Nat → Int32} {rd : Int32} {p2 : Int32} (h0 : ¬ p2 < 0) (hr : 0 < n → rd = fd (n - 1)) : (¬ (0 < n ∧ p2 ≤ rd)) ↔ (if n = 0 then -1 else fd (n - 1)) < p2 := by
  by_cases c : n = 0
  · rw [if_pos c]
    refine ⟨fun _ => ?_, fun _ h => by omega⟩
    have h0' := Int32.not_lt.mp h0
    rw [Int32.le_iff_toInt_le] at h0'
    rw [Int32.lt_iff_toInt_lt]
    have a : (0 : Int32).toInt = 0 := by decide
    have b : (-1 : Int32).toInt = -1 := by decide
    omega
  · rw [if_neg c, hr (by omega)]
    exact ⟨fun h => Int32.not_le.mp (fun g => h ⟨by omega, g⟩), fun h g => absurd g.2 (Int32.not_le.mpr h)⟩
theorem z_wof_b {o w : Nat → Int32} (x : Int32) : ∀ k, k ≤ 10 → (∀ i, i < k → 1 ≤ (w i).toInt ∧ (w i).toInt ≤ 1000000) → 0 ≤ (zs_wof o w x k).toInt ∧ (zs_wof o w x k).toInt ≤ 1000000 * k
  | 0, _, _ => ⟨(by decide : (0 : Int) ≤ (0 : Int64).toInt), (by decide : (0 : Int64).toInt ≤ 1000000 * ((0 : Nat) : Int))⟩
  | k + 1, hk, h => by
    obtain ⟨h1, h2⟩ := z_wof_b (o := o) x k (by omega) (fun i hi => h i (by omega))
    have h3 := h k (by omega)
    simp only [zs_wof]
    split
    · rw [zl_add rfl (Int32.toInt_toInt64 _) (by omega) (by omega)]
      omega
    · omega
theorem z_wof_pos {o w : Nat → Int32} {j : Nat} : ∀ k, k ≤ 10 → j < k → (∀ i, i < k → 1 ≤ (w i).toInt ∧ (w i).toInt ≤ 1000000) → 1 ≤ (zs_wof o w (o j) k).toInt
  | 0, _, h, _ => absurd h (Nat.not_lt_zero j)
  | k + 1, hk, hj, h => by
    obtain ⟨h1, h2⟩ := z_wof_b (o := o) (o j) k (by omega) (fun i hi => h i (by omega))
    have h3 := h k (by omega)
    have hz : 1 ≤ (zs_wof o w (o j) k).toInt ∨ o k = o j := by
      by_cases e : j = k
      · subst e; exact Or.inr rfl
      · exact Or.inl (z_wof_pos k (by omega) (by omega) (fun i hi => h i (by omega)))
    simp only [zs_wof]
    split
    · rw [zl_add rfl (Int32.toInt_toInt64 _) (by omega) (by omega)]
      omega
    · rename_i c
      exact hz.elim id (fun g => absurd g c)
theorem z_bal_b {q c : Nat → Int32} {j : Nat} {x : Int32} : ∀ k, k ≤ 200 → (∀ i, i < k → -1000000000 ≤ (c i).toInt ∧ (c i).toInt ≤ 1000000000) → -1000000000 * (k : Int) ≤ (zm_bal q c j x k).toInt ∧ (zm_bal q c j x k).toInt ≤ 1000000000 * (k : Int)
  | 0, _, _ => ⟨(by decide : -1000000000 * ((0 : Nat) : Int) ≤ (0 : Int64).toInt), (by decide : (0 : Int64).toInt ≤ 1000000000 * ((0 : Nat) : Int))⟩
  | k + 1, hk, h => by
    obtain ⟨h1, h2⟩ := z_bal_b (q := q) (j := j) (x := x) k (by omega) (fun i hi => h i (by omega))
    have h3 := h k (by omega)
    simp only [zm_bal]
    split
    · rw [zl_add rfl (Int32.toInt_toInt64 _) (by omega) (by omega)]
      omega
    · rw [Int64.add_zero]; omega
theorem z_ndiv {s x d : Int64} (hs : -200000000000 ≤ s.toInt ∧ s.toInt < 0) (hx : 0 ≤ x.toInt ∧ x.toInt ≤ 10000000) (hd : 1 ≤ d.toInt) : -s * x / d = -(s * x / d) := by
  have b1 : (-s.toInt) * x.toInt ≤ 200000000000 * 10000000 := Int.mul_le_mul (by omega) hx.2 hx.1 (by decide)
  have b2 : 0 ≤ (-s.toInt) * x.toInt := Int.mul_nonneg (by omega) hx.1
  have b3 : (-s.toInt) * x.toInt = -(s.toInt * x.toInt) := Int.neg_mul _ _
  have n1 : (-s).toInt = -s.toInt := by rw [Int64.toInt_neg]; exact Int.bmod_eq_of_le (by omega) (by omega)
  have m1 : (s * x).toInt = s.toInt * x.toInt := zl_mul rfl rfl (by omega) (by omega)
  have m2 : (-s * x).toInt = (-s.toInt) * x.toInt := zl_mul n1 rfl (by omega) (by omega)
  have hne : d ≠ -1 := by
    intro e
    have : d.toInt = -1 := by rw [e]; decide
    omega
  have q := Int.natAbs_tdiv_le_natAbs (s.toInt * x.toInt) d.toInt
  rw [← Int64.toInt_inj, Int64.toInt_div_of_ne_right _ _ hne, m2, b3, Int.neg_tdiv, Int64.toInt_neg, Int64.toInt_div_of_ne_right _ _ hne, m1]
  exact (Int.bmod_eq_of_le (by omega) (by omega)).symm
theorem z_open_is {s b c d : Int64} (hs : -200000000000 ≤ s.toInt) (hb : 0 ≤ b.toInt ∧ b.toInt ≤ 10000000) (hbc : 0 ≤ (b + c).toInt ∧ (b + c).toInt ≤ 10000000) (hd : 1 ≤ d.toInt) : zs_part s b c d = zm_part s (b + c) c d := by
  have hd0 : ¬ d = 0 := by
    intro e
    have : d.toInt = 0 := by rw [e]; decide
    omega
  simp only [zs_part, zm_part]
  rw [if_neg hd0, Int64.add_sub_cancel]
  by_cases c0 : s < 0
  · have hs' := Int64.lt_iff_toInt_lt.mp c0
    have z0 : (0 : Int64).toInt = 0 := by decide
    rw [z0] at hs'
    rw [if_pos c0, show zm_abs s = -s from if_pos c0, z_ndiv ⟨hs, hs'⟩ hbc hd, z_ndiv ⟨hs, hs'⟩ hb hd, Int64.neg_sub, Int64.sub_neg, Int64.add_comm (-(s * b / d)), ← Int64.sub_eq_add_neg]
  · rw [if_neg c0, show zm_abs s = s from if_neg c0]
section ZRL3
variable {n : Nat} {fa fo fm fc : Nat → Int32} {E : zE} {bt : Nat} {fx qm fw : Nat → Int32} {sn : Nat → Nat} {sp sc : Nat → Nat → Int32} {lp lq : Nat → Int32} {mn : Nat → Nat} {md mc : Nat → Nat → Int32} {pn : Nat} {po pw : Nat → Int32} {cl : Nat} {ou ou' : Nat → Int64} {th th' : Int32}
theorem rl_stock (j : Nat) (hj : j < 4) {p2 p3 : Int32} (hR : zRl ((n, fa, fo, fm, fc), (E, bt, fx, qm), fw, (sn, sp, sc, lp, lq), (mn, md, mc), (pn, po, pw), cl, ou, th)) (h1 : ¬ 12 ≤ nI (sn j)) (h2 : ¬ p2 < 1 ∧ p2 ≤ 1000000 ∧ ¬ p3 < 0 ∧ p3 ≤ 1000000) :
    zRl ((n, fa, fo, fm, fc), (E, bt, fx, qm), fw, (va_up sn j (sn j + 1), va_up sp j (upd (sp j) (sn j) p2), va_up sc j (upd (sc j) (sn j) p3), upd lp (12 * j + sn j) p2, upd lq (12 * j + sn j) p3), (mn, md, mc), (pn, po, pw), cl, ou', th') := by
  obtain ⟨hA, hB, hS, hC⟩ := hR
  have hS : ∀ j, j < 4 → zRS (sn j) (sp j) (sc j) lp lq j := hS
  obtain ⟨s1, s2⟩ := hS j hj
  have hl : sn j < 12 := z_lt (t := 12) s1 (by decide) h1
  have c2 := z_toI (A := 1) (B := 1000000) (by decide) (by decide) ⟨h2.1, h2.2.1⟩
  have c3 := z_toI (A := 0) (B := 1000000) (by decide) (by decide) ⟨h2.2.2.1, h2.2.2.2⟩
  refine ⟨hA, hB, fun i hi => ?_, hC⟩
  show zRS (va_up sn j (sn j + 1) i) (va_up sp j (upd (sp j) (sn j) p2) i) (va_up sc j (upd (sc j) (sn j) p3) i) (upd lp (12 * j + sn j) p2) (upd lq (12 * j + sn j) p3) i
  by_cases e : i = j
  · subst e
    rw [va_up_self, va_up_self, va_up_self]
    refine ⟨hl, fun k hk => ?_⟩
    by_cases e2 : k = sn i
    · subst e2
      rw [pk_us, pk_us, pk_us, pk_us]
      exact ⟨rfl, rfl, c2.1, c2.2, c3.1, c3.2⟩
    · rw [pk_un (by omega), pk_un (by omega), pk_un (by omega), pk_un (by omega)]
      exact s2 k (by omega)
  · rw [va_up_ne _ _ e, va_up_ne _ _ e, va_up_ne _ _ e]
    obtain ⟨q1, q2⟩ := hS i hi
    refine ⟨q1, fun k hk => ?_⟩
    rw [pk_un (by omega), pk_un (by omega)]
    exact q2 k hk
theorem rl_take (j N : Nat) (hj : j < 4) {p2 : Int32} (hR : zRl ((n, fa, fo, fm, fc), (E, bt, fx, qm), fw, (sn, sp, sc, lp, lq), (mn, md, mc), (pn, po, pw), cl, ou, th)) (h : zTk (sn j) (12 * j) (sp j) (sc j) lp lq p2 N) :
    zRl ((n, fa, fo, fm, fc), (E, bt, fx, qm), fw, (va_up sn j (sn j - (zs_take (sp j) (sc j) p2 (sn j)).2.2.1), va_up sp j (zs_mv (zs_take (sp j) (sc j) p2 (sn j)).2.2.2 (zs_take (sp j) (sc j) p2 (sn j)).2.2.1 (sn j - (zs_take (sp j) (sc j) p2 (sn j)).2.2.1)), va_up sc j (zs_mv (sc j) (zs_take (sp j) (sc j) p2 (sn j)).2.2.1 (sn j - (zs_take (sp j) (sc j) p2 (sn j)).2.2.1)), (zm_it (12 * j) (p2, 0, sn j, lp, lq) N).2.2.2.1, (zm_it (12 * j) (p2, 0, sn j, lp, lq) N).2.2.2.2), (mn, md, mc), (pn, po, pw), cl, ou', th') := by
  obtain ⟨hA, hB, hS, hC⟩ := hR
  have hS : ∀ j, j < 4 → zRS (sn j) (sp j) (sc j) lp lq j := hS
  obtain ⟨s1, s2⟩ := hS j hj
  obtain ⟨-, -, t3, t4⟩ := h
  refine ⟨hA, hB, fun i hi => ?_, hC⟩
  show zRS (va_up sn j _ i) (va_up sp j _ i) (va_up sc j _ i) _ _ i
  by_cases e : i = j
  · subst e
    rw [va_up_self, va_up_self, va_up_self]
    refine ⟨by omega, fun k hk => ?_⟩
    obtain ⟨g1, g2, g3, g4⟩ := t3 k hk
    obtain ⟨-, -, -, -, y1, y2⟩ := s2 ((zs_take (sp i) (sc i) p2 (sn i)).2.2.1 + k) (by omega)
    rw [zs_mv_at, zs_mv_at, if_pos hk, if_pos hk]
    exact ⟨g1, g2, g3, g4, y1, y2⟩
  · rw [va_up_ne _ _ e, va_up_ne _ _ e, va_up_ne _ _ e]
    obtain ⟨q1, q2⟩ := hS i hi
    refine ⟨q1, fun k hk => ?_⟩
    obtain ⟨g1, g2⟩ := t4 (12 * i + k) (by omega)
    rw [g1, g2]
    exact q2 k hk
theorem rl_rate (j : Nat) (hj : j < 3) {p2 p3 : Int32} (hR : zRl ((n, fa, fo, fm, fc), (E, bt, fx, qm), fw, (sn, sp, sc, lp, lq), (mn, md, mc), (pn, po, pw), cl, ou, th)) (h1 : ¬ 10 ≤ nI (mn j)) (h2 : ¬ p3 < 1 ∧ p3 ≤ 100000000) :
    zRl ((n, fa, fo, fm, fc), (E, bt, fx, qm), fw, (sn, sp, sc, lp, lq), (va_up mn j (mn j + 1), va_up md j (upd (md j) (mn j) p2), va_up mc j (upd (mc j) (mn j) p3)), (pn, po, pw), cl, ou', th') := by
  obtain ⟨hA, hB, hS, hM, hC⟩ := hR
  have hM : ∀ j, j < 3 → zRM (mn j) (mc j) := hM
  obtain ⟨s1, s2⟩ := hM j hj
  have hl : mn j < 10 := z_lt (t := 10) s1 (by decide) h1
  have c3 := z_toI (A := 1) (B := 100000000) (by decide) (by decide) h2
  refine ⟨hA, hB, hS, fun i hi => ?_, hC⟩
  show zRM (va_up mn j (mn j + 1) i) (va_up mc j (upd (mc j) (mn j) p3) i)
  by_cases e : i = j
  · subst e
    rw [va_up_self, va_up_self]
    exact ⟨hl, fun k hk => z_up_i (P := fun z => 1 ≤ z.toInt ∧ z.toInt ≤ 100000000) hk (fun g => s2 k g) c3⟩
  · rw [va_up_ne _ _ e, va_up_ne _ _ e]
    exact hM i hi
end ZRL3
theorem z_hs {sn j : Nat} {sp sc lp lq : Nat → Int32} (h : zRS sn sp sc lp lq j) : ∀ k, k < sn → lp (12 * j + k) = sp k ∧ lq (12 * j + k) = sc k ∧ 1 ≤ (sp k).toInt ∧ (sp k).toInt ≤ 1000000 := fun k hk => ⟨(h.2 k hk).1, (h.2 k hk).2.1, (h.2 k hk).2.2.1, (h.2 k hk).2.2.2.1⟩
