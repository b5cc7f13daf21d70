/-! moneys, pieces, and what the stocks' and the moneys' calls leave -/
theorem zRow_at (f : Nat → Nat → Int32) {j k : Nat} (hk : k < 10) : zRow f (10 * j + k) = f j k := by
  simp only [zRow]
  rw [show (10 * j + k) / 10 = j by omega, show (10 * j + k) % 10 = k by omega]
theorem zRow_upd (f : Nat → Nat → Int32) {j k : Nat} (hk : k < 10) (x : Int32) : upd (zRow f) (10 * j + k) x = zRow (va_up f j (upd (f j) k x)) := by
  funext i
  by_cases e : i = 10 * j + k
  · rw [e, pk_us, zRow_at _ hk, va_up_self, pk_us]
  · rw [pk_un e]
    simp only [zRow]
    by_cases c : i / 10 = j
    · rw [c, va_up_self, pk_un (by omega)]
    · rw [va_up_ne f _ c]
theorem z_rate_is (d c : Nat → Nat → Int32) {j : Nat} (x : Int32) : ∀ k, k ≤ 10 → zm_rate (zRow d) (zRow c) (10 * j) x k = zs_rate (d j) (c j) x k
  | 0, _ => rfl
  | k + 1, hk => by
    simp only [zm_rate, zs_rate]
    rw [z_rate_is d c x k (by omega), zRow_at d (by omega), zRow_at c (by omega)]
theorem z_rate_b {d c : Nat → Int32} (x : Int32) : ∀ k, (∀ i, i < k → 1 ≤ (c i).toInt ∧ (c i).toInt ≤ 100000000) → 0 ≤ (zs_rate d c x k).toInt ∧ (zs_rate d c x k).toInt ≤ 100000000
  | 0, _ => by
    show 0 ≤ (0 : Int32).toInt ∧ (0 : Int32).toInt ≤ 100000000
    decide
  | k + 1, h => by
    simp only [zs_rate]
    split
    · have := h k (by omega)
      omega
    · exact z_rate_b x k (fun i hi => h i (by omega))
theorem z_frn {p r : Int32} (hp : 0 ≤ p.toInt ∧ p.toInt ≤ 1000000000) (hr : 0 ≤ r.toInt ∧ r.toInt ≤ 100000000) : (p.toInt64 * r.toInt64 + 5000) / 10000 = (2 * p.toInt64 * r.toInt64 + 10000) / 20000 := by
  have h1 : 0 ≤ p.toInt * r.toInt := Int.mul_nonneg hp.1 hr.1
  have h2 : p.toInt * r.toInt ≤ 1000000000 * 100000000 := Int.mul_le_mul hp.2 hr.2 hr.1 (by decide)
  have m1 : (p.toInt64 * r.toInt64).toInt = p.toInt * r.toInt := zl_mul (Int32.toInt_toInt64 _) (Int32.toInt_toInt64 _) (by omega) (by omega)
  have m2 : (2 * p.toInt64).toInt = 2 * p.toInt := zl_mul (A := 2) (by decide) (Int32.toInt_toInt64 _) (by omega) (by omega)
  have m3 : (2 * p.toInt64 * r.toInt64).toInt = 2 * p.toInt * r.toInt := zl_mul m2 (Int32.toInt_toInt64 _) (by rw [Int.mul_assoc]; omega) (by rw [Int.mul_assoc]; omega)
  rw [Int.mul_assoc] at m3
  have a1 : (p.toInt64 * r.toInt64 + 5000).toInt = p.toInt * r.toInt + 5000 := zl_add m1 (by decide) (by omega) (by omega)
  have a2 : (2 * p.toInt64 * r.toInt64 + 10000).toInt = 2 * (p.toInt * r.toInt) + 10000 := zl_add m3 (by decide) (by omega) (by omega)
  rw [← Int64.toInt_inj, zl_div a1 (B := 10000) (by decide) (by omega) (by decide), zl_div a2 (B := 20000) (by decide) (by omega) (by decide)]
  omega
theorem z_n0 {r : Int32} : (¬ r.toInt64 = 0) ↔ ¬ r = 0 := by
  have z0 : (0 : Int32).toInt64 = 0 := by decide
  refine not_congr ⟨fun h => ?_, fun h => by rw [h]; exact z0⟩
  rw [← Int32.toInt_inj, ← Int32.toInt_toInt64, h]; decide
theorem z_lastd {n : Nat} {fd : Nat → Int32} {rd : Int32} {p2 : Int32} (h0 : ¬ p2 < 0) (hr : 0 < n → rd = fd (n - 1)) : (¬ (0 < n ∧ p2 ≤ rd)) ↔ (if n = 0 then -1 else fd (n - 1)) < p2 := by
  by_cases c : n = 0
  · rw [if_pos c]
    refine ⟨fun _ => ?_, fun _ h => by omega⟩
    have h0' := Int32.not_lt.mp h0
    rw [Int32.le_iff_toInt_le] at h0'
    rw [Int32.lt_iff_toInt_lt]
    have a : (0 : Int32).toInt = 0 := by decide
    have b : (-1 : Int32).toInt = -1 := by decide
    omega
  · rw [if_neg c, hr (by omega)]
    exact ⟨fun h => Int32.not_le.mp (fun g => h ⟨by omega, g⟩), fun h g => absurd g.2 (Int32.not_le.mpr h)⟩
theorem z_wof_b {o w : Nat → Int32} (x : Int32) : ∀ k, k ≤ 10 → (∀ i, i < k → 1 ≤ (w i).toInt ∧ (w i).toInt ≤ 1000000) → 0 ≤ (zs_wof o w x k).toInt ∧ (zs_wof o w x k).toInt ≤ 1000000 * k
  | 0, _, _ => ⟨(by decide : (0 : Int) ≤ (0 : Int64).toInt), (by decide : (0 : Int64).toInt ≤ 1000000 * ((0 : Nat) : Int))⟩
  | k + 1, hk, h => by
    obtain ⟨h1, h2⟩ := z_wof_b (o := o) x k (by omega) (fun i hi => h i (by omega))
    have h3 := h k (by omega)
    simp only [zs_wof]
    split
    · rw [zl_add rfl (Int32.toInt_toInt64 _) (by omega) (by omega)]
      omega
    · omega
theorem z_wof_pos {o w : Nat → Int32} {j : Nat} : ∀ k, k ≤ 10 → j < k → (∀ i, i < k → 1 ≤ (w i).toInt ∧ (w i).toInt ≤ 1000000) → 1 ≤ (zs_wof o w (o j) k).toInt
  | 0, _, h, _ => absurd h (Nat.not_lt_zero j)
  | k + 1, hk, hj, h => by
    obtain ⟨h1, h2⟩ := z_wof_b (o := o) (o j) k (by omega) (fun i hi => h i (by omega))
    have h3 := h k (by omega)
    have hz : 1 ≤ (zs_wof o w (o j) k).toInt ∨ o k = o j := by
      by_cases e : j = k
      · subst e; exact Or.inr rfl
      · exact Or.inl (z_wof_pos k (by omega) (by omega) (fun i hi => h i (by omega)))
    simp only [zs_wof]
    split
    · rw [zl_add rfl (Int32.toInt_toInt64 _) (by omega) (by omega)]
      omega
    · rename_i c
      exact hz.elim id (fun g => absurd g c)
theorem z_bal_b {q c : Nat → Int32} {j : Nat} {x : Int32} : ∀ k, k ≤ 200 → (∀ i, i < k → -1000000000 ≤ (c i).toInt ∧ (c i).toInt ≤ 1000000000) → -1000000000 * (k : Int) ≤ (zm_bal q c j x k).toInt ∧ (zm_bal q c j x k).toInt ≤ 1000000000 * (k : Int)
  | 0, _, _ => ⟨(by decide : -1000000000 * ((0 : Nat) : Int) ≤ (0 : Int64).toInt), (by decide : (0 : Int64).toInt ≤ 1000000000 * ((0 : Nat) : Int))⟩
  | k + 1, hk, h => by
    obtain ⟨h1, h2⟩ := z_bal_b (q := q) (j := j) (x := x) k (by omega) (fun i hi => h i (by omega))
    have h3 := h k (by omega)
    simp only [zm_bal]
    split
    · rw [zl_add rfl (Int32.toInt_toInt64 _) (by omega) (by omega)]
      omega
    · rw [Int64.add_zero]; omega
theorem z_ndiv {s x d : Int64} (hs : -200000000000 ≤ s.toInt ∧ s.toInt < 0) (hx : 0 ≤ x.toInt ∧ x.toInt ≤ 10000000) (hd : 1 ≤ d.toInt) : -s * x / d = -(s * x / d) := by
  have b1 : (-s.toInt) * x.toInt ≤ 200000000000 * 10000000 := Int.mul_le_mul (by omega) hx.2 hx.1 (by decide)
  have b2 : 0 ≤ (-s.toInt) * x.toInt := Int.mul_nonneg (by omega) hx.1
  have b3 : (-s.toInt) * x.toInt = -(s.toInt * x.toInt) := Int.neg_mul _ _
  have n1 : (-s).toInt = -s.toInt := by rw [Int64.toInt_neg]; exact Int.bmod_eq_of_le (by omega) (by omega)
  have m1 : (s * x).toInt = s.toInt * x.toInt := zl_mul rfl rfl (by omega) (by omega)
  have m2 : (-s * x).toInt = (-s.toInt) * x.toInt := zl_mul n1 rfl (by omega) (by omega)
  have hne : d ≠ -1 := by
    intro e
    have : d.toInt = -1 := by rw [e]; decide
    omega
  have q := Int.natAbs_tdiv_le_natAbs (s.toInt * x.toInt) d.toInt
  rw [← Int64.toInt_inj, Int64.toInt_div_of_ne_right _ _ hne, m2, b3, Int.neg_tdiv, Int64.toInt_neg, Int64.toInt_div_of_ne_right _ _ hne, m1]
  exact (Int.bmod_eq_of_le (by omega) (by omega)).symm
theorem z_open_is {s b c d : Int64} (hs : -200000000000 ≤ s.toInt) (hb : 0 ≤ b.toInt ∧ b.toInt ≤ 10000000) (hbc : 0 ≤ (b + c).toInt ∧ (b + c).toInt ≤ 10000000) (hd : 1 ≤ d.toInt) : zs_part s b c d = zm_part s (b + c) c d := by
  have hd0 : ¬ d = 0 := by
    intro e
    have : d.toInt = 0 := by rw [e]; decide
    omega
  simp only [zs_part, zm_part]
  rw [if_neg hd0, Int64.add_sub_cancel]
  by_cases c0 : s < 0
  · have hs' := Int64.lt_iff_toInt_lt.mp c0
    have z0 : (0 : Int64).toInt = 0 := by decide
    rw [z0] at hs'
    rw [if_pos c0, show zm_abs s = -s from if_pos c0, z_ndiv ⟨hs, hs'⟩ hbc hd, z_ndiv ⟨hs, hs'⟩ hb hd, Int64.neg_sub, Int64.sub_neg, Int64.add_comm (-(s * b / d)), ← Int64.sub_eq_add_neg]
  · rw [if_neg c0, show zm_abs s = s from if_neg c0]
section ZRL3
variable {n : Nat} {fa fo fm fc : Nat → Int32} {E : zE} {bt : Nat} {fx qm fw : Nat → Int32} {sn : Nat → Nat} {sp sc : Nat → Nat → Int32} {lp lq : Nat → Int32} {mn : Nat → Nat} {md mc : Nat → Nat → Int32} {pn : Nat} {po pw : Nat → Int32} {cl : Nat} {ou ou' : Nat → Int64} {th th' : Int32}
theorem rl_stock (j : Nat) (hj : j < 4) {p2 p3 : Int32} (hR : zRl ((n, fa, fo, fm, fc), (E, bt, fx, qm), fw, (sn, sp, sc, lp, lq), (mn, md, mc), (pn, po, pw), cl, ou, th)) (h1 : ¬ 12 ≤ nI (sn j)) (h2 : ¬ p2 < 1 ∧ p2 ≤ 1000000 ∧ ¬ p3 < 0 ∧ p3 ≤ 1000000) :
    zRl ((n, fa, fo, fm, fc), (E, bt, fx, qm), fw, (va_up sn j (sn j + 1), va_up sp j (upd (sp j) (sn j) p2), va_up sc j (upd (sc j) (sn j) p3), upd lp (12 * j + sn j) p2, upd lq (12 * j + sn j) p3), (mn, md, mc), (pn, po, pw), cl, ou', th') := by
  obtain ⟨hA, hB, hS, hC⟩ := hR
  have hS : ∀ j, j < 4 → zRS (sn j) (sp j) (sc j) lp lq j := hS
  obtain ⟨s1, s2⟩ := hS j hj
  have hl : sn j < 12 := z_lt (t := 12) s1 (by decide) h1
  have c2 := z_toI (A := 1) (B := 1000000) (by decide) (by decide) ⟨h2.1, h2.2.1⟩
  have c3 := z_toI (A := 0) (B := 1000000) (by decide) (by decide) ⟨h2.2.2.1, h2.2.2.2⟩
  refine ⟨hA, hB, fun i hi => ?_, hC⟩
  show zRS (va_up sn j (sn j + 1) i) (va_up sp j (upd (sp j) (sn j) p2) i) (va_up sc j (upd (sc j) (sn j) p3) i) (upd lp (12 * j + sn j) p2) (upd lq (12 * j + sn j) p3) i
  by_cases e : i = j
  · subst e
    rw [va_up_self, va_up_self, va_up_self]
    refine ⟨hl, fun k hk => ?_⟩
    by_cases e2 : k = sn i
    · subst e2
      rw [pk_us, pk_us, pk_us, pk_us]
      exact ⟨rfl, rfl, c2.1, c2.2, c3.1, c3.2⟩
    · rw [pk_un (by omega), pk_un (by omega), pk_un (by omega), pk_un (by omega)]
      exact s2 k (by omega)
  · rw [va_up_ne _ _ e, va_up_ne _ _ e, va_up_ne _ _ e]
    obtain ⟨q1, q2⟩ := hS i hi
    refine ⟨q1, fun k hk => ?_⟩
    rw [pk_un (by omega), pk_un (by omega)]
    exact q2 k hk
theorem rl_take (j N : Nat) (hj : j < 4) {p2 : Int32} (hR : zRl ((n, fa, fo, fm, fc), (E, bt, fx, qm), fw, (sn, sp, sc, lp, lq), (mn, md, mc), (pn, po, pw), cl, ou, th)) (h : zTk (sn j) (12 * j) (sp j) (sc j) lp lq p2 N) :
    zRl ((n, fa, fo, fm, fc), (E, bt, fx, qm), fw, (va_up sn j (sn j - (zs_take (sp j) (sc j) p2 (sn j)).2.2.1), va_up sp j (zs_mv (zs_take (sp j) (sc j) p2 (sn j)).2.2.2 (zs_take (sp j) (sc j) p2 (sn j)).2.2.1 (sn j - (zs_take (sp j) (sc j) p2 (sn j)).2.2.1)), va_up sc j (zs_mv (sc j) (zs_take (sp j) (sc j) p2 (sn j)).2.2.1 (sn j - (zs_take (sp j) (sc j) p2 (sn j)).2.2.1)), (zm_it (12 * j) (p2, 0, sn j, lp, lq) N).2.2.2.1, (zm_it (12 * j) (p2, 0, sn j, lp, lq) N).2.2.2.2), (mn, md, mc), (pn, po, pw), cl, ou', th') := by
  obtain ⟨hA, hB, hS, hC⟩ := hR
  have hS : ∀ j, j < 4 → zRS (sn j) (sp j) (sc j) lp lq j := hS
  obtain ⟨s1, s2⟩ := hS j hj
  obtain ⟨-, -, t3, t4⟩ := h
  refine ⟨hA, hB, fun i hi => ?_, hC⟩
  show zRS (va_up sn j _ i) (va_up sp j _ i) (va_up sc j _ i) _ _ i
  by_cases e : i = j
  · subst e
    rw [va_up_self, va_up_self, va_up_self]
    refine ⟨by omega, fun k hk => ?_⟩
    obtain ⟨g1, g2, g3, g4⟩ := t3 k hk
    obtain ⟨-, -, -, -, y1, y2⟩ := s2 ((zs_take (sp i) (sc i) p2 (sn i)).2.2.1 + k) (by omega)
    rw [zs_mv_at, zs_mv_at, if_pos hk, if_pos hk]
    exact ⟨g1, g2, g3, g4, y1, y2⟩
  · rw [va_up_ne _ _ e, va_up_ne _ _ e, va_up_ne _ _ e]
    obtain ⟨q1, q2⟩ := hS i hi
    refine ⟨q1, fun k hk => ?_⟩
    obtain ⟨g1, g2⟩ := t4 (12 * i + k) (by omega)
    rw [g1, g2]
    exact q2 k hk
theorem rl_rate (j : Nat) (hj : j < 3) {p2 p3 : Int32} (hR : zRl ((n, fa, fo, fm, fc), (E, bt, fx, qm), fw, (sn, sp, sc, lp, lq), (mn, md, mc), (pn, po, pw), cl, ou, th)) (h1 : ¬ 10 ≤ nI (mn j)) (h2 : ¬ p3 < 1 ∧ p3 ≤ 100000000) :
    zRl ((n, fa, fo, fm, fc), (E, bt, fx, qm), fw, (sn, sp, sc, lp, lq), (va_up mn j (mn j + 1), va_up md j (upd (md j) (mn j) p2), va_up mc j (upd (mc j) (mn j) p3)), (pn, po, pw), cl, ou', th') := by
  obtain ⟨hA, hB, hS, hM, hC⟩ := hR
  have hM : ∀ j, j < 3 → zRM (mn j) (mc j) := hM
  obtain ⟨s1, s2⟩ := hM j hj
  have hl : mn j < 10 := z_lt (t := 10) s1 (by decide) h1
  have c3 := z_toI (A := 1) (B := 100000000) (by decide) (by decide) h2
  refine ⟨hA, hB, hS, fun i hi => ?_, hC⟩
  show zRM (va_up mn j (mn j + 1) i) (va_up mc j (upd (mc j) (mn j) p3) i)
  by_cases e : i = j
  · subst e
    rw [va_up_self, va_up_self]
    exact ⟨hl, fun k hk => z_up_i (P := fun z => 1 ≤ z.toInt ∧ z.toInt ≤ 100000000) hk (fun g => s2 k g) c3⟩
  · rw [va_up_ne _ _ e, va_up_ne _ _ e]
    exact hM i hi
end ZRL3
theorem z_hs {sn j : Nat} {sp sc lp lq : Nat → Int32} (h : zRS sn sp sc lp lq j) : ∀ k, k < sn → lp (12 * j + k) = sp k ∧ lq (12 * j + k) = sc k ∧ 1 ≤ (sp k).toInt ∧ (sp k).toInt ≤ 1000000 := fun k hk => ⟨(h.2 k hk).1, (h.2 k hk).2.1, (h.2 k hk).2.2.1, (h.2 k hk).2.2.2.1⟩
