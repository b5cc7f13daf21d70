/-! the books: what an entry more does to both sides -/
theorem zMix_at (E : zE) (i : Nat) : zMix E (4 * i) = E.2.1 i ∧ zMix E (4 * i + 1) = E.2.2.1 i ∧ zMix E (4 * i + 2) = E.2.2.2.1 i ∧ zMix E (4 * i + 3) = E.2.2.2.2.2.1 i := by
  refine ⟨?_, ?_, ?_, ?_⟩
  · simp only [zMix]; rw [if_pos (by omega), show 4 * i / 4 = i by omega]
  · simp only [zMix]; rw [if_neg (by omega), if_pos (by omega), show (4 * i + 1) / 4 = i by omega]
  · simp only [zMix]; rw [if_neg (by omega), if_neg (by omega), if_pos (by omega), show (4 * i + 2) / 4 = i by omega]
  · simp only [zMix]; rw [if_neg (by omega), if_neg (by omega), if_neg (by omega), show (4 * i + 3) / 4 = i by omega]
theorem zMix_enter (E : zE) (bt a o m x : Int32) : upd (upd (upd (upd (zMix E) (4 * E.1) a) (4 * E.1 + 1) o) (4 * E.1 + 2) m) (4 * E.1 + 3) bt = zMix (zs_enter E bt a o m x) := by
  funext i
  obtain ⟨k, hk⟩ : ∃ k, i = 4 * k ∨ i = 4 * k + 1 ∨ i = 4 * k + 2 ∨ i = 4 * k + 3 := ⟨i / 4, by omega⟩
  obtain ⟨a1, a2, a3, a4⟩ := zMix_at (zs_enter E bt a o m x) k
  obtain ⟨b1, b2, b3, b4⟩ := zMix_at E k
  have e1 : (zs_enter E bt a o m x).2.1 k = upd E.2.1 E.1 a k := rfl
  have e2 : (zs_enter E bt a o m x).2.2.1 k = upd E.2.2.1 E.1 o k := rfl
  have e3 : (zs_enter E bt a o m x).2.2.2.1 k = upd E.2.2.2.1 E.1 m k := rfl
  have e4 : (zs_enter E bt a o m x).2.2.2.2.2.1 k = upd E.2.2.2.2.2.1 E.1 bt k := rfl
  by_cases h : k = E.1
  · subst h
    rcases hk with rfl | rfl | rfl | rfl
    · rw [a1, e1, pk_us, pk_un (by omega), pk_un (by omega), pk_un (by omega), pk_us]
    · rw [a2, e2, pk_us, pk_un (by omega), pk_un (by omega), pk_us]
    · rw [a3, e3, pk_us, pk_un (by omega), pk_us]
    · rw [a4, e4, pk_us, pk_us]
  · rcases hk with rfl | rfl | rfl | rfl
    · rw [a1, e1, pk_un h, pk_un (by omega), pk_un (by omega), pk_un (by omega), pk_un (by omega), b1]
    · rw [a2, e2, pk_un h, pk_un (by omega), pk_un (by omega), pk_un (by omega), pk_un (by omega), b2]
    · rw [a3, e3, pk_un h, pk_un (by omega), pk_un (by omega), pk_un (by omega), pk_un (by omega), b3]
    · rw [a4, e4, pk_un h, pk_un (by omega), pk_un (by omega), pk_un (by omega), pk_un (by omega), b4]
theorem zMof_enter (E : zE) (bt a o m x : Int32) : zm_enter (zMof E) bt a o m x = zMof (zs_enter E bt a o m x) := by
  have h := zMix_enter E bt a o m x
  show (E.1 + 1, upd (upd (upd (upd (zMix E) (4 * E.1) a) (4 * E.1 + 1) o) (4 * E.1 + 2) m) (4 * E.1 + 3) bt, upd E.2.2.2.2.1 E.1 x) = (E.1 + 1, zMix (zs_enter E bt a o m x), upd E.2.2.2.2.1 E.1 x)
  rw [h]
theorem zL3_at (fa fo fm : Nat → Int32) (k : Nat) : zL3 fa fo fm (3 * k) = fa k ∧ zL3 fa fo fm (3 * k + 1) = fo k ∧ zL3 fa fo fm (3 * k + 2) = fm k := by
  refine ⟨?_, ?_, ?_⟩
  · simp only [zL3]; rw [if_pos (by omega), show 3 * k / 3 = k by omega]
  · simp only [zL3]; rw [if_neg (by omega), if_pos (by omega), show (3 * k + 1) / 3 = k by omega]
  · simp only [zL3]; rw [if_neg (by omega), if_neg (by omega), show (3 * k + 2) / 3 = k by omega]
theorem zMof_put (E : zE) (bt : Int32) (fa fo fm fc : Nat → Int32) : ∀ k, zm_put (zMof E) bt (zL3 fa fo fm) fc k = zMof (zs_put E bt fa fo fm fc k)
  | 0 => rfl
  | k + 1 => by
    obtain ⟨h1, h2, h3⟩ := zL3_at fa fo fm k
    show zm_enter (zm_put (zMof E) bt (zL3 fa fo fm) fc k) bt (zL3 fa fo fm (3 * k)) (zL3 fa fo fm (3 * k + 1)) (zL3 fa fo fm (3 * k + 2)) (fc k) = _
    rw [zMof_put E bt fa fo fm fc k, zMof_enter, h1, h2, h3]; rfl
theorem zMof_turn (E : zE) (bt num im : Int32) : ∀ k, zm_turn (zMof E) bt num im k = zMof (zs_turn E bt num im k)
  | 0 => rfl
  | k + 1 => by
    have h := zMof_turn E bt num im k
    obtain ⟨h1, h2, h3, h4⟩ := zMix_at (zs_turn E bt num im k) k
    have q1 : (zm_turn (zMof E) bt num im k).2.1 (4 * k) = (zs_turn E bt num im k).2.1 k := by rw [h]; exact h1
    have q2 : (zm_turn (zMof E) bt num im k).2.1 (4 * k + 1) = (zs_turn E bt num im k).2.2.1 k := by rw [h]; exact h2
    have q4 : (zm_turn (zMof E) bt num im k).2.1 (4 * k + 3) = (zs_turn E bt num im k).2.2.2.2.2.1 k := by rw [h]; exact h4
    have q5 : (zm_turn (zMof E) bt num im k).2.2 k = (zs_turn E bt num im k).2.2.2.2.1 k := by rw [h]; rfl
    simp only [zm_turn, zs_turn, q1, q2, q4, q5]
    by_cases c : (zs_turn E bt num im k).2.2.2.2.2.1 k = num
    · rw [if_pos c, if_pos c, h, zMof_enter]
    · rw [if_neg c, if_neg c, h]
theorem zMof_cnt (E : zE) (b : Int32) : ∀ k, zm_cnt (zMof E).2.1 b k = zs_cnt E.2.2.2.2.2.1 b k
  | 0 => rfl
  | k + 1 => by
    simp only [zm_cnt, zs_cnt]
    rw [zMof_cnt E b k, show (zMof E).2.1 (4 * k + 3) = E.2.2.2.2.2.1 k from (zMix_at E k).2.2.2]
theorem zm_bal_congr {q q' c c' : Nat → Int32} {j : Nat} {x : Int32} (hj : j < 4) : ∀ n, (∀ i, i < 4 * n → q' i = q i) → (∀ i, i < n → c' i = c i) → zm_bal q' c' j x n = zm_bal q c j x n
  | 0, _, _ => rfl
  | n + 1, h1, h2 => by
    simp only [zm_bal]
    rw [zm_bal_congr hj n (fun i hi => h1 i (by omega)) (fun i hi => h2 i (by omega)), h1 (4 * n + j) (by omega), h2 n (by omega)]
theorem zMix_old (E : zE) (bt a o m x : Int32) {i : Nat} (h : i < 4 * E.1) : zMix (zs_enter E bt a o m x) i = zMix E i := by
  rw [← zMix_enter, pk_un (by omega), pk_un (by omega), pk_un (by omega), pk_un (by omega)]
theorem zbal_enter (E : zE) (bt a o m x : Int32) (j : Nat) (k v : Int32) (hj : j < 4) (hv : zMix (zs_enter E bt a o m x) (4 * E.1 + j) = v) : zbal (zs_enter E bt a o m x) j k = zbal E j k + (if v = k then x.toInt64 else 0) := by
  show zm_bal (zMix (zs_enter E bt a o m x)) (upd E.2.2.2.2.1 E.1 x) j k (E.1 + 1) = _
  simp only [zm_bal]
  rw [zm_bal_congr hj E.1 (fun i hi => zMix_old E bt a o m x hi) (fun i hi => pk_un (by omega)), hv, pk_us]; rfl
theorem z_balrow {f : Nat → Int64} {N : Nat} {a : Int32} {x : Int64} {g g' : Int32 → Int64} (hN : N < 2 ^ 31) (ha : vp_in a N) (hf : ∀ k, k < N → f k = g (nI k)) (hg : ∀ k, g' k = g k + (if a = k then x else 0)) : ∀ k, k < N → vp_updL f a.toNatClampNeg (f a.toNatClampNeg + x) k = g' (nI k) := by
  intro k hk
  obtain ⟨j, hj, rfl⟩ := vp_in_of ha hN
  rw [nI_clamp (by omega), hg]
  by_cases e : k = j
  · subst e
    rw [pk_uLs, if_pos rfl, hf k hk]
  · rw [pk_uLn e, if_neg (fun h => e ((nI_eq (by omega) (by omega)).mp h).symm), hf k hk, Int64.add_zero]
def zRX (E : zE) : Prop := (∀ i, i < E.1 → vp_in (E.2.1 i) 8 ∧ vp_in (E.2.2.1 i) 8 ∧ vp_in (E.2.2.2.1 i) 12) ∧
  (∀ k, k < 8 → E.2.2.2.2.2.2.1 k = zbal E 0 (nI k)) ∧ (∀ k, k < 8 → E.2.2.2.2.2.2.2.1 k = zbal E 1 (nI k)) ∧ (∀ k, k < 12 → E.2.2.2.2.2.2.2.2 k = zbal E 2 (nI k)) ∧ (∀ i, i < E.1 → -1000000000 ≤ (E.2.2.2.2.1 i).toInt ∧ (E.2.2.2.2.1 i).toInt ≤ 1000000000)
theorem zRX_enter {E : zE} (h : zRX E) (bt : Int32) {a o m x : Int32} (h1 : vp_in a 8) (h2 : vp_in o 8) (h3 : vp_in m 12) (hx : -1000000000 ≤ x.toInt ∧ x.toInt ≤ 1000000000) : zRX (zs_enter E bt a o m x) := by
  obtain ⟨q1, q2, q3, q4, q5⟩ := h
  obtain ⟨a1, a2, a3, a4⟩ := zMix_at (zs_enter E bt a o m x) E.1
  refine ⟨fun i hi => ⟨?_, ?_, ?_⟩, ?_, ?_, ?_, fun i hi => ?_⟩
  · exact z_up_i (P := fun z => vp_in z 8) hi (fun g => (q1 i g).1) h1
  · exact z_up_i (P := fun z => vp_in z 8) hi (fun g => (q1 i g).2.1) h2
  · exact z_up_i (P := fun z => vp_in z 12) hi (fun g => (q1 i g).2.2) h3
  · exact z_balrow (by decide) h1 q2 (fun k => zbal_enter E bt a o m x 0 k a (by decide) (a1.trans pk_us))
  · exact z_balrow (by decide) h2 q3 (fun k => zbal_enter E bt a o m x 1 k o (by decide) (a2.trans pk_us))
  · exact z_balrow (by decide) h3 q4 (fun k => zbal_enter E bt a o m x 2 k m (by decide) (a3.trans pk_us))
  · exact z_up_i (P := fun z => -1000000000 ≤ z.toInt ∧ z.toInt ≤ 1000000000) hi (fun g => q5 i g) hx
def zEx (E E' : zE) (b : Int32) : Prop := E.1 ≤ E'.1 ∧ (∀ i, i < E.1 → E'.2.2.2.2.2.1 i = E.2.2.2.2.2.1 i) ∧ ∀ i, E.1 ≤ i → i < E'.1 → E'.2.2.2.2.2.1 i = b
theorem zEx_rf (E : zE) (b : Int32) : zEx E E b := ⟨Nat.le_refl _, fun _ _ => rfl, fun i h1 h2 => absurd h2 (Nat.not_lt.mpr h1)⟩
theorem zEx_enter {E E' : zE} {b : Int32} (h : zEx E E' b) (a o m x : Int32) : zEx E (zs_enter E' b a o m x) b := by
  obtain ⟨h1, h2, h3⟩ := h
  refine ⟨Nat.le_succ_of_le h1, fun i hi => ?_, fun i hi hj => ?_⟩
  · show upd _ _ _ i = _
    rw [pk_un (by omega)]; exact h2 i hi
  · have hj' : i < E'.1 + 1 := hj
    exact z_up_i (P := fun z => z = b) hj' (fun g => h3 i hi g) rfl
theorem zs_cnt_congr {f g : Nat → Int32} {b : Int32} : ∀ n, (∀ i, i < n → f i = g i) → zs_cnt f b n = zs_cnt g b n
  | 0, _ => rfl
  | n + 1, h => by
    simp only [zs_cnt]
    rw [zs_cnt_congr n (fun i hi => h i (by omega)), h n (by omega)]
theorem zRE_of {E E' : zE} {bt : Nat} (hR : zRE E bt) (hx : zEx E E' (nI bt)) (hX : zRX E') (h1 : E.1 < E'.1) (h2 : E'.1 ≤ 200) : zRE E' (bt + 1) := by
  obtain ⟨q1, q2, q3, -⟩ := hR
  obtain ⟨x1, x2, x3⟩ := hx
  refine ⟨h2, by omega, fun b hb => ?_, hX.1, hX.2.1, hX.2.2.1, hX.2.2.2.1, hX.2.2.2.2⟩
  rcases Nat.lt_succ_iff_lt_or_eq.mp hb with h | h
  · refine Nat.lt_of_lt_of_le (q3 b h) ?_
    rw [← zs_cnt_congr (f := E'.2.2.2.2.2.1) E.1 x2]
    exact zs_cnt_mono _ _ x1
  · subst h
    refine Nat.lt_of_lt_of_le ?_ (zs_cnt_mono _ _ (show E.1 + 1 ≤ E'.1 from h1))
    simp only [zs_cnt]
    rw [if_pos (x3 E.1 (Nat.le_refl _) h1)]
    exact Nat.succ_pos _
theorem zRX_of {E : zE} {bt : Nat} (h : zRE E bt) : zRX E := ⟨h.2.2.2.1, h.2.2.2.2.1, h.2.2.2.2.2.1, h.2.2.2.2.2.2.1, h.2.2.2.2.2.2.2⟩
theorem zPut_ok {E : zE} {b : Int32} {fa fo fm fc : Nat → Int32} (hX : zRX E) : ∀ n, (∀ i, i < n → vp_in (fa i) 8 ∧ vp_in (fo i) 8 ∧ vp_in (fm i) 12 ∧ -1000000000 ≤ (fc i).toInt ∧ (fc i).toInt ≤ 1000000000) → zRX (zs_put E b fa fo fm fc n) ∧ zEx E (zs_put E b fa fo fm fc n) b
  | 0, _ => ⟨hX, zEx_rf E b⟩
  | n + 1, h => by
    obtain ⟨h1, h2⟩ := zPut_ok hX n (fun i hi => h i (by omega))
    obtain ⟨g1, g2, g3, g4⟩ := h n (by omega)
    exact ⟨zRX_enter h1 b g1 g2 g3 g4, zEx_enter h2 _ _ _ _⟩
theorem z_shut_iff (fa fo fm : Nat → Int32) (c : Int32) : ∀ n, zm_shut (zL3 fa fo fm) c n = 0 ↔ ¬ ∃ i, i < n ∧ fm i < c
  | 0 => ⟨fun _ ⟨i, h, _⟩ => absurd h (Nat.not_lt_zero i), fun _ => rfl⟩
  | n + 1 => by
    have ih := z_shut_iff fa fo fm c n
    simp only [zm_shut]
    rw [(zL3_at fa fo fm n).2.2]
    by_cases h : zm_shut (zL3 fa fo fm) c n = 0
    · rw [if_pos h]
      have h' := ih.mp h
      by_cases g : fm n < c
      · rw [if_pos g]
        exact ⟨fun e => absurd e (by decide), fun e => absurd ⟨n, Nat.lt_succ_self n, g⟩ e⟩
      · rw [if_neg g]
        refine ⟨fun _ => ?_, fun _ => rfl⟩
        rintro ⟨i, hi, e⟩
        rcases Nat.lt_succ_iff_lt_or_eq.mp hi with q | q
        · exact h' ⟨i, q, e⟩
        · subst q; exact g e
    · rw [if_neg h]
      refine ⟨fun e => absurd e (by decide), fun e => ?_⟩
      exfalso
      exact h (ih.mpr (fun ⟨i, hi, q⟩ => e ⟨i, by omega, q⟩))
theorem z_room_iff {n k : Nat} (hk : k ≤ 200) (hn : n ≤ 200) : (nI (n + k) ≤ 200) ↔ (nI k ≤ 200 - nI n) := by
  have h1 : (200 : Int32) - nI n = nI (200 - n) := pk_sub (a := 200) hn
  rw [h1]
  show (nI (n + k) ≤ nI 200) ↔ _
  rw [nI_leI (b := 200) (by omega) (by decide), nI_leI (by omega) (by omega)]
  omega
/-! what put, correct and reverse leave -/
theorem z_ent {E : zE} {bt : Nat} (hR : zRE E bt) (fx qm : Nat → Int32) (hf : ∀ b, fx b = 0 ↔ ¬ 0 < qm b) (h0 : ∀ b, bt ≤ b → fx b = 0) : (∀ b, fx b = 0 ↔ ¬ 0 < upd qm bt 0 b) ∧ (∀ b, bt + 1 ≤ b → fx b = 0) := by
  refine ⟨fun b => ?_, fun b hb => h0 b (by omega)⟩
  by_cases e : b = bt
  · subst e
    rw [pk_us]
    exact ⟨fun _ => by decide, fun _ => h0 b (Nat.le_refl _)⟩
  · rw [pk_un e]; exact hf b
section ZRL2
variable {n : Nat} {fa fo fm fc : Nat → Int32} {E : zE} {bt : Nat} {fx qm fw : Nat → Int32} {sn : Nat → Nat} {sp sc : Nat → Nat → Int32} {lp lq : Nat → Int32} {mn : Nat → Nat} {md mc : Nat → Nat → Int32} {pn : Nat} {po pw : Nat → Int32} {cl : Nat} {ou ou' : Nat → Int64} {th th' : Int32}
theorem rl_put (hR : zRl ((n, fa, fo, fm, fc), (E, bt, fx, qm), fw, (sn, sp, sc, lp, lq), (mn, md, mc), (pn, po, pw), cl, ou, th)) (h : ¬ nI n = 0 ∧ zs_lsum fc n = 0 ∧ nI n ≤ 200 - nI E.1) : zRl ((0, fa, fo, fm, fc), (zs_put E (nI bt) fa fo fm fc n, bt + 1, fx, upd qm bt 0), fw, (sn, sp, sc, lp, lq), (mn, md, mc), (pn, po, pw), cl, ou', th') := by
  obtain ⟨⟨hn, hl⟩, ⟨hRE, hf, h0⟩, hC⟩ := hR
  have hn : n ≤ 16 := hn
  have hRE : zRE E bt := hRE
  have hE : E.1 ≤ 200 := hRE.1
  have hr := z_room hE (by omega) h.2.2
  have hpos : 0 < n := Nat.pos_of_ne_zero (fun e => h.1 (by rw [e]; rfl))
  obtain ⟨p1, p2⟩ := zPut_ok (b := nI bt) (zRX_of hRE) n hl
  have p3 := zs_put_1 E (nI bt) fa fo fm fc n
  have p4 : zRE (zs_put E (nI bt) fa fo fm fc n) (bt + 1) := zRE_of hRE p2 p1 (by omega) (by omega)
  exact ⟨⟨Nat.zero_le _, fun i h => absurd h (Nat.not_lt_zero i)⟩, ⟨p4, z_ent hRE fx qm hf h0⟩, hC⟩
theorem z_negb {x : Int32} (h : 1 ≤ x.toInt ∧ x.toInt ≤ 1000000000) : -1000000000 ≤ (-x).toInt ∧ (-x).toInt ≤ 1000000000 := by
  have e : (-x).toInt = -x.toInt := by rw [Int32.toInt_neg]; exact Int.bmod_eq_of_le (by omega) (by omega)
  rw [e]; omega
theorem z_negc {x : Int32} (h : -1000000000 ≤ x.toInt ∧ x.toInt ≤ 1000000000) : -1000000000 ≤ (-x).toInt ∧ (-x).toInt ≤ 1000000000 := by
  have e : (-x).toInt = -x.toInt := by rw [Int32.toInt_neg]; exact Int.bmod_eq_of_le (by omega) (by omega)
  rw [e]; omega
theorem rl_correct {p1 p2 p3 p4 p5 : Int32} (hR : zRl ((n, fa, fo, fm, fc), (E, bt, fx, qm), fw, (sn, sp, sc, lp, lq), (mn, md, mc), (pn, po, pw), cl, ou, th)) (h1 : zin p1 8 ∧ zin p2 8 ∧ ¬ p1 = p2 ∧ zin p3 8 ∧ zin p4 12) (h2 : ¬ p5 < 1 ∧ p5 ≤ 1000000000) (h3 : 2 ≤ 200 - nI E.1) :
    zRl ((n, fa, fo, fm, fc), (zs_enter (zs_enter E (nI bt) p1 p3 p4 (-p5)) (nI bt) p2 p3 p4 p5, bt + 1, fx, upd qm bt 0), fw, (sn, sp, sc, lp, lq), (mn, md, mc), (pn, po, pw), cl, ou', th') := by
  obtain ⟨hA, ⟨hRE, hf, h0⟩, hC⟩ := hR
  have hRE : zRE E bt := hRE
  have hr : E.1 + 2 ≤ 200 := z_room (k := 2) hRE.1 (by decide) h3
  have hc := z_toI (A := 1) (B := 1000000000) (by decide) (by decide) h2
  have x1 := zRX_enter (zRX_of hRE) (nI bt) (z_vi h1.1) (z_vi h1.2.2.2.1) (z_vi h1.2.2.2.2) (z_negb hc)
  have x2 := zRX_enter x1 (nI bt) (z_vi h1.2.1) (z_vi h1.2.2.2.1) (z_vi h1.2.2.2.2) ⟨by omega, hc.2⟩
  have y := zEx_enter (zEx_enter (zEx_rf E (nI bt)) p1 p3 p4 (-p5)) p2 p3 p4 p5
  exact ⟨hA, ⟨zRE_of hRE y x2 (show E.1 < E.1 + 1 + 1 by omega) (show E.1 + 1 + 1 ≤ 200 by omega), z_ent hRE fx qm hf h0⟩, hC⟩
theorem zTurn_ok {E : zE} {b num im : Int32} (hX : zRX E) (him : vp_in im 12) : ∀ k, k ≤ E.1 → zRX (zs_turn E b num im k) ∧ zEx E (zs_turn E b num im k) b
  | 0, _ => ⟨hX, zEx_rf E b⟩
  | k + 1, hk => by
    obtain ⟨h1, h2⟩ := zTurn_ok (b := b) (num := num) hX him k (by omega)
    have hk2 : k < (zs_turn E b num im k).1 := Nat.lt_of_lt_of_le hk h2.1
    obtain ⟨g1, g2, g3⟩ := h1.1 k hk2
    simp only [zs_turn]
    split
    · exact ⟨zRX_enter h1 b g1 g2 him (z_negc (h1.2.2.2.2 k hk2)), zEx_enter h2 _ _ _ _⟩
    · exact ⟨h1, h2⟩
theorem rl_reverse {j : Nat} {p2 : Int32} (hR : zRl ((n, fa, fo, fm, fc), (E, bt, fx, qm), fw, (sn, sp, sc, lp, lq), (mn, md, mc), (pn, po, pw), cl, ou, th)) (hj : j < bt) (h1 : zin p2 12) (h3 : nI (zs_cnt E.2.2.2.2.2.1 (nI j) E.1) ≤ 200 - nI E.1) :
    zRl ((n, fa, fo, fm, fc), (zs_turn E (nI bt) (nI j) p2 E.1, bt + 1, upd (upd fx j 1) bt 1, upd (upd qm j 1) bt 2), fw, (sn, sp, sc, lp, lq), (mn, md, mc), (pn, po, pw), cl, ou', th') := by
  obtain ⟨hA, ⟨hRE, hf, h0⟩, hC⟩ := hR
  have hRE : zRE E bt := hRE
  have hr := z_room hRE.1 (Nat.le_trans (zs_cnt_le _ _ _) hRE.1) h3
  obtain ⟨x1, x2⟩ := zTurn_ok (b := nI bt) (num := nI j) (zRX_of hRE) (z_vi h1) E.1 (Nat.le_refl _)
  have x3 := (zs_turn_ok E (nI bt) (nI j) p2 E.1 (Nat.le_refl _)).1
  have x4 := hRE.2.2.1 j hj
  have hf : ∀ b, fx b = 0 ↔ ¬ 0 < qm b := hf
  have h0 : ∀ b, bt ≤ b → fx b = 0 := h0
  have x5 : zRE (zs_turn E (nI bt) (nI j) p2 E.1) (bt + 1) := zRE_of hRE x2 x1 (by omega) (by omega)
  refine ⟨hA, ⟨x5, fun b => ?_, fun b hb => ?_⟩, hC⟩
  · show upd (upd fx j 1) bt 1 b = 0 ↔ ¬ 0 < upd (upd qm j 1) bt 2 b
    by_cases e : b = bt
    · rw [e, pk_us, pk_us]; decide
    · rw [pk_un e, pk_un e]
      by_cases e2 : b = j
      · rw [e2, pk_us, pk_us]; decide
      · rw [pk_un e2, pk_un e2]; exact hf b
  · have hb : bt + 1 ≤ b := hb
    show upd (upd fx j 1) bt 1 b = 0
    rw [pk_un (by omega), pk_un (by omega)]; exact h0 b (by omega)
end ZRL2
