theorem zL3_upd (fa fo fm : Nat → Int32) (n : Nat) (p1 p2 p3 : Int32) : upd (upd (upd (zL3 fa fo fm) (3 * n) p1) (3 * n + 1) p2) (3 * n + 2) p3 = zL3 (upd fa n p1) (upd fo n p2) (upd fm n p3) := by
  funext i
  have h3 : i % 3 = 0 ∨ i % 3 = 1 ∨ i % 3 = 2 := by omega
  simp only [upd, zL3]
  rcases h3 with h | h | h
  · simp only [h, if_true]
    by_cases e : i / 3 = n
    · rw [if_neg (by omega), if_neg (by omega), if_pos (by omega), if_pos e]
    · rw [if_neg (by omega), if_neg (by omega), if_neg (by omega), if_neg e]
  · have h0 : ¬ (1 : Nat) = 0 := by decide
    simp only [h, h0, if_true, if_false]
    by_cases e : i / 3 = n
    · rw [if_neg (by omega), if_pos (by omega), if_pos e]
    · rw [if_neg (by omega), if_neg (by omega), if_neg (by omega), if_neg e]
  · have h0 : ¬ (2 : Nat) = 0 := by decide
    have h1 : ¬ (2 : Nat) = 1 := by decide
    simp only [h, h0, h1, if_false]
    by_cases e : i / 3 = n
    · rw [if_pos (by omega), if_pos e]
    · rw [if_neg (by omega), if_neg (by omega), if_neg (by omega), if_neg e]
theorem z_up_i {f : Nat → Int32} {n i : Nat} {x : Int32} {P : Int32 → Prop} (h : i < n + 1) (h1 : i < n → P (f i)) (h2 : P x) : P (upd f n x i) := by
  by_cases e : i = n
  · rw [e, pk_us]; exact h2
  · rw [pk_un e]; exact h1 (by omega)
theorem z_toI {x a b : Int32} {A B : Int} (hA : a.toInt = A) (hB : b.toInt = B) (h : ¬ x < a ∧ x ≤ b) : A ≤ x.toInt ∧ x.toInt ≤ B := by
  rw [← hA, ← hB]
  exact ⟨Int32.le_iff_toInt_le.mp (Int32.not_lt.mp h.1), Int32.le_iff_toInt_le.mp h.2⟩
theorem z_end {D : zD} {A : Nat → Prop} {ws ws' : va_W} {H : Heap} (hP : va_P D.1 vwCl ws H) (hD : va_D A ws) (is : List Nat) (hi : is.map (fun i => ws[i]?) = ws'.map some) (hn : va_nd is = true) : va_P D.1 vwCl ws' H ∧ va_D A ws' := ⟨hP.sub is (z_fm hi), hD.sub is hn hi⟩
section ZRL
variable {n : Nat} {fa fo fm fc : Nat → Int32} {E : zE} {bt : Nat} {fx qm fw : Nat → Int32} {sn : Nat → Nat} {sp sc : Nat → Nat → Int32} {lp lq : Nat → Int32} {mn : Nat → Nat} {md mc : Nat → Nat → Int32} {pn : Nat} {po pw : Nat → Int32} {cl : Nat} {ou ou' : Nat → Int64} {th th' : Int32}
theorem rl_same (hR : zRl ((n, fa, fo, fm, fc), (E, bt, fx, qm), fw, (sn, sp, sc, lp, lq), (mn, md, mc), (pn, po, pw), cl, ou, th)) : zRl ((n, fa, fo, fm, fc), (E, bt, fx, qm), fw, (sn, sp, sc, lp, lq), (mn, md, mc), (pn, po, pw), cl, ou', th') := hR
theorem rl_line {p1 p2 p3 p4 : Int32} (hR : zRl ((n, fa, fo, fm, fc), (E, bt, fx, qm), fw, (sn, sp, sc, lp, lq), (mn, md, mc), (pn, po, pw), cl, ou, th)) (h1 : zin p1 8 ∧ zin p2 8 ∧ zin p3 12) (h2 : ¬ 16 ≤ nI n) (h3 : ¬ p4 < (-1000000000) ∧ p4 ≤ 1000000000 ∧ ¬ p4 = 0) :
    zRl ((n + 1, upd fa n p1, upd fo n p2, upd fm n p3, upd fc n p4), (E, bt, fx, qm), fw, (sn, sp, sc, lp, lq), (mn, md, mc), (pn, po, pw), cl, ou', th') := by
  obtain ⟨⟨hn, hl⟩, hB, hC⟩ := hR
  have hn2 : n < 16 := z_lt (t := 16) hn (by decide) h2
  have hc := z_toI (A := -1000000000) (B := 1000000000) (by decide) (by decide) ⟨h3.1, h3.2.1⟩
  refine ⟨⟨hn2, fun i hi => ⟨?_, ?_, ?_, ?_⟩⟩, hB, hC⟩
  · exact z_up_i (P := fun x => vp_in x 8) hi (fun h => (hl i h).1) (z_vi h1.1)
  · exact z_up_i (P := fun x => vp_in x 8) hi (fun h => (hl i h).2.1) (z_vi h1.2.1)
  · exact z_up_i (P := fun x => vp_in x 12) hi (fun h => (hl i h).2.2.1) (z_vi h1.2.2)
  · exact z_up_i (P := fun x => -1000000000 ≤ x.toInt ∧ x.toInt ≤ 1000000000) hi (fun h => (hl i h).2.2.2) hc
theorem rl_drop (hR : zRl ((n, fa, fo, fm, fc), (E, bt, fx, qm), fw, (sn, sp, sc, lp, lq), (mn, md, mc), (pn, po, pw), cl, ou, th)) : zRl ((0, fa, fo, fm, fc), (E, bt, fx, qm), fw, (sn, sp, sc, lp, lq), (mn, md, mc), (pn, po, pw), cl, ou', th') := by
  obtain ⟨-, hB, hC⟩ := hR
  exact ⟨⟨Nat.zero_le _, fun i h => absurd h (Nat.not_lt_zero i)⟩, hB, hC⟩
theorem rl_close (hR : zRl ((n, fa, fo, fm, fc), (E, bt, fx, qm), fw, (sn, sp, sc, lp, lq), (mn, md, mc), (pn, po, pw), cl, ou, th)) (h : ¬ 12 ≤ nI cl) : zRl ((n, fa, fo, fm, fc), (E, bt, fx, qm), fw, (sn, sp, sc, lp, lq), (mn, md, mc), (pn, po, pw), cl + 1, ou', th') := by
  obtain ⟨hA, hB, hC, hD, hE, hF⟩ := hR
  exact ⟨hA, hB, hC, hD, hE, z_lt (t := 12) hF (by decide) h⟩
theorem rl_weight {fw' : Nat → Int32} (hR : zRl ((n, fa, fo, fm, fc), (E, bt, fx, qm), fw, (sn, sp, sc, lp, lq), (mn, md, mc), (pn, po, pw), cl, ou, th)) : zRl ((n, fa, fo, fm, fc), (E, bt, fx, qm), fw', (sn, sp, sc, lp, lq), (mn, md, mc), (pn, po, pw), cl, ou', th') := hR
theorem rl_piece {p1 p2 : Int32} (hR : zRl ((n, fa, fo, fm, fc), (E, bt, fx, qm), fw, (sn, sp, sc, lp, lq), (mn, md, mc), (pn, po, pw), cl, ou, th)) (h1 : zin p1 8) (h2 : ¬ 10 ≤ nI pn) (h3 : ¬ p2 < 1 ∧ p2 ≤ 1000000) : zRl ((n, fa, fo, fm, fc), (E, bt, fx, qm), fw, (sn, sp, sc, lp, lq), (mn, md, mc), (pn + 1, upd po pn p1, upd pw pn p2), cl, ou', th') := by
  obtain ⟨hA, hB, hC, hD, ⟨hn, hE⟩, hF⟩ := hR
  have hc := z_toI (A := 1) (B := 1000000) (by decide) (by decide) h3
  refine ⟨hA, hB, hC, hD, ⟨z_lt (t := 10) hn (by decide) h2, fun i hi => ⟨?_, ?_⟩⟩, hF⟩
  · exact z_up_i (P := fun x => vp_in x 8) hi (fun h => (hE i h).1) (z_vi h1)
  · exact z_up_i (P := fun x => 1 ≤ x.toInt ∧ x.toInt ≤ 1000000) hi (fun h => (hE i h).2) hc
end ZRL
