set_option maxHeartbeats 4000000 in
set_option maxRecDepth 100000 in
/-- the law's loop, at its head -/
theorem z_loop {p : Program} {l : Launch} {e : Env} {s : State} {m : MethodId} {below : List Frame} {meth : Method} {c : Code} {b L : Nat} {xs : Nat → Int32} (hL : L ≤ 3072) (C0 : lw_At p s m meth c b L xs) (hl9 : l.stackTraces = false) {D : zD} {a : Nat → Nat} (hK : va_K D.1 vwCl (zt D) s) (hB : zB (fun q : Nat => s.heap.size ≤ q) s) : ∀ (nn i kc ks : Nat), L + 7 ≤ i + nn → i ≤ L + 6 → kc ≤ 4 * i + 100 → ks ≤ 27 * i + 4000 → zAt p l e s m b below meth c D a i kc ks 23 := by
  obtain ⟨hx, hb, hr, hml, hown, hts, hX, hbl, hlocks, hgv⟩ := id C0
  have hbA : ¬ (fun q : Nat => s.heap.size ≤ q) b := Nat.not_le.mpr hbl
  intro nn
  induction nn with
  | zero =>
    intro i kc ks h1 h2
    exact absurd h1 (by omega)
  | succ nn ih =>
    intro i kc ks h1 h2 h3 h4 S hR H locs hP hD hS ls hl
    refine lv_iload hx hb dL_law_23 (lv_at hl 4 rfl) ?_
    refine lv_aload_n hx hb dL_law_25 rfl (lv_at hl 0 rfl) ?_
    refine va_slen hx hb hX hbl hbA hS dL_law_26 ?_
    refine lv_bipush (v := 6) hx hb dL_law_27 (by decide) ?_
    refine lv_isub hx hb dL_law_29 ?_
    have e6 : (nI L - nI 6).toInt = (L : Int) - 6 := pk_sub_toInt (a := L) (b := 6) (by omega) (by decide)
    have ei : (nI i).toInt = (i : Int) := nI_toInt (by omega)
    refine lv_icmp_gt (tgt := 1227) hx hb dL_law_30 (by decide) (fun c9 => ?_) (fun c9 => ?_)
    · refine lv_iconst (v := 1) hx hb dL_law_1227 (by decide) ?_
      refine va_forget (fun q hq => hS.2.2 q hq) ?_
      refine W.widen (k := 601024) (n := 7293034) (by omega) (by omega) ?_
      exact lw_ret hx hb hr hlocks dL_law_1228
    have hi : i + 6 ≤ L := by
      rcases Nat.lt_or_ge L (i + 6) with q | q
      · refine absurd ?_ c9
        show nI L - nI 6 < nI i
        rw [Int32.lt_iff_toInt_lt, e6, ei]
        omega
      · exact q
    refine lv_aload_n hx hb dL_law_33 rfl (lv_at hl 0 rfl) ?_
    refine lv_iload hx hb dL_law_34 (lv_at hl 4 rfl) ?_
    refine z_sld (k := i) hx hb hX hbl hbA hS (by omega) (by omega) dL_law_36 ?_
    refine lv_bipush (v := 31) hx hb dL_law_37 (by decide) ?_
    refine lv_iand hx hb dL_law_39 ?_
    refine lv_topi (fun w9 ew9 => ?_)
    have K : zAt p l e s m b below meth c D a i (kc + 24) (ks + 160) 1221 := by
      intro S hR H locs hP hD hS ls hl
      refine lv_iinc (v := nI (i + 6)) (lv' := [(4, .int (nI (i + 6))), (0, .ref b), (1, .ref (a 0)), (2, .ref (a 44)), (3, .ref (a 43))]) hx hb dL_law_1221 hl (k := 4) rfl (nI_add i 6) (by decide) rfl (fun ls hl => ?_)
      refine lv_goto (tgt := 23) hx hb dL_law_1224 (by decide) ?_
      exact ih (i + 6) (kc + 24) (ks + 160) (by omega) (by omega) (by omega) (by omega) S hR H locs hP hD hS ls (lv_sub hl [1, 2, 3, 4, 0] rfl)
    rcases Classical.em (w9 = 0) with s0_ | s0_
    · refine lv_tableIn (tgt := 124) hx hb dL_law_40 (by rw [s0_]; decide) (by rw [s0_]; decide) (by rw [s0_]; rfl) (by decide) ?_
      exact k_line hL C0 hl9 hK hB hi (by omega) (by omega) K S hR H locs hP hD hS ls hl
    rcases Classical.em (w9 = 1) with s1_ | s1_
    · refine lv_tableIn (tgt := 216) hx hb dL_law_40 (by rw [s1_]; decide) (by rw [s1_]; decide) (by rw [s1_]; rfl) (by decide) ?_
      exact k_put hL C0 hl9 hK hB hi (by omega) (by omega) K S hR H locs hP hD hS ls hl
    rcases Classical.em (w9 = 2) with s2_ | s2_
    · refine lv_tableIn (tgt := 260) hx hb dL_law_40 (by rw [s2_]; decide) (by rw [s2_]; decide) (by rw [s2_]; rfl) (by decide) ?_
      exact k_drop hL C0 hl9 hK hB hi (by omega) (by omega) K S hR H locs hP hD hS ls hl
    rcases Classical.em (w9 = 3) with s3_ | s3_
    · refine lv_tableIn (tgt := 271) hx hb dL_law_40 (by rw [s3_]; decide) (by rw [s3_]; decide) (by rw [s3_]; rfl) (by decide) ?_
      exact k_correct hL C0 hl9 hK hB hi (by omega) (by omega) K S hR H locs hP hD hS ls hl
    rcases Classical.em (w9 = 4) with s4_ | s4_
    · refine lv_tableIn (tgt := 375) hx hb dL_law_40 (by rw [s4_]; decide) (by rw [s4_]; decide) (by rw [s4_]; rfl) (by decide) ?_
      exact k_reverse hL C0 hl9 hK hB hi (by omega) (by omega) K S hR H locs hP hD hS ls hl
    rcases Classical.em (w9 = 5) with s5_ | s5_
    · refine lv_tableIn (tgt := 443) hx hb dL_law_40 (by rw [s5_]; decide) (by rw [s5_]; decide) (by rw [s5_]; rfl) (by decide) ?_
      exact k_close hL C0 hl9 hK hB hi (by omega) (by omega) K S hR H locs hP hD hS ls hl
    rcases Classical.em (w9 = 6) with s6_ | s6_
    · refine lv_tableIn (tgt := 487) hx hb dL_law_40 (by rw [s6_]; decide) (by rw [s6_]; decide) (by rw [s6_]; rfl) (by decide) ?_
      exact k_told hL C0 hl9 hK hB hi (by omega) (by omega) K S hR H locs hP hD hS ls hl
    rcases Classical.em (w9 = 7) with s7_ | s7_
    · refine lv_tableIn (tgt := 554) hx hb dL_law_40 (by rw [s7_]; decide) (by rw [s7_]; decide) (by rw [s7_]; rfl) (by decide) ?_
      exact k_many hL C0 hl9 hK hB hi (by omega) (by omega) K S hR H locs hP hD hS ls hl
    rcases Classical.em (w9 = 8) with s8_ | s8_
    · refine lv_tableIn (tgt := 610) hx hb dL_law_40 (by rw [s8_]; decide) (by rw [s8_]; decide) (by rw [s8_]; rfl) (by decide) ?_
      exact k_weight hL C0 hl9 hK hB hi (by omega) (by omega) K S hR H locs hP hD hS ls hl
    rcases Classical.em (w9 = 9) with s9_ | s9_
    · refine lv_tableIn (tgt := 658) hx hb dL_law_40 (by rw [s9_]; decide) (by rw [s9_]; decide) (by rw [s9_]; rfl) (by decide) ?_
      exact k_share hL C0 hl9 hK hB hi (by omega) (by omega) K S hR H locs hP hD hS ls hl
    rcases Classical.em (w9 = 10) with s10_ | s10_
    · refine lv_tableIn (tgt := 725) hx hb dL_law_40 (by rw [s10_]; decide) (by rw [s10_]; decide) (by rw [s10_]; rfl) (by decide) ?_
      exact k_stock hL C0 hl9 hK hB hi (by omega) (by omega) K S hR H locs hP hD hS ls hl
    rcases Classical.em (w9 = 11) with s11_ | s11_
    · refine lv_tableIn (tgt := 805) hx hb dL_law_40 (by rw [s11_]; decide) (by rw [s11_]; decide) (by rw [s11_]; rfl) (by decide) ?_
      exact k_take hL C0 hl9 hK hB hi (by omega) (by omega) K S hR H locs hP hD hS ls hl
    rcases Classical.em (w9 = 12) with s12_ | s12_
    · refine lv_tableIn (tgt := 872) hx hb dL_law_40 (by rw [s12_]; decide) (by rw [s12_]; decide) (by rw [s12_]; rfl) (by decide) ?_
      exact k_in hL C0 hl9 hK hB hi (by omega) (by omega) K S hR H locs hP hD hS ls hl
    rcases Classical.em (w9 = 13) with s13_ | s13_
    · refine lv_tableIn (tgt := 939) hx hb dL_law_40 (by rw [s13_]; decide) (by rw [s13_]; decide) (by rw [s13_]; rfl) (by decide) ?_
      exact k_rate hL C0 hl9 hK hB hi (by omega) (by omega) K S hR H locs hP hD hS ls hl
    rcases Classical.em (w9 = 14) with s14_ | s14_
    · refine lv_tableIn (tgt := 1019) hx hb dL_law_40 (by rw [s14_]; decide) (by rw [s14_]; decide) (by rw [s14_]; rfl) (by decide) ?_
      exact k_foreign hL C0 hl9 hK hB hi (by omega) (by omega) K S hR H locs hP hD hS ls hl
    rcases Classical.em (w9 = 15) with s15_ | s15_
    · refine lv_tableIn (tgt := 1098) hx hb dL_law_40 (by rw [s15_]; decide) (by rw [s15_]; decide) (by rw [s15_]; rfl) (by decide) ?_
      exact k_piece hL C0 hl9 hK hB hi (by omega) (by omega) K S hR H locs hP hD hS ls hl
    rcases Classical.em (w9 = 16) with s16_ | s16_
    · refine lv_tableIn (tgt := 1166) hx hb dL_law_40 (by rw [s16_]; decide) (by rw [s16_]; decide) (by rw [s16_]; rfl) (by decide) ?_
      exact k_opened hL C0 hl9 hK hB hi (by omega) (by omega) K S hR H locs hP hD hS ls hl
    refine lv_tableOut (tgt := 1221) hx hb dL_law_40 (by have h0 := lv_neT s0_ (show (0 : Int32).toInt = 0 from rfl); have h1 := lv_neT s1_ (show (1 : Int32).toInt = 1 from rfl); have h2 := lv_neT s2_ (show (2 : Int32).toInt = 2 from rfl); have h3 := lv_neT s3_ (show (3 : Int32).toInt = 3 from rfl); have h4 := lv_neT s4_ (show (4 : Int32).toInt = 4 from rfl); have h5 := lv_neT s5_ (show (5 : Int32).toInt = 5 from rfl); have h6 := lv_neT s6_ (show (6 : Int32).toInt = 6 from rfl); have h7 := lv_neT s7_ (show (7 : Int32).toInt = 7 from rfl); have h8 := lv_neT s8_ (show (8 : Int32).toInt = 8 from rfl); have h9 := lv_neT s9_ (show (9 : Int32).toInt = 9 from rfl); have h10 := lv_neT s10_ (show (10 : Int32).toInt = 10 from rfl); have h11 := lv_neT s11_ (show (11 : Int32).toInt = 11 from rfl); have h12 := lv_neT s12_ (show (12 : Int32).toInt = 12 from rfl); have h13 := lv_neT s13_ (show (13 : Int32).toInt = 13 from rfl); have h14 := lv_neT s14_ (show (14 : Int32).toInt = 14 from rfl); have h15 := lv_neT s15_ (show (15 : Int32).toInt = 15 from rfl); have h16 := lv_neT s16_ (show (16 : Int32).toInt = 16 from rfl); omega) (by decide) ?_
    exact W.widen (k := kc + 24) (n := ks + 160) (by omega) (by omega) (K S hR H locs hP hD hS ls hl)
def zE0 : zE := (0, (fun _ => 0), (fun _ => 0), (fun _ => 0), (fun _ => 0), (fun _ => 0), (fun _ => 0), (fun _ => 0), (fun _ => 0))
def zS0 : zSt := ((0, (fun _ => 0), (fun _ => 0), (fun _ => 0), (fun _ => 0)), (zE0, 0, (fun _ => 0), (fun _ => 0)), (fun _ => 0), ((fun _ => 0), (fun _ _ => 0), (fun _ _ => 0), (fun _ => 0), (fun _ => 0)), ((fun _ => 0), (fun _ _ => 0), (fun _ _ => 0)), (0, (fun _ => 0), (fun _ => 0)), 0, (fun _ => 0), 0)
def zW0 (D : zD) (a : Nat → Nat) : va_W := [((a 0), .inr (5, [.ref (a 1), .ref (a 6), .ref (a 16), .ref (a 17), .ref (a 30), .ref (a 40), .int 0])), ((a 1), .inr (1, [.ref (a 2), .ref (a 3), .ref (a 4), .ref (a 5), .int 0])), ((a 2), .inl (D.2 0, 16, .inl (fun _ => 0))), ((a 3), .inl (D.2 0, 16, .inl (fun _ => 0))), ((a 4), .inl (D.2 0, 16, .inl (fun _ => 0))), ((a 5), .inl (D.2 0, 16, .inl (fun _ => 0))), ((a 6), .inr (0, [.ref (a 7), .ref (a 8), .ref (a 9), .ref (a 10), .ref (a 11), .int 0, .ref (a 12), .ref (a 13), .ref (a 14), .ref (a 15), .int 0])), ((a 7), .inl (D.2 0, 200, .inl (fun _ => 0))), ((a 8), .inl (D.2 0, 200, .inl (fun _ => 0))), ((a 9), .inl (D.2 0, 200, .inl (fun _ => 0))), ((a 10), .inl (D.2 0, 200, .inl (fun _ => 0))), ((a 11), .inl (D.2 0, 200, .inl (fun _ => 0))), ((a 12), .inl (D.2 1, 8, .inr (.inl (fun _ => 0)))), ((a 13), .inl (D.2 1, 8, .inr (.inl (fun _ => 0)))), ((a 14), .inl (D.2 1, 12, .inr (.inl (fun _ => 0)))), ((a 15), .inl (D.2 2, 200, .inl (fun _ => 0))), ((a 16), .inl (D.2 0, 8, .inl (fun _ => 0))), ((a 17), .inl (D.2 3, 4, .inr (.inr (.inr (.inr (va_up (va_up (va_up (va_up (fun _ => none) 0 (some (a 18))) 1 (some (a 21))) 2 (some (a 24))) 3 (some (a 27)))))))), ((a 18), .inr (4, [.ref (a 19), .ref (a 20), .int 0])), ((a 19), .inl (D.2 0, 12, .inl (fun _ => 0))), ((a 20), .inl (D.2 0, 12, .inl (fun _ => 0))), ((a 21), .inr (4, [.ref (a 22), .ref (a 23), .int 0])), ((a 22), .inl (D.2 0, 12, .inl (fun _ => 0))), ((a 23), .inl (D.2 0, 12, .inl (fun _ => 0))), ((a 24), .inr (4, [.ref (a 25), .ref (a 26), .int 0])), ((a 25), .inl (D.2 0, 12, .inl (fun _ => 0))), ((a 26), .inl (D.2 0, 12, .inl (fun _ => 0))), ((a 27), .inr (4, [.ref (a 28), .ref (a 29), .int 0])), ((a 28), .inl (D.2 0, 12, .inl (fun _ => 0))), ((a 29), .inl (D.2 0, 12, .inl (fun _ => 0))), ((a 30), .inl (D.2 4, 3, .inr (.inr (.inr (.inr (va_up (va_up (va_up (fun _ => none) 0 (some (a 31))) 1 (some (a 34))) 2 (some (a 37)))))))), ((a 31), .inr (2, [.ref (a 32), .ref (a 33), .int 0])), ((a 32), .inl (D.2 0, 10, .inl (fun _ => 0))), ((a 33), .inl (D.2 0, 10, .inl (fun _ => 0))), ((a 34), .inr (2, [.ref (a 35), .ref (a 36), .int 0])), ((a 35), .inl (D.2 0, 10, .inl (fun _ => 0))), ((a 36), .inl (D.2 0, 10, .inl (fun _ => 0))), ((a 37), .inr (2, [.ref (a 38), .ref (a 39), .int 0])), ((a 38), .inl (D.2 0, 10, .inl (fun _ => 0))), ((a 39), .inl (D.2 0, 10, .inl (fun _ => 0))), ((a 40), .inr (3, [.ref (a 41), .ref (a 42), .int 0])), ((a 41), .inl (D.2 0, 10, .inl (fun _ => 0))), ((a 42), .inl (D.2 0, 10, .inl (fun _ => 0))), ((a 43), .inl (D.2 1, 1, .inr (.inl (fun _ => 0)))), ((a 44), .inr (6, [.int 0, .int 0, .ref (a 45), .ref (a 46), .int 0, .ref (a 47), .int 0, .ref (a 48), .ref (a 49), .int 0, .ref (a 50), .ref (a 51), .ref (a 52), .ref (a 53), .ref (a 54), .ref (a 55), .ref (a 56), .int 0, .ref (a 57), .ref (a 58)])), ((a 45), .inl (D.2 0, 800, .inl (fun _ => 0))), ((a 46), .inl (D.2 0, 200, .inl (fun _ => 0))), ((a 47), .inl (D.2 0, 200, .inl (fun _ => 0))), ((a 48), .inl (D.2 0, 48, .inl (fun _ => 0))), ((a 49), .inl (D.2 0, 16, .inl (fun _ => 0))), ((a 50), .inl (D.2 0, 8, .inl (fun _ => 0))), ((a 51), .inl (D.2 0, 4, .inl (fun _ => 0))), ((a 52), .inl (D.2 0, 48, .inl (fun _ => 0))), ((a 53), .inl (D.2 0, 48, .inl (fun _ => 0))), ((a 54), .inl (D.2 0, 3, .inl (fun _ => 0))), ((a 55), .inl (D.2 0, 30, .inl (fun _ => 0))), ((a 56), .inl (D.2 0, 30, .inl (fun _ => 0))), ((a 57), .inl (D.2 0, 10, .inl (fun _ => 0))), ((a 58), .inl (D.2 0, 10, .inl (fun _ => 0)))]
theorem zMix0 : zMix zE0 = fun _ => 0 := by
  funext i
  simp only [zMix]
  split
  · rfl
  · split
    · rfl
    · split
      · rfl
      · rfl
theorem zL30 : zL3 (fun _ => 0) (fun _ => 0) (fun _ => 0) = fun _ => 0 := by
  funext i
  simp only [zL3]
  split
  · rfl
  · split
    · rfl
    · rfl
theorem zW0_eq (D : zD) (a : Nat → Nat) : zW D a zS0 = zW0 D a := by
  show ([((a 0), .inr (5, [.ref (a 1), .ref (a 6), .ref (a 16), .ref (a 17), .ref (a 30), .ref (a 40), .int 0])), ((a 1), .inr (1, [.ref (a 2), .ref (a 3), .ref (a 4), .ref (a 5), .int 0])), ((a 2), .inl (D.2 0, 16, .inl (fun _ => 0))), ((a 3), .inl (D.2 0, 16, .inl (fun _ => 0))), ((a 4), .inl (D.2 0, 16, .inl (fun _ => 0))), ((a 5), .inl (D.2 0, 16, .inl (fun _ => 0))), ((a 6), .inr (0, [.ref (a 7), .ref (a 8), .ref (a 9), .ref (a 10), .ref (a 11), .int 0, .ref (a 12), .ref (a 13), .ref (a 14), .ref (a 15), .int 0])), ((a 7), .inl (D.2 0, 200, .inl (fun _ => 0))), ((a 8), .inl (D.2 0, 200, .inl (fun _ => 0))), ((a 9), .inl (D.2 0, 200, .inl (fun _ => 0))), ((a 10), .inl (D.2 0, 200, .inl (fun _ => 0))), ((a 11), .inl (D.2 0, 200, .inl (fun _ => 0))), ((a 12), .inl (D.2 1, 8, .inr (.inl (fun _ => 0)))), ((a 13), .inl (D.2 1, 8, .inr (.inl (fun _ => 0)))), ((a 14), .inl (D.2 1, 12, .inr (.inl (fun _ => 0)))), ((a 15), .inl (D.2 2, 200, .inl (fun _ => 0))), ((a 16), .inl (D.2 0, 8, .inl (fun _ => 0))), ((a 17), .inl (D.2 3, 4, .inr (.inr (.inr (.inr (va_up (va_up (va_up (va_up (fun _ => none) 0 (some (a 18))) 1 (some (a 21))) 2 (some (a 24))) 3 (some (a 27)))))))), ((a 18), .inr (4, [.ref (a 19), .ref (a 20), .int 0])), ((a 19), .inl (D.2 0, 12, .inl (fun _ => 0))), ((a 20), .inl (D.2 0, 12, .inl (fun _ => 0))), ((a 21), .inr (4, [.ref (a 22), .ref (a 23), .int 0])), ((a 22), .inl (D.2 0, 12, .inl (fun _ => 0))), ((a 23), .inl (D.2 0, 12, .inl (fun _ => 0))), ((a 24), .inr (4, [.ref (a 25), .ref (a 26), .int 0])), ((a 25), .inl (D.2 0, 12, .inl (fun _ => 0))), ((a 26), .inl (D.2 0, 12, .inl (fun _ => 0))), ((a 27), .inr (4, [.ref (a 28), .ref (a 29), .int 0])), ((a 28), .inl (D.2 0, 12, .inl (fun _ => 0))), ((a 29), .inl (D.2 0, 12, .inl (fun _ => 0))), ((a 30), .inl (D.2 4, 3, .inr (.inr (.inr (.inr (va_up (va_up (va_up (fun _ => none) 0 (some (a 31))) 1 (some (a 34))) 2 (some (a 37)))))))), ((a 31), .inr (2, [.ref (a 32), .ref (a 33), .int 0])), ((a 32), .inl (D.2 0, 10, .inl (fun _ => 0))), ((a 33), .inl (D.2 0, 10, .inl (fun _ => 0))), ((a 34), .inr (2, [.ref (a 35), .ref (a 36), .int 0])), ((a 35), .inl (D.2 0, 10, .inl (fun _ => 0))), ((a 36), .inl (D.2 0, 10, .inl (fun _ => 0))), ((a 37), .inr (2, [.ref (a 38), .ref (a 39), .int 0])), ((a 38), .inl (D.2 0, 10, .inl (fun _ => 0))), ((a 39), .inl (D.2 0, 10, .inl (fun _ => 0))), ((a 40), .inr (3, [.ref (a 41), .ref (a 42), .int 0])), ((a 41), .inl (D.2 0, 10, .inl (fun _ => 0))), ((a 42), .inl (D.2 0, 10, .inl (fun _ => 0))), ((a 43), .inl (D.2 1, 1, .inr (.inl (fun _ => 0)))), ((a 44), .inr (6, [.int 0, .int 0, .ref (a 45), .ref (a 46), .int 0, .ref (a 47), .int 0, .ref (a 48), .ref (a 49), .int 0, .ref (a 50), .ref (a 51), .ref (a 52), .ref (a 53), .ref (a 54), .ref (a 55), .ref (a 56), .int 0, .ref (a 57), .ref (a 58)])), ((a 45), .inl (D.2 0, 800, .inl (zMix zE0))), ((a 46), .inl (D.2 0, 200, .inl (fun _ => 0))), ((a 47), .inl (D.2 0, 200, .inl (fun _ => 0))), ((a 48), .inl (D.2 0, 48, .inl (zL3 (fun _ => 0) (fun _ => 0) (fun _ => 0)))), ((a 49), .inl (D.2 0, 16, .inl (fun _ => 0))), ((a 50), .inl (D.2 0, 8, .inl (fun _ => 0))), ((a 51), .inl (D.2 0, 4, .inl (fun _ => 0))), ((a 52), .inl (D.2 0, 48, .inl (fun _ => 0))), ((a 53), .inl (D.2 0, 48, .inl (fun _ => 0))), ((a 54), .inl (D.2 0, 3, .inl (fun _ => 0))), ((a 55), .inl (D.2 0, 30, .inl (fun _ => 0))), ((a 56), .inl (D.2 0, 30, .inl (fun _ => 0))), ((a 57), .inl (D.2 0, 10, .inl (fun _ => 0))), ((a 58), .inl (D.2 0, 10, .inl (fun _ => 0)))] : va_W) = ([((a 0), .inr (5, [.ref (a 1), .ref (a 6), .ref (a 16), .ref (a 17), .ref (a 30), .ref (a 40), .int 0])), ((a 1), .inr (1, [.ref (a 2), .ref (a 3), .ref (a 4), .ref (a 5), .int 0])), ((a 2), .inl (D.2 0, 16, .inl (fun _ => 0))), ((a 3), .inl (D.2 0, 16, .inl (fun _ => 0))), ((a 4), .inl (D.2 0, 16, .inl (fun _ => 0))), ((a 5), .inl (D.2 0, 16, .inl (fun _ => 0))), ((a 6), .inr (0, [.ref (a 7), .ref (a 8), .ref (a 9), .ref (a 10), .ref (a 11), .int 0, .ref (a 12), .ref (a 13), .ref (a 14), .ref (a 15), .int 0])), ((a 7), .inl (D.2 0, 200, .inl (fun _ => 0))), ((a 8), .inl (D.2 0, 200, .inl (fun _ => 0))), ((a 9), .inl (D.2 0, 200, .inl (fun _ => 0))), ((a 10), .inl (D.2 0, 200, .inl (fun _ => 0))), ((a 11), .inl (D.2 0, 200, .inl (fun _ => 0))), ((a 12), .inl (D.2 1, 8, .inr (.inl (fun _ => 0)))), ((a 13), .inl (D.2 1, 8, .inr (.inl (fun _ => 0)))), ((a 14), .inl (D.2 1, 12, .inr (.inl (fun _ => 0)))), ((a 15), .inl (D.2 2, 200, .inl (fun _ => 0))), ((a 16), .inl (D.2 0, 8, .inl (fun _ => 0))), ((a 17), .inl (D.2 3, 4, .inr (.inr (.inr (.inr (va_up (va_up (va_up (va_up (fun _ => none) 0 (some (a 18))) 1 (some (a 21))) 2 (some (a 24))) 3 (some (a 27)))))))), ((a 18), .inr (4, [.ref (a 19), .ref (a 20), .int 0])), ((a 19), .inl (D.2 0, 12, .inl (fun _ => 0))), ((a 20), .inl (D.2 0, 12, .inl (fun _ => 0))), ((a 21), .inr (4, [.ref (a 22), .ref (a 23), .int 0])), ((a 22), .inl (D.2 0, 12, .inl (fun _ => 0))), ((a 23), .inl (D.2 0, 12, .inl (fun _ => 0))), ((a 24), .inr (4, [.ref (a 25), .ref (a 26), .int 0])), ((a 25), .inl (D.2 0, 12, .inl (fun _ => 0))), ((a 26), .inl (D.2 0, 12, .inl (fun _ => 0))), ((a 27), .inr (4, [.ref (a 28), .ref (a 29), .int 0])), ((a 28), .inl (D.2 0, 12, .inl (fun _ => 0))), ((a 29), .inl (D.2 0, 12, .inl (fun _ => 0))), ((a 30), .inl (D.2 4, 3, .inr (.inr (.inr (.inr (va_up (va_up (va_up (fun _ => none) 0 (some (a 31))) 1 (some (a 34))) 2 (some (a 37)))))))), ((a 31), .inr (2, [.ref (a 32), .ref (a 33), .int 0])), ((a 32), .inl (D.2 0, 10, .inl (fun _ => 0))), ((a 33), .inl (D.2 0, 10, .inl (fun _ => 0))), ((a 34), .inr (2, [.ref (a 35), .ref (a 36), .int 0])), ((a 35), .inl (D.2 0, 10, .inl (fun _ => 0))), ((a 36), .inl (D.2 0, 10, .inl (fun _ => 0))), ((a 37), .inr (2, [.ref (a 38), .ref (a 39), .int 0])), ((a 38), .inl (D.2 0, 10, .inl (fun _ => 0))), ((a 39), .inl (D.2 0, 10, .inl (fun _ => 0))), ((a 40), .inr (3, [.ref (a 41), .ref (a 42), .int 0])), ((a 41), .inl (D.2 0, 10, .inl (fun _ => 0))), ((a 42), .inl (D.2 0, 10, .inl (fun _ => 0))), ((a 43), .inl (D.2 1, 1, .inr (.inl (fun _ => 0)))), ((a 44), .inr (6, [.int 0, .int 0, .ref (a 45), .ref (a 46), .int 0, .ref (a 47), .int 0, .ref (a 48), .ref (a 49), .int 0, .ref (a 50), .ref (a 51), .ref (a 52), .ref (a 53), .ref (a 54), .ref (a 55), .ref (a 56), .int 0, .ref (a 57), .ref (a 58)])), ((a 45), .inl (D.2 0, 800, .inl (fun _ => 0))), ((a 46), .inl (D.2 0, 200, .inl (fun _ => 0))), ((a 47), .inl (D.2 0, 200, .inl (fun _ => 0))), ((a 48), .inl (D.2 0, 48, .inl (fun _ => 0))), ((a 49), .inl (D.2 0, 16, .inl (fun _ => 0))), ((a 50), .inl (D.2 0, 8, .inl (fun _ => 0))), ((a 51), .inl (D.2 0, 4, .inl (fun _ => 0))), ((a 52), .inl (D.2 0, 48, .inl (fun _ => 0))), ((a 53), .inl (D.2 0, 48, .inl (fun _ => 0))), ((a 54), .inl (D.2 0, 3, .inl (fun _ => 0))), ((a 55), .inl (D.2 0, 30, .inl (fun _ => 0))), ((a 56), .inl (D.2 0, 30, .inl (fun _ => 0))), ((a 57), .inl (D.2 0, 10, .inl (fun _ => 0))), ((a 58), .inl (D.2 0, 10, .inl (fun _ => 0)))] : va_W)
  rw [zMix0, zL30]
theorem rl_0 : zRl zS0 := by
  refine ⟨⟨Nat.zero_le _, fun i h => absurd h (Nat.not_lt_zero i)⟩, ⟨⟨Nat.zero_le _, Nat.le_refl _, fun i h => absurd h (Nat.not_lt_zero i), fun i h => absurd h (Nat.not_lt_zero i), fun _ _ => rfl, fun _ _ => rfl, fun _ _ => rfl, fun i h => absurd h (Nat.not_lt_zero i)⟩, fun b => ?_, fun _ _ => rfl⟩, fun j _ => ⟨Nat.zero_le _, fun i h => absurd h (Nat.not_lt_zero i)⟩, fun j _ => ⟨Nat.zero_le _, fun i h => absurd h (Nat.not_lt_zero i)⟩, ⟨Nat.zero_le _, fun i h => absurd h (Nat.not_lt_zero i)⟩, Nat.zero_le _⟩
  show (0 : Int32) = 0 ↔ ¬ (0 : Int32) < 0
  decide
theorem z_arr {s : State} {args : Array Value} {ty : FieldType} (h : (Cond.arrayClass ty).before args s = true) : ∃ cA : ClassId, ArrOfT s cA ty ∧ s.vm.findClass ("[" ++ ty.toString) = some cA := by
  obtain ⟨c, k, comp, h1, h2, h3⟩ := Cond.arrayClass_spec h
  exact ⟨c, fun n z => ⟨fun k h => (by cases h), k, h2, comp, h3⟩, h1⟩
theorem z_arrO {s : State} {C : String} (h : va_AO C s) : ∃ cA : ClassId, ArrOfT s cA (.object C) ∧ va_RA s cA (.object C) := by
  obtain ⟨comp, c, k, h1, h2, h3, h4, h5⟩ := Cond.arrayOver_spec h
  exact ⟨c, fun N z => ⟨(fun k h => by cases h), k, h3, comp, h4⟩, k, comp, h3, h4, h1, h5⟩
/-- what the start gives -/
theorem z_begin {p : Program} {s : State} {m : MethodId} {meth : Method} {c : Code} {b L : Nat} {xs : Nat → Int32} (C0 : lw_At p s m meth c b L xs) : zB (fun q : Nat => s.heap.size ≤ q) s ∧ ∃ D : zD, va_K D.1 vwCl (zt D) s := by
  obtain ⟨hx, hb, hr, hml, hown, hts, hX, hbl, hlocks, hgv⟩ := C0
  have hs := flat_of_before _ hgv
  have hA9 : ∀ a : Nat, a < s.heap.size → ¬ (fun q : Nat => s.heap.size ≤ q) a := fun a h => Nat.not_le.mpr h
  have hZ : ∀ w ∈ zALL, w.before #[Value.ref b] s = true := fun w h => hts w (List.mem_filter.mp h).1
  have m1 : ∀ q ∈ zStr, Cond.stringRef q.1 q.2.1 q.2.2 ∈ lw_tbl := by decide +kernel
  have m2 : ∀ q ∈ zStr, Cond.exactly (.string q.1 q.2.1) "java/lang/String" ∈ flatC (Jvm.Cond.and given_1 narrow_1) := by decide +kernel
  have m3 : ∀ q ∈ zCa, Cond.castable q.1 q.2 ∈ lw_tbl := by decide +kernel
  have m4 : ∀ q ∈ zDe, Cond.declares q ∈ lw_tbl := by decide +kernel
  have m5 : ∀ q ∈ zNe, Cond.methodLinkNest q.1 q.2.1 q.2.2.1 q.2.2.2 ∈ lw_tbl := by decide +kernel
  have m6 : ∀ q ∈ zNc, Cond.not (.castable q.1 q.2) ∈ flatC (Jvm.Cond.and given_1 narrow_1) := by decide +kernel
  have m7 : ∀ q ∈ zAO, Cond.arrayOver (.object q) ∈ lw_tbl := by decide +kernel
  have hAO : ∀ C ∈ zAO, va_AO C s := fun q hq => va_AO.of (hts _ (m7 q hq))
  refine ⟨⟨vx_Zqof (hts _ (by decide +kernel)) (hts _ (by decide +kernel)) (hs _ (by decide +kernel)) hA9, vx_Zqof (hts _ (by decide +kernel)) (hts _ (by decide +kernel)) (hs _ (by decide +kernel)) hA9, fun q hq => ?_, fun q hq => va_Nw.of rfl (hts _ (m3 q hq)), fun q hq => va_Nw.of rfl (hts _ (m4 q hq)), fun q hq => va_Nw.of rfl (hts _ (m5 q hq)), fun q hq => va_Nc.of (hs _ (m6 q hq)), hAO⟩, ?_⟩
  · obtain ⟨sa, -, -, -, h, -⟩ := Cond.exactly_spec (hs _ (m2 q hq))
    exact ⟨sa, vk_R.of (hts _ (m1 q hq)) h⟩
  obtain ⟨c0, i0, k0⟩ := u_known (C := "ShopLedger$Books") (T := TX0) (N := 11) (n := 11) hZ inX0 (hts (.instantiable "ShopLedger$Books" 11) (by decide +kernel))
  obtain ⟨c1, i1, k1⟩ := u_known (C := "ShopLedger$Lines") (T := TX1) (N := 5) (n := 5) hZ inX1 (hts (.instantiable "ShopLedger$Lines" 5) (by decide +kernel))
  obtain ⟨c2, i2, k2⟩ := u_known (C := "ShopLedger$Money") (T := TX2) (N := 3) (n := 3) hZ inX2 (hts (.instantiable "ShopLedger$Money" 3) (by decide +kernel))
  obtain ⟨c3, i3, k3⟩ := u_known (C := "ShopLedger$Pieces") (T := TX3) (N := 3) (n := 3) hZ inX3 (hts (.instantiable "ShopLedger$Pieces" 3) (by decide +kernel))
  obtain ⟨c4, i4, k4⟩ := u_known (C := "ShopLedger$Stock") (T := TX4) (N := 3) (n := 3) hZ inX4 (hts (.instantiable "ShopLedger$Stock" 3) (by decide +kernel))
  obtain ⟨c5, i5, k5⟩ := u_known (C := "ShopLedger") (T := TX5) (N := 7) (n := 7) hZ inX5 (hts (.instantiable "ShopLedger" 7) (by decide +kernel))
  obtain ⟨c6, i6, k6⟩ := u_known (C := "ShopLedgerModel") (T := TX6) (N := 20) (n := 20) hZ inX6 (hts (.instantiable "ShopLedgerModel" 20) (by decide +kernel))
  obtain ⟨e0, a0, f0⟩ := z_arr (hts (.arrayClass .int) (by decide +kernel))
  obtain ⟨e1, a1, f1⟩ := z_arr (hts (.arrayClass .long) (by decide +kernel))
  obtain ⟨e2, a2, f2⟩ := z_arr (hts (.arrayClass .boolean) (by decide +kernel))
  obtain ⟨e3, a3, f3⟩ := z_arrO (hAO "ShopLedger$Stock" (by decide +kernel))
  obtain ⟨e4, a4, f4⟩ := z_arrO (hAO "ShopLedger$Money" (by decide +kernel))
  refine ⟨((fun k => ([c0, c1, c2, c3, c4, c5, c6] : List ClassId).getD k c0, fun k => ([i0, i1, i2, i3, i4, i5, i6] : List (Nat → Nat)).getD k i0), fun k => ([e0, e1, e2, e3, e4] : List ClassId).getD k e0), ?_, ?_⟩
  · intro k q hq
    match k, hq with
    | 0, hq => cases hq; exact k0
    | 1, hq => cases hq; exact k1
    | 2, hq => cases hq; exact k2
    | 3, hq => cases hq; exact k3
    | 4, hq => cases hq; exact k4
    | 5, hq => cases hq; exact k5
    | 6, hq => cases hq; exact k6
    | k + 7, hq => simp [vwCl] at hq
  · intro k q hq
    match k, hq with
    | 0, hq => cases hq; exact ⟨a0, f0⟩
    | 1, hq => cases hq; exact ⟨a1, f1⟩
    | 2, hq => cases hq; exact ⟨a2, f2⟩
    | 3, hq => cases hq; exact ⟨a3, f3⟩
    | 4, hq => cases hq; exact ⟨a4, f4⟩
    | k + 5, hq => simp [zt] at hq
