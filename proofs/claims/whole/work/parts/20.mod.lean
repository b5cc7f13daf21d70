set_option maxHeartbeats 4000000 in
set_option maxRecDepth 100000 in
/-- the reference: take -/
theorem d_take {l : Launch} (D : zD) (m0 m1 m2 m3 m4 m5 m6 m7 m8 m9 m10 m11 m12 m13 m14 : Nat) (M : zM) (bt ln cl pn : Nat) (th : Int32) (ly : Nat → Nat) (lp lq : Nat → Int32) (j N : Nat) (p2 : Int32) (sz : Nat) (hj : j < 4) (hy : ly j ≤ 12) (hN : (¬ p2 < 1 ∧ p2 ≤ 1000000) → (¬ zm_lsum lp (12 * j) (ly j) < p2.toInt64) → (zm_it (12 * j) (p2, 0, ly j, lp, lq) N).1 ≤ 0 ∧ ∀ i, i < N → ¬ (zm_it (12 * j) (p2, 0, ly j, lp, lq) i).1 ≤ 0 ∧ 0 < (zm_it (12 * j) (p2, 0, ly j, lp, lq) i).2.2.1 ∧ (zm_it (12 * j) (p2, 0, ly j, lp, lq) i).2.2.1 ≤ 12) : Met l yX6_take wsX6_take ({ frames := 1, cells := 0, slots := 0, locals := 25 }) (va_Pc [.ref m0, .int (nI j), .int p2] (zp D sz [(m0, .inr (6, [.int th, .int (nI M.1), .ref m1, .ref m2, .int (nI bt), .ref m3, .int (nI ln), .ref m4, .ref m5, .int (nI cl), .ref m6, .ref m7, .ref m8, .ref m9, .ref m10, .ref m11, .ref m12, .int (nI pn), .ref m13, .ref m14])), (m7, .inl (D.2 0, 4, .inl (fun i => nI (ly i)))), (m8, .inl (D.2 0, 48, .inl lp)), (m9, .inl (D.2 0, 48, .inl lq))])) (va_Ql (fun r (u : Option Int32) => (u = none ∧ (True) ∧ (¬ p2 < 1 ∧ p2 ≤ 1000000) ∧ (¬ zm_lsum lp (12 * j) (ly j) < p2.toInt64) ∧ r = (zm_it (12 * j) (p2, 0, ly j, lp, lq) N).2.1) ∨ (u = some 1 ∧ ¬ (True)) ∨ (u = some 2 ∧ (True) ∧ ¬ (¬ p2 < 1 ∧ p2 ≤ 1000000)) ∨ (u = some 3 ∧ (True) ∧ (¬ p2 < 1 ∧ p2 ≤ 1000000) ∧ ¬ (¬ zm_lsum lp (12 * j) (ly j) < p2.toInt64))) (zq D (va_A [(m0, .inr (6, [.int th, .int (nI M.1), .ref m1, .ref m2, .int (nI bt), .ref m3, .int (nI ln), .ref m4, .ref m5, .int (nI cl), .ref m6, .ref m7, .ref m8, .ref m9, .ref m10, .ref m11, .ref m12, .int (nI pn), .ref m13, .ref m14])), (m7, .inl (D.2 0, 4, .inl (fun i => nI (ly i)))), (m8, .inl (D.2 0, 48, .inl lp)), (m9, .inl (D.2 0, 48, .inl lq))] sz) (fun (u : Option Int32) => (u.elim [(m0, .inr (6, [.int 0, .int (nI M.1), .ref m1, .ref m2, .int (nI bt), .ref m3, .int (nI ln), .ref m4, .ref m5, .int (nI cl), .ref m6, .ref m7, .ref m8, .ref m9, .ref m10, .ref m11, .ref m12, .int (nI pn), .ref m13, .ref m14])), (m7, .inl (D.2 0, 4, .inl (fun x => nI (va_up ly j (zm_it (12 * j) (p2, 0, ly j, lp, lq) N).2.2.1 x)))), (m8, .inl (D.2 0, 48, .inl ((zm_it (12 * j) (p2, 0, ly j, lp, lq) N).2.2.2.1))), (m9, .inl (D.2 0, 48, .inl ((zm_it (12 * j) (p2, 0, ly j, lp, lq) N).2.2.2.2)))] (fun t => [(m0, .inr (6, [.int t, .int (nI M.1), .ref m1, .ref m2, .int (nI bt), .ref m3, .int (nI ln), .ref m4, .ref m5, .int (nI cl), .ref m6, .ref m7, .ref m8, .ref m9, .ref m10, .ref m11, .ref m12, .int (nI pn), .ref m13, .ref m14])), (m7, .inl (D.2 0, 4, .inl (fun i => nI (ly i)))), (m8, .inl (D.2 0, 48, .inl lp)), (m9, .inl (D.2 0, 48, .inl lq))]) : va_W))) (va_A [(m0, .inr (6, [.int th, .int (nI M.1), .ref m1, .ref m2, .int (nI bt), .ref m3, .int (nI ln), .ref m4, .ref m5, .int (nI cl), .ref m6, .ref m7, .ref m8, .ref m9, .ref m10, .ref m11, .ref m12, .int (nI pn), .ref m13, .ref m14])), (m7, .inl (D.2 0, 4, .inl (fun i => nI (ly i)))), (m8, .inl (D.2 0, 48, .inl lp)), (m9, .inl (D.2 0, 48, .inl lq))] sz)) 0 0 (va_A [(m0, .inr (6, [.int th, .int (nI M.1), .ref m1, .ref m2, .int (nI bt), .ref m3, .int (nI ln), .ref m4, .ref m5, .int (nI cl), .ref m6, .ref m7, .ref m8, .ref m9, .ref m10, .ref m11, .ref m12, .int (nI pn), .ref m13, .ref m14])), (m7, .inl (D.2 0, 4, .inl (fun i => nI (ly i)))), (m8, .inl (D.2 0, 48, .inl lp)), (m9, .inl (D.2 0, 48, .inl lq))] sz) := by
  refine Met.ofW (cc := cX6_take) (maxL := 10) (ret := (some .long)) (by decide) rfl ?_
  intro p e s m args below meth c s₁ B hml hv
  obtain ⟨rfl, hsz, hP, hK, hD0, hB⟩ := hv
  have hx := B.exec
  have hb := B.bytes
  have hr := B.returns
  have hts := atoms_spec (ws := wsX6_take) B.pre
  have hown : s.vm.findClass "ShopLedgerModel" = some m.cls := findClass_of_methodNamed B.named
  have hlocks := B.notSynchronized
  subst hsz
  have hD := hD0.self (sz := s.heap.size)
  generalize hAe : va_A [(m0, .inr (6, [.int th, .int (nI M.1), .ref m1, .ref m2, .int (nI bt), .ref m3, .int (nI ln), .ref m4, .ref m5, .int (nI cl), .ref m6, .ref m7, .ref m8, .ref m9, .ref m10, .ref m11, .ref m12, .int (nI pn), .ref m13, .ref m14])), (m7, .inl (D.2 0, 4, .inl (fun i => nI (ly i)))), (m8, .inl (D.2 0, 48, .inl lp)), (m9, .inl (D.2 0, 48, .inl lq))] s.heap.size = A at hD hB ⊢
  have hA : ∀ q : Nat, s.heap.size ≤ q → A q := fun q h => by rw [← hAe]; exact Or.inr h
  have hS : va_S A s.heap s.heap [] := va_S.rf
  have hZ : ∀ w ∈ zALL, w.before _ s = true := fun w h => hts w (List.mem_cons_of_mem _ h)
  have hF : CallFix p m c cX6_take 10 s _ zALL "ShopLedgerModel" := ⟨hx, hb, hml, hown, hZ⟩
  have hl := lv_entry ([.ref m0, .int (nI j), .int p2]) (n := 10) (Nat.le_of_ble_eq_true rfl)
  rw [lg_entry_eq]
  generalize (lg_sl ([.ref m0, .int (nI j), .int p2]) ++ List.replicate (10 - (lg_sl ([.ref m0, .int (nI j), .int p2])).length) Slot.unset).toArray = ls at hl ⊢
  have hl : lv_has ls 10 [(0, .ref m0), (1, .int (nI j)), (2, .int p2)] := hl
  refine lv_iload_n hx hb dX6_take_0 rfl (lv_at hl 1 rfl) ?_
  refine lv_i2l (v := (nI j).toInt64) hx hb dX6_take_1 rfl ?_
  refine lv_lconst (v := 0) hx hb dX6_take_2 (by decide) ?_
  refine lv_ldc2 (v := 3) hx hb hown (hZ _ t_314) dX6_take_3 ?_
  have J := zJ.mk (wc := []) (wr := [(m0, .inr (6, [.int th, .int (nI M.1), .ref m1, .ref m2, .int (nI bt), .ref m3, .int (nI ln), .ref m4, .ref m5, .int (nI cl), .ref m6, .ref m7, .ref m8, .ref m9, .ref m10, .ref m11, .ref m12, .int (nI pn), .ref m13, .ref m14])), (m7, .inl (D.2 0, 4, .inl (fun i => nI (ly i)))), (m8, .inl (D.2 0, 48, .inl lp)), (m9, .inl (D.2 0, 48, .inl lq))]) hA hB hK hP hD hS [] [0, 1, 2, 3] rfl rfl (by decide)
  refine z_goi (z_runS (As := [.long ((nI j).toInt64), .long 0, .long 3]) (rest := []) hF (d_lies D (nI j).toInt64 0 3 s.heap.size) (va_cwS 3 hZ (z_gS t_273 t_274 t_272 t_271) rfl rfl rfl (by decide +kernel) ⟨Nat.le_of_ble_eq_true rfl, Nat.le_of_ble_eq_true rfl⟩) J rfl hl.1 (Nat.le_of_ble_eq_true rfl) dX6_take_6 ⟨Nat.le_of_ble_eq_true rfl, Nat.le_of_ble_eq_true rfl⟩) J (fun r1 _ H locs w1 hP hD hS => ?_)
  have hP : va_P D.1 vwCl [(m0, .inr (6, [.int th, .int (nI M.1), .ref m1, .ref m2, .int (nI bt), .ref m3, .int (nI ln), .ref m4, .ref m5, .int (nI cl), .ref m6, .ref m7, .ref m8, .ref m9, .ref m10, .ref m11, .ref m12, .int (nI pn), .ref m13, .ref m14])), (m7, .inl (D.2 0, 4, .inl (fun i => nI (ly i)))), (m8, .inl (D.2 0, 48, .inl lp)), (m9, .inl (D.2 0, 48, .inl lq))] H := hP
  have hD : va_D A [(m0, .inr (6, [.int th, .int (nI M.1), .ref m1, .ref m2, .int (nI bt), .ref m3, .int (nI ln), .ref m4, .ref m5, .int (nI cl), .ref m6, .ref m7, .ref m8, .ref m9, .ref m10, .ref m11, .ref m12, .int (nI pn), .ref m13, .ref m14])), (m7, .inl (D.2 0, 4, .inl (fun i => nI (ly i)))), (m8, .inl (D.2 0, 48, .inl lp)), (m9, .inl (D.2 0, 48, .inl lq))] := hD
  have f1 : (r1 = 1 ∧ zin (nI j) 4) ∨ (r1 = 0 ∧ ¬ zin (nI j) 4) := z_lz 3 (by decide) (by decide) w1
  refine lv_if_ne (tgt := 16) hx hb dX6_take_9 (by decide) (fun c1 => ?_) (fun c1 => ?_)
  · skip
    refine lv_iconst (v := 0) hx hb dX6_take_16 (by decide) ?_
    refine lv_istore_n (lv' := [(3, .int 0), (0, .ref m0), (1, .int (nI j)), (2, .int p2)]) hx hb dX6_take_17 rfl hl (by decide) rfl (fun ls hl => ?_)
    refine lv_aload_n hx hb dX6_take_18 rfl (lv_at hl 1 rfl) ?_
    refine lv_iload_n hx hb dX6_take_19 rfl (lv_at hl 0 rfl) ?_
    refine lv_iload_n hx hb dX6_take_20 rfl (lv_at hl 3 rfl) ?_
    refine lv_i2l (v := p2.toInt64) hx hb dX6_take_21 rfl ?_
    refine lv_lconst (v := 1) hx hb dX6_take_22 (by decide) ?_
    refine lv_ldc2 (v := 1000000) hx hb hown (hZ _ t_296) dX6_take_23 ?_
    have J := zJ.mk (wc := []) (wr := [(m0, .inr (6, [.int th, .int (nI M.1), .ref m1, .ref m2, .int (nI bt), .ref m3, .int (nI ln), .ref m4, .ref m5, .int (nI cl), .ref m6, .ref m7, .ref m8, .ref m9, .ref m10, .ref m11, .ref m12, .int (nI pn), .ref m13, .ref m14])), (m7, .inl (D.2 0, 4, .inl (fun i => nI (ly i)))), (m8, .inl (D.2 0, 48, .inl lp)), (m9, .inl (D.2 0, 48, .inl lq))]) hA hB hK hP hD hS [] [0, 1, 2, 3] rfl rfl (by decide)
    refine z_goi (z_runS (As := [.long p2.toInt64, .long 1, .long 1000000]) (rest := [.int 0, .ref m0]) hF (d_lies D p2.toInt64 1 1000000 H.size) (va_cwS 3 hZ (z_gS t_273 t_274 t_272 t_271) rfl rfl rfl (by decide +kernel) ⟨Nat.le_of_ble_eq_true rfl, Nat.le_of_ble_eq_true rfl⟩) J rfl hl.1 (Nat.le_of_ble_eq_true rfl) dX6_take_26 ⟨Nat.le_of_ble_eq_true rfl, Nat.le_of_ble_eq_true rfl⟩) J (fun r2 _ H locs w2 hP hD hS => ?_)
    have hP : va_P D.1 vwCl [(m0, .inr (6, [.int th, .int (nI M.1), .ref m1, .ref m2, .int (nI bt), .ref m3, .int (nI ln), .ref m4, .ref m5, .int (nI cl), .ref m6, .ref m7, .ref m8, .ref m9, .ref m10, .ref m11, .ref m12, .int (nI pn), .ref m13, .ref m14])), (m7, .inl (D.2 0, 4, .inl (fun i => nI (ly i)))), (m8, .inl (D.2 0, 48, .inl lp)), (m9, .inl (D.2 0, 48, .inl lq))] H := hP
    have hD : va_D A [(m0, .inr (6, [.int th, .int (nI M.1), .ref m1, .ref m2, .int (nI bt), .ref m3, .int (nI ln), .ref m4, .ref m5, .int (nI cl), .ref m6, .ref m7, .ref m8, .ref m9, .ref m10, .ref m11, .ref m12, .int (nI pn), .ref m13, .ref m14])), (m7, .inl (D.2 0, 4, .inl (fun i => nI (ly i)))), (m8, .inl (D.2 0, 48, .inl lp)), (m9, .inl (D.2 0, 48, .inl lq))] := hD
    have f2 : (r2 = 1 ∧ ¬ p2 < 1 ∧ p2 ≤ 1000000) ∨ (r2 = 0 ∧ ¬ (¬ p2 < 1 ∧ p2 ≤ 1000000)) := z_li (a := 1) (b := 1000000) (by decide) (by decide) w2
    refine lv_if_ne (tgt := 36) hx hb dX6_take_29 (by decide) (fun c2 => ?_) (fun c2 => ?_)
    · skip
      have rg := z_b1 f2 c2
      refine lv_iconst (v := 0) hx hb dX6_take_36 (by decide) ?_
      refine lv_iload_n hx hb dX6_take_37 rfl (lv_at hl 0 rfl) ?_
      refine lv_if_ne (tgt := 64) hx hb dX6_take_38 (by decide) (fun c3 => ?_) (fun c3 => ?_)
      · skip
        exfalso; exact absurd c3 (by decide)
      refine lv_aload_n hx hb dX6_take_41 rfl (lv_at hl 1 rfl) ?_
      refine lv_iload_n hx hb dX6_take_42 rfl (lv_at hl 0 rfl) ?_
      refine lv_if_eq (tgt := 50) hx hb dX6_take_43 (by decide) (fun c4 => ?_) (fun c4 => ?_)
      · skip
        refine lv_iload_n hx hb dX6_take_50 rfl (lv_at hl 2 rfl) ?_
        have J := zJ.mk (wc := [(m0, .inr (6, [.int th, .int (nI M.1), .ref m1, .ref m2, .int (nI bt), .ref m3, .int (nI ln), .ref m4, .ref m5, .int (nI cl), .ref m6, .ref m7, .ref m8, .ref m9, .ref m10, .ref m11, .ref m12, .int (nI pn), .ref m13, .ref m14])), (m7, .inl (D.2 0, 4, .inl (fun i => nI (ly i)))), (m8, .inl (D.2 0, 48, .inl lp))]) (wr := [(m9, .inl (D.2 0, 48, .inl lq))]) hA hB hK hP hD hS [0, 1, 2] [3] rfl rfl (by decide)
        refine z_gol (z_runV (As := [.int (nI j)]) (rest := [.int 0, .int 0, .ref m0]) (b := m0) hF (d_stocked D m0 m1 m2 m3 m4 m5 m6 m7 m8 m9 m10 m11 m12 m13 m14 M bt ln cl pn th ly lp lq j H.size hj hy) (cwV 1 hZ (z_gV t_318 t_319 t_320 t_272 t_317) rfl rfl rfl (by decide +kernel) ⟨Nat.le_of_ble_eq_true rfl, Nat.le_of_ble_eq_true rfl⟩) J 0 6 rfl rfl rfl rfl hl.1 (Nat.le_of_ble_eq_true rfl) dX6_take_51 ⟨Nat.le_of_ble_eq_true rfl, Nat.le_of_ble_eq_true rfl⟩) J (fun r3 _ H locs w3 hP hD hS => ?_)
        have hP : va_P D.1 vwCl [(m9, .inl (D.2 0, 48, .inl lq)), (m0, .inr (6, [.int th, .int (nI M.1), .ref m1, .ref m2, .int (nI bt), .ref m3, .int (nI ln), .ref m4, .ref m5, .int (nI cl), .ref m6, .ref m7, .ref m8, .ref m9, .ref m10, .ref m11, .ref m12, .int (nI pn), .ref m13, .ref m14])), (m7, .inl (D.2 0, 4, .inl (fun i => nI (ly i)))), (m8, .inl (D.2 0, 48, .inl lp))] H := hP
        have hD : va_D A [(m9, .inl (D.2 0, 48, .inl lq)), (m0, .inr (6, [.int th, .int (nI M.1), .ref m1, .ref m2, .int (nI bt), .ref m3, .int (nI ln), .ref m4, .ref m5, .int (nI cl), .ref m6, .ref m7, .ref m8, .ref m9, .ref m10, .ref m11, .ref m12, .int (nI pn), .ref m13, .ref m14])), (m7, .inl (D.2 0, 4, .inl (fun i => nI (ly i)))), (m8, .inl (D.2 0, 48, .inl lp))] := hD
        subst w3
        refine lv_iload_n hx hb dX6_take_54 rfl (lv_at hl 3 rfl) ?_
        refine lv_i2l (v := p2.toInt64) hx hb dX6_take_55 rfl ?_
        refine W.lcmp hx hb dX6_take_56 ?_
        refine lv_if_ge (tgt := 64) hx hb dX6_take_57 (by decide) (fun c5 => ?_) (fun c5 => ?_)
        · skip
          have me : ¬ zm_lsum lp (12 * j) (ly j) < p2.toInt64 := fun h => Int64.not_lt.mpr ((lg_cmp_ge _ _).mp c5) h
          refine lv_iconst (v := 0) hx hb dX6_take_64 (by decide) ?_
          refine lv_iconst (v := 0) hx hb dX6_take_65 (by decide) ?_
          have J := zJ.mk (wc := [(m0, .inr (6, [.int th, .int (nI M.1), .ref m1, .ref m2, .int (nI bt), .ref m3, .int (nI ln), .ref m4, .ref m5, .int (nI cl), .ref m6, .ref m7, .ref m8, .ref m9, .ref m10, .ref m11, .ref m12, .int (nI pn), .ref m13, .ref m14]))]) (wr := [(m9, .inl (D.2 0, 48, .inl lq)), (m7, .inl (D.2 0, 4, .inl (fun i => nI (ly i)))), (m8, .inl (D.2 0, 48, .inl lp))]) hA hB hK hP hD hS [1] [0, 2, 3] rfl rfl (by decide)
          refine z_goi (z_runV (As := [.int 0, .int 0, .int 0, .int 0]) (rest := []) (b := m0) hF (d_throwing D m0 m1 m2 m3 m4 m5 m6 m7 m8 m9 m10 m11 m12 m13 m14 (M.1, fun _ => 0, fun _ => 0) bt ln cl pn th 0 0 0 0 H.size) (cwV 4 hZ (z_gV t_286 t_287 t_288 t_272 t_285) rfl rfl rfl (by decide +kernel) ⟨Nat.le_of_ble_eq_true rfl, Nat.le_of_ble_eq_true rfl⟩) J 0 6 rfl rfl rfl rfl hl.1 (Nat.le_of_ble_eq_true rfl) dX6_take_66 ⟨Nat.le_of_ble_eq_true rfl, Nat.le_of_ble_eq_true rfl⟩) J (fun r4 _ H locs w4 hP hD hS => ?_)
          have hP : va_P D.1 vwCl [(m9, .inl (D.2 0, 48, .inl lq)), (m7, .inl (D.2 0, 4, .inl (fun i => nI (ly i)))), (m8, .inl (D.2 0, 48, .inl lp)), (m0, .inr (6, [.int 0, .int (nI M.1), .ref m1, .ref m2, .int (nI bt), .ref m3, .int (nI ln), .ref m4, .ref m5, .int (nI cl), .ref m6, .ref m7, .ref m8, .ref m9, .ref m10, .ref m11, .ref m12, .int (nI pn), .ref m13, .ref m14]))] H := hP
          have hD : va_D A [(m9, .inl (D.2 0, 48, .inl lq)), (m7, .inl (D.2 0, 4, .inl (fun i => nI (ly i)))), (m8, .inl (D.2 0, 48, .inl lp)), (m0, .inr (6, [.int 0, .int (nI M.1), .ref m1, .ref m2, .int (nI bt), .ref m3, .int (nI ln), .ref m4, .ref m5, .int (nI cl), .ref m6, .ref m7, .ref m8, .ref m9, .ref m10, .ref m11, .ref m12, .int (nI pn), .ref m13, .ref m14]))] := hD
          have w4 : r4 = 0 := w4
          subst w4
          refine lv_if_eq (tgt := 74) hx hb dX6_take_69 (by decide) (fun c6 => ?_) (fun c6 => ?_)
          · skip
            obtain ⟨hN0, hi⟩ := hN rg me
            have hP : va_P D.1 vwCl [(m9, .inl (D.2 0, 48, .inl ((zm_it (12 * j) (p2, 0, ly j, lp, lq) 0).2.2.2.2))), (m7, .inl (D.2 0, 4, .inl (fun x => nI (va_up ly j (zm_it (12 * j) (p2, 0, ly j, lp, lq) 0).2.2.1 x)))), (m8, .inl (D.2 0, 48, .inl ((zm_it (12 * j) (p2, 0, ly j, lp, lq) 0).2.2.2.1))), (m0, .inr (6, [.int 0, .int (nI M.1), .ref m1, .ref m2, .int (nI bt), .ref m3, .int (nI ln), .ref m4, .ref m5, .int (nI cl), .ref m6, .ref m7, .ref m8, .ref m9, .ref m10, .ref m11, .ref m12, .int (nI pn), .ref m13, .ref m14]))] H := by rw [show (fun x => nI (va_up ly j (zm_it (12 * j) (p2, 0, ly j, lp, lq) 0).2.2.1 x)) = fun x => nI (ly x) from funext (fun x => congrArg nI (z_upme ly j x))]; exact hP
            have hD : va_D A [(m9, .inl (D.2 0, 48, .inl ((zm_it (12 * j) (p2, 0, ly j, lp, lq) 0).2.2.2.2))), (m7, .inl (D.2 0, 4, .inl (fun x => nI (va_up ly j (zm_it (12 * j) (p2, 0, ly j, lp, lq) 0).2.2.1 x)))), (m8, .inl (D.2 0, 48, .inl ((zm_it (12 * j) (p2, 0, ly j, lp, lq) 0).2.2.2.1))), (m0, .inr (6, [.int 0, .int (nI M.1), .ref m1, .ref m2, .int (nI bt), .ref m3, .int (nI ln), .ref m4, .ref m5, .int (nI cl), .ref m6, .ref m7, .ref m8, .ref m9, .ref m10, .ref m11, .ref m12, .int (nI pn), .ref m13, .ref m14]))] := by rw [show (fun x => nI (va_up ly j (zm_it (12 * j) (p2, 0, ly j, lp, lq) 0).2.2.1 x)) = fun x => nI (ly x) from funext (fun x => congrArg nI (z_upme ly j x))]; exact hD
            refine lv_lconst (v := 0) hx hb dX6_take_74 (by decide) ?_
            refine lv_lstore (lv' := [(4, .long 0), (3, .int 0), (0, .ref m0), (1, .int (nI j)), (2, .int p2)]) hx hb dX6_take_75 hl (by decide) rfl (fun ls hl => ?_)
            refine lv_iload_n hx hb dX6_take_77 rfl (lv_at hl 4 rfl) ?_
            refine lv_istore (lv' := [(6, .int p2), (4, .long 0), (3, .int 0), (0, .ref m0), (1, .int (nI j)), (2, .int p2)]) hx hb dX6_take_78 hl (by decide) rfl (fun ls hl => ?_)
            refine lv_bipush (v := 12) hx hb dX6_take_80 (by decide) ?_
            refine lv_iload_n hx hb dX6_take_82 rfl (lv_at hl 4 rfl) ?_
            refine lv_imul hx hb dX6_take_83 ?_
            rw [show (12 * (nI j)) = nI (12 * j) from pk_mul 12 j]
            refine lv_istore (lv' := [(7, .int (nI (12 * j))), (6, .int p2), (4, .long 0), (3, .int 0), (0, .ref m0), (1, .int (nI j)), (2, .int p2)]) hx hb dX6_take_84 hl (by decide) rfl (fun ls hl => ?_)
            have lo1 : ∀ (nn : Nat) (i : Nat), i ≤ N → N + 1 ≤ i + nn → ∀ (H : Heap) (locs : List Loc), va_P D.1 vwCl [(m9, .inl (D.2 0, 48, .inl ((zm_it (12 * j) (p2, 0, ly j, lp, lq) i).2.2.2.2))), (m7, .inl (D.2 0, 4, .inl (fun x => nI (va_up ly j (zm_it (12 * j) (p2, 0, ly j, lp, lq) i).2.2.1 x)))), (m8, .inl (D.2 0, 48, .inl ((zm_it (12 * j) (p2, 0, ly j, lp, lq) i).2.2.2.1))), (m0, .inr (6, [.int 0, .int (nI M.1), .ref m1, .ref m2, .int (nI bt), .ref m3, .int (nI ln), .ref m4, .ref m5, .int (nI cl), .ref m6, .ref m7, .ref m8, .ref m9, .ref m10, .ref m11, .ref m12, .int (nI pn), .ref m13, .ref m14]))] H → va_D A [(m9, .inl (D.2 0, 48, .inl ((zm_it (12 * j) (p2, 0, ly j, lp, lq) i).2.2.2.2))), (m7, .inl (D.2 0, 4, .inl (fun x => nI (va_up ly j (zm_it (12 * j) (p2, 0, ly j, lp, lq) i).2.2.1 x)))), (m8, .inl (D.2 0, 48, .inl ((zm_it (12 * j) (p2, 0, ly j, lp, lq) i).2.2.2.1))), (m0, .inr (6, [.int 0, .int (nI M.1), .ref m1, .ref m2, .int (nI bt), .ref m3, .int (nI ln), .ref m4, .ref m5, .int (nI cl), .ref m6, .ref m7, .ref m8, .ref m9, .ref m10, .ref m11, .ref m12, .int (nI pn), .ref m13, .ref m14]))] → va_S A s.heap H locs → ∀ (ls : Array Slot), lv_has ls 10 [(0, .ref m0), (1, .int (nI j)), (4, .long ((zm_it (12 * j) (p2, 0, ly j, lp, lq) i).2.1)), (6, .int ((zm_it (12 * j) (p2, 0, ly j, lp, lq) i).1)), (7, .int (nI (12 * j)))] → W p l e (headSpec wsX6_take ({ frames := 1, cells := 0, slots := 0, locals := 25 })).room s m [.ref m0, .int (nI j), .int p2].toArray below meth c H locs 0 0 (MQ below (va_Ql (fun r (u : Option Int32) => (u = none ∧ (True) ∧ (¬ p2 < 1 ∧ p2 ≤ 1000000) ∧ (¬ zm_lsum lp (12 * j) (ly j) < p2.toInt64) ∧ r = (zm_it (12 * j) (p2, 0, ly j, lp, lq) N).2.1) ∨ (u = some 1 ∧ ¬ (True)) ∨ (u = some 2 ∧ (True) ∧ ¬ (¬ p2 < 1 ∧ p2 ≤ 1000000)) ∨ (u = some 3 ∧ (True) ∧ (¬ p2 < 1 ∧ p2 ≤ 1000000) ∧ ¬ (¬ zm_lsum lp (12 * j) (ly j) < p2.toInt64))) (zq D A (fun (u : Option Int32) => (u.elim [(m0, .inr (6, [.int 0, .int (nI M.1), .ref m1, .ref m2, .int (nI bt), .ref m3, .int (nI ln), .ref m4, .ref m5, .int (nI cl), .ref m6, .ref m7, .ref m8, .ref m9, .ref m10, .ref m11, .ref m12, .int (nI pn), .ref m13, .ref m14])), (m7, .inl (D.2 0, 4, .inl (fun x => nI (va_up ly j (zm_it (12 * j) (p2, 0, ly j, lp, lq) N).2.2.1 x)))), (m8, .inl (D.2 0, 48, .inl ((zm_it (12 * j) (p2, 0, ly j, lp, lq) N).2.2.2.1))), (m9, .inl (D.2 0, 48, .inl ((zm_it (12 * j) (p2, 0, ly j, lp, lq) N).2.2.2.2)))] (fun t => [(m0, .inr (6, [.int t, .int (nI M.1), .ref m1, .ref m2, .int (nI bt), .ref m3, .int (nI ln), .ref m4, .ref m5, .int (nI cl), .ref m6, .ref m7, .ref m8, .ref m9, .ref m10, .ref m11, .ref m12, .int (nI pn), .ref m13, .ref m14])), (m7, .inl (D.2 0, 4, .inl (fun i => nI (ly i)))), (m8, .inl (D.2 0, 48, .inl lp)), (m9, .inl (D.2 0, 48, .inl lq))]) : va_W))) A) [.ref m0, .int (nI j), .int p2].toArray s 0 0 A) (F0 m 86 ls []) := by
              intro nn
              induction nn with
              | zero =>
                intro i q1 q2
                exfalso
                omega
              | succ nn ih_lo1 =>
                intro i q1 q2 H locs hP hD hS ls hl
                refine lv_iload hx hb dX6_take_86 (lv_at hl 3 rfl) ?_
                refine lv_if_le (tgt := 240) hx hb dX6_take_88 (by decide) (fun c7 => ?_) (fun c7 => ?_)
                · skip
                  have e9 : N = i := (Nat.lt_or_ge i N).elim (fun h => absurd c7 (hi i h).1) (fun h => by omega)
                  subst e9
                  refine lv_lload hx hb dX6_take_240 (lv_at hl 2 rfl) ?_
                  exact z_lret (v := (zm_it (12 * j) (p2, 0, ly j, lp, lq) N).2.1) hx hb hr hlocks hP hD hS none (Or.inl ⟨rfl, trivial, rg, me, rfl⟩) [3, 1, 2, 0] rfl (by decide) (Nat.le_of_ble_eq_true rfl) (Nat.le_of_ble_eq_true rfl) dX6_take_242
                have hiN : i < N := (Nat.lt_or_ge i N).elim id (fun h => absurd (by rw [show i = N by omega]; exact hN0) c7)
                obtain ⟨-, hn1, hn2⟩ := hi i hiN
                refine lv_aload_n hx hb dX6_take_91 rfl (lv_at hl 0 rfl) ?_
                refine va_get (D := D.1) (ci := 6) (v := .ref m8) (C := "ShopLedgerModel") (T := TX6) (N := 20) hx hb hZ inX6 hown hK hP 3 rfl rfl 12 (by decide) (hZ _ t_313) (fun _ h9 => h9) rfl dX6_take_92 ?_
                refine lv_iload hx hb dX6_take_95 (lv_at hl 4 rfl) ?_
                refine z_iald (k := 12 * j) hx hb hK hP 2 rfl (by omega) (by decide) dX6_take_97 ?_
                refine lv_iload hx hb dX6_take_98 (lv_at hl 3 rfl) ?_
                refine lv_icmp_ge (tgt := 113) hx hb dX6_take_100 (by decide) (fun c8 => ?_) (fun c8 => ?_)
                · skip
                  have eso : zm_so (12 * j) (zm_it (12 * j) (p2, 0, ly j, lp, lq) i) = (zm_it (12 * j) (p2, 0, ly j, lp, lq) i).1 := if_neg (Int32.not_lt.mpr c8)
                  refine lv_iload hx hb dX6_take_113 (lv_at hl 3 rfl) ?_
                  refine lv_istore (lv' := [(8, .int ((zm_it (12 * j) (p2, 0, ly j, lp, lq) i).1)), (0, .ref m0), (1, .int (nI j)), (4, .long ((zm_it (12 * j) (p2, 0, ly j, lp, lq) i).2.1)), (6, .int ((zm_it (12 * j) (p2, 0, ly j, lp, lq) i).1)), (7, .int (nI (12 * j)))]) hx hb dX6_take_115 hl (by decide) rfl (fun ls hl => ?_)
                  have hl : lv_has ls 10 [(8, .int (zm_so (12 * j) (zm_it (12 * j) (p2, 0, ly j, lp, lq) i))), (0, .ref m0), (1, .int (nI j)), (4, .long ((zm_it (12 * j) (p2, 0, ly j, lp, lq) i).2.1)), (6, .int ((zm_it (12 * j) (p2, 0, ly j, lp, lq) i).1)), (7, .int (nI (12 * j)))] := by rw [eso]; exact hl
                  refine lv_lload hx hb dX6_take_117 (lv_at hl 3 rfl) ?_
                  refine lv_iload hx hb dX6_take_119 (lv_at hl 0 rfl) ?_
                  refine lv_i2l (v := (zm_so (12 * j) (zm_it (12 * j) (p2, 0, ly j, lp, lq) i)).toInt64) hx hb dX6_take_121 rfl ?_
                  refine lv_aload_n hx hb dX6_take_122 rfl (lv_at hl 1 rfl) ?_
                  refine va_get (D := D.1) (ci := 6) (v := .ref m9) (C := "ShopLedgerModel") (T := TX6) (N := 20) hx hb hZ inX6 hown hK hP 3 rfl rfl 13 (by decide) (hZ _ t_315) (fun _ h9 => h9) rfl dX6_take_123 ?_
                  refine lv_iload hx hb dX6_take_126 (lv_at hl 5 rfl) ?_
                  refine z_iald (k := 12 * j) hx hb hK hP 0 rfl (by omega) (by decide) dX6_take_128 ?_
                  refine lv_i2l (v := (((zm_it (12 * j) (p2, 0, ly j, lp, lq) i).2.2.2.2) (12 * j)).toInt64) hx hb dX6_take_129 rfl ?_
                  refine lv_lmul hx hb dX6_take_130 ?_
                  refine lv_ladd hx hb dX6_take_131 ?_
                  refine lv_lstore (lv' := [(4, .long (((zm_it (12 * j) (p2, 0, ly j, lp, lq) i).2.1) + (((zm_so (12 * j) (zm_it (12 * j) (p2, 0, ly j, lp, lq) i)).toInt64) * ((((zm_it (12 * j) (p2, 0, ly j, lp, lq) i).2.2.2.2) (12 * j)).toInt64)))), (8, .int (zm_so (12 * j) (zm_it (12 * j) (p2, 0, ly j, lp, lq) i))), (0, .ref m0), (1, .int (nI j)), (6, .int ((zm_it (12 * j) (p2, 0, ly j, lp, lq) i).1)), (7, .int (nI (12 * j)))]) hx hb dX6_take_132 hl (by decide) rfl (fun ls hl => ?_)
                  refine lv_iload hx hb dX6_take_134 (lv_at hl 4 rfl) ?_
                  refine lv_iload hx hb dX6_take_136 (lv_at hl 1 rfl) ?_
                  refine lv_isub hx hb dX6_take_138 ?_
                  refine lv_istore (lv' := [(6, .int (((zm_it (12 * j) (p2, 0, ly j, lp, lq) i).1) - (zm_so (12 * j) (zm_it (12 * j) (p2, 0, ly j, lp, lq) i)))), (4, .long (((zm_it (12 * j) (p2, 0, ly j, lp, lq) i).2.1) + (((zm_so (12 * j) (zm_it (12 * j) (p2, 0, ly j, lp, lq) i)).toInt64) * ((((zm_it (12 * j) (p2, 0, ly j, lp, lq) i).2.2.2.2) (12 * j)).toInt64)))), (8, .int (zm_so (12 * j) (zm_it (12 * j) (p2, 0, ly j, lp, lq) i))), (0, .ref m0), (1, .int (nI j)), (7, .int (nI (12 * j)))]) hx hb dX6_take_139 hl (by decide) rfl (fun ls hl => ?_)
                  refine lv_aload_n hx hb dX6_take_141 rfl (lv_at hl 3 rfl) ?_
                  refine va_get (D := D.1) (ci := 6) (v := .ref m8) (C := "ShopLedgerModel") (T := TX6) (N := 20) hx hb hZ inX6 hown hK hP 3 rfl rfl 12 (by decide) (hZ _ t_313) (fun _ h9 => h9) rfl dX6_take_142 ?_
                  refine lv_iload hx hb dX6_take_145 (lv_at hl 5 rfl) ?_
                  refine lv_dup2_11 hx hb dX6_take_147 rfl rfl ?_
                  refine z_iald (k := 12 * j) hx hb hK hP 2 rfl (by omega) (by decide) dX6_take_148 ?_
                  refine lv_iload hx hb dX6_take_149 (lv_at hl 2 rfl) ?_
                  refine lv_isub hx hb dX6_take_151 ?_
                  refine z_iast (k := 12 * j) hx hb hK hP hD hS 2 rfl (by omega) (by decide) dX6_take_152 (fun H locs hP hD hS => ?_)
                  have hP : va_P D.1 vwCl [(m9, .inl (D.2 0, 48, .inl ((zm_it (12 * j) (p2, 0, ly j, lp, lq) i).2.2.2.2))), (m7, .inl (D.2 0, 4, .inl (fun x => nI (va_up ly j (zm_it (12 * j) (p2, 0, ly j, lp, lq) i).2.2.1 x)))), (m8, .inl (D.2 0, 48, .inl (upd ((zm_it (12 * j) (p2, 0, ly j, lp, lq) i).2.2.2.1) (12 * j) ((((zm_it (12 * j) (p2, 0, ly j, lp, lq) i).2.2.2.1) (12 * j)) - (zm_so (12 * j) (zm_it (12 * j) (p2, 0, ly j, lp, lq) i)))))), (m0, .inr (6, [.int 0, .int (nI M.1), .ref m1, .ref m2, .int (nI bt), .ref m3, .int (nI ln), .ref m4, .ref m5, .int (nI cl), .ref m6, .ref m7, .ref m8, .ref m9, .ref m10, .ref m11, .ref m12, .int (nI pn), .ref m13, .ref m14]))] H := hP
                  have hD : va_D A [(m9, .inl (D.2 0, 48, .inl ((zm_it (12 * j) (p2, 0, ly j, lp, lq) i).2.2.2.2))), (m7, .inl (D.2 0, 4, .inl (fun x => nI (va_up ly j (zm_it (12 * j) (p2, 0, ly j, lp, lq) i).2.2.1 x)))), (m8, .inl (D.2 0, 48, .inl (upd ((zm_it (12 * j) (p2, 0, ly j, lp, lq) i).2.2.2.1) (12 * j) ((((zm_it (12 * j) (p2, 0, ly j, lp, lq) i).2.2.2.1) (12 * j)) - (zm_so (12 * j) (zm_it (12 * j) (p2, 0, ly j, lp, lq) i)))))), (m0, .inr (6, [.int 0, .int (nI M.1), .ref m1, .ref m2, .int (nI bt), .ref m3, .int (nI ln), .ref m4, .ref m5, .int (nI cl), .ref m6, .ref m7, .ref m8, .ref m9, .ref m10, .ref m11, .ref m12, .int (nI pn), .ref m13, .ref m14]))] := hD
                  refine lv_aload_n hx hb dX6_take_153 rfl (lv_at hl 3 rfl) ?_
                  refine va_get (D := D.1) (ci := 6) (v := .ref m8) (C := "ShopLedgerModel") (T := TX6) (N := 20) hx hb hZ inX6 hown hK hP 3 rfl rfl 12 (by decide) (hZ _ t_313) (fun _ h9 => h9) rfl dX6_take_154 ?_
                  refine lv_iload hx hb dX6_take_157 (lv_at hl 5 rfl) ?_
                  refine z_iald (k := 12 * j) hx hb hK hP 2 rfl (by omega) (by decide) dX6_take_159 ?_
                  rw [show ((upd ((zm_it (12 * j) (p2, 0, ly j, lp, lq) i).2.2.2.1) (12 * j) ((((zm_it (12 * j) (p2, 0, ly j, lp, lq) i).2.2.2.1) (12 * j)) - (zm_so (12 * j) (zm_it (12 * j) (p2, 0, ly j, lp, lq) i)))) (12 * j)) = (zm_it (12 * j) (p2, 0, ly j, lp, lq) i).2.2.2.1 (12 * j) - zm_so (12 * j) (zm_it (12 * j) (p2, 0, ly j, lp, lq) i) from pk_us]
                  refine lv_if_ne (tgt := 237) hx hb dX6_take_160 (by decide) (fun c9 => ?_) (fun c9 => ?_)
                  · skip
                    have e8 : (zm_it (12 * j) (p2, 0, ly j, lp, lq) (i + 1)) = ((zm_it (12 * j) (p2, 0, ly j, lp, lq) i).1 - zm_so (12 * j) (zm_it (12 * j) (p2, 0, ly j, lp, lq) i), (zm_it (12 * j) (p2, 0, ly j, lp, lq) i).2.1 + (zm_so (12 * j) (zm_it (12 * j) (p2, 0, ly j, lp, lq) i)).toInt64 * ((zm_it (12 * j) (p2, 0, ly j, lp, lq) i).2.2.2.2 (12 * j)).toInt64, (zm_it (12 * j) (p2, 0, ly j, lp, lq) i).2.2.1, upd (zm_it (12 * j) (p2, 0, ly j, lp, lq) i).2.2.2.1 (12 * j) ((zm_it (12 * j) (p2, 0, ly j, lp, lq) i).2.2.2.1 (12 * j) - zm_so (12 * j) (zm_it (12 * j) (p2, 0, ly j, lp, lq) i)), (zm_it (12 * j) (p2, 0, ly j, lp, lq) i).2.2.2.2) := if_neg c9
                    refine lv_goto (tgt := 86) hx hb dX6_take_237 (by decide) ?_
                    have hP : va_P D.1 vwCl [(m9, .inl (D.2 0, 48, .inl ((zm_it (12 * j) (p2, 0, ly j, lp, lq) (i + 1)).2.2.2.2))), (m7, .inl (D.2 0, 4, .inl (fun x => nI (va_up ly j (zm_it (12 * j) (p2, 0, ly j, lp, lq) (i + 1)).2.2.1 x)))), (m8, .inl (D.2 0, 48, .inl ((zm_it (12 * j) (p2, 0, ly j, lp, lq) (i + 1)).2.2.2.1))), (m0, .inr (6, [.int 0, .int (nI M.1), .ref m1, .ref m2, .int (nI bt), .ref m3, .int (nI ln), .ref m4, .ref m5, .int (nI cl), .ref m6, .ref m7, .ref m8, .ref m9, .ref m10, .ref m11, .ref m12, .int (nI pn), .ref m13, .ref m14]))] H := by rw [e8]; exact hP
                    have hD : va_D A [(m9, .inl (D.2 0, 48, .inl ((zm_it (12 * j) (p2, 0, ly j, lp, lq) (i + 1)).2.2.2.2))), (m7, .inl (D.2 0, 4, .inl (fun x => nI (va_up ly j (zm_it (12 * j) (p2, 0, ly j, lp, lq) (i + 1)).2.2.1 x)))), (m8, .inl (D.2 0, 48, .inl ((zm_it (12 * j) (p2, 0, ly j, lp, lq) (i + 1)).2.2.2.1))), (m0, .inr (6, [.int 0, .int (nI M.1), .ref m1, .ref m2, .int (nI bt), .ref m3, .int (nI ln), .ref m4, .ref m5, .int (nI cl), .ref m6, .ref m7, .ref m8, .ref m9, .ref m10, .ref m11, .ref m12, .int (nI pn), .ref m13, .ref m14]))] := by rw [e8]; exact hD
                    have hl : lv_has ls 10 [(6, .int ((zm_it (12 * j) (p2, 0, ly j, lp, lq) (i + 1)).1)), (4, .long ((zm_it (12 * j) (p2, 0, ly j, lp, lq) (i + 1)).2.1)), (8, .int (zm_so (12 * j) (zm_it (12 * j) (p2, 0, ly j, lp, lq) i))), (0, .ref m0), (1, .int (nI j)), (7, .int (nI (12 * j)))] := by rw [e8]; exact hl
                    exact ih_lo1 (i + 1) (by omega) (by omega) _ _ (hP.sub [0, 1, 2, 3] rfl) (hD.sub [0, 1, 2, 3] (by decide) rfl) hS ls (lv_sub hl [3, 4, 1, 0, 5] rfl)
                  have e8 : (zm_it (12 * j) (p2, 0, ly j, lp, lq) (i + 1)) = ((zm_it (12 * j) (p2, 0, ly j, lp, lq) i).1 - zm_so (12 * j) (zm_it (12 * j) (p2, 0, ly j, lp, lq) i), (zm_it (12 * j) (p2, 0, ly j, lp, lq) i).2.1 + (zm_so (12 * j) (zm_it (12 * j) (p2, 0, ly j, lp, lq) i)).toInt64 * ((zm_it (12 * j) (p2, 0, ly j, lp, lq) i).2.2.2.2 (12 * j)).toInt64, (zm_it (12 * j) (p2, 0, ly j, lp, lq) i).2.2.1 - 1, zm_sh (upd (zm_it (12 * j) (p2, 0, ly j, lp, lq) i).2.2.2.1 (12 * j) ((zm_it (12 * j) (p2, 0, ly j, lp, lq) i).2.2.2.1 (12 * j) - zm_so (12 * j) (zm_it (12 * j) (p2, 0, ly j, lp, lq) i))) (12 * j) ((zm_it (12 * j) (p2, 0, ly j, lp, lq) i).2.2.1 - 1), zm_sh (zm_it (12 * j) (p2, 0, ly j, lp, lq) i).2.2.2.2 (12 * j) ((zm_it (12 * j) (p2, 0, ly j, lp, lq) i).2.2.1 - 1)) := if_pos c9
                  refine lv_aload_n hx hb dX6_take_163 rfl (lv_at hl 3 rfl) ?_
                  refine va_get (D := D.1) (ci := 6) (v := .ref m7) (C := "ShopLedgerModel") (T := TX6) (N := 20) hx hb hZ inX6 hown hK hP 3 rfl rfl 11 (by decide) (hZ _ t_312) (fun _ h9 => h9) rfl dX6_take_164 ?_
                  refine lv_iload_n hx hb dX6_take_167 rfl (lv_at hl 4 rfl) ?_
                  refine lv_dup2_11 hx hb dX6_take_168 rfl rfl ?_
                  refine z_iald (k := j) hx hb hK hP 1 rfl (hj) (by decide) dX6_take_169 ?_
                  rw [show (nI (va_up ly j (zm_it (12 * j) (p2, 0, ly j, lp, lq) i).2.2.1 j)) = nI (zm_it (12 * j) (p2, 0, ly j, lp, lq) i).2.2.1 from congrArg nI (va_up_self _ _ _)]
                  refine lv_iconst (v := 1) hx hb dX6_take_170 (by decide) ?_
                  refine lv_isub hx hb dX6_take_171 ?_
                  rw [show ((nI (zm_it (12 * j) (p2, 0, ly j, lp, lq) i).2.2.1) - 1) = nI ((zm_it (12 * j) (p2, 0, ly j, lp, lq) i).2.2.1 - 1) from pk_sub (b := 1) hn1]
                  refine z_iast (k := j) hx hb hK hP hD hS 1 rfl (hj) (by decide) dX6_take_172 (fun H locs hP hD hS => ?_)
                  have hP : va_P D.1 vwCl [(m9, .inl (D.2 0, 48, .inl ((zm_it (12 * j) (p2, 0, ly j, lp, lq) i).2.2.2.2))), (m7, .inl (D.2 0, 4, .inl (upd (fun x => nI (va_up ly j (zm_it (12 * j) (p2, 0, ly j, lp, lq) i).2.2.1 x)) j (nI ((zm_it (12 * j) (p2, 0, ly j, lp, lq) i).2.2.1 - 1))))), (m8, .inl (D.2 0, 48, .inl (upd ((zm_it (12 * j) (p2, 0, ly j, lp, lq) i).2.2.2.1) (12 * j) ((((zm_it (12 * j) (p2, 0, ly j, lp, lq) i).2.2.2.1) (12 * j)) - (zm_so (12 * j) (zm_it (12 * j) (p2, 0, ly j, lp, lq) i)))))), (m0, .inr (6, [.int 0, .int (nI M.1), .ref m1, .ref m2, .int (nI bt), .ref m3, .int (nI ln), .ref m4, .ref m5, .int (nI cl), .ref m6, .ref m7, .ref m8, .ref m9, .ref m10, .ref m11, .ref m12, .int (nI pn), .ref m13, .ref m14]))] H := hP
                  have hD : va_D A [(m9, .inl (D.2 0, 48, .inl ((zm_it (12 * j) (p2, 0, ly j, lp, lq) i).2.2.2.2))), (m7, .inl (D.2 0, 4, .inl (upd (fun x => nI (va_up ly j (zm_it (12 * j) (p2, 0, ly j, lp, lq) i).2.2.1 x)) j (nI ((zm_it (12 * j) (p2, 0, ly j, lp, lq) i).2.2.1 - 1))))), (m8, .inl (D.2 0, 48, .inl (upd ((zm_it (12 * j) (p2, 0, ly j, lp, lq) i).2.2.2.1) (12 * j) ((((zm_it (12 * j) (p2, 0, ly j, lp, lq) i).2.2.2.1) (12 * j)) - (zm_so (12 * j) (zm_it (12 * j) (p2, 0, ly j, lp, lq) i)))))), (m0, .inr (6, [.int 0, .int (nI M.1), .ref m1, .ref m2, .int (nI bt), .ref m3, .int (nI ln), .ref m4, .ref m5, .int (nI cl), .ref m6, .ref m7, .ref m8, .ref m9, .ref m10, .ref m11, .ref m12, .int (nI pn), .ref m13, .ref m14]))] := hD
                  rw [z_updN, bx_uu] at hP hD
                  have hP : va_P D.1 vwCl [(m9, .inl (D.2 0, 48, .inl ((zm_it (12 * j) (p2, 0, ly j, lp, lq) i).2.2.2.2))), (m7, .inl (D.2 0, 4, .inl (fun x => nI (va_up ly j ((zm_it (12 * j) (p2, 0, ly j, lp, lq) i).2.2.1 - 1) x)))), (m8, .inl (D.2 0, 48, .inl (upd ((zm_it (12 * j) (p2, 0, ly j, lp, lq) i).2.2.2.1) (12 * j) ((((zm_it (12 * j) (p2, 0, ly j, lp, lq) i).2.2.2.1) (12 * j)) - (zm_so (12 * j) (zm_it (12 * j) (p2, 0, ly j, lp, lq) i)))))), (m0, .inr (6, [.int 0, .int (nI M.1), .ref m1, .ref m2, .int (nI bt), .ref m3, .int (nI ln), .ref m4, .ref m5, .int (nI cl), .ref m6, .ref m7, .ref m8, .ref m9, .ref m10, .ref m11, .ref m12, .int (nI pn), .ref m13, .ref m14]))] H := hP
                  have hD : va_D A [(m9, .inl (D.2 0, 48, .inl ((zm_it (12 * j) (p2, 0, ly j, lp, lq) i).2.2.2.2))), (m7, .inl (D.2 0, 4, .inl (fun x => nI (va_up ly j ((zm_it (12 * j) (p2, 0, ly j, lp, lq) i).2.2.1 - 1) x)))), (m8, .inl (D.2 0, 48, .inl (upd ((zm_it (12 * j) (p2, 0, ly j, lp, lq) i).2.2.2.1) (12 * j) ((((zm_it (12 * j) (p2, 0, ly j, lp, lq) i).2.2.2.1) (12 * j)) - (zm_so (12 * j) (zm_it (12 * j) (p2, 0, ly j, lp, lq) i)))))), (m0, .inr (6, [.int 0, .int (nI M.1), .ref m1, .ref m2, .int (nI bt), .ref m3, .int (nI ln), .ref m4, .ref m5, .int (nI cl), .ref m6, .ref m7, .ref m8, .ref m9, .ref m10, .ref m11, .ref m12, .int (nI pn), .ref m13, .ref m14]))] := hD
                  refine lv_iconst (v := 0) hx hb dX6_take_173 (by decide) ?_
                  refine lv_istore (lv' := [(9, .int 0), (6, .int (((zm_it (12 * j) (p2, 0, ly j, lp, lq) i).1) - (zm_so (12 * j) (zm_it (12 * j) (p2, 0, ly j, lp, lq) i)))), (4, .long (((zm_it (12 * j) (p2, 0, ly j, lp, lq) i).2.1) + (((zm_so (12 * j) (zm_it (12 * j) (p2, 0, ly j, lp, lq) i)).toInt64) * ((((zm_it (12 * j) (p2, 0, ly j, lp, lq) i).2.2.2.2) (12 * j)).toInt64)))), (8, .int (zm_so (12 * j) (zm_it (12 * j) (p2, 0, ly j, lp, lq) i))), (0, .ref m0), (1, .int (nI j)), (7, .int (nI (12 * j)))]) hx hb dX6_take_174 hl (by decide) rfl (fun ls hl => ?_)
                  have lo2 : ∀ (nn : Nat) (k : Nat), k ≤ (zm_it (12 * j) (p2, 0, ly j, lp, lq) i).2.2.1 - 1 → (zm_it (12 * j) (p2, 0, ly j, lp, lq) i).2.2.1 - 1 + 1 ≤ k + nn → ∀ (H : Heap) (locs : List Loc), va_P D.1 vwCl [(m9, .inl (D.2 0, 48, .inl (zm_sh (zm_it (12 * j) (p2, 0, ly j, lp, lq) i).2.2.2.2 (12 * j) k))), (m7, .inl (D.2 0, 4, .inl (fun x => nI (va_up ly j ((zm_it (12 * j) (p2, 0, ly j, lp, lq) i).2.2.1 - 1) x)))), (m8, .inl (D.2 0, 48, .inl (zm_sh (upd (zm_it (12 * j) (p2, 0, ly j, lp, lq) i).2.2.2.1 (12 * j) ((zm_it (12 * j) (p2, 0, ly j, lp, lq) i).2.2.2.1 (12 * j) - zm_so (12 * j) (zm_it (12 * j) (p2, 0, ly j, lp, lq) i))) (12 * j) k))), (m0, .inr (6, [.int 0, .int (nI M.1), .ref m1, .ref m2, .int (nI bt), .ref m3, .int (nI ln), .ref m4, .ref m5, .int (nI cl), .ref m6, .ref m7, .ref m8, .ref m9, .ref m10, .ref m11, .ref m12, .int (nI pn), .ref m13, .ref m14]))] H → va_D A [(m9, .inl (D.2 0, 48, .inl (zm_sh (zm_it (12 * j) (p2, 0, ly j, lp, lq) i).2.2.2.2 (12 * j) k))), (m7, .inl (D.2 0, 4, .inl (fun x => nI (va_up ly j ((zm_it (12 * j) (p2, 0, ly j, lp, lq) i).2.2.1 - 1) x)))), (m8, .inl (D.2 0, 48, .inl (zm_sh (upd (zm_it (12 * j) (p2, 0, ly j, lp, lq) i).2.2.2.1 (12 * j) ((zm_it (12 * j) (p2, 0, ly j, lp, lq) i).2.2.2.1 (12 * j) - zm_so (12 * j) (zm_it (12 * j) (p2, 0, ly j, lp, lq) i))) (12 * j) k))), (m0, .inr (6, [.int 0, .int (nI M.1), .ref m1, .ref m2, .int (nI bt), .ref m3, .int (nI ln), .ref m4, .ref m5, .int (nI cl), .ref m6, .ref m7, .ref m8, .ref m9, .ref m10, .ref m11, .ref m12, .int (nI pn), .ref m13, .ref m14]))] → va_S A s.heap H locs → ∀ (ls : Array Slot), lv_has ls 10 [(0, .ref m0), (1, .int (nI j)), (4, .long ((zm_it (12 * j) (p2, 0, ly j, lp, lq) i).2.1 + (zm_so (12 * j) (zm_it (12 * j) (p2, 0, ly j, lp, lq) i)).toInt64 * ((zm_it (12 * j) (p2, 0, ly j, lp, lq) i).2.2.2.2 (12 * j)).toInt64)), (6, .int ((zm_it (12 * j) (p2, 0, ly j, lp, lq) i).1 - zm_so (12 * j) (zm_it (12 * j) (p2, 0, ly j, lp, lq) i))), (7, .int (nI (12 * j))), (9, .int (nI k))] → W p l e (headSpec wsX6_take ({ frames := 1, cells := 0, slots := 0, locals := 25 })).room s m [.ref m0, .int (nI j), .int p2].toArray below meth c H locs 0 0 (MQ below (va_Ql (fun r (u : Option Int32) => (u = none ∧ (True) ∧ (¬ p2 < 1 ∧ p2 ≤ 1000000) ∧ (¬ zm_lsum lp (12 * j) (ly j) < p2.toInt64) ∧ r = (zm_it (12 * j) (p2, 0, ly j, lp, lq) N).2.1) ∨ (u = some 1 ∧ ¬ (True)) ∨ (u = some 2 ∧ (True) ∧ ¬ (¬ p2 < 1 ∧ p2 ≤ 1000000)) ∨ (u = some 3 ∧ (True) ∧ (¬ p2 < 1 ∧ p2 ≤ 1000000) ∧ ¬ (¬ zm_lsum lp (12 * j) (ly j) < p2.toInt64))) (zq D A (fun (u : Option Int32) => (u.elim [(m0, .inr (6, [.int 0, .int (nI M.1), .ref m1, .ref m2, .int (nI bt), .ref m3, .int (nI ln), .ref m4, .ref m5, .int (nI cl), .ref m6, .ref m7, .ref m8, .ref m9, .ref m10, .ref m11, .ref m12, .int (nI pn), .ref m13, .ref m14])), (m7, .inl (D.2 0, 4, .inl (fun x => nI (va_up ly j (zm_it (12 * j) (p2, 0, ly j, lp, lq) N).2.2.1 x)))), (m8, .inl (D.2 0, 48, .inl ((zm_it (12 * j) (p2, 0, ly j, lp, lq) N).2.2.2.1))), (m9, .inl (D.2 0, 48, .inl ((zm_it (12 * j) (p2, 0, ly j, lp, lq) N).2.2.2.2)))] (fun t => [(m0, .inr (6, [.int t, .int (nI M.1), .ref m1, .ref m2, .int (nI bt), .ref m3, .int (nI ln), .ref m4, .ref m5, .int (nI cl), .ref m6, .ref m7, .ref m8, .ref m9, .ref m10, .ref m11, .ref m12, .int (nI pn), .ref m13, .ref m14])), (m7, .inl (D.2 0, 4, .inl (fun i => nI (ly i)))), (m8, .inl (D.2 0, 48, .inl lp)), (m9, .inl (D.2 0, 48, .inl lq))]) : va_W))) A) [.ref m0, .int (nI j), .int p2].toArray s 0 0 A) (F0 m 176 ls []) := by
                    intro nn
                    induction nn with
                    | zero =>
                      intro k r1 r2
                      exfalso
                      omega
                    | succ nn ih_lo2 =>
                      intro k r1 r2 H locs hP hD hS ls hl
                      refine lv_iload hx hb dX6_take_176 (lv_at hl 5 rfl) ?_
                      refine lv_aload_n hx hb dX6_take_178 rfl (lv_at hl 0 rfl) ?_
                      refine va_get (D := D.1) (ci := 6) (v := .ref m7) (C := "ShopLedgerModel") (T := TX6) (N := 20) hx hb hZ inX6 hown hK hP 3 rfl rfl 11 (by decide) (hZ _ t_312) (fun _ h9 => h9) rfl dX6_take_179 ?_
                      refine lv_iload_n hx hb dX6_take_182 rfl (lv_at hl 1 rfl) ?_
                      refine z_iald (k := j) hx hb hK hP 1 rfl (hj) (by decide) dX6_take_183 ?_
                      rw [show (nI (va_up ly j ((zm_it (12 * j) (p2, 0, ly j, lp, lq) i).2.2.1 - 1) j)) = nI ((zm_it (12 * j) (p2, 0, ly j, lp, lq) i).2.2.1 - 1) from congrArg nI (va_up_self _ _ _)]
                      refine lv_icmp_ge (tgt := 237) hx hb dX6_take_184 (by decide) (fun c10 => ?_) (fun c10 => ?_)
                      · skip
                        have e9 : (zm_it (12 * j) (p2, 0, ly j, lp, lq) i).2.2.1 - 1 = k := (z_ge r1 (by omega) c10).symm
                        subst e9
                        refine lv_goto (tgt := 86) hx hb dX6_take_237 (by decide) ?_
                        have hP : va_P D.1 vwCl [(m9, .inl (D.2 0, 48, .inl ((zm_it (12 * j) (p2, 0, ly j, lp, lq) (i + 1)).2.2.2.2))), (m7, .inl (D.2 0, 4, .inl (fun x => nI (va_up ly j (zm_it (12 * j) (p2, 0, ly j, lp, lq) (i + 1)).2.2.1 x)))), (m8, .inl (D.2 0, 48, .inl ((zm_it (12 * j) (p2, 0, ly j, lp, lq) (i + 1)).2.2.2.1))), (m0, .inr (6, [.int 0, .int (nI M.1), .ref m1, .ref m2, .int (nI bt), .ref m3, .int (nI ln), .ref m4, .ref m5, .int (nI cl), .ref m6, .ref m7, .ref m8, .ref m9, .ref m10, .ref m11, .ref m12, .int (nI pn), .ref m13, .ref m14]))] H := by rw [e8]; exact hP
                        have hD : va_D A [(m9, .inl (D.2 0, 48, .inl ((zm_it (12 * j) (p2, 0, ly j, lp, lq) (i + 1)).2.2.2.2))), (m7, .inl (D.2 0, 4, .inl (fun x => nI (va_up ly j (zm_it (12 * j) (p2, 0, ly j, lp, lq) (i + 1)).2.2.1 x)))), (m8, .inl (D.2 0, 48, .inl ((zm_it (12 * j) (p2, 0, ly j, lp, lq) (i + 1)).2.2.2.1))), (m0, .inr (6, [.int 0, .int (nI M.1), .ref m1, .ref m2, .int (nI bt), .ref m3, .int (nI ln), .ref m4, .ref m5, .int (nI cl), .ref m6, .ref m7, .ref m8, .ref m9, .ref m10, .ref m11, .ref m12, .int (nI pn), .ref m13, .ref m14]))] := by rw [e8]; exact hD
                        have hl : lv_has ls 10 [(0, .ref m0), (1, .int (nI j)), (4, .long ((zm_it (12 * j) (p2, 0, ly j, lp, lq) (i + 1)).2.1)), (6, .int ((zm_it (12 * j) (p2, 0, ly j, lp, lq) (i + 1)).1)), (7, .int (nI (12 * j))), (9, .int (nI ((zm_it (12 * j) (p2, 0, ly j, lp, lq) i).2.2.1 - 1)))] := by rw [e8]; exact hl
                        exact ih_lo1 (i + 1) (by omega) (by omega) _ _ (hP.sub [0, 1, 2, 3] rfl) (hD.sub [0, 1, 2, 3] (by decide) rfl) hS ls (lv_sub hl [0, 1, 2, 3, 4] rfl)
                      have hk : k < (zm_it (12 * j) (p2, 0, ly j, lp, lq) i).2.2.1 - 1 := z_lt r1 (by omega) c10
                      refine lv_aload_n hx hb dX6_take_187 rfl (lv_at hl 0 rfl) ?_
                      refine va_get (D := D.1) (ci := 6) (v := .ref m8) (C := "ShopLedgerModel") (T := TX6) (N := 20) hx hb hZ inX6 hown hK hP 3 rfl rfl 12 (by decide) (hZ _ t_313) (fun _ h9 => h9) rfl dX6_take_188 ?_
                      refine lv_iload hx hb dX6_take_191 (lv_at hl 4 rfl) ?_
                      refine lv_iload hx hb dX6_take_193 (lv_at hl 5 rfl) ?_
                      refine lv_iadd hx hb dX6_take_195 ?_
                      rw [show ((nI (12 * j)) + (nI k)) = nI (12 * j + k) from nI_add _ _]
                      refine lv_aload_n hx hb dX6_take_196 rfl (lv_at hl 0 rfl) ?_
                      refine va_get (D := D.1) (ci := 6) (v := .ref m8) (C := "ShopLedgerModel") (T := TX6) (N := 20) hx hb hZ inX6 hown hK hP 3 rfl rfl 12 (by decide) (hZ _ t_313) (fun _ h9 => h9) rfl dX6_take_197 ?_
                      refine lv_iload hx hb dX6_take_200 (lv_at hl 4 rfl) ?_
                      refine lv_iload hx hb dX6_take_202 (lv_at hl 5 rfl) ?_
                      refine lv_iadd hx hb dX6_take_204 ?_
                      rw [show ((nI (12 * j)) + (nI k)) = nI (12 * j + k) from nI_add _ _]
                      refine lv_iconst (v := 1) hx hb dX6_take_205 (by decide) ?_
                      refine lv_iadd hx hb dX6_take_206 ?_
                      rw [show ((nI (12 * j + k)) + 1) = nI (12 * j + k + 1) from nI_1 _]
                      refine z_iald (k := 12 * j + k + 1) hx hb hK hP 2 rfl (by omega) (by decide) dX6_take_207 ?_
                      refine z_iast (k := 12 * j + k) hx hb hK hP hD hS 2 rfl (by omega) (by decide) dX6_take_208 (fun H locs hP hD hS => ?_)
                      have hP : va_P D.1 vwCl [(m9, .inl (D.2 0, 48, .inl (zm_sh (zm_it (12 * j) (p2, 0, ly j, lp, lq) i).2.2.2.2 (12 * j) k))), (m7, .inl (D.2 0, 4, .inl (fun x => nI (va_up ly j ((zm_it (12 * j) (p2, 0, ly j, lp, lq) i).2.2.1 - 1) x)))), (m8, .inl (D.2 0, 48, .inl (upd (zm_sh (upd (zm_it (12 * j) (p2, 0, ly j, lp, lq) i).2.2.2.1 (12 * j) ((zm_it (12 * j) (p2, 0, ly j, lp, lq) i).2.2.2.1 (12 * j) - zm_so (12 * j) (zm_it (12 * j) (p2, 0, ly j, lp, lq) i))) (12 * j) k) (12 * j + k) ((zm_sh (upd (zm_it (12 * j) (p2, 0, ly j, lp, lq) i).2.2.2.1 (12 * j) ((zm_it (12 * j) (p2, 0, ly j, lp, lq) i).2.2.2.1 (12 * j) - zm_so (12 * j) (zm_it (12 * j) (p2, 0, ly j, lp, lq) i))) (12 * j) k) (12 * j + k + 1))))), (m0, .inr (6, [.int 0, .int (nI M.1), .ref m1, .ref m2, .int (nI bt), .ref m3, .int (nI ln), .ref m4, .ref m5, .int (nI cl), .ref m6, .ref m7, .ref m8, .ref m9, .ref m10, .ref m11, .ref m12, .int (nI pn), .ref m13, .ref m14]))] H := hP
                      have hD : va_D A [(m9, .inl (D.2 0, 48, .inl (zm_sh (zm_it (12 * j) (p2, 0, ly j, lp, lq) i).2.2.2.2 (12 * j) k))), (m7, .inl (D.2 0, 4, .inl (fun x => nI (va_up ly j ((zm_it (12 * j) (p2, 0, ly j, lp, lq) i).2.2.1 - 1) x)))), (m8, .inl (D.2 0, 48, .inl (upd (zm_sh (upd (zm_it (12 * j) (p2, 0, ly j, lp, lq) i).2.2.2.1 (12 * j) ((zm_it (12 * j) (p2, 0, ly j, lp, lq) i).2.2.2.1 (12 * j) - zm_so (12 * j) (zm_it (12 * j) (p2, 0, ly j, lp, lq) i))) (12 * j) k) (12 * j + k) ((zm_sh (upd (zm_it (12 * j) (p2, 0, ly j, lp, lq) i).2.2.2.1 (12 * j) ((zm_it (12 * j) (p2, 0, ly j, lp, lq) i).2.2.2.1 (12 * j) - zm_so (12 * j) (zm_it (12 * j) (p2, 0, ly j, lp, lq) i))) (12 * j) k) (12 * j + k + 1))))), (m0, .inr (6, [.int 0, .int (nI M.1), .ref m1, .ref m2, .int (nI bt), .ref m3, .int (nI ln), .ref m4, .ref m5, .int (nI cl), .ref m6, .ref m7, .ref m8, .ref m9, .ref m10, .ref m11, .ref m12, .int (nI pn), .ref m13, .ref m14]))] := hD
                      refine lv_aload_n hx hb dX6_take_209 rfl (lv_at hl 0 rfl) ?_
                      refine va_get (D := D.1) (ci := 6) (v := .ref m9) (C := "ShopLedgerModel") (T := TX6) (N := 20) hx hb hZ inX6 hown hK hP 3 rfl rfl 13 (by decide) (hZ _ t_315) (fun _ h9 => h9) rfl dX6_take_210 ?_
                      refine lv_iload hx hb dX6_take_213 (lv_at hl 4 rfl) ?_
                      refine lv_iload hx hb dX6_take_215 (lv_at hl 5 rfl) ?_
                      refine lv_iadd hx hb dX6_take_217 ?_
                      rw [show ((nI (12 * j)) + (nI k)) = nI (12 * j + k) from nI_add _ _]
                      refine lv_aload_n hx hb dX6_take_218 rfl (lv_at hl 0 rfl) ?_
                      refine va_get (D := D.1) (ci := 6) (v := .ref m9) (C := "ShopLedgerModel") (T := TX6) (N := 20) hx hb hZ inX6 hown hK hP 3 rfl rfl 13 (by decide) (hZ _ t_315) (fun _ h9 => h9) rfl dX6_take_219 ?_
                      refine lv_iload hx hb dX6_take_222 (lv_at hl 4 rfl) ?_
                      refine lv_iload hx hb dX6_take_224 (lv_at hl 5 rfl) ?_
                      refine lv_iadd hx hb dX6_take_226 ?_
                      rw [show ((nI (12 * j)) + (nI k)) = nI (12 * j + k) from nI_add _ _]
                      refine lv_iconst (v := 1) hx hb dX6_take_227 (by decide) ?_
                      refine lv_iadd hx hb dX6_take_228 ?_
                      rw [show ((nI (12 * j + k)) + 1) = nI (12 * j + k + 1) from nI_1 _]
                      refine z_iald (k := 12 * j + k + 1) hx hb hK hP 0 rfl (by omega) (by decide) dX6_take_229 ?_
                      refine z_iast (k := 12 * j + k) hx hb hK hP hD hS 0 rfl (by omega) (by decide) dX6_take_230 (fun H locs hP hD hS => ?_)
                      have hP : va_P D.1 vwCl [(m9, .inl (D.2 0, 48, .inl (upd (zm_sh (zm_it (12 * j) (p2, 0, ly j, lp, lq) i).2.2.2.2 (12 * j) k) (12 * j + k) ((zm_sh (zm_it (12 * j) (p2, 0, ly j, lp, lq) i).2.2.2.2 (12 * j) k) (12 * j + k + 1))))), (m7, .inl (D.2 0, 4, .inl (fun x => nI (va_up ly j ((zm_it (12 * j) (p2, 0, ly j, lp, lq) i).2.2.1 - 1) x)))), (m8, .inl (D.2 0, 48, .inl (upd (zm_sh (upd (zm_it (12 * j) (p2, 0, ly j, lp, lq) i).2.2.2.1 (12 * j) ((zm_it (12 * j) (p2, 0, ly j, lp, lq) i).2.2.2.1 (12 * j) - zm_so (12 * j) (zm_it (12 * j) (p2, 0, ly j, lp, lq) i))) (12 * j) k) (12 * j + k) ((zm_sh (upd (zm_it (12 * j) (p2, 0, ly j, lp, lq) i).2.2.2.1 (12 * j) ((zm_it (12 * j) (p2, 0, ly j, lp, lq) i).2.2.2.1 (12 * j) - zm_so (12 * j) (zm_it (12 * j) (p2, 0, ly j, lp, lq) i))) (12 * j) k) (12 * j + k + 1))))), (m0, .inr (6, [.int 0, .int (nI M.1), .ref m1, .ref m2, .int (nI bt), .ref m3, .int (nI ln), .ref m4, .ref m5, .int (nI cl), .ref m6, .ref m7, .ref m8, .ref m9, .ref m10, .ref m11, .ref m12, .int (nI pn), .ref m13, .ref m14]))] H := hP
                      have hD : va_D A [(m9, .inl (D.2 0, 48, .inl (upd (zm_sh (zm_it (12 * j) (p2, 0, ly j, lp, lq) i).2.2.2.2 (12 * j) k) (12 * j + k) ((zm_sh (zm_it (12 * j) (p2, 0, ly j, lp, lq) i).2.2.2.2 (12 * j) k) (12 * j + k + 1))))), (m7, .inl (D.2 0, 4, .inl (fun x => nI (va_up ly j ((zm_it (12 * j) (p2, 0, ly j, lp, lq) i).2.2.1 - 1) x)))), (m8, .inl (D.2 0, 48, .inl (upd (zm_sh (upd (zm_it (12 * j) (p2, 0, ly j, lp, lq) i).2.2.2.1 (12 * j) ((zm_it (12 * j) (p2, 0, ly j, lp, lq) i).2.2.2.1 (12 * j) - zm_so (12 * j) (zm_it (12 * j) (p2, 0, ly j, lp, lq) i))) (12 * j) k) (12 * j + k) ((zm_sh (upd (zm_it (12 * j) (p2, 0, ly j, lp, lq) i).2.2.2.1 (12 * j) ((zm_it (12 * j) (p2, 0, ly j, lp, lq) i).2.2.2.1 (12 * j) - zm_so (12 * j) (zm_it (12 * j) (p2, 0, ly j, lp, lq) i))) (12 * j) k) (12 * j + k + 1))))), (m0, .inr (6, [.int 0, .int (nI M.1), .ref m1, .ref m2, .int (nI bt), .ref m3, .int (nI ln), .ref m4, .ref m5, .int (nI cl), .ref m6, .ref m7, .ref m8, .ref m9, .ref m10, .ref m11, .ref m12, .int (nI pn), .ref m13, .ref m14]))] := hD
                      refine lv_iinc (v := nI (k + 1)) (lv' := [(9, .int (nI (k + 1))), (0, .ref m0), (1, .int (nI j)), (4, .long ((zm_it (12 * j) (p2, 0, ly j, lp, lq) i).2.1 + (zm_so (12 * j) (zm_it (12 * j) (p2, 0, ly j, lp, lq) i)).toInt64 * ((zm_it (12 * j) (p2, 0, ly j, lp, lq) i).2.2.2.2 (12 * j)).toInt64)), (6, .int ((zm_it (12 * j) (p2, 0, ly j, lp, lq) i).1 - zm_so (12 * j) (zm_it (12 * j) (p2, 0, ly j, lp, lq) i))), (7, .int (nI (12 * j)))]) hx hb dX6_take_231 hl (k := 5) rfl (nI_1 k) (by decide) rfl (fun ls hl => ?_)
                      refine lv_goto (tgt := 176) hx hb dX6_take_234 (by decide) ?_
                      exact ih_lo2 (k + 1) (by omega) (by omega) _ _ (hP.sub [0, 1, 2, 3] rfl) (hD.sub [0, 1, 2, 3] (by decide) rfl) hS ls (lv_sub hl [1, 2, 3, 4, 5, 0] rfl)
                  exact lo2 ((zm_it (12 * j) (p2, 0, ly j, lp, lq) i).2.2.1 - 1 + 1) 0 (Nat.zero_le _) (by omega) _ _ (hP.sub [0, 1, 2, 3] rfl) (hD.sub [0, 1, 2, 3] (by decide) rfl) hS ls (lv_sub hl [4, 5, 2, 1, 6, 0] rfl)
                have eso : zm_so (12 * j) (zm_it (12 * j) (p2, 0, ly j, lp, lq) i) = (zm_it (12 * j) (p2, 0, ly j, lp, lq) i).2.2.2.1 (12 * j) := if_pos (Int32.not_le.mp c8)
                refine lv_aload_n hx hb dX6_take_103 rfl (lv_at hl 0 rfl) ?_
                refine va_get (D := D.1) (ci := 6) (v := .ref m8) (C := "ShopLedgerModel") (T := TX6) (N := 20) hx hb hZ inX6 hown hK hP 3 rfl rfl 12 (by decide) (hZ _ t_313) (fun _ h9 => h9) rfl dX6_take_104 ?_
                refine lv_iload hx hb dX6_take_107 (lv_at hl 4 rfl) ?_
                refine z_iald (k := 12 * j) hx hb hK hP 2 rfl (by omega) (by decide) dX6_take_109 ?_
                refine lv_goto (tgt := 115) hx hb dX6_take_110 (by decide) ?_
                refine lv_istore (lv' := [(8, .int (((zm_it (12 * j) (p2, 0, ly j, lp, lq) i).2.2.2.1) (12 * j))), (0, .ref m0), (1, .int (nI j)), (4, .long ((zm_it (12 * j) (p2, 0, ly j, lp, lq) i).2.1)), (6, .int ((zm_it (12 * j) (p2, 0, ly j, lp, lq) i).1)), (7, .int (nI (12 * j)))]) hx hb dX6_take_115 hl (by decide) rfl (fun ls hl => ?_)
                have hl : lv_has ls 10 [(8, .int (zm_so (12 * j) (zm_it (12 * j) (p2, 0, ly j, lp, lq) i))), (0, .ref m0), (1, .int (nI j)), (4, .long ((zm_it (12 * j) (p2, 0, ly j, lp, lq) i).2.1)), (6, .int ((zm_it (12 * j) (p2, 0, ly j, lp, lq) i).1)), (7, .int (nI (12 * j)))] := by rw [eso]; exact hl
                refine lv_lload hx hb dX6_take_117 (lv_at hl 3 rfl) ?_
                refine lv_iload hx hb dX6_take_119 (lv_at hl 0 rfl) ?_
                refine lv_i2l (v := (zm_so (12 * j) (zm_it (12 * j) (p2, 0, ly j, lp, lq) i)).toInt64) hx hb dX6_take_121 rfl ?_
                refine lv_aload_n hx hb dX6_take_122 rfl (lv_at hl 1 rfl) ?_
                refine va_get (D := D.1) (ci := 6) (v := .ref m9) (C := "ShopLedgerModel") (T := TX6) (N := 20) hx hb hZ inX6 hown hK hP 3 rfl rfl 13 (by decide) (hZ _ t_315) (fun _ h9 => h9) rfl dX6_take_123 ?_
                refine lv_iload hx hb dX6_take_126 (lv_at hl 5 rfl) ?_
                refine z_iald (k := 12 * j) hx hb hK hP 0 rfl (by omega) (by decide) dX6_take_128 ?_
                refine lv_i2l (v := (((zm_it (12 * j) (p2, 0, ly j, lp, lq) i).2.2.2.2) (12 * j)).toInt64) hx hb dX6_take_129 rfl ?_
                refine lv_lmul hx hb dX6_take_130 ?_
                refine lv_ladd hx hb dX6_take_131 ?_
                refine lv_lstore (lv' := [(4, .long (((zm_it (12 * j) (p2, 0, ly j, lp, lq) i).2.1) + (((zm_so (12 * j) (zm_it (12 * j) (p2, 0, ly j, lp, lq) i)).toInt64) * ((((zm_it (12 * j) (p2, 0, ly j, lp, lq) i).2.2.2.2) (12 * j)).toInt64)))), (8, .int (zm_so (12 * j) (zm_it (12 * j) (p2, 0, ly j, lp, lq) i))), (0, .ref m0), (1, .int (nI j)), (6, .int ((zm_it (12 * j) (p2, 0, ly j, lp, lq) i).1)), (7, .int (nI (12 * j)))]) hx hb dX6_take_132 hl (by decide) rfl (fun ls hl => ?_)
                refine lv_iload hx hb dX6_take_134 (lv_at hl 4 rfl) ?_
                refine lv_iload hx hb dX6_take_136 (lv_at hl 1 rfl) ?_
                refine lv_isub hx hb dX6_take_138 ?_
                refine lv_istore (lv' := [(6, .int (((zm_it (12 * j) (p2, 0, ly j, lp, lq) i).1) - (zm_so (12 * j) (zm_it (12 * j) (p2, 0, ly j, lp, lq) i)))), (4, .long (((zm_it (12 * j) (p2, 0, ly j, lp, lq) i).2.1) + (((zm_so (12 * j) (zm_it (12 * j) (p2, 0, ly j, lp, lq) i)).toInt64) * ((((zm_it (12 * j) (p2, 0, ly j, lp, lq) i).2.2.2.2) (12 * j)).toInt64)))), (8, .int (zm_so (12 * j) (zm_it (12 * j) (p2, 0, ly j, lp, lq) i))), (0, .ref m0), (1, .int (nI j)), (7, .int (nI (12 * j)))]) hx hb dX6_take_139 hl (by decide) rfl (fun ls hl => ?_)
                refine lv_aload_n hx hb dX6_take_141 rfl (lv_at hl 3 rfl) ?_
                refine va_get (D := D.1) (ci := 6) (v := .ref m8) (C := "ShopLedgerModel") (T := TX6) (N := 20) hx hb hZ inX6 hown hK hP 3 rfl rfl 12 (by decide) (hZ _ t_313) (fun _ h9 => h9) rfl dX6_take_142 ?_
                refine lv_iload hx hb dX6_take_145 (lv_at hl 5 rfl) ?_
                refine lv_dup2_11 hx hb dX6_take_147 rfl rfl ?_
                refine z_iald (k := 12 * j) hx hb hK hP 2 rfl (by omega) (by decide) dX6_take_148 ?_
                refine lv_iload hx hb dX6_take_149 (lv_at hl 2 rfl) ?_
                refine lv_isub hx hb dX6_take_151 ?_
                refine z_iast (k := 12 * j) hx hb hK hP hD hS 2 rfl (by omega) (by decide) dX6_take_152 (fun H locs hP hD hS => ?_)
                have hP : va_P D.1 vwCl [(m9, .inl (D.2 0, 48, .inl ((zm_it (12 * j) (p2, 0, ly j, lp, lq) i).2.2.2.2))), (m7, .inl (D.2 0, 4, .inl (fun x => nI (va_up ly j (zm_it (12 * j) (p2, 0, ly j, lp, lq) i).2.2.1 x)))), (m8, .inl (D.2 0, 48, .inl (upd ((zm_it (12 * j) (p2, 0, ly j, lp, lq) i).2.2.2.1) (12 * j) ((((zm_it (12 * j) (p2, 0, ly j, lp, lq) i).2.2.2.1) (12 * j)) - (zm_so (12 * j) (zm_it (12 * j) (p2, 0, ly j, lp, lq) i)))))), (m0, .inr (6, [.int 0, .int (nI M.1), .ref m1, .ref m2, .int (nI bt), .ref m3, .int (nI ln), .ref m4, .ref m5, .int (nI cl), .ref m6, .ref m7, .ref m8, .ref m9, .ref m10, .ref m11, .ref m12, .int (nI pn), .ref m13, .ref m14]))] H := hP
                have hD : va_D A [(m9, .inl (D.2 0, 48, .inl ((zm_it (12 * j) (p2, 0, ly j, lp, lq) i).2.2.2.2))), (m7, .inl (D.2 0, 4, .inl (fun x => nI (va_up ly j (zm_it (12 * j) (p2, 0, ly j, lp, lq) i).2.2.1 x)))), (m8, .inl (D.2 0, 48, .inl (upd ((zm_it (12 * j) (p2, 0, ly j, lp, lq) i).2.2.2.1) (12 * j) ((((zm_it (12 * j) (p2, 0, ly j, lp, lq) i).2.2.2.1) (12 * j)) - (zm_so (12 * j) (zm_it (12 * j) (p2, 0, ly j, lp, lq) i)))))), (m0, .inr (6, [.int 0, .int (nI M.1), .ref m1, .ref m2, .int (nI bt), .ref m3, .int (nI ln), .ref m4, .ref m5, .int (nI cl), .ref m6, .ref m7, .ref m8, .ref m9, .ref m10, .ref m11, .ref m12, .int (nI pn), .ref m13, .ref m14]))] := hD
                refine lv_aload_n hx hb dX6_take_153 rfl (lv_at hl 3 rfl) ?_
                refine va_get (D := D.1) (ci := 6) (v := .ref m8) (C := "ShopLedgerModel") (T := TX6) (N := 20) hx hb hZ inX6 hown hK hP 3 rfl rfl 12 (by decide) (hZ _ t_313) (fun _ h9 => h9) rfl dX6_take_154 ?_
                refine lv_iload hx hb dX6_take_157 (lv_at hl 5 rfl) ?_
                refine z_iald (k := 12 * j) hx hb hK hP 2 rfl (by omega) (by decide) dX6_take_159 ?_
                rw [show ((upd ((zm_it (12 * j) (p2, 0, ly j, lp, lq) i).2.2.2.1) (12 * j) ((((zm_it (12 * j) (p2, 0, ly j, lp, lq) i).2.2.2.1) (12 * j)) - (zm_so (12 * j) (zm_it (12 * j) (p2, 0, ly j, lp, lq) i)))) (12 * j)) = (zm_it (12 * j) (p2, 0, ly j, lp, lq) i).2.2.2.1 (12 * j) - zm_so (12 * j) (zm_it (12 * j) (p2, 0, ly j, lp, lq) i) from pk_us]
                refine lv_if_ne (tgt := 237) hx hb dX6_take_160 (by decide) (fun c9 => ?_) (fun c9 => ?_)
                · skip
                  have e8 : (zm_it (12 * j) (p2, 0, ly j, lp, lq) (i + 1)) = ((zm_it (12 * j) (p2, 0, ly j, lp, lq) i).1 - zm_so (12 * j) (zm_it (12 * j) (p2, 0, ly j, lp, lq) i), (zm_it (12 * j) (p2, 0, ly j, lp, lq) i).2.1 + (zm_so (12 * j) (zm_it (12 * j) (p2, 0, ly j, lp, lq) i)).toInt64 * ((zm_it (12 * j) (p2, 0, ly j, lp, lq) i).2.2.2.2 (12 * j)).toInt64, (zm_it (12 * j) (p2, 0, ly j, lp, lq) i).2.2.1, upd (zm_it (12 * j) (p2, 0, ly j, lp, lq) i).2.2.2.1 (12 * j) ((zm_it (12 * j) (p2, 0, ly j, lp, lq) i).2.2.2.1 (12 * j) - zm_so (12 * j) (zm_it (12 * j) (p2, 0, ly j, lp, lq) i)), (zm_it (12 * j) (p2, 0, ly j, lp, lq) i).2.2.2.2) := if_neg c9
                  refine lv_goto (tgt := 86) hx hb dX6_take_237 (by decide) ?_
                  have hP : va_P D.1 vwCl [(m9, .inl (D.2 0, 48, .inl ((zm_it (12 * j) (p2, 0, ly j, lp, lq) (i + 1)).2.2.2.2))), (m7, .inl (D.2 0, 4, .inl (fun x => nI (va_up ly j (zm_it (12 * j) (p2, 0, ly j, lp, lq) (i + 1)).2.2.1 x)))), (m8, .inl (D.2 0, 48, .inl ((zm_it (12 * j) (p2, 0, ly j, lp, lq) (i + 1)).2.2.2.1))), (m0, .inr (6, [.int 0, .int (nI M.1), .ref m1, .ref m2, .int (nI bt), .ref m3, .int (nI ln), .ref m4, .ref m5, .int (nI cl), .ref m6, .ref m7, .ref m8, .ref m9, .ref m10, .ref m11, .ref m12, .int (nI pn), .ref m13, .ref m14]))] H := by rw [e8]; exact hP
                  have hD : va_D A [(m9, .inl (D.2 0, 48, .inl ((zm_it (12 * j) (p2, 0, ly j, lp, lq) (i + 1)).2.2.2.2))), (m7, .inl (D.2 0, 4, .inl (fun x => nI (va_up ly j (zm_it (12 * j) (p2, 0, ly j, lp, lq) (i + 1)).2.2.1 x)))), (m8, .inl (D.2 0, 48, .inl ((zm_it (12 * j) (p2, 0, ly j, lp, lq) (i + 1)).2.2.2.1))), (m0, .inr (6, [.int 0, .int (nI M.1), .ref m1, .ref m2, .int (nI bt), .ref m3, .int (nI ln), .ref m4, .ref m5, .int (nI cl), .ref m6, .ref m7, .ref m8, .ref m9, .ref m10, .ref m11, .ref m12, .int (nI pn), .ref m13, .ref m14]))] := by rw [e8]; exact hD
                  have hl : lv_has ls 10 [(6, .int ((zm_it (12 * j) (p2, 0, ly j, lp, lq) (i + 1)).1)), (4, .long ((zm_it (12 * j) (p2, 0, ly j, lp, lq) (i + 1)).2.1)), (8, .int (zm_so (12 * j) (zm_it (12 * j) (p2, 0, ly j, lp, lq) i))), (0, .ref m0), (1, .int (nI j)), (7, .int (nI (12 * j)))] := by rw [e8]; exact hl
                  exact ih_lo1 (i + 1) (by omega) (by omega) _ _ (hP.sub [0, 1, 2, 3] rfl) (hD.sub [0, 1, 2, 3] (by decide) rfl) hS ls (lv_sub hl [3, 4, 1, 0, 5] rfl)
                have e8 : (zm_it (12 * j) (p2, 0, ly j, lp, lq) (i + 1)) = ((zm_it (12 * j) (p2, 0, ly j, lp, lq) i).1 - zm_so (12 * j) (zm_it (12 * j) (p2, 0, ly j, lp, lq) i), (zm_it (12 * j) (p2, 0, ly j, lp, lq) i).2.1 + (zm_so (12 * j) (zm_it (12 * j) (p2, 0, ly j, lp, lq) i)).toInt64 * ((zm_it (12 * j) (p2, 0, ly j, lp, lq) i).2.2.2.2 (12 * j)).toInt64, (zm_it (12 * j) (p2, 0, ly j, lp, lq) i).2.2.1 - 1, zm_sh (upd (zm_it (12 * j) (p2, 0, ly j, lp, lq) i).2.2.2.1 (12 * j) ((zm_it (12 * j) (p2, 0, ly j, lp, lq) i).2.2.2.1 (12 * j) - zm_so (12 * j) (zm_it (12 * j) (p2, 0, ly j, lp, lq) i))) (12 * j) ((zm_it (12 * j) (p2, 0, ly j, lp, lq) i).2.2.1 - 1), zm_sh (zm_it (12 * j) (p2, 0, ly j, lp, lq) i).2.2.2.2 (12 * j) ((zm_it (12 * j) (p2, 0, ly j, lp, lq) i).2.2.1 - 1)) := if_pos c9
                refine lv_aload_n hx hb dX6_take_163 rfl (lv_at hl 3 rfl) ?_
                refine va_get (D := D.1) (ci := 6) (v := .ref m7) (C := "ShopLedgerModel") (T := TX6) (N := 20) hx hb hZ inX6 hown hK hP 3 rfl rfl 11 (by decide) (hZ _ t_312) (fun _ h9 => h9) rfl dX6_take_164 ?_
                refine lv_iload_n hx hb dX6_take_167 rfl (lv_at hl 4 rfl) ?_
                refine lv_dup2_11 hx hb dX6_take_168 rfl rfl ?_
                refine z_iald (k := j) hx hb hK hP 1 rfl (hj) (by decide) dX6_take_169 ?_
                rw [show (nI (va_up ly j (zm_it (12 * j) (p2, 0, ly j, lp, lq) i).2.2.1 j)) = nI (zm_it (12 * j) (p2, 0, ly j, lp, lq) i).2.2.1 from congrArg nI (va_up_self _ _ _)]
                refine lv_iconst (v := 1) hx hb dX6_take_170 (by decide) ?_
                refine lv_isub hx hb dX6_take_171 ?_
                rw [show ((nI (zm_it (12 * j) (p2, 0, ly j, lp, lq) i).2.2.1) - 1) = nI ((zm_it (12 * j) (p2, 0, ly j, lp, lq) i).2.2.1 - 1) from pk_sub (b := 1) hn1]
                refine z_iast (k := j) hx hb hK hP hD hS 1 rfl (hj) (by decide) dX6_take_172 (fun H locs hP hD hS => ?_)
                have hP : va_P D.1 vwCl [(m9, .inl (D.2 0, 48, .inl ((zm_it (12 * j) (p2, 0, ly j, lp, lq) i).2.2.2.2))), (m7, .inl (D.2 0, 4, .inl (upd (fun x => nI (va_up ly j (zm_it (12 * j) (p2, 0, ly j, lp, lq) i).2.2.1 x)) j (nI ((zm_it (12 * j) (p2, 0, ly j, lp, lq) i).2.2.1 - 1))))), (m8, .inl (D.2 0, 48, .inl (upd ((zm_it (12 * j) (p2, 0, ly j, lp, lq) i).2.2.2.1) (12 * j) ((((zm_it (12 * j) (p2, 0, ly j, lp, lq) i).2.2.2.1) (12 * j)) - (zm_so (12 * j) (zm_it (12 * j) (p2, 0, ly j, lp, lq) i)))))), (m0, .inr (6, [.int 0, .int (nI M.1), .ref m1, .ref m2, .int (nI bt), .ref m3, .int (nI ln), .ref m4, .ref m5, .int (nI cl), .ref m6, .ref m7, .ref m8, .ref m9, .ref m10, .ref m11, .ref m12, .int (nI pn), .ref m13, .ref m14]))] H := hP
                have hD : va_D A [(m9, .inl (D.2 0, 48, .inl ((zm_it (12 * j) (p2, 0, ly j, lp, lq) i).2.2.2.2))), (m7, .inl (D.2 0, 4, .inl (upd (fun x => nI (va_up ly j (zm_it (12 * j) (p2, 0, ly j, lp, lq) i).2.2.1 x)) j (nI ((zm_it (12 * j) (p2, 0, ly j, lp, lq) i).2.2.1 - 1))))), (m8, .inl (D.2 0, 48, .inl (upd ((zm_it (12 * j) (p2, 0, ly j, lp, lq) i).2.2.2.1) (12 * j) ((((zm_it (12 * j) (p2, 0, ly j, lp, lq) i).2.2.2.1) (12 * j)) - (zm_so (12 * j) (zm_it (12 * j) (p2, 0, ly j, lp, lq) i)))))), (m0, .inr (6, [.int 0, .int (nI M.1), .ref m1, .ref m2, .int (nI bt), .ref m3, .int (nI ln), .ref m4, .ref m5, .int (nI cl), .ref m6, .ref m7, .ref m8, .ref m9, .ref m10, .ref m11, .ref m12, .int (nI pn), .ref m13, .ref m14]))] := hD
                rw [z_updN, bx_uu] at hP hD
                have hP : va_P D.1 vwCl [(m9, .inl (D.2 0, 48, .inl ((zm_it (12 * j) (p2, 0, ly j, lp, lq) i).2.2.2.2))), (m7, .inl (D.2 0, 4, .inl (fun x => nI (va_up ly j ((zm_it (12 * j) (p2, 0, ly j, lp, lq) i).2.2.1 - 1) x)))), (m8, .inl (D.2 0, 48, .inl (upd ((zm_it (12 * j) (p2, 0, ly j, lp, lq) i).2.2.2.1) (12 * j) ((((zm_it (12 * j) (p2, 0, ly j, lp, lq) i).2.2.2.1) (12 * j)) - (zm_so (12 * j) (zm_it (12 * j) (p2, 0, ly j, lp, lq) i)))))), (m0, .inr (6, [.int 0, .int (nI M.1), .ref m1, .ref m2, .int (nI bt), .ref m3, .int (nI ln), .ref m4, .ref m5, .int (nI cl), .ref m6, .ref m7, .ref m8, .ref m9, .ref m10, .ref m11, .ref m12, .int (nI pn), .ref m13, .ref m14]))] H := hP
                have hD : va_D A [(m9, .inl (D.2 0, 48, .inl ((zm_it (12 * j) (p2, 0, ly j, lp, lq) i).2.2.2.2))), (m7, .inl (D.2 0, 4, .inl (fun x => nI (va_up ly j ((zm_it (12 * j) (p2, 0, ly j, lp, lq) i).2.2.1 - 1) x)))), (m8, .inl (D.2 0, 48, .inl (upd ((zm_it (12 * j) (p2, 0, ly j, lp, lq) i).2.2.2.1) (12 * j) ((((zm_it (12 * j) (p2, 0, ly j, lp, lq) i).2.2.2.1) (12 * j)) - (zm_so (12 * j) (zm_it (12 * j) (p2, 0, ly j, lp, lq) i)))))), (m0, .inr (6, [.int 0, .int (nI M.1), .ref m1, .ref m2, .int (nI bt), .ref m3, .int (nI ln), .ref m4, .ref m5, .int (nI cl), .ref m6, .ref m7, .ref m8, .ref m9, .ref m10, .ref m11, .ref m12, .int (nI pn), .ref m13, .ref m14]))] := hD
                refine lv_iconst (v := 0) hx hb dX6_take_173 (by decide) ?_
                refine lv_istore (lv' := [(9, .int 0), (6, .int (((zm_it (12 * j) (p2, 0, ly j, lp, lq) i).1) - (zm_so (12 * j) (zm_it (12 * j) (p2, 0, ly j, lp, lq) i)))), (4, .long (((zm_it (12 * j) (p2, 0, ly j, lp, lq) i).2.1) + (((zm_so (12 * j) (zm_it (12 * j) (p2, 0, ly j, lp, lq) i)).toInt64) * ((((zm_it (12 * j) (p2, 0, ly j, lp, lq) i).2.2.2.2) (12 * j)).toInt64)))), (8, .int (zm_so (12 * j) (zm_it (12 * j) (p2, 0, ly j, lp, lq) i))), (0, .ref m0), (1, .int (nI j)), (7, .int (nI (12 * j)))]) hx hb dX6_take_174 hl (by decide) rfl (fun ls hl => ?_)
                have lo2 : ∀ (nn : Nat) (k : Nat), k ≤ (zm_it (12 * j) (p2, 0, ly j, lp, lq) i).2.2.1 - 1 → (zm_it (12 * j) (p2, 0, ly j, lp, lq) i).2.2.1 - 1 + 1 ≤ k + nn → ∀ (H : Heap) (locs : List Loc), va_P D.1 vwCl [(m9, .inl (D.2 0, 48, .inl (zm_sh (zm_it (12 * j) (p2, 0, ly j, lp, lq) i).2.2.2.2 (12 * j) k))), (m7, .inl (D.2 0, 4, .inl (fun x => nI (va_up ly j ((zm_it (12 * j) (p2, 0, ly j, lp, lq) i).2.2.1 - 1) x)))), (m8, .inl (D.2 0, 48, .inl (zm_sh (upd (zm_it (12 * j) (p2, 0, ly j, lp, lq) i).2.2.2.1 (12 * j) ((zm_it (12 * j) (p2, 0, ly j, lp, lq) i).2.2.2.1 (12 * j) - zm_so (12 * j) (zm_it (12 * j) (p2, 0, ly j, lp, lq) i))) (12 * j) k))), (m0, .inr (6, [.int 0, .int (nI M.1), .ref m1, .ref m2, .int (nI bt), .ref m3, .int (nI ln), .ref m4, .ref m5, .int (nI cl), .ref m6, .ref m7, .ref m8, .ref m9, .ref m10, .ref m11, .ref m12, .int (nI pn), .ref m13, .ref m14]))] H → va_D A [(m9, .inl (D.2 0, 48, .inl (zm_sh (zm_it (12 * j) (p2, 0, ly j, lp, lq) i).2.2.2.2 (12 * j) k))), (m7, .inl (D.2 0, 4, .inl (fun x => nI (va_up ly j ((zm_it (12 * j) (p2, 0, ly j, lp, lq) i).2.2.1 - 1) x)))), (m8, .inl (D.2 0, 48, .inl (zm_sh (upd (zm_it (12 * j) (p2, 0, ly j, lp, lq) i).2.2.2.1 (12 * j) ((zm_it (12 * j) (p2, 0, ly j, lp, lq) i).2.2.2.1 (12 * j) - zm_so (12 * j) (zm_it (12 * j) (p2, 0, ly j, lp, lq) i))) (12 * j) k))), (m0, .inr (6, [.int 0, .int (nI M.1), .ref m1, .ref m2, .int (nI bt), .ref m3, .int (nI ln), .ref m4, .ref m5, .int (nI cl), .ref m6, .ref m7, .ref m8, .ref m9, .ref m10, .ref m11, .ref m12, .int (nI pn), .ref m13, .ref m14]))] → va_S A s.heap H locs → ∀ (ls : Array Slot), lv_has ls 10 [(0, .ref m0), (1, .int (nI j)), (4, .long ((zm_it (12 * j) (p2, 0, ly j, lp, lq) i).2.1 + (zm_so (12 * j) (zm_it (12 * j) (p2, 0, ly j, lp, lq) i)).toInt64 * ((zm_it (12 * j) (p2, 0, ly j, lp, lq) i).2.2.2.2 (12 * j)).toInt64)), (6, .int ((zm_it (12 * j) (p2, 0, ly j, lp, lq) i).1 - zm_so (12 * j) (zm_it (12 * j) (p2, 0, ly j, lp, lq) i))), (7, .int (nI (12 * j))), (9, .int (nI k))] → W p l e (headSpec wsX6_take ({ frames := 1, cells := 0, slots := 0, locals := 25 })).room s m [.ref m0, .int (nI j), .int p2].toArray below meth c H locs 0 0 (MQ below (va_Ql (fun r (u : Option Int32) => (u = none ∧ (True) ∧ (¬ p2 < 1 ∧ p2 ≤ 1000000) ∧ (¬ zm_lsum lp (12 * j) (ly j) < p2.toInt64) ∧ r = (zm_it (12 * j) (p2, 0, ly j, lp, lq) N).2.1) ∨ (u = some 1 ∧ ¬ (True)) ∨ (u = some 2 ∧ (True) ∧ ¬ (¬ p2 < 1 ∧ p2 ≤ 1000000)) ∨ (u = some 3 ∧ (True) ∧ (¬ p2 < 1 ∧ p2 ≤ 1000000) ∧ ¬ (¬ zm_lsum lp (12 * j) (ly j) < p2.toInt64))) (zq D A (fun (u : Option Int32) => (u.elim [(m0, .inr (6, [.int 0, .int (nI M.1), .ref m1, .ref m2, .int (nI bt), .ref m3, .int (nI ln), .ref m4, .ref m5, .int (nI cl), .ref m6, .ref m7, .ref m8, .ref m9, .ref m10, .ref m11, .ref m12, .int (nI pn), .ref m13, .ref m14])), (m7, .inl (D.2 0, 4, .inl (fun x => nI (va_up ly j (zm_it (12 * j) (p2, 0, ly j, lp, lq) N).2.2.1 x)))), (m8, .inl (D.2 0, 48, .inl ((zm_it (12 * j) (p2, 0, ly j, lp, lq) N).2.2.2.1))), (m9, .inl (D.2 0, 48, .inl ((zm_it (12 * j) (p2, 0, ly j, lp, lq) N).2.2.2.2)))] (fun t => [(m0, .inr (6, [.int t, .int (nI M.1), .ref m1, .ref m2, .int (nI bt), .ref m3, .int (nI ln), .ref m4, .ref m5, .int (nI cl), .ref m6, .ref m7, .ref m8, .ref m9, .ref m10, .ref m11, .ref m12, .int (nI pn), .ref m13, .ref m14])), (m7, .inl (D.2 0, 4, .inl (fun i => nI (ly i)))), (m8, .inl (D.2 0, 48, .inl lp)), (m9, .inl (D.2 0, 48, .inl lq))]) : va_W))) A) [.ref m0, .int (nI j), .int p2].toArray s 0 0 A) (F0 m 176 ls []) := by
                  intro nn
                  induction nn with
                  | zero =>
                    intro k r1 r2
                    exfalso
                    omega
                  | succ nn ih_lo2 =>
                    intro k r1 r2 H locs hP hD hS ls hl
                    refine lv_iload hx hb dX6_take_176 (lv_at hl 5 rfl) ?_
                    refine lv_aload_n hx hb dX6_take_178 rfl (lv_at hl 0 rfl) ?_
                    refine va_get (D := D.1) (ci := 6) (v := .ref m7) (C := "ShopLedgerModel") (T := TX6) (N := 20) hx hb hZ inX6 hown hK hP 3 rfl rfl 11 (by decide) (hZ _ t_312) (fun _ h9 => h9) rfl dX6_take_179 ?_
                    refine lv_iload_n hx hb dX6_take_182 rfl (lv_at hl 1 rfl) ?_
                    refine z_iald (k := j) hx hb hK hP 1 rfl (hj) (by decide) dX6_take_183 ?_
                    rw [show (nI (va_up ly j ((zm_it (12 * j) (p2, 0, ly j, lp, lq) i).2.2.1 - 1) j)) = nI ((zm_it (12 * j) (p2, 0, ly j, lp, lq) i).2.2.1 - 1) from congrArg nI (va_up_self _ _ _)]
                    refine lv_icmp_ge (tgt := 237) hx hb dX6_take_184 (by decide) (fun c10 => ?_) (fun c10 => ?_)
                    · skip
                      have e9 : (zm_it (12 * j) (p2, 0, ly j, lp, lq) i).2.2.1 - 1 = k := (z_ge r1 (by omega) c10).symm
                      subst e9
                      refine lv_goto (tgt := 86) hx hb dX6_take_237 (by decide) ?_
                      have hP : va_P D.1 vwCl [(m9, .inl (D.2 0, 48, .inl ((zm_it (12 * j) (p2, 0, ly j, lp, lq) (i + 1)).2.2.2.2))), (m7, .inl (D.2 0, 4, .inl (fun x => nI (va_up ly j (zm_it (12 * j) (p2, 0, ly j, lp, lq) (i + 1)).2.2.1 x)))), (m8, .inl (D.2 0, 48, .inl ((zm_it (12 * j) (p2, 0, ly j, lp, lq) (i + 1)).2.2.2.1))), (m0, .inr (6, [.int 0, .int (nI M.1), .ref m1, .ref m2, .int (nI bt), .ref m3, .int (nI ln), .ref m4, .ref m5, .int (nI cl), .ref m6, .ref m7, .ref m8, .ref m9, .ref m10, .ref m11, .ref m12, .int (nI pn), .ref m13, .ref m14]))] H := by rw [e8]; exact hP
                      have hD : va_D A [(m9, .inl (D.2 0, 48, .inl ((zm_it (12 * j) (p2, 0, ly j, lp, lq) (i + 1)).2.2.2.2))), (m7, .inl (D.2 0, 4, .inl (fun x => nI (va_up ly j (zm_it (12 * j) (p2, 0, ly j, lp, lq) (i + 1)).2.2.1 x)))), (m8, .inl (D.2 0, 48, .inl ((zm_it (12 * j) (p2, 0, ly j, lp, lq) (i + 1)).2.2.2.1))), (m0, .inr (6, [.int 0, .int (nI M.1), .ref m1, .ref m2, .int (nI bt), .ref m3, .int (nI ln), .ref m4, .ref m5, .int (nI cl), .ref m6, .ref m7, .ref m8, .ref m9, .ref m10, .ref m11, .ref m12, .int (nI pn), .ref m13, .ref m14]))] := by rw [e8]; exact hD
                      have hl : lv_has ls 10 [(0, .ref m0), (1, .int (nI j)), (4, .long ((zm_it (12 * j) (p2, 0, ly j, lp, lq) (i + 1)).2.1)), (6, .int ((zm_it (12 * j) (p2, 0, ly j, lp, lq) (i + 1)).1)), (7, .int (nI (12 * j))), (9, .int (nI ((zm_it (12 * j) (p2, 0, ly j, lp, lq) i).2.2.1 - 1)))] := by rw [e8]; exact hl
                      exact ih_lo1 (i + 1) (by omega) (by omega) _ _ (hP.sub [0, 1, 2, 3] rfl) (hD.sub [0, 1, 2, 3] (by decide) rfl) hS ls (lv_sub hl [0, 1, 2, 3, 4] rfl)
                    have hk : k < (zm_it (12 * j) (p2, 0, ly j, lp, lq) i).2.2.1 - 1 := z_lt r1 (by omega) c10
                    refine lv_aload_n hx hb dX6_take_187 rfl (lv_at hl 0 rfl) ?_
                    refine va_get (D := D.1) (ci := 6) (v := .ref m8) (C := "ShopLedgerModel") (T := TX6) (N := 20) hx hb hZ inX6 hown hK hP 3 rfl rfl 12 (by decide) (hZ _ t_313) (fun _ h9 => h9) rfl dX6_take_188 ?_
                    refine lv_iload hx hb dX6_take_191 (lv_at hl 4 rfl) ?_
                    refine lv_iload hx hb dX6_take_193 (lv_at hl 5 rfl) ?_
                    refine lv_iadd hx hb dX6_take_195 ?_
                    rw [show ((nI (12 * j)) + (nI k)) = nI (12 * j + k) from nI_add _ _]
                    refine lv_aload_n hx hb dX6_take_196 rfl (lv_at hl 0 rfl) ?_
                    refine va_get (D := D.1) (ci := 6) (v := .ref m8) (C := "ShopLedgerModel") (T := TX6) (N := 20) hx hb hZ inX6 hown hK hP 3 rfl rfl 12 (by decide) (hZ _ t_313) (fun _ h9 => h9) rfl dX6_take_197 ?_
                    refine lv_iload hx hb dX6_take_200 (lv_at hl 4 rfl) ?_
                    refine lv_iload hx hb dX6_take_202 (lv_at hl 5 rfl) ?_
                    refine lv_iadd hx hb dX6_take_204 ?_
                    rw [show ((nI (12 * j)) + (nI k)) = nI (12 * j + k) from nI_add _ _]
                    refine lv_iconst (v := 1) hx hb dX6_take_205 (by decide) ?_
                    refine lv_iadd hx hb dX6_take_206 ?_
                    rw [show ((nI (12 * j + k)) + 1) = nI (12 * j + k + 1) from nI_1 _]
                    refine z_iald (k := 12 * j + k + 1) hx hb hK hP 2 rfl (by omega) (by decide) dX6_take_207 ?_
                    refine z_iast (k := 12 * j + k) hx hb hK hP hD hS 2 rfl (by omega) (by decide) dX6_take_208 (fun H locs hP hD hS => ?_)
                    have hP : va_P D.1 vwCl [(m9, .inl (D.2 0, 48, .inl (zm_sh (zm_it (12 * j) (p2, 0, ly j, lp, lq) i).2.2.2.2 (12 * j) k))), (m7, .inl (D.2 0, 4, .inl (fun x => nI (va_up ly j ((zm_it (12 * j) (p2, 0, ly j, lp, lq) i).2.2.1 - 1) x)))), (m8, .inl (D.2 0, 48, .inl (upd (zm_sh (upd (zm_it (12 * j) (p2, 0, ly j, lp, lq) i).2.2.2.1 (12 * j) ((zm_it (12 * j) (p2, 0, ly j, lp, lq) i).2.2.2.1 (12 * j) - zm_so (12 * j) (zm_it (12 * j) (p2, 0, ly j, lp, lq) i))) (12 * j) k) (12 * j + k) ((zm_sh (upd (zm_it (12 * j) (p2, 0, ly j, lp, lq) i).2.2.2.1 (12 * j) ((zm_it (12 * j) (p2, 0, ly j, lp, lq) i).2.2.2.1 (12 * j) - zm_so (12 * j) (zm_it (12 * j) (p2, 0, ly j, lp, lq) i))) (12 * j) k) (12 * j + k + 1))))), (m0, .inr (6, [.int 0, .int (nI M.1), .ref m1, .ref m2, .int (nI bt), .ref m3, .int (nI ln), .ref m4, .ref m5, .int (nI cl), .ref m6, .ref m7, .ref m8, .ref m9, .ref m10, .ref m11, .ref m12, .int (nI pn), .ref m13, .ref m14]))] H := hP
                    have hD : va_D A [(m9, .inl (D.2 0, 48, .inl (zm_sh (zm_it (12 * j) (p2, 0, ly j, lp, lq) i).2.2.2.2 (12 * j) k))), (m7, .inl (D.2 0, 4, .inl (fun x => nI (va_up ly j ((zm_it (12 * j) (p2, 0, ly j, lp, lq) i).2.2.1 - 1) x)))), (m8, .inl (D.2 0, 48, .inl (upd (zm_sh (upd (zm_it (12 * j) (p2, 0, ly j, lp, lq) i).2.2.2.1 (12 * j) ((zm_it (12 * j) (p2, 0, ly j, lp, lq) i).2.2.2.1 (12 * j) - zm_so (12 * j) (zm_it (12 * j) (p2, 0, ly j, lp, lq) i))) (12 * j) k) (12 * j + k) ((zm_sh (upd (zm_it (12 * j) (p2, 0, ly j, lp, lq) i).2.2.2.1 (12 * j) ((zm_it (12 * j) (p2, 0, ly j, lp, lq) i).2.2.2.1 (12 * j) - zm_so (12 * j) (zm_it (12 * j) (p2, 0, ly j, lp, lq) i))) (12 * j) k) (12 * j + k + 1))))), (m0, .inr (6, [.int 0, .int (nI M.1), .ref m1, .ref m2, .int (nI bt), .ref m3, .int (nI ln), .ref m4, .ref m5, .int (nI cl), .ref m6, .ref m7, .ref m8, .ref m9, .ref m10, .ref m11, .ref m12, .int (nI pn), .ref m13, .ref m14]))] := hD
                    refine lv_aload_n hx hb dX6_take_209 rfl (lv_at hl 0 rfl) ?_
                    refine va_get (D := D.1) (ci := 6) (v := .ref m9) (C := "ShopLedgerModel") (T := TX6) (N := 20) hx hb hZ inX6 hown hK hP 3 rfl rfl 13 (by decide) (hZ _ t_315) (fun _ h9 => h9) rfl dX6_take_210 ?_
                    refine lv_iload hx hb dX6_take_213 (lv_at hl 4 rfl) ?_
                    refine lv_iload hx hb dX6_take_215 (lv_at hl 5 rfl) ?_
                    refine lv_iadd hx hb dX6_take_217 ?_
                    rw [show ((nI (12 * j)) + (nI k)) = nI (12 * j + k) from nI_add _ _]
                    refine lv_aload_n hx hb dX6_take_218 rfl (lv_at hl 0 rfl) ?_
                    refine va_get (D := D.1) (ci := 6) (v := .ref m9) (C := "ShopLedgerModel") (T := TX6) (N := 20) hx hb hZ inX6 hown hK hP 3 rfl rfl 13 (by decide) (hZ _ t_315) (fun _ h9 => h9) rfl dX6_take_219 ?_
                    refine lv_iload hx hb dX6_take_222 (lv_at hl 4 rfl) ?_
                    refine lv_iload hx hb dX6_take_224 (lv_at hl 5 rfl) ?_
                    refine lv_iadd hx hb dX6_take_226 ?_
                    rw [show ((nI (12 * j)) + (nI k)) = nI (12 * j + k) from nI_add _ _]
                    refine lv_iconst (v := 1) hx hb dX6_take_227 (by decide) ?_
                    refine lv_iadd hx hb dX6_take_228 ?_
                    rw [show ((nI (12 * j + k)) + 1) = nI (12 * j + k + 1) from nI_1 _]
                    refine z_iald (k := 12 * j + k + 1) hx hb hK hP 0 rfl (by omega) (by decide) dX6_take_229 ?_
                    refine z_iast (k := 12 * j + k) hx hb hK hP hD hS 0 rfl (by omega) (by decide) dX6_take_230 (fun H locs hP hD hS => ?_)
                    have hP : va_P D.1 vwCl [(m9, .inl (D.2 0, 48, .inl (upd (zm_sh (zm_it (12 * j) (p2, 0, ly j, lp, lq) i).2.2.2.2 (12 * j) k) (12 * j + k) ((zm_sh (zm_it (12 * j) (p2, 0, ly j, lp, lq) i).2.2.2.2 (12 * j) k) (12 * j + k + 1))))), (m7, .inl (D.2 0, 4, .inl (fun x => nI (va_up ly j ((zm_it (12 * j) (p2, 0, ly j, lp, lq) i).2.2.1 - 1) x)))), (m8, .inl (D.2 0, 48, .inl (upd (zm_sh (upd (zm_it (12 * j) (p2, 0, ly j, lp, lq) i).2.2.2.1 (12 * j) ((zm_it (12 * j) (p2, 0, ly j, lp, lq) i).2.2.2.1 (12 * j) - zm_so (12 * j) (zm_it (12 * j) (p2, 0, ly j, lp, lq) i))) (12 * j) k) (12 * j + k) ((zm_sh (upd (zm_it (12 * j) (p2, 0, ly j, lp, lq) i).2.2.2.1 (12 * j) ((zm_it (12 * j) (p2, 0, ly j, lp, lq) i).2.2.2.1 (12 * j) - zm_so (12 * j) (zm_it (12 * j) (p2, 0, ly j, lp, lq) i))) (12 * j) k) (12 * j + k + 1))))), (m0, .inr (6, [.int 0, .int (nI M.1), .ref m1, .ref m2, .int (nI bt), .ref m3, .int (nI ln), .ref m4, .ref m5, .int (nI cl), .ref m6, .ref m7, .ref m8, .ref m9, .ref m10, .ref m11, .ref m12, .int (nI pn), .ref m13, .ref m14]))] H := hP
                    have hD : va_D A [(m9, .inl (D.2 0, 48, .inl (upd (zm_sh (zm_it (12 * j) (p2, 0, ly j, lp, lq) i).2.2.2.2 (12 * j) k) (12 * j + k) ((zm_sh (zm_it (12 * j) (p2, 0, ly j, lp, lq) i).2.2.2.2 (12 * j) k) (12 * j + k + 1))))), (m7, .inl (D.2 0, 4, .inl (fun x => nI (va_up ly j ((zm_it (12 * j) (p2, 0, ly j, lp, lq) i).2.2.1 - 1) x)))), (m8, .inl (D.2 0, 48, .inl (upd (zm_sh (upd (zm_it (12 * j) (p2, 0, ly j, lp, lq) i).2.2.2.1 (12 * j) ((zm_it (12 * j) (p2, 0, ly j, lp, lq) i).2.2.2.1 (12 * j) - zm_so (12 * j) (zm_it (12 * j) (p2, 0, ly j, lp, lq) i))) (12 * j) k) (12 * j + k) ((zm_sh (upd (zm_it (12 * j) (p2, 0, ly j, lp, lq) i).2.2.2.1 (12 * j) ((zm_it (12 * j) (p2, 0, ly j, lp, lq) i).2.2.2.1 (12 * j) - zm_so (12 * j) (zm_it (12 * j) (p2, 0, ly j, lp, lq) i))) (12 * j) k) (12 * j + k + 1))))), (m0, .inr (6, [.int 0, .int (nI M.1), .ref m1, .ref m2, .int (nI bt), .ref m3, .int (nI ln), .ref m4, .ref m5, .int (nI cl), .ref m6, .ref m7, .ref m8, .ref m9, .ref m10, .ref m11, .ref m12, .int (nI pn), .ref m13, .ref m14]))] := hD
                    refine lv_iinc (v := nI (k + 1)) (lv' := [(9, .int (nI (k + 1))), (0, .ref m0), (1, .int (nI j)), (4, .long ((zm_it (12 * j) (p2, 0, ly j, lp, lq) i).2.1 + (zm_so (12 * j) (zm_it (12 * j) (p2, 0, ly j, lp, lq) i)).toInt64 * ((zm_it (12 * j) (p2, 0, ly j, lp, lq) i).2.2.2.2 (12 * j)).toInt64)), (6, .int ((zm_it (12 * j) (p2, 0, ly j, lp, lq) i).1 - zm_so (12 * j) (zm_it (12 * j) (p2, 0, ly j, lp, lq) i))), (7, .int (nI (12 * j)))]) hx hb dX6_take_231 hl (k := 5) rfl (nI_1 k) (by decide) rfl (fun ls hl => ?_)
                    refine lv_goto (tgt := 176) hx hb dX6_take_234 (by decide) ?_
                    exact ih_lo2 (k + 1) (by omega) (by omega) _ _ (hP.sub [0, 1, 2, 3] rfl) (hD.sub [0, 1, 2, 3] (by decide) rfl) hS ls (lv_sub hl [1, 2, 3, 4, 5, 0] rfl)
                exact lo2 ((zm_it (12 * j) (p2, 0, ly j, lp, lq) i).2.2.1 - 1 + 1) 0 (Nat.zero_le _) (by omega) _ _ (hP.sub [0, 1, 2, 3] rfl) (hD.sub [0, 1, 2, 3] (by decide) rfl) hS ls (lv_sub hl [4, 5, 2, 1, 6, 0] rfl)
            exact lo1 (N + 1) 0 (Nat.zero_le _) (by omega) _ _ (hP.sub [0, 1, 2, 3] rfl) (hD.sub [0, 1, 2, 3] (by decide) rfl) hS ls (lv_sub hl [4, 5, 2, 1, 0] rfl)
          exfalso; exact absurd c6 (by decide)
        have me : ¬ (¬ zm_lsum lp (12 * j) (ly j) < p2.toInt64) := fun h => c5 ((lg_cmp_ge _ _).mpr (Int64.not_lt.mp h))
        refine lv_iconst (v := 1) hx hb dX6_take_60 (by decide) ?_
        refine lv_goto (tgt := 65) hx hb dX6_take_61 (by decide) ?_
        refine lv_iconst (v := 0) hx hb dX6_take_65 (by decide) ?_
        have J := zJ.mk (wc := [(m0, .inr (6, [.int th, .int (nI M.1), .ref m1, .ref m2, .int (nI bt), .ref m3, .int (nI ln), .ref m4, .ref m5, .int (nI cl), .ref m6, .ref m7, .ref m8, .ref m9, .ref m10, .ref m11, .ref m12, .int (nI pn), .ref m13, .ref m14]))]) (wr := [(m9, .inl (D.2 0, 48, .inl lq)), (m7, .inl (D.2 0, 4, .inl (fun i => nI (ly i)))), (m8, .inl (D.2 0, 48, .inl lp))]) hA hB hK hP hD hS [1] [0, 2, 3] rfl rfl (by decide)
        refine z_goi (z_runV (As := [.int 0, .int 0, .int 1, .int 0]) (rest := []) (b := m0) hF (d_throwing D m0 m1 m2 m3 m4 m5 m6 m7 m8 m9 m10 m11 m12 m13 m14 (M.1, fun _ => 0, fun _ => 0) bt ln cl pn th 0 0 1 0 H.size) (cwV 4 hZ (z_gV t_286 t_287 t_288 t_272 t_285) rfl rfl rfl (by decide +kernel) ⟨Nat.le_of_ble_eq_true rfl, Nat.le_of_ble_eq_true rfl⟩) J 0 6 rfl rfl rfl rfl hl.1 (Nat.le_of_ble_eq_true rfl) dX6_take_66 ⟨Nat.le_of_ble_eq_true rfl, Nat.le_of_ble_eq_true rfl⟩) J (fun r4 _ H locs w4 hP hD hS => ?_)
        have hP : va_P D.1 vwCl [(m9, .inl (D.2 0, 48, .inl lq)), (m7, .inl (D.2 0, 4, .inl (fun i => nI (ly i)))), (m8, .inl (D.2 0, 48, .inl lp)), (m0, .inr (6, [.int 3, .int (nI M.1), .ref m1, .ref m2, .int (nI bt), .ref m3, .int (nI ln), .ref m4, .ref m5, .int (nI cl), .ref m6, .ref m7, .ref m8, .ref m9, .ref m10, .ref m11, .ref m12, .int (nI pn), .ref m13, .ref m14]))] H := hP
        have hD : va_D A [(m9, .inl (D.2 0, 48, .inl lq)), (m7, .inl (D.2 0, 4, .inl (fun i => nI (ly i)))), (m8, .inl (D.2 0, 48, .inl lp)), (m0, .inr (6, [.int 3, .int (nI M.1), .ref m1, .ref m2, .int (nI bt), .ref m3, .int (nI ln), .ref m4, .ref m5, .int (nI cl), .ref m6, .ref m7, .ref m8, .ref m9, .ref m10, .ref m11, .ref m12, .int (nI pn), .ref m13, .ref m14]))] := hD
        have w4 : r4 = 1 := w4
        subst w4
        refine lv_if_eq (tgt := 74) hx hb dX6_take_69 (by decide) (fun c6 => ?_) (fun c6 => ?_)
        · skip
          exfalso; exact absurd c6 (by decide)
        refine lv_lconst (v := 0) hx hb dX6_take_72 (by decide) ?_
        exact z_lret (v := 0) hx hb hr hlocks hP hD hS (some 3) (Or.inr (Or.inr (Or.inr (⟨rfl, trivial, rg, me⟩)))) [3, 1, 2, 0] rfl (by decide) (Nat.le_of_ble_eq_true rfl) (Nat.le_of_ble_eq_true rfl) dX6_take_73
      exfalso; exact absurd c4 (by decide)
    have rg := z_b0 f2 c2
    refine lv_iconst (v := 1) hx hb dX6_take_32 (by decide) ?_
    refine lv_goto (tgt := 37) hx hb dX6_take_33 (by decide) ?_
    refine lv_iload_n hx hb dX6_take_37 rfl (lv_at hl 0 rfl) ?_
    refine lv_if_ne (tgt := 64) hx hb dX6_take_38 (by decide) (fun c3 => ?_) (fun c3 => ?_)
    · skip
      exfalso; exact absurd c3 (by decide)
    refine lv_aload_n hx hb dX6_take_41 rfl (lv_at hl 1 rfl) ?_
    refine lv_iload_n hx hb dX6_take_42 rfl (lv_at hl 0 rfl) ?_
    refine lv_if_eq (tgt := 50) hx hb dX6_take_43 (by decide) (fun c4 => ?_) (fun c4 => ?_)
    · skip
      refine lv_iload_n hx hb dX6_take_50 rfl (lv_at hl 2 rfl) ?_
      have J := zJ.mk (wc := [(m0, .inr (6, [.int th, .int (nI M.1), .ref m1, .ref m2, .int (nI bt), .ref m3, .int (nI ln), .ref m4, .ref m5, .int (nI cl), .ref m6, .ref m7, .ref m8, .ref m9, .ref m10, .ref m11, .ref m12, .int (nI pn), .ref m13, .ref m14])), (m7, .inl (D.2 0, 4, .inl (fun i => nI (ly i)))), (m8, .inl (D.2 0, 48, .inl lp))]) (wr := [(m9, .inl (D.2 0, 48, .inl lq))]) hA hB hK hP hD hS [0, 1, 2] [3] rfl rfl (by decide)
      refine z_gol (z_runV (As := [.int (nI j)]) (rest := [.int 1, .int 0, .ref m0]) (b := m0) hF (d_stocked D m0 m1 m2 m3 m4 m5 m6 m7 m8 m9 m10 m11 m12 m13 m14 M bt ln cl pn th ly lp lq j H.size hj hy) (cwV 1 hZ (z_gV t_318 t_319 t_320 t_272 t_317) rfl rfl rfl (by decide +kernel) ⟨Nat.le_of_ble_eq_true rfl, Nat.le_of_ble_eq_true rfl⟩) J 0 6 rfl rfl rfl rfl hl.1 (Nat.le_of_ble_eq_true rfl) dX6_take_51 ⟨Nat.le_of_ble_eq_true rfl, Nat.le_of_ble_eq_true rfl⟩) J (fun r3 _ H locs w3 hP hD hS => ?_)
      have hP : va_P D.1 vwCl [(m9, .inl (D.2 0, 48, .inl lq)), (m0, .inr (6, [.int th, .int (nI M.1), .ref m1, .ref m2, .int (nI bt), .ref m3, .int (nI ln), .ref m4, .ref m5, .int (nI cl), .ref m6, .ref m7, .ref m8, .ref m9, .ref m10, .ref m11, .ref m12, .int (nI pn), .ref m13, .ref m14])), (m7, .inl (D.2 0, 4, .inl (fun i => nI (ly i)))), (m8, .inl (D.2 0, 48, .inl lp))] H := hP
      have hD : va_D A [(m9, .inl (D.2 0, 48, .inl lq)), (m0, .inr (6, [.int th, .int (nI M.1), .ref m1, .ref m2, .int (nI bt), .ref m3, .int (nI ln), .ref m4, .ref m5, .int (nI cl), .ref m6, .ref m7, .ref m8, .ref m9, .ref m10, .ref m11, .ref m12, .int (nI pn), .ref m13, .ref m14])), (m7, .inl (D.2 0, 4, .inl (fun i => nI (ly i)))), (m8, .inl (D.2 0, 48, .inl lp))] := hD
      subst w3
      refine lv_iload_n hx hb dX6_take_54 rfl (lv_at hl 3 rfl) ?_
      refine lv_i2l (v := p2.toInt64) hx hb dX6_take_55 rfl ?_
      refine W.lcmp hx hb dX6_take_56 ?_
      refine lv_if_ge (tgt := 64) hx hb dX6_take_57 (by decide) (fun c5 => ?_) (fun c5 => ?_)
      · skip
        have me : ¬ zm_lsum lp (12 * j) (ly j) < p2.toInt64 := fun h => Int64.not_lt.mpr ((lg_cmp_ge _ _).mp c5) h
        refine lv_iconst (v := 0) hx hb dX6_take_64 (by decide) ?_
        refine lv_iconst (v := 0) hx hb dX6_take_65 (by decide) ?_
        have J := zJ.mk (wc := [(m0, .inr (6, [.int th, .int (nI M.1), .ref m1, .ref m2, .int (nI bt), .ref m3, .int (nI ln), .ref m4, .ref m5, .int (nI cl), .ref m6, .ref m7, .ref m8, .ref m9, .ref m10, .ref m11, .ref m12, .int (nI pn), .ref m13, .ref m14]))]) (wr := [(m9, .inl (D.2 0, 48, .inl lq)), (m7, .inl (D.2 0, 4, .inl (fun i => nI (ly i)))), (m8, .inl (D.2 0, 48, .inl lp))]) hA hB hK hP hD hS [1] [0, 2, 3] rfl rfl (by decide)
        refine z_goi (z_runV (As := [.int 0, .int 1, .int 0, .int 0]) (rest := []) (b := m0) hF (d_throwing D m0 m1 m2 m3 m4 m5 m6 m7 m8 m9 m10 m11 m12 m13 m14 (M.1, fun _ => 0, fun _ => 0) bt ln cl pn th 0 1 0 0 H.size) (cwV 4 hZ (z_gV t_286 t_287 t_288 t_272 t_285) rfl rfl rfl (by decide +kernel) ⟨Nat.le_of_ble_eq_true rfl, Nat.le_of_ble_eq_true rfl⟩) J 0 6 rfl rfl rfl rfl hl.1 (Nat.le_of_ble_eq_true rfl) dX6_take_66 ⟨Nat.le_of_ble_eq_true rfl, Nat.le_of_ble_eq_true rfl⟩) J (fun r4 _ H locs w4 hP hD hS => ?_)
        have hP : va_P D.1 vwCl [(m9, .inl (D.2 0, 48, .inl lq)), (m7, .inl (D.2 0, 4, .inl (fun i => nI (ly i)))), (m8, .inl (D.2 0, 48, .inl lp)), (m0, .inr (6, [.int 2, .int (nI M.1), .ref m1, .ref m2, .int (nI bt), .ref m3, .int (nI ln), .ref m4, .ref m5, .int (nI cl), .ref m6, .ref m7, .ref m8, .ref m9, .ref m10, .ref m11, .ref m12, .int (nI pn), .ref m13, .ref m14]))] H := hP
        have hD : va_D A [(m9, .inl (D.2 0, 48, .inl lq)), (m7, .inl (D.2 0, 4, .inl (fun i => nI (ly i)))), (m8, .inl (D.2 0, 48, .inl lp)), (m0, .inr (6, [.int 2, .int (nI M.1), .ref m1, .ref m2, .int (nI bt), .ref m3, .int (nI ln), .ref m4, .ref m5, .int (nI cl), .ref m6, .ref m7, .ref m8, .ref m9, .ref m10, .ref m11, .ref m12, .int (nI pn), .ref m13, .ref m14]))] := hD
        have w4 : r4 = 1 := w4
        subst w4
        refine lv_if_eq (tgt := 74) hx hb dX6_take_69 (by decide) (fun c6 => ?_) (fun c6 => ?_)
        · skip
          exfalso; exact absurd c6 (by decide)
        refine lv_lconst (v := 0) hx hb dX6_take_72 (by decide) ?_
        exact z_lret (v := 0) hx hb hr hlocks hP hD hS (some 2) (Or.inr (Or.inr (Or.inl ⟨rfl, trivial, rg⟩))) [3, 1, 2, 0] rfl (by decide) (Nat.le_of_ble_eq_true rfl) (Nat.le_of_ble_eq_true rfl) dX6_take_73
      have me : ¬ (¬ zm_lsum lp (12 * j) (ly j) < p2.toInt64) := fun h => c5 ((lg_cmp_ge _ _).mpr (Int64.not_lt.mp h))
      refine lv_iconst (v := 1) hx hb dX6_take_60 (by decide) ?_
      refine lv_goto (tgt := 65) hx hb dX6_take_61 (by decide) ?_
      refine lv_iconst (v := 0) hx hb dX6_take_65 (by decide) ?_
      have J := zJ.mk (wc := [(m0, .inr (6, [.int th, .int (nI M.1), .ref m1, .ref m2, .int (nI bt), .ref m3, .int (nI ln), .ref m4, .ref m5, .int (nI cl), .ref m6, .ref m7, .ref m8, .ref m9, .ref m10, .ref m11, .ref m12, .int (nI pn), .ref m13, .ref m14]))]) (wr := [(m9, .inl (D.2 0, 48, .inl lq)), (m7, .inl (D.2 0, 4, .inl (fun i => nI (ly i)))), (m8, .inl (D.2 0, 48, .inl lp))]) hA hB hK hP hD hS [1] [0, 2, 3] rfl rfl (by decide)
      refine z_goi (z_runV (As := [.int 0, .int 1, .int 1, .int 0]) (rest := []) (b := m0) hF (d_throwing D m0 m1 m2 m3 m4 m5 m6 m7 m8 m9 m10 m11 m12 m13 m14 (M.1, fun _ => 0, fun _ => 0) bt ln cl pn th 0 1 1 0 H.size) (cwV 4 hZ (z_gV t_286 t_287 t_288 t_272 t_285) rfl rfl rfl (by decide +kernel) ⟨Nat.le_of_ble_eq_true rfl, Nat.le_of_ble_eq_true rfl⟩) J 0 6 rfl rfl rfl rfl hl.1 (Nat.le_of_ble_eq_true rfl) dX6_take_66 ⟨Nat.le_of_ble_eq_true rfl, Nat.le_of_ble_eq_true rfl⟩) J (fun r4 _ H locs w4 hP hD hS => ?_)
      have hP : va_P D.1 vwCl [(m9, .inl (D.2 0, 48, .inl lq)), (m7, .inl (D.2 0, 4, .inl (fun i => nI (ly i)))), (m8, .inl (D.2 0, 48, .inl lp)), (m0, .inr (6, [.int 2, .int (nI M.1), .ref m1, .ref m2, .int (nI bt), .ref m3, .int (nI ln), .ref m4, .ref m5, .int (nI cl), .ref m6, .ref m7, .ref m8, .ref m9, .ref m10, .ref m11, .ref m12, .int (nI pn), .ref m13, .ref m14]))] H := hP
      have hD : va_D A [(m9, .inl (D.2 0, 48, .inl lq)), (m7, .inl (D.2 0, 4, .inl (fun i => nI (ly i)))), (m8, .inl (D.2 0, 48, .inl lp)), (m0, .inr (6, [.int 2, .int (nI M.1), .ref m1, .ref m2, .int (nI bt), .ref m3, .int (nI ln), .ref m4, .ref m5, .int (nI cl), .ref m6, .ref m7, .ref m8, .ref m9, .ref m10, .ref m11, .ref m12, .int (nI pn), .ref m13, .ref m14]))] := hD
      have w4 : r4 = 1 := w4
      subst w4
      refine lv_if_eq (tgt := 74) hx hb dX6_take_69 (by decide) (fun c6 => ?_) (fun c6 => ?_)
      · skip
        exfalso; exact absurd c6 (by decide)
      refine lv_lconst (v := 0) hx hb dX6_take_72 (by decide) ?_
      exact z_lret (v := 0) hx hb hr hlocks hP hD hS (some 2) (Or.inr (Or.inr (Or.inl ⟨rfl, trivial, rg⟩))) [3, 1, 2, 0] rfl (by decide) (Nat.le_of_ble_eq_true rfl) (Nat.le_of_ble_eq_true rfl) dX6_take_73
    exfalso; exact absurd c4 (by decide)
  exfalso; exact z_b0 f1 c1 ⟨nI_pos (by omega), nI_ge hj (by decide)⟩
set_option maxHeartbeats 4000000 in
set_option maxRecDepth 100000 in
/-- the reference: take -/
theorem d_takeX {l : Launch} (D : zD) (m0 m1 m2 m3 m4 m5 m6 m7 m8 m9 m10 m11 m12 m13 m14 : Nat) (M : zM) (bt ln cl pn : Nat) (th : Int32) (p1 p2 : Int32) (sz : Nat) (hp : ¬ zin p1 4) : Met l yX6_take wsX6_take ({ frames := 1, cells := 0, slots := 0, locals := 25 }) (va_Pc [.ref m0, .int p1, .int p2] (zp D sz [(m0, .inr (6, [.int th, .int (nI M.1), .ref m1, .ref m2, .int (nI bt), .ref m3, .int (nI ln), .ref m4, .ref m5, .int (nI cl), .ref m6, .ref m7, .ref m8, .ref m9, .ref m10, .ref m11, .ref m12, .int (nI pn), .ref m13, .ref m14]))])) (va_Ql (fun r (u : Option Int32) => (u = none ∧ (zin p1 4) ∧ r = 0) ∨ (u = some 1 ∧ ¬ (zin p1 4))) (zq D (va_A [(m0, .inr (6, [.int th, .int (nI M.1), .ref m1, .ref m2, .int (nI bt), .ref m3, .int (nI ln), .ref m4, .ref m5, .int (nI cl), .ref m6, .ref m7, .ref m8, .ref m9, .ref m10, .ref m11, .ref m12, .int (nI pn), .ref m13, .ref m14]))] sz) (fun (u : Option Int32) => (u.elim [(m0, .inr (6, [.int 0, .int (nI M.1), .ref m1, .ref m2, .int (nI bt), .ref m3, .int (nI ln), .ref m4, .ref m5, .int (nI cl), .ref m6, .ref m7, .ref m8, .ref m9, .ref m10, .ref m11, .ref m12, .int (nI pn), .ref m13, .ref m14]))] (fun t => [(m0, .inr (6, [.int t, .int (nI M.1), .ref m1, .ref m2, .int (nI bt), .ref m3, .int (nI ln), .ref m4, .ref m5, .int (nI cl), .ref m6, .ref m7, .ref m8, .ref m9, .ref m10, .ref m11, .ref m12, .int (nI pn), .ref m13, .ref m14]))]) : va_W))) (va_A [(m0, .inr (6, [.int th, .int (nI M.1), .ref m1, .ref m2, .int (nI bt), .ref m3, .int (nI ln), .ref m4, .ref m5, .int (nI cl), .ref m6, .ref m7, .ref m8, .ref m9, .ref m10, .ref m11, .ref m12, .int (nI pn), .ref m13, .ref m14]))] sz)) 0 0 (va_A [(m0, .inr (6, [.int th, .int (nI M.1), .ref m1, .ref m2, .int (nI bt), .ref m3, .int (nI ln), .ref m4, .ref m5, .int (nI cl), .ref m6, .ref m7, .ref m8, .ref m9, .ref m10, .ref m11, .ref m12, .int (nI pn), .ref m13, .ref m14]))] sz) := by
  refine Met.ofW (cc := cX6_take) (maxL := 10) (ret := (some .long)) (by decide) rfl ?_
  intro p e s m args below meth c s₁ B hml hv
  obtain ⟨rfl, hsz, hP, hK, hD0, hB⟩ := hv
  have hx := B.exec
  have hb := B.bytes
  have hr := B.returns
  have hts := atoms_spec (ws := wsX6_take) B.pre
  have hown : s.vm.findClass "ShopLedgerModel" = some m.cls := findClass_of_methodNamed B.named
  have hlocks := B.notSynchronized
  subst hsz
  have hD := hD0.self (sz := s.heap.size)
  generalize hAe : va_A [(m0, .inr (6, [.int th, .int (nI M.1), .ref m1, .ref m2, .int (nI bt), .ref m3, .int (nI ln), .ref m4, .ref m5, .int (nI cl), .ref m6, .ref m7, .ref m8, .ref m9, .ref m10, .ref m11, .ref m12, .int (nI pn), .ref m13, .ref m14]))] s.heap.size = A at hD hB ⊢
  have hA : ∀ q : Nat, s.heap.size ≤ q → A q := fun q h => by rw [← hAe]; exact Or.inr h
  have hS : va_S A s.heap s.heap [] := va_S.rf
  have hZ : ∀ w ∈ zALL, w.before _ s = true := fun w h => hts w (List.mem_cons_of_mem _ h)
  have hF : CallFix p m c cX6_take 10 s _ zALL "ShopLedgerModel" := ⟨hx, hb, hml, hown, hZ⟩
  have hl := lv_entry ([.ref m0, .int p1, .int p2]) (n := 10) (Nat.le_of_ble_eq_true rfl)
  rw [lg_entry_eq]
  generalize (lg_sl ([.ref m0, .int p1, .int p2]) ++ List.replicate (10 - (lg_sl ([.ref m0, .int p1, .int p2])).length) Slot.unset).toArray = ls at hl ⊢
  have hl : lv_has ls 10 [(0, .ref m0), (1, .int p1), (2, .int p2)] := hl
  refine lv_iload_n hx hb dX6_take_0 rfl (lv_at hl 1 rfl) ?_
  refine lv_i2l (v := p1.toInt64) hx hb dX6_take_1 rfl ?_
  refine lv_lconst (v := 0) hx hb dX6_take_2 (by decide) ?_
  refine lv_ldc2 (v := 3) hx hb hown (hZ _ t_314) dX6_take_3 ?_
  have J := zJ.mk (wc := []) (wr := [(m0, .inr (6, [.int th, .int (nI M.1), .ref m1, .ref m2, .int (nI bt), .ref m3, .int (nI ln), .ref m4, .ref m5, .int (nI cl), .ref m6, .ref m7, .ref m8, .ref m9, .ref m10, .ref m11, .ref m12, .int (nI pn), .ref m13, .ref m14]))]) hA hB hK hP hD hS [] [0] rfl rfl (by decide)
  refine z_goi (z_runS (As := [.long p1.toInt64, .long 0, .long 3]) (rest := []) hF (d_lies D p1.toInt64 0 3 s.heap.size) (va_cwS 3 hZ (z_gS t_273 t_274 t_272 t_271) rfl rfl rfl (by decide +kernel) ⟨Nat.le_of_ble_eq_true rfl, Nat.le_of_ble_eq_true rfl⟩) J rfl hl.1 (Nat.le_of_ble_eq_true rfl) dX6_take_6 ⟨Nat.le_of_ble_eq_true rfl, Nat.le_of_ble_eq_true rfl⟩) J (fun r1 _ H locs w1 hP hD hS => ?_)
  have hP : va_P D.1 vwCl [(m0, .inr (6, [.int th, .int (nI M.1), .ref m1, .ref m2, .int (nI bt), .ref m3, .int (nI ln), .ref m4, .ref m5, .int (nI cl), .ref m6, .ref m7, .ref m8, .ref m9, .ref m10, .ref m11, .ref m12, .int (nI pn), .ref m13, .ref m14]))] H := hP
  have hD : va_D A [(m0, .inr (6, [.int th, .int (nI M.1), .ref m1, .ref m2, .int (nI bt), .ref m3, .int (nI ln), .ref m4, .ref m5, .int (nI cl), .ref m6, .ref m7, .ref m8, .ref m9, .ref m10, .ref m11, .ref m12, .int (nI pn), .ref m13, .ref m14]))] := hD
  have f1 : (r1 = 1 ∧ zin p1 4) ∨ (r1 = 0 ∧ ¬ zin p1 4) := z_lz 3 (by decide) (by decide) w1
  refine lv_if_ne (tgt := 16) hx hb dX6_take_9 (by decide) (fun c1 => ?_) (fun c1 => ?_)
  · skip
    exfalso; exact hp (z_b1 f1 c1)
  refine lv_iconst (v := 1) hx hb dX6_take_12 (by decide) ?_
  refine lv_goto (tgt := 17) hx hb dX6_take_13 (by decide) ?_
  refine lv_istore_n (lv' := [(3, .int 1), (0, .ref m0), (1, .int p1), (2, .int p2)]) hx hb dX6_take_17 rfl hl (by decide) rfl (fun ls hl => ?_)
  refine lv_aload_n hx hb dX6_take_18 rfl (lv_at hl 1 rfl) ?_
  refine lv_iload_n hx hb dX6_take_19 rfl (lv_at hl 0 rfl) ?_
  refine lv_iload_n hx hb dX6_take_20 rfl (lv_at hl 3 rfl) ?_
  refine lv_i2l (v := p2.toInt64) hx hb dX6_take_21 rfl ?_
  refine lv_lconst (v := 1) hx hb dX6_take_22 (by decide) ?_
  refine lv_ldc2 (v := 1000000) hx hb hown (hZ _ t_296) dX6_take_23 ?_
  have J := zJ.mk (wc := []) (wr := [(m0, .inr (6, [.int th, .int (nI M.1), .ref m1, .ref m2, .int (nI bt), .ref m3, .int (nI ln), .ref m4, .ref m5, .int (nI cl), .ref m6, .ref m7, .ref m8, .ref m9, .ref m10, .ref m11, .ref m12, .int (nI pn), .ref m13, .ref m14]))]) hA hB hK hP hD hS [] [0] rfl rfl (by decide)
  refine z_goi (z_runS (As := [.long p2.toInt64, .long 1, .long 1000000]) (rest := [.int 1, .ref m0]) hF (d_lies D p2.toInt64 1 1000000 H.size) (va_cwS 3 hZ (z_gS t_273 t_274 t_272 t_271) rfl rfl rfl (by decide +kernel) ⟨Nat.le_of_ble_eq_true rfl, Nat.le_of_ble_eq_true rfl⟩) J rfl hl.1 (Nat.le_of_ble_eq_true rfl) dX6_take_26 ⟨Nat.le_of_ble_eq_true rfl, Nat.le_of_ble_eq_true rfl⟩) J (fun r2 _ H locs w2 hP hD hS => ?_)
  have hP : va_P D.1 vwCl [(m0, .inr (6, [.int th, .int (nI M.1), .ref m1, .ref m2, .int (nI bt), .ref m3, .int (nI ln), .ref m4, .ref m5, .int (nI cl), .ref m6, .ref m7, .ref m8, .ref m9, .ref m10, .ref m11, .ref m12, .int (nI pn), .ref m13, .ref m14]))] H := hP
  have hD : va_D A [(m0, .inr (6, [.int th, .int (nI M.1), .ref m1, .ref m2, .int (nI bt), .ref m3, .int (nI ln), .ref m4, .ref m5, .int (nI cl), .ref m6, .ref m7, .ref m8, .ref m9, .ref m10, .ref m11, .ref m12, .int (nI pn), .ref m13, .ref m14]))] := hD
  have f2 : (r2 = 1 ∧ ¬ p2 < 1 ∧ p2 ≤ 1000000) ∨ (r2 = 0 ∧ ¬ (¬ p2 < 1 ∧ p2 ≤ 1000000)) := z_li (a := 1) (b := 1000000) (by decide) (by decide) w2
  refine lv_if_ne (tgt := 36) hx hb dX6_take_29 (by decide) (fun c2 => ?_) (fun c2 => ?_)
  · skip
    refine lv_iconst (v := 0) hx hb dX6_take_36 (by decide) ?_
    refine lv_iload_n hx hb dX6_take_37 rfl (lv_at hl 0 rfl) ?_
    refine lv_if_ne (tgt := 64) hx hb dX6_take_38 (by decide) (fun c3 => ?_) (fun c3 => ?_)
    · skip
      refine lv_iconst (v := 0) hx hb dX6_take_64 (by decide) ?_
      refine lv_iconst (v := 0) hx hb dX6_take_65 (by decide) ?_
      have J := zJ.mk (wc := [(m0, .inr (6, [.int th, .int (nI M.1), .ref m1, .ref m2, .int (nI bt), .ref m3, .int (nI ln), .ref m4, .ref m5, .int (nI cl), .ref m6, .ref m7, .ref m8, .ref m9, .ref m10, .ref m11, .ref m12, .int (nI pn), .ref m13, .ref m14]))]) (wr := []) hA hB hK hP hD hS [0] [] rfl rfl (by decide)
      refine z_goi (z_runV (As := [.int 1, .int 0, .int 0, .int 0]) (rest := []) (b := m0) hF (d_throwing D m0 m1 m2 m3 m4 m5 m6 m7 m8 m9 m10 m11 m12 m13 m14 (M.1, fun _ => 0, fun _ => 0) bt ln cl pn th 1 0 0 0 H.size) (cwV 4 hZ (z_gV t_286 t_287 t_288 t_272 t_285) rfl rfl rfl (by decide +kernel) ⟨Nat.le_of_ble_eq_true rfl, Nat.le_of_ble_eq_true rfl⟩) J 0 6 rfl rfl rfl rfl hl.1 (Nat.le_of_ble_eq_true rfl) dX6_take_66 ⟨Nat.le_of_ble_eq_true rfl, Nat.le_of_ble_eq_true rfl⟩) J (fun r4 _ H locs w4 hP hD hS => ?_)
      have hP : va_P D.1 vwCl [(m0, .inr (6, [.int 1, .int (nI M.1), .ref m1, .ref m2, .int (nI bt), .ref m3, .int (nI ln), .ref m4, .ref m5, .int (nI cl), .ref m6, .ref m7, .ref m8, .ref m9, .ref m10, .ref m11, .ref m12, .int (nI pn), .ref m13, .ref m14]))] H := hP
      have hD : va_D A [(m0, .inr (6, [.int 1, .int (nI M.1), .ref m1, .ref m2, .int (nI bt), .ref m3, .int (nI ln), .ref m4, .ref m5, .int (nI cl), .ref m6, .ref m7, .ref m8, .ref m9, .ref m10, .ref m11, .ref m12, .int (nI pn), .ref m13, .ref m14]))] := hD
      have w4 : r4 = 1 := w4
      subst w4
      refine lv_if_eq (tgt := 74) hx hb dX6_take_69 (by decide) (fun c6 => ?_) (fun c6 => ?_)
      · skip
        exfalso; exact absurd c6 (by decide)
      refine lv_lconst (v := 0) hx hb dX6_take_72 (by decide) ?_
      exact z_lret (v := 0) hx hb hr hlocks hP hD hS (some 1) (Or.inr (⟨rfl, hp⟩)) [0] rfl (by decide) (Nat.le_of_ble_eq_true rfl) (Nat.le_of_ble_eq_true rfl) dX6_take_73
    exfalso; exact absurd c3 (by decide)
  refine lv_iconst (v := 1) hx hb dX6_take_32 (by decide) ?_
  refine lv_goto (tgt := 37) hx hb dX6_take_33 (by decide) ?_
  refine lv_iload_n hx hb dX6_take_37 rfl (lv_at hl 0 rfl) ?_
  refine lv_if_ne (tgt := 64) hx hb dX6_take_38 (by decide) (fun c3 => ?_) (fun c3 => ?_)
  · skip
    refine lv_iconst (v := 0) hx hb dX6_take_64 (by decide) ?_
    refine lv_iconst (v := 0) hx hb dX6_take_65 (by decide) ?_
    have J := zJ.mk (wc := [(m0, .inr (6, [.int th, .int (nI M.1), .ref m1, .ref m2, .int (nI bt), .ref m3, .int (nI ln), .ref m4, .ref m5, .int (nI cl), .ref m6, .ref m7, .ref m8, .ref m9, .ref m10, .ref m11, .ref m12, .int (nI pn), .ref m13, .ref m14]))]) (wr := []) hA hB hK hP hD hS [0] [] rfl rfl (by decide)
    refine z_goi (z_runV (As := [.int 1, .int 1, .int 0, .int 0]) (rest := []) (b := m0) hF (d_throwing D m0 m1 m2 m3 m4 m5 m6 m7 m8 m9 m10 m11 m12 m13 m14 (M.1, fun _ => 0, fun _ => 0) bt ln cl pn th 1 1 0 0 H.size) (cwV 4 hZ (z_gV t_286 t_287 t_288 t_272 t_285) rfl rfl rfl (by decide +kernel) ⟨Nat.le_of_ble_eq_true rfl, Nat.le_of_ble_eq_true rfl⟩) J 0 6 rfl rfl rfl rfl hl.1 (Nat.le_of_ble_eq_true rfl) dX6_take_66 ⟨Nat.le_of_ble_eq_true rfl, Nat.le_of_ble_eq_true rfl⟩) J (fun r4 _ H locs w4 hP hD hS => ?_)
    have hP : va_P D.1 vwCl [(m0, .inr (6, [.int 1, .int (nI M.1), .ref m1, .ref m2, .int (nI bt), .ref m3, .int (nI ln), .ref m4, .ref m5, .int (nI cl), .ref m6, .ref m7, .ref m8, .ref m9, .ref m10, .ref m11, .ref m12, .int (nI pn), .ref m13, .ref m14]))] H := hP
    have hD : va_D A [(m0, .inr (6, [.int 1, .int (nI M.1), .ref m1, .ref m2, .int (nI bt), .ref m3, .int (nI ln), .ref m4, .ref m5, .int (nI cl), .ref m6, .ref m7, .ref m8, .ref m9, .ref m10, .ref m11, .ref m12, .int (nI pn), .ref m13, .ref m14]))] := hD
    have w4 : r4 = 1 := w4
    subst w4
    refine lv_if_eq (tgt := 74) hx hb dX6_take_69 (by decide) (fun c6 => ?_) (fun c6 => ?_)
    · skip
      exfalso; exact absurd c6 (by decide)
    refine lv_lconst (v := 0) hx hb dX6_take_72 (by decide) ?_
    exact z_lret (v := 0) hx hb hr hlocks hP hD hS (some 1) (Or.inr (⟨rfl, hp⟩)) [0] rfl (by decide) (Nat.le_of_ble_eq_true rfl) (Nat.le_of_ble_eq_true rfl) dX6_take_73
  exfalso; exact absurd c3 (by decide)
