theorem t_321 : (Cond.fieldLink "ShopLedgerModel" 37 "ShopLedgerModel" "rates" "[I" : Cond) ∈ zALL := List.mem_filter.mpr ⟨List.mem_append_right _ (List.mem_append_right _ (List.mem_append_right _ (List.mem_of_getElem? (l := tables_1_3) (i := 70) (by decide +kernel)))), by decide +kernel⟩
theorem t_322 : (Cond.constantLong "ShopLedgerModel" 115 365 : Cond) ∈ zALL := List.mem_filter.mpr ⟨List.mem_append_right _ (List.mem_append_right _ (List.mem_append_right _ (List.mem_of_getElem? (l := tables_1_3) (i := 211) (by decide +kernel)))), by decide +kernel⟩
theorem t_323 : (Cond.constantLong "ShopLedgerModel" 117 100000000 : Cond) ∈ zALL := List.mem_filter.mpr ⟨List.mem_append_right _ (List.mem_append_right _ (List.mem_append_right _ (List.mem_of_getElem? (l := tables_1_3) (i := 212) (by decide +kernel)))), by decide +kernel⟩
theorem t_324 : (Cond.fieldLink "ShopLedgerModel" 40 "ShopLedgerModel" "rateDay" "[I" : Cond) ∈ zALL := List.mem_filter.mpr ⟨List.mem_append_right _ (List.mem_append_right _ (List.mem_append_right _ (List.mem_of_getElem? (l := tables_1_3) (i := 71) (by decide +kernel)))), by decide +kernel⟩
theorem t_325 : (Cond.fieldLink "ShopLedgerModel" 43 "ShopLedgerModel" "rateValue" "[I" : Cond) ∈ zALL := List.mem_filter.mpr ⟨List.mem_append_right _ (List.mem_append_right _ (List.mem_append_right _ (List.mem_of_getElem? (l := tables_1_3) (i := 72) (by decide +kernel)))), by decide +kernel⟩
theorem t_326 : (Cond.constantLong "ShopLedgerModel" 119 10000 : Cond) ∈ zALL := List.mem_filter.mpr ⟨List.mem_append_right _ (List.mem_append_right _ (List.mem_append_right _ (List.mem_of_getElem? (l := tables_1_3) (i := 217) (by decide +kernel)))), by decide +kernel⟩
theorem t_327 : (Cond.constantLong "ShopLedgerModel" 121 20000 : Cond) ∈ zALL := List.mem_filter.mpr ⟨List.mem_append_right _ (List.mem_append_right _ (List.mem_append_right _ (List.mem_of_getElem? (l := tables_1_3) (i := 218) (by decide +kernel)))), by decide +kernel⟩
theorem t_328 : (Cond.methodLink "ShopLedgerModel" 1 ⟨"java/lang/Object", "<init>", "()V"⟩ : Cond) ∈ zALL := List.mem_filter.mpr ⟨List.mem_append_right _ (List.mem_append_right _ (List.mem_append_right _ (List.mem_of_getElem? (l := tables_1_3) (i := 55) (by decide +kernel)))), by decide +kernel⟩
set_option maxHeartbeats 4000000 in
set_option maxRecDepth 100000 in
/-- the reference: rate -/
theorem d_rate {l : Launch} (D : zD) (m0 m1 m2 m3 m4 m5 m6 m7 m8 m9 m10 m11 m12 m13 m14 : Nat) (M : zM) (bt ln cl pn : Nat) (th : Int32) (rt : Nat → Nat) (rd rv : Nat → Int32) (j : Nat) (p2 p3 : Int32) (sz : Nat) (hj : j < 3) (hy : rt j ≤ 10) : Met l yX6_rate wsX6_rate ({ frames := 1, cells := 0, slots := 0, locals := 25 }) (va_Pc [.ref m0, .int (nI j), .int p2, .int p3] (zp D sz [(m0, .inr (6, [.int th, .int (nI M.1), .ref m1, .ref m2, .int (nI bt), .ref m3, .int (nI ln), .ref m4, .ref m5, .int (nI cl), .ref m6, .ref m7, .ref m8, .ref m9, .ref m10, .ref m11, .ref m12, .int (nI pn), .ref m13, .ref m14])), (m10, .inl (D.2 0, 3, .inl (fun i => nI (rt i)))), (m11, .inl (D.2 0, 30, .inl rd)), (m12, .inl (D.2 0, 30, .inl rv))])) (va_Qi (fun r (u : Option Int32) => (u = none ∧ (True) ∧ (¬ 10 ≤ nI (rt j)) ∧ (¬ p2 < 0 ∧ p2 ≤ 365 ∧ ¬ p3 < 1 ∧ p3 ≤ 100000000 ∧ ¬ (0 < rt j ∧ p2 ≤ rd (10 * j + (rt j - 1)))) ∧ r = nI (rt j + 1)) ∨ (u = some 1 ∧ ¬ (True)) ∨ (u = some 2 ∧ (True) ∧ ¬ (¬ 10 ≤ nI (rt j))) ∨ (u = some 3 ∧ (True) ∧ (¬ 10 ≤ nI (rt j)) ∧ ¬ (¬ p2 < 0 ∧ p2 ≤ 365 ∧ ¬ p3 < 1 ∧ p3 ≤ 100000000 ∧ ¬ (0 < rt j ∧ p2 ≤ rd (10 * j + (rt j - 1)))))) (zq D (va_A [(m0, .inr (6, [.int th, .int (nI M.1), .ref m1, .ref m2, .int (nI bt), .ref m3, .int (nI ln), .ref m4, .ref m5, .int (nI cl), .ref m6, .ref m7, .ref m8, .ref m9, .ref m10, .ref m11, .ref m12, .int (nI pn), .ref m13, .ref m14])), (m10, .inl (D.2 0, 3, .inl (fun i => nI (rt i)))), (m11, .inl (D.2 0, 30, .inl rd)), (m12, .inl (D.2 0, 30, .inl rv))] sz) (fun (u : Option Int32) => (u.elim [(m0, .inr (6, [.int 0, .int (nI M.1), .ref m1, .ref m2, .int (nI bt), .ref m3, .int (nI ln), .ref m4, .ref m5, .int (nI cl), .ref m6, .ref m7, .ref m8, .ref m9, .ref m10, .ref m11, .ref m12, .int (nI pn), .ref m13, .ref m14])), (m10, .inl (D.2 0, 3, .inl (fun i => nI (va_up rt j (rt j + 1) i)))), (m11, .inl (D.2 0, 30, .inl (upd rd (10 * j + rt j) p2))), (m12, .inl (D.2 0, 30, .inl (upd rv (10 * j + rt j) p3)))] (fun t => [(m0, .inr (6, [.int t, .int (nI M.1), .ref m1, .ref m2, .int (nI bt), .ref m3, .int (nI ln), .ref m4, .ref m5, .int (nI cl), .ref m6, .ref m7, .ref m8, .ref m9, .ref m10, .ref m11, .ref m12, .int (nI pn), .ref m13, .ref m14])), (m10, .inl (D.2 0, 3, .inl (fun i => nI (rt i)))), (m11, .inl (D.2 0, 30, .inl rd)), (m12, .inl (D.2 0, 30, .inl rv))]) : va_W))) (va_A [(m0, .inr (6, [.int th, .int (nI M.1), .ref m1, .ref m2, .int (nI bt), .ref m3, .int (nI ln), .ref m4, .ref m5, .int (nI cl), .ref m6, .ref m7, .ref m8, .ref m9, .ref m10, .ref m11, .ref m12, .int (nI pn), .ref m13, .ref m14])), (m10, .inl (D.2 0, 3, .inl (fun i => nI (rt i)))), (m11, .inl (D.2 0, 30, .inl rd)), (m12, .inl (D.2 0, 30, .inl rv))] sz)) 0 0 (va_A [(m0, .inr (6, [.int th, .int (nI M.1), .ref m1, .ref m2, .int (nI bt), .ref m3, .int (nI ln), .ref m4, .ref m5, .int (nI cl), .ref m6, .ref m7, .ref m8, .ref m9, .ref m10, .ref m11, .ref m12, .int (nI pn), .ref m13, .ref m14])), (m10, .inl (D.2 0, 3, .inl (fun i => nI (rt i)))), (m11, .inl (D.2 0, 30, .inl rd)), (m12, .inl (D.2 0, 30, .inl rv))] sz) := by
  refine Met.ofW (cc := cX6_rate) (maxL := 7) (ret := (some .int)) (by decide) rfl ?_
  intro p e s m args below meth c s₁ B hml hv
  obtain ⟨rfl, hsz, hP, hK, hD0, hB⟩ := hv
  have hx := B.exec
  have hb := B.bytes
  have hr := B.returns
  have hts := atoms_spec (ws := wsX6_rate) B.pre
  have hown : s.vm.findClass "ShopLedgerModel" = some m.cls := findClass_of_methodNamed B.named
  have hlocks := B.notSynchronized
  subst hsz
  have hD := hD0.self (sz := s.heap.size)
  generalize hAe : va_A [(m0, .inr (6, [.int th, .int (nI M.1), .ref m1, .ref m2, .int (nI bt), .ref m3, .int (nI ln), .ref m4, .ref m5, .int (nI cl), .ref m6, .ref m7, .ref m8, .ref m9, .ref m10, .ref m11, .ref m12, .int (nI pn), .ref m13, .ref m14])), (m10, .inl (D.2 0, 3, .inl (fun i => nI (rt i)))), (m11, .inl (D.2 0, 30, .inl rd)), (m12, .inl (D.2 0, 30, .inl rv))] s.heap.size = A at hD hB ⊢
  have hA : ∀ q : Nat, s.heap.size ≤ q → A q := fun q h => by rw [← hAe]; exact Or.inr h
  have hS : va_S A s.heap s.heap [] := va_S.rf
  have hZ : ∀ w ∈ zALL, w.before _ s = true := fun w h => hts w (List.mem_cons_of_mem _ h)
  have hF : CallFix p m c cX6_rate 7 s _ zALL "ShopLedgerModel" := ⟨hx, hb, hml, hown, hZ⟩
  have hl := lv_entry ([.ref m0, .int (nI j), .int p2, .int p3]) (n := 7) (Nat.le_of_ble_eq_true rfl)
  rw [lg_entry_eq]
  generalize (lg_sl ([.ref m0, .int (nI j), .int p2, .int p3]) ++ List.replicate (7 - (lg_sl ([.ref m0, .int (nI j), .int p2, .int p3])).length) Slot.unset).toArray = ls at hl ⊢
  have hl : lv_has ls 7 [(0, .ref m0), (1, .int (nI j)), (2, .int p2), (3, .int p3)] := hl
  refine lv_iload_n hx hb dX6_rate_0 rfl (lv_at hl 1 rfl) ?_
  refine lv_i2l (v := (nI j).toInt64) hx hb dX6_rate_1 rfl ?_
  refine lv_lconst (v := 0) hx hb dX6_rate_2 (by decide) ?_
  refine lv_ldc2 (v := 2) hx hb hown (hZ _ t_316) dX6_rate_3 ?_
  have J := zJ.mk (wc := []) (wr := [(m0, .inr (6, [.int th, .int (nI M.1), .ref m1, .ref m2, .int (nI bt), .ref m3, .int (nI ln), .ref m4, .ref m5, .int (nI cl), .ref m6, .ref m7, .ref m8, .ref m9, .ref m10, .ref m11, .ref m12, .int (nI pn), .ref m13, .ref m14])), (m10, .inl (D.2 0, 3, .inl (fun i => nI (rt i)))), (m11, .inl (D.2 0, 30, .inl rd)), (m12, .inl (D.2 0, 30, .inl rv))]) hA hB hK hP hD hS [] [0, 1, 2, 3] rfl rfl (by decide)
  refine z_goi (z_runS (As := [.long ((nI j).toInt64), .long 0, .long 2]) (rest := []) hF (d_lies D (nI j).toInt64 0 2 s.heap.size) (va_cwS 3 hZ (z_gS t_273 t_274 t_272 t_271) rfl rfl rfl (by decide +kernel) ⟨Nat.le_of_ble_eq_true rfl, Nat.le_of_ble_eq_true rfl⟩) J rfl hl.1 (Nat.le_of_ble_eq_true rfl) dX6_rate_6 ⟨Nat.le_of_ble_eq_true rfl, Nat.le_of_ble_eq_true rfl⟩) J (fun r1 _ H locs w1 hP hD hS => ?_)
  have hP : va_P D.1 vwCl [(m0, .inr (6, [.int th, .int (nI M.1), .ref m1, .ref m2, .int (nI bt), .ref m3, .int (nI ln), .ref m4, .ref m5, .int (nI cl), .ref m6, .ref m7, .ref m8, .ref m9, .ref m10, .ref m11, .ref m12, .int (nI pn), .ref m13, .ref m14])), (m10, .inl (D.2 0, 3, .inl (fun i => nI (rt i)))), (m11, .inl (D.2 0, 30, .inl rd)), (m12, .inl (D.2 0, 30, .inl rv))] H := hP
  have hD : va_D A [(m0, .inr (6, [.int th, .int (nI M.1), .ref m1, .ref m2, .int (nI bt), .ref m3, .int (nI ln), .ref m4, .ref m5, .int (nI cl), .ref m6, .ref m7, .ref m8, .ref m9, .ref m10, .ref m11, .ref m12, .int (nI pn), .ref m13, .ref m14])), (m10, .inl (D.2 0, 3, .inl (fun i => nI (rt i)))), (m11, .inl (D.2 0, 30, .inl rd)), (m12, .inl (D.2 0, 30, .inl rv))] := hD
  have f1 : (r1 = 1 ∧ zin (nI j) 3) ∨ (r1 = 0 ∧ ¬ zin (nI j) 3) := z_lz 2 (by decide) (by decide) w1
  refine lv_if_ne (tgt := 16) hx hb dX6_rate_9 (by decide) (fun c1 => ?_) (fun c1 => ?_)
  · skip
    refine lv_iconst (v := 0) hx hb dX6_rate_16 (by decide) ?_
    refine lv_istore (lv' := [(4, .int 0), (0, .ref m0), (1, .int (nI j)), (2, .int p2), (3, .int p3)]) hx hb dX6_rate_17 hl (by decide) rfl (fun ls hl => ?_)
    refine lv_iload hx hb dX6_rate_19 (lv_at hl 0 rfl) ?_
    refine lv_if_eq (tgt := 28) hx hb dX6_rate_21 (by decide) (fun c2 => ?_) (fun c2 => ?_)
    · skip
      refine lv_aload_n hx hb dX6_rate_28 rfl (lv_at hl 1 rfl) ?_
      refine va_get (D := D.1) (ci := 6) (v := .ref m10) (C := "ShopLedgerModel") (T := TX6) (N := 20) hx hb hZ inX6 hown hK hP 0 rfl rfl 14 (by decide) (hZ _ t_321) (fun _ h9 => h9) rfl dX6_rate_29 ?_
      refine lv_iload_n hx hb dX6_rate_32 rfl (lv_at hl 2 rfl) ?_
      refine z_iald (k := j) hx hb hK hP 1 rfl (hj) (by decide) dX6_rate_33 ?_
      refine lv_istore (lv' := [(5, .int (nI (rt j))), (4, .int 0), (0, .ref m0), (1, .int (nI j)), (2, .int p2), (3, .int p3)]) hx hb dX6_rate_34 hl (by decide) rfl (fun ls hl => ?_)
      refine lv_iload hx hb dX6_rate_36 (lv_at hl 0 rfl) ?_
      refine lv_if_le (tgt := 81) hx hb dX6_rate_38 (by decide) (fun c3 => ?_) (fun c3 => ?_)
      · skip
        have h3 : ¬ 0 < rt j := fun h => nI_nle h (by omega) c3
        have fl : ¬ (0 < rt j ∧ p2 ≤ rd (10 * j + (rt j - 1))) := fun h => h3 h.1
        refine lv_iconst (v := 0) hx hb dX6_rate_81 (by decide) ?_
        refine lv_istore (lv' := [(6, .int 0), (5, .int (nI (rt j))), (4, .int 0), (0, .ref m0), (1, .int (nI j)), (2, .int p2), (3, .int p3)]) hx hb dX6_rate_82 hl (by decide) rfl (fun ls hl => ?_)
        refine lv_aload_n hx hb dX6_rate_84 rfl (lv_at hl 3 rfl) ?_
        refine lv_iload hx hb dX6_rate_85 (lv_at hl 2 rfl) ?_
        refine lv_iload hx hb dX6_rate_87 (lv_at hl 1 rfl) ?_
        refine lv_bipush (v := 10) hx hb dX6_rate_89 (by decide) ?_
        refine lv_icmp_ne (tgt := 98) hx hb dX6_rate_91 (by decide) (fun c7 => ?_) (fun c7 => ?_)
        · skip
          have tu : ¬ 10 ≤ nI (rt j) := fun h => c7 (z_full (t := 10) hy (by decide) h)
          refine lv_iconst (v := 0) hx hb dX6_rate_98 (by decide) ?_
          refine lv_iload_n hx hb dX6_rate_99 rfl (lv_at hl 5 rfl) ?_
          refine lv_i2l (v := p2.toInt64) hx hb dX6_rate_100 rfl ?_
          refine lv_lconst (v := 0) hx hb dX6_rate_101 (by decide) ?_
          refine lv_ldc2 (v := 365) hx hb hown (hZ _ t_322) dX6_rate_102 ?_
          have J := zJ.mk (wc := []) (wr := [(m0, .inr (6, [.int th, .int (nI M.1), .ref m1, .ref m2, .int (nI bt), .ref m3, .int (nI ln), .ref m4, .ref m5, .int (nI cl), .ref m6, .ref m7, .ref m8, .ref m9, .ref m10, .ref m11, .ref m12, .int (nI pn), .ref m13, .ref m14])), (m10, .inl (D.2 0, 3, .inl (fun i => nI (rt i)))), (m11, .inl (D.2 0, 30, .inl rd)), (m12, .inl (D.2 0, 30, .inl rv))]) hA hB hK hP hD hS [] [0, 1, 2, 3] rfl rfl (by decide)
          refine z_goi (z_runS (As := [.long p2.toInt64, .long 0, .long 365]) (rest := [.int 0, .int 0, .ref m0]) hF (d_lies D p2.toInt64 0 365 H.size) (va_cwS 3 hZ (z_gS t_273 t_274 t_272 t_271) rfl rfl rfl (by decide +kernel) ⟨Nat.le_of_ble_eq_true rfl, Nat.le_of_ble_eq_true rfl⟩) J rfl hl.1 (Nat.le_of_ble_eq_true rfl) dX6_rate_105 ⟨Nat.le_of_ble_eq_true rfl, Nat.le_of_ble_eq_true rfl⟩) J (fun r2 _ H locs w2 hP hD hS => ?_)
          have hP : va_P D.1 vwCl [(m0, .inr (6, [.int th, .int (nI M.1), .ref m1, .ref m2, .int (nI bt), .ref m3, .int (nI ln), .ref m4, .ref m5, .int (nI cl), .ref m6, .ref m7, .ref m8, .ref m9, .ref m10, .ref m11, .ref m12, .int (nI pn), .ref m13, .ref m14])), (m10, .inl (D.2 0, 3, .inl (fun i => nI (rt i)))), (m11, .inl (D.2 0, 30, .inl rd)), (m12, .inl (D.2 0, 30, .inl rv))] H := hP
          have hD : va_D A [(m0, .inr (6, [.int th, .int (nI M.1), .ref m1, .ref m2, .int (nI bt), .ref m3, .int (nI ln), .ref m4, .ref m5, .int (nI cl), .ref m6, .ref m7, .ref m8, .ref m9, .ref m10, .ref m11, .ref m12, .int (nI pn), .ref m13, .ref m14])), (m10, .inl (D.2 0, 3, .inl (fun i => nI (rt i)))), (m11, .inl (D.2 0, 30, .inl rd)), (m12, .inl (D.2 0, 30, .inl rv))] := hD
          have f2 : (r2 = 1 ∧ ¬ p2 < 0 ∧ p2 ≤ 365) ∨ (r2 = 0 ∧ ¬ (¬ p2 < 0 ∧ p2 ≤ 365)) := z_li (a := 0) (b := 365) (by decide) (by decide) w2
          refine lv_if_eq (tgt := 128) hx hb dX6_rate_108 (by decide) (fun c8 => ?_) (fun c8 => ?_)
          · skip
            have g2 := z_b0 f2 c8
            have rg : ¬ (¬ p2 < 0 ∧ p2 ≤ 365 ∧ ¬ p3 < 1 ∧ p3 ≤ 100000000 ∧ ¬ (0 < rt j ∧ p2 ≤ rd (10 * j + (rt j - 1)))) := fun h => g2 ⟨h.1, h.2.1⟩
            refine lv_iconst (v := 1) hx hb dX6_rate_128 (by decide) ?_
            refine lv_goto (tgt := 133) hx hb dX6_rate_129 (by decide) ?_
            refine lv_iconst (v := 0) hx hb dX6_rate_133 (by decide) ?_
            have J := zJ.mk (wc := [(m0, .inr (6, [.int th, .int (nI M.1), .ref m1, .ref m2, .int (nI bt), .ref m3, .int (nI ln), .ref m4, .ref m5, .int (nI cl), .ref m6, .ref m7, .ref m8, .ref m9, .ref m10, .ref m11, .ref m12, .int (nI pn), .ref m13, .ref m14]))]) (wr := [(m10, .inl (D.2 0, 3, .inl (fun i => nI (rt i)))), (m11, .inl (D.2 0, 30, .inl rd)), (m12, .inl (D.2 0, 30, .inl rv))]) hA hB hK hP hD hS [0] [1, 2, 3] rfl rfl (by decide)
            refine z_goi (z_runV (As := [.int 0, .int 0, .int 1, .int 0]) (rest := []) (b := m0) hF (d_throwing D m0 m1 m2 m3 m4 m5 m6 m7 m8 m9 m10 m11 m12 m13 m14 (M.1, fun _ => 0, fun _ => 0) bt ln cl pn th 0 0 1 0 H.size) (cwV 4 hZ (z_gV t_286 t_287 t_288 t_272 t_285) rfl rfl rfl (by decide +kernel) ⟨Nat.le_of_ble_eq_true rfl, Nat.le_of_ble_eq_true rfl⟩) J 0 6 rfl rfl rfl rfl hl.1 (Nat.le_of_ble_eq_true rfl) dX6_rate_134 ⟨Nat.le_of_ble_eq_true rfl, Nat.le_of_ble_eq_true rfl⟩) J (fun r4 _ H locs w4 hP hD hS => ?_)
            have hP : va_P D.1 vwCl [(m10, .inl (D.2 0, 3, .inl (fun i => nI (rt i)))), (m11, .inl (D.2 0, 30, .inl rd)), (m12, .inl (D.2 0, 30, .inl rv)), (m0, .inr (6, [.int 3, .int (nI M.1), .ref m1, .ref m2, .int (nI bt), .ref m3, .int (nI ln), .ref m4, .ref m5, .int (nI cl), .ref m6, .ref m7, .ref m8, .ref m9, .ref m10, .ref m11, .ref m12, .int (nI pn), .ref m13, .ref m14]))] H := hP
            have hD : va_D A [(m10, .inl (D.2 0, 3, .inl (fun i => nI (rt i)))), (m11, .inl (D.2 0, 30, .inl rd)), (m12, .inl (D.2 0, 30, .inl rv)), (m0, .inr (6, [.int 3, .int (nI M.1), .ref m1, .ref m2, .int (nI bt), .ref m3, .int (nI ln), .ref m4, .ref m5, .int (nI cl), .ref m6, .ref m7, .ref m8, .ref m9, .ref m10, .ref m11, .ref m12, .int (nI pn), .ref m13, .ref m14]))] := hD
            have w4 : r4 = 1 := w4
            subst w4
            refine lv_if_eq (tgt := 142) hx hb dX6_rate_137 (by decide) (fun c11 => ?_) (fun c11 => ?_)
            · skip
              exfalso; exact absurd c11 (by decide)
            refine lv_iconst (v := 0) hx hb dX6_rate_140 (by decide) ?_
            exact z_iret (v := 0) hx hb hr hlocks hP hD hS (some 3) (Or.inr (Or.inr (Or.inr (⟨rfl, trivial, tu, rg⟩)))) [3, 0, 1, 2] rfl (by decide) (Nat.le_of_ble_eq_true rfl) (Nat.le_of_ble_eq_true rfl) dX6_rate_141
          have g2 := z_b1 f2 c8
          refine lv_iload_n hx hb dX6_rate_111 rfl (lv_at hl 6 rfl) ?_
          refine lv_i2l (v := p3.toInt64) hx hb dX6_rate_112 rfl ?_
          refine lv_lconst (v := 1) hx hb dX6_rate_113 (by decide) ?_
          refine lv_ldc2 (v := 100000000) hx hb hown (hZ _ t_323) dX6_rate_114 ?_
          have J := zJ.mk (wc := []) (wr := [(m0, .inr (6, [.int th, .int (nI M.1), .ref m1, .ref m2, .int (nI bt), .ref m3, .int (nI ln), .ref m4, .ref m5, .int (nI cl), .ref m6, .ref m7, .ref m8, .ref m9, .ref m10, .ref m11, .ref m12, .int (nI pn), .ref m13, .ref m14])), (m10, .inl (D.2 0, 3, .inl (fun i => nI (rt i)))), (m11, .inl (D.2 0, 30, .inl rd)), (m12, .inl (D.2 0, 30, .inl rv))]) hA hB hK hP hD hS [] [0, 1, 2, 3] rfl rfl (by decide)
          refine z_goi (z_runS (As := [.long p3.toInt64, .long 1, .long 100000000]) (rest := [.int 0, .int 0, .ref m0]) hF (d_lies D p3.toInt64 1 100000000 H.size) (va_cwS 3 hZ (z_gS t_273 t_274 t_272 t_271) rfl rfl rfl (by decide +kernel) ⟨Nat.le_of_ble_eq_true rfl, Nat.le_of_ble_eq_true rfl⟩) J rfl hl.1 (Nat.le_of_ble_eq_true rfl) dX6_rate_117 ⟨Nat.le_of_ble_eq_true rfl, Nat.le_of_ble_eq_true rfl⟩) J (fun r3 _ H locs w3 hP hD hS => ?_)
          have hP : va_P D.1 vwCl [(m0, .inr (6, [.int th, .int (nI M.1), .ref m1, .ref m2, .int (nI bt), .ref m3, .int (nI ln), .ref m4, .ref m5, .int (nI cl), .ref m6, .ref m7, .ref m8, .ref m9, .ref m10, .ref m11, .ref m12, .int (nI pn), .ref m13, .ref m14])), (m10, .inl (D.2 0, 3, .inl (fun i => nI (rt i)))), (m11, .inl (D.2 0, 30, .inl rd)), (m12, .inl (D.2 0, 30, .inl rv))] H := hP
          have hD : va_D A [(m0, .inr (6, [.int th, .int (nI M.1), .ref m1, .ref m2, .int (nI bt), .ref m3, .int (nI ln), .ref m4, .ref m5, .int (nI cl), .ref m6, .ref m7, .ref m8, .ref m9, .ref m10, .ref m11, .ref m12, .int (nI pn), .ref m13, .ref m14])), (m10, .inl (D.2 0, 3, .inl (fun i => nI (rt i)))), (m11, .inl (D.2 0, 30, .inl rd)), (m12, .inl (D.2 0, 30, .inl rv))] := hD
          have f3 : (r3 = 1 ∧ ¬ p3 < 1 ∧ p3 ≤ 100000000) ∨ (r3 = 0 ∧ ¬ (¬ p3 < 1 ∧ p3 ≤ 100000000)) := z_li (a := 1) (b := 100000000) (by decide) (by decide) w3
          refine lv_if_eq (tgt := 128) hx hb dX6_rate_120 (by decide) (fun c9 => ?_) (fun c9 => ?_)
          · skip
            have g3 := z_b0 f3 c9
            have rg : ¬ (¬ p2 < 0 ∧ p2 ≤ 365 ∧ ¬ p3 < 1 ∧ p3 ≤ 100000000 ∧ ¬ (0 < rt j ∧ p2 ≤ rd (10 * j + (rt j - 1)))) := fun h => g3 ⟨h.2.2.1, h.2.2.2.1⟩
            refine lv_iconst (v := 1) hx hb dX6_rate_128 (by decide) ?_
            refine lv_goto (tgt := 133) hx hb dX6_rate_129 (by decide) ?_
            refine lv_iconst (v := 0) hx hb dX6_rate_133 (by decide) ?_
            have J := zJ.mk (wc := [(m0, .inr (6, [.int th, .int (nI M.1), .ref m1, .ref m2, .int (nI bt), .ref m3, .int (nI ln), .ref m4, .ref m5, .int (nI cl), .ref m6, .ref m7, .ref m8, .ref m9, .ref m10, .ref m11, .ref m12, .int (nI pn), .ref m13, .ref m14]))]) (wr := [(m10, .inl (D.2 0, 3, .inl (fun i => nI (rt i)))), (m11, .inl (D.2 0, 30, .inl rd)), (m12, .inl (D.2 0, 30, .inl rv))]) hA hB hK hP hD hS [0] [1, 2, 3] rfl rfl (by decide)
            refine z_goi (z_runV (As := [.int 0, .int 0, .int 1, .int 0]) (rest := []) (b := m0) hF (d_throwing D m0 m1 m2 m3 m4 m5 m6 m7 m8 m9 m10 m11 m12 m13 m14 (M.1, fun _ => 0, fun _ => 0) bt ln cl pn th 0 0 1 0 H.size) (cwV 4 hZ (z_gV t_286 t_287 t_288 t_272 t_285) rfl rfl rfl (by decide +kernel) ⟨Nat.le_of_ble_eq_true rfl, Nat.le_of_ble_eq_true rfl⟩) J 0 6 rfl rfl rfl rfl hl.1 (Nat.le_of_ble_eq_true rfl) dX6_rate_134 ⟨Nat.le_of_ble_eq_true rfl, Nat.le_of_ble_eq_true rfl⟩) J (fun r4 _ H locs w4 hP hD hS => ?_)
            have hP : va_P D.1 vwCl [(m10, .inl (D.2 0, 3, .inl (fun i => nI (rt i)))), (m11, .inl (D.2 0, 30, .inl rd)), (m12, .inl (D.2 0, 30, .inl rv)), (m0, .inr (6, [.int 3, .int (nI M.1), .ref m1, .ref m2, .int (nI bt), .ref m3, .int (nI ln), .ref m4, .ref m5, .int (nI cl), .ref m6, .ref m7, .ref m8, .ref m9, .ref m10, .ref m11, .ref m12, .int (nI pn), .ref m13, .ref m14]))] H := hP
            have hD : va_D A [(m10, .inl (D.2 0, 3, .inl (fun i => nI (rt i)))), (m11, .inl (D.2 0, 30, .inl rd)), (m12, .inl (D.2 0, 30, .inl rv)), (m0, .inr (6, [.int 3, .int (nI M.1), .ref m1, .ref m2, .int (nI bt), .ref m3, .int (nI ln), .ref m4, .ref m5, .int (nI cl), .ref m6, .ref m7, .ref m8, .ref m9, .ref m10, .ref m11, .ref m12, .int (nI pn), .ref m13, .ref m14]))] := hD
            have w4 : r4 = 1 := w4
            subst w4
            refine lv_if_eq (tgt := 142) hx hb dX6_rate_137 (by decide) (fun c11 => ?_) (fun c11 => ?_)
            · skip
              exfalso; exact absurd c11 (by decide)
            refine lv_iconst (v := 0) hx hb dX6_rate_140 (by decide) ?_
            exact z_iret (v := 0) hx hb hr hlocks hP hD hS (some 3) (Or.inr (Or.inr (Or.inr (⟨rfl, trivial, tu, rg⟩)))) [3, 0, 1, 2] rfl (by decide) (Nat.le_of_ble_eq_true rfl) (Nat.le_of_ble_eq_true rfl) dX6_rate_141
          have g3 := z_b1 f3 c9
          refine lv_iload hx hb dX6_rate_123 (lv_at hl 0 rfl) ?_
          refine lv_if_eq (tgt := 132) hx hb dX6_rate_125 (by decide) (fun c10 => ?_) (fun c10 => ?_)
          · skip
            have rg : ¬ p2 < 0 ∧ p2 ≤ 365 ∧ ¬ p3 < 1 ∧ p3 ≤ 100000000 ∧ ¬ (0 < rt j ∧ p2 ≤ rd (10 * j + (rt j - 1))) := ⟨g2.1, g2.2, g3.1, g3.2, fl⟩
            refine lv_iconst (v := 0) hx hb dX6_rate_132 (by decide) ?_
            refine lv_iconst (v := 0) hx hb dX6_rate_133 (by decide) ?_
            have J := zJ.mk (wc := [(m0, .inr (6, [.int th, .int (nI M.1), .ref m1, .ref m2, .int (nI bt), .ref m3, .int (nI ln), .ref m4, .ref m5, .int (nI cl), .ref m6, .ref m7, .ref m8, .ref m9, .ref m10, .ref m11, .ref m12, .int (nI pn), .ref m13, .ref m14]))]) (wr := [(m10, .inl (D.2 0, 3, .inl (fun i => nI (rt i)))), (m11, .inl (D.2 0, 30, .inl rd)), (m12, .inl (D.2 0, 30, .inl rv))]) hA hB hK hP hD hS [0] [1, 2, 3] rfl rfl (by decide)
            refine z_goi (z_runV (As := [.int 0, .int 0, .int 0, .int 0]) (rest := []) (b := m0) hF (d_throwing D m0 m1 m2 m3 m4 m5 m6 m7 m8 m9 m10 m11 m12 m13 m14 (M.1, fun _ => 0, fun _ => 0) bt ln cl pn th 0 0 0 0 H.size) (cwV 4 hZ (z_gV t_286 t_287 t_288 t_272 t_285) rfl rfl rfl (by decide +kernel) ⟨Nat.le_of_ble_eq_true rfl, Nat.le_of_ble_eq_true rfl⟩) J 0 6 rfl rfl rfl rfl hl.1 (Nat.le_of_ble_eq_true rfl) dX6_rate_134 ⟨Nat.le_of_ble_eq_true rfl, Nat.le_of_ble_eq_true rfl⟩) J (fun r4 _ H locs w4 hP hD hS => ?_)
            have hP : va_P D.1 vwCl [(m10, .inl (D.2 0, 3, .inl (fun i => nI (rt i)))), (m11, .inl (D.2 0, 30, .inl rd)), (m12, .inl (D.2 0, 30, .inl rv)), (m0, .inr (6, [.int 0, .int (nI M.1), .ref m1, .ref m2, .int (nI bt), .ref m3, .int (nI ln), .ref m4, .ref m5, .int (nI cl), .ref m6, .ref m7, .ref m8, .ref m9, .ref m10, .ref m11, .ref m12, .int (nI pn), .ref m13, .ref m14]))] H := hP
            have hD : va_D A [(m10, .inl (D.2 0, 3, .inl (fun i => nI (rt i)))), (m11, .inl (D.2 0, 30, .inl rd)), (m12, .inl (D.2 0, 30, .inl rv)), (m0, .inr (6, [.int 0, .int (nI M.1), .ref m1, .ref m2, .int (nI bt), .ref m3, .int (nI ln), .ref m4, .ref m5, .int (nI cl), .ref m6, .ref m7, .ref m8, .ref m9, .ref m10, .ref m11, .ref m12, .int (nI pn), .ref m13, .ref m14]))] := hD
            have w4 : r4 = 0 := w4
            subst w4
            refine lv_if_eq (tgt := 142) hx hb dX6_rate_137 (by decide) (fun c11 => ?_) (fun c11 => ?_)
            · skip
              have hk : rt j < 10 := z_lt (t := 10) hy (by decide) tu
              refine lv_aload_n hx hb dX6_rate_142 rfl (lv_at hl 3 rfl) ?_
              refine va_get (D := D.1) (ci := 6) (v := .ref m11) (C := "ShopLedgerModel") (T := TX6) (N := 20) hx hb hZ inX6 hown hK hP 3 rfl rfl 15 (by decide) (hZ _ t_324) (fun _ h9 => h9) rfl dX6_rate_143 ?_
              refine lv_bipush (v := 10) hx hb dX6_rate_146 (by decide) ?_
              refine lv_iload_n hx hb dX6_rate_148 rfl (lv_at hl 4 rfl) ?_
              refine lv_imul hx hb dX6_rate_149 ?_
              rw [show (10 * (nI j)) = nI (10 * j) from pk_mul 10 j]
              refine lv_iload hx hb dX6_rate_150 (lv_at hl 1 rfl) ?_
              refine lv_iadd hx hb dX6_rate_152 ?_
              rw [show ((nI (10 * j)) + (nI (rt j))) = nI (10 * j + rt j) from nI_add _ _]
              refine lv_iload_n hx hb dX6_rate_153 rfl (lv_at hl 5 rfl) ?_
              refine z_iast (k := 10 * j + rt j) hx hb hK hP hD hS 1 rfl (by omega) (by decide) dX6_rate_154 (fun H locs hP hD hS => ?_)
              have hP : va_P D.1 vwCl [(m10, .inl (D.2 0, 3, .inl (fun i => nI (rt i)))), (m11, .inl (D.2 0, 30, .inl (upd rd (10 * j + rt j) p2))), (m12, .inl (D.2 0, 30, .inl rv)), (m0, .inr (6, [.int 0, .int (nI M.1), .ref m1, .ref m2, .int (nI bt), .ref m3, .int (nI ln), .ref m4, .ref m5, .int (nI cl), .ref m6, .ref m7, .ref m8, .ref m9, .ref m10, .ref m11, .ref m12, .int (nI pn), .ref m13, .ref m14]))] H := hP
              have hD : va_D A [(m10, .inl (D.2 0, 3, .inl (fun i => nI (rt i)))), (m11, .inl (D.2 0, 30, .inl (upd rd (10 * j + rt j) p2))), (m12, .inl (D.2 0, 30, .inl rv)), (m0, .inr (6, [.int 0, .int (nI M.1), .ref m1, .ref m2, .int (nI bt), .ref m3, .int (nI ln), .ref m4, .ref m5, .int (nI cl), .ref m6, .ref m7, .ref m8, .ref m9, .ref m10, .ref m11, .ref m12, .int (nI pn), .ref m13, .ref m14]))] := hD
              refine lv_aload_n hx hb dX6_rate_155 rfl (lv_at hl 3 rfl) ?_
              refine va_get (D := D.1) (ci := 6) (v := .ref m12) (C := "ShopLedgerModel") (T := TX6) (N := 20) hx hb hZ inX6 hown hK hP 3 rfl rfl 16 (by decide) (hZ _ t_325) (fun _ h9 => h9) rfl dX6_rate_156 ?_
              refine lv_bipush (v := 10) hx hb dX6_rate_159 (by decide) ?_
              refine lv_iload_n hx hb dX6_rate_161 rfl (lv_at hl 4 rfl) ?_
              refine lv_imul hx hb dX6_rate_162 ?_
              rw [show (10 * (nI j)) = nI (10 * j) from pk_mul 10 j]
              refine lv_iload hx hb dX6_rate_163 (lv_at hl 1 rfl) ?_
              refine lv_iadd hx hb dX6_rate_165 ?_
              rw [show ((nI (10 * j)) + (nI (rt j))) = nI (10 * j + rt j) from nI_add _ _]
              refine lv_iload_n hx hb dX6_rate_166 rfl (lv_at hl 6 rfl) ?_
              refine z_iast (k := 10 * j + rt j) hx hb hK hP hD hS 2 rfl (by omega) (by decide) dX6_rate_167 (fun H locs hP hD hS => ?_)
              have hP : va_P D.1 vwCl [(m10, .inl (D.2 0, 3, .inl (fun i => nI (rt i)))), (m11, .inl (D.2 0, 30, .inl (upd rd (10 * j + rt j) p2))), (m12, .inl (D.2 0, 30, .inl (upd rv (10 * j + rt j) p3))), (m0, .inr (6, [.int 0, .int (nI M.1), .ref m1, .ref m2, .int (nI bt), .ref m3, .int (nI ln), .ref m4, .ref m5, .int (nI cl), .ref m6, .ref m7, .ref m8, .ref m9, .ref m10, .ref m11, .ref m12, .int (nI pn), .ref m13, .ref m14]))] H := hP
              have hD : va_D A [(m10, .inl (D.2 0, 3, .inl (fun i => nI (rt i)))), (m11, .inl (D.2 0, 30, .inl (upd rd (10 * j + rt j) p2))), (m12, .inl (D.2 0, 30, .inl (upd rv (10 * j + rt j) p3))), (m0, .inr (6, [.int 0, .int (nI M.1), .ref m1, .ref m2, .int (nI bt), .ref m3, .int (nI ln), .ref m4, .ref m5, .int (nI cl), .ref m6, .ref m7, .ref m8, .ref m9, .ref m10, .ref m11, .ref m12, .int (nI pn), .ref m13, .ref m14]))] := hD
              refine lv_aload_n hx hb dX6_rate_168 rfl (lv_at hl 3 rfl) ?_
              refine va_get (D := D.1) (ci := 6) (v := .ref m10) (C := "ShopLedgerModel") (T := TX6) (N := 20) hx hb hZ inX6 hown hK hP 3 rfl rfl 14 (by decide) (hZ _ t_321) (fun _ h9 => h9) rfl dX6_rate_169 ?_
              refine lv_iload_n hx hb dX6_rate_172 rfl (lv_at hl 4 rfl) ?_
              refine lv_dup2_11 hx hb dX6_rate_173 rfl rfl ?_
              refine z_iald (k := j) hx hb hK hP 0 rfl (hj) (by decide) dX6_rate_174 ?_
              refine lv_iconst (v := 1) hx hb dX6_rate_175 (by decide) ?_
              refine lv_iadd hx hb dX6_rate_176 ?_
              rw [show ((nI (rt j)) + 1) = nI (rt j + 1) from nI_1 _]
              refine z_iast (k := j) hx hb hK hP hD hS 0 rfl (hj) (by decide) dX6_rate_177 (fun H locs hP hD hS => ?_)
              have hP : va_P D.1 vwCl [(m10, .inl (D.2 0, 3, .inl (upd (fun i => nI (rt i)) j (nI (rt j + 1))))), (m11, .inl (D.2 0, 30, .inl (upd rd (10 * j + rt j) p2))), (m12, .inl (D.2 0, 30, .inl (upd rv (10 * j + rt j) p3))), (m0, .inr (6, [.int 0, .int (nI M.1), .ref m1, .ref m2, .int (nI bt), .ref m3, .int (nI ln), .ref m4, .ref m5, .int (nI cl), .ref m6, .ref m7, .ref m8, .ref m9, .ref m10, .ref m11, .ref m12, .int (nI pn), .ref m13, .ref m14]))] H := hP
              have hD : va_D A [(m10, .inl (D.2 0, 3, .inl (upd (fun i => nI (rt i)) j (nI (rt j + 1))))), (m11, .inl (D.2 0, 30, .inl (upd rd (10 * j + rt j) p2))), (m12, .inl (D.2 0, 30, .inl (upd rv (10 * j + rt j) p3))), (m0, .inr (6, [.int 0, .int (nI M.1), .ref m1, .ref m2, .int (nI bt), .ref m3, .int (nI ln), .ref m4, .ref m5, .int (nI cl), .ref m6, .ref m7, .ref m8, .ref m9, .ref m10, .ref m11, .ref m12, .int (nI pn), .ref m13, .ref m14]))] := hD
              rw [z_updN] at hP hD
              have hP : va_P D.1 vwCl [(m10, .inl (D.2 0, 3, .inl (fun i => nI (va_up rt j (rt j + 1) i)))), (m11, .inl (D.2 0, 30, .inl (upd rd (10 * j + rt j) p2))), (m12, .inl (D.2 0, 30, .inl (upd rv (10 * j + rt j) p3))), (m0, .inr (6, [.int 0, .int (nI M.1), .ref m1, .ref m2, .int (nI bt), .ref m3, .int (nI ln), .ref m4, .ref m5, .int (nI cl), .ref m6, .ref m7, .ref m8, .ref m9, .ref m10, .ref m11, .ref m12, .int (nI pn), .ref m13, .ref m14]))] H := hP
              have hD : va_D A [(m10, .inl (D.2 0, 3, .inl (fun i => nI (va_up rt j (rt j + 1) i)))), (m11, .inl (D.2 0, 30, .inl (upd rd (10 * j + rt j) p2))), (m12, .inl (D.2 0, 30, .inl (upd rv (10 * j + rt j) p3))), (m0, .inr (6, [.int 0, .int (nI M.1), .ref m1, .ref m2, .int (nI bt), .ref m3, .int (nI ln), .ref m4, .ref m5, .int (nI cl), .ref m6, .ref m7, .ref m8, .ref m9, .ref m10, .ref m11, .ref m12, .int (nI pn), .ref m13, .ref m14]))] := hD
              refine lv_aload_n hx hb dX6_rate_178 rfl (lv_at hl 3 rfl) ?_
              refine va_get (D := D.1) (ci := 6) (v := .ref m10) (C := "ShopLedgerModel") (T := TX6) (N := 20) hx hb hZ inX6 hown hK hP 3 rfl rfl 14 (by decide) (hZ _ t_321) (fun _ h9 => h9) rfl dX6_rate_179 ?_
              refine lv_iload_n hx hb dX6_rate_182 rfl (lv_at hl 4 rfl) ?_
              refine z_iald (k := j) hx hb hK hP 0 rfl (hj) (by decide) dX6_rate_183 ?_
              rw [show (nI (va_up rt j (rt j + 1) j)) = nI (rt j + 1) from congrArg nI (va_up_self _ _ _)]
              exact z_iret (v := nI (rt j + 1)) hx hb hr hlocks hP hD hS none (Or.inl ⟨rfl, trivial, tu, rg, rfl⟩) [3, 0, 1, 2] rfl (by decide) (Nat.le_of_ble_eq_true rfl) (Nat.le_of_ble_eq_true rfl) dX6_rate_184
            exfalso; exact absurd c11 (by decide)
          exfalso; exact absurd c10 (by decide)
        have tu : ¬ (¬ 10 ≤ nI (rt j)) := fun h => h (by rw [c7]; decide)
        refine lv_iconst (v := 1) hx hb dX6_rate_94 (by decide) ?_
        refine lv_goto (tgt := 99) hx hb dX6_rate_95 (by decide) ?_
        refine lv_iload_n hx hb dX6_rate_99 rfl (lv_at hl 5 rfl) ?_
        refine lv_i2l (v := p2.toInt64) hx hb dX6_rate_100 rfl ?_
        refine lv_lconst (v := 0) hx hb dX6_rate_101 (by decide) ?_
        refine lv_ldc2 (v := 365) hx hb hown (hZ _ t_322) dX6_rate_102 ?_
        have J := zJ.mk (wc := []) (wr := [(m0, .inr (6, [.int th, .int (nI M.1), .ref m1, .ref m2, .int (nI bt), .ref m3, .int (nI ln), .ref m4, .ref m5, .int (nI cl), .ref m6, .ref m7, .ref m8, .ref m9, .ref m10, .ref m11, .ref m12, .int (nI pn), .ref m13, .ref m14])), (m10, .inl (D.2 0, 3, .inl (fun i => nI (rt i)))), (m11, .inl (D.2 0, 30, .inl rd)), (m12, .inl (D.2 0, 30, .inl rv))]) hA hB hK hP hD hS [] [0, 1, 2, 3] rfl rfl (by decide)
        refine z_goi (z_runS (As := [.long p2.toInt64, .long 0, .long 365]) (rest := [.int 1, .int 0, .ref m0]) hF (d_lies D p2.toInt64 0 365 H.size) (va_cwS 3 hZ (z_gS t_273 t_274 t_272 t_271) rfl rfl rfl (by decide +kernel) ⟨Nat.le_of_ble_eq_true rfl, Nat.le_of_ble_eq_true rfl⟩) J rfl hl.1 (Nat.le_of_ble_eq_true rfl) dX6_rate_105 ⟨Nat.le_of_ble_eq_true rfl, Nat.le_of_ble_eq_true rfl⟩) J (fun r2 _ H locs w2 hP hD hS => ?_)
        have hP : va_P D.1 vwCl [(m0, .inr (6, [.int th, .int (nI M.1), .ref m1, .ref m2, .int (nI bt), .ref m3, .int (nI ln), .ref m4, .ref m5, .int (nI cl), .ref m6, .ref m7, .ref m8, .ref m9, .ref m10, .ref m11, .ref m12, .int (nI pn), .ref m13, .ref m14])), (m10, .inl (D.2 0, 3, .inl (fun i => nI (rt i)))), (m11, .inl (D.2 0, 30, .inl rd)), (m12, .inl (D.2 0, 30, .inl rv))] H := hP
        have hD : va_D A [(m0, .inr (6, [.int th, .int (nI M.1), .ref m1, .ref m2, .int (nI bt), .ref m3, .int (nI ln), .ref m4, .ref m5, .int (nI cl), .ref m6, .ref m7, .ref m8, .ref m9, .ref m10, .ref m11, .ref m12, .int (nI pn), .ref m13, .ref m14])), (m10, .inl (D.2 0, 3, .inl (fun i => nI (rt i)))), (m11, .inl (D.2 0, 30, .inl rd)), (m12, .inl (D.2 0, 30, .inl rv))] := hD
        have f2 : (r2 = 1 ∧ ¬ p2 < 0 ∧ p2 ≤ 365) ∨ (r2 = 0 ∧ ¬ (¬ p2 < 0 ∧ p2 ≤ 365)) := z_li (a := 0) (b := 365) (by decide) (by decide) w2
        refine lv_if_eq (tgt := 128) hx hb dX6_rate_108 (by decide) (fun c8 => ?_) (fun c8 => ?_)
        · skip
          have g2 := z_b0 f2 c8
          have rg : ¬ (¬ p2 < 0 ∧ p2 ≤ 365 ∧ ¬ p3 < 1 ∧ p3 ≤ 100000000 ∧ ¬ (0 < rt j ∧ p2 ≤ rd (10 * j + (rt j - 1)))) := fun h => g2 ⟨h.1, h.2.1⟩
          refine lv_iconst (v := 1) hx hb dX6_rate_128 (by decide) ?_
          refine lv_goto (tgt := 133) hx hb dX6_rate_129 (by decide) ?_
          refine lv_iconst (v := 0) hx hb dX6_rate_133 (by decide) ?_
          have J := zJ.mk (wc := [(m0, .inr (6, [.int th, .int (nI M.1), .ref m1, .ref m2, .int (nI bt), .ref m3, .int (nI ln), .ref m4, .ref m5, .int (nI cl), .ref m6, .ref m7, .ref m8, .ref m9, .ref m10, .ref m11, .ref m12, .int (nI pn), .ref m13, .ref m14]))]) (wr := [(m10, .inl (D.2 0, 3, .inl (fun i => nI (rt i)))), (m11, .inl (D.2 0, 30, .inl rd)), (m12, .inl (D.2 0, 30, .inl rv))]) hA hB hK hP hD hS [0] [1, 2, 3] rfl rfl (by decide)
          refine z_goi (z_runV (As := [.int 0, .int 1, .int 1, .int 0]) (rest := []) (b := m0) hF (d_throwing D m0 m1 m2 m3 m4 m5 m6 m7 m8 m9 m10 m11 m12 m13 m14 (M.1, fun _ => 0, fun _ => 0) bt ln cl pn th 0 1 1 0 H.size) (cwV 4 hZ (z_gV t_286 t_287 t_288 t_272 t_285) rfl rfl rfl (by decide +kernel) ⟨Nat.le_of_ble_eq_true rfl, Nat.le_of_ble_eq_true rfl⟩) J 0 6 rfl rfl rfl rfl hl.1 (Nat.le_of_ble_eq_true rfl) dX6_rate_134 ⟨Nat.le_of_ble_eq_true rfl, Nat.le_of_ble_eq_true rfl⟩) J (fun r4 _ H locs w4 hP hD hS => ?_)
          have hP : va_P D.1 vwCl [(m10, .inl (D.2 0, 3, .inl (fun i => nI (rt i)))), (m11, .inl (D.2 0, 30, .inl rd)), (m12, .inl (D.2 0, 30, .inl rv)), (m0, .inr (6, [.int 2, .int (nI M.1), .ref m1, .ref m2, .int (nI bt), .ref m3, .int (nI ln), .ref m4, .ref m5, .int (nI cl), .ref m6, .ref m7, .ref m8, .ref m9, .ref m10, .ref m11, .ref m12, .int (nI pn), .ref m13, .ref m14]))] H := hP
          have hD : va_D A [(m10, .inl (D.2 0, 3, .inl (fun i => nI (rt i)))), (m11, .inl (D.2 0, 30, .inl rd)), (m12, .inl (D.2 0, 30, .inl rv)), (m0, .inr (6, [.int 2, .int (nI M.1), .ref m1, .ref m2, .int (nI bt), .ref m3, .int (nI ln), .ref m4, .ref m5, .int (nI cl), .ref m6, .ref m7, .ref m8, .ref m9, .ref m10, .ref m11, .ref m12, .int (nI pn), .ref m13, .ref m14]))] := hD
          have w4 : r4 = 1 := w4
          subst w4
          refine lv_if_eq (tgt := 142) hx hb dX6_rate_137 (by decide) (fun c11 => ?_) (fun c11 => ?_)
          · skip
            exfalso; exact absurd c11 (by decide)
          refine lv_iconst (v := 0) hx hb dX6_rate_140 (by decide) ?_
          exact z_iret (v := 0) hx hb hr hlocks hP hD hS (some 2) (Or.inr (Or.inr (Or.inl ⟨rfl, trivial, tu⟩))) [3, 0, 1, 2] rfl (by decide) (Nat.le_of_ble_eq_true rfl) (Nat.le_of_ble_eq_true rfl) dX6_rate_141
        have g2 := z_b1 f2 c8
        refine lv_iload_n hx hb dX6_rate_111 rfl (lv_at hl 6 rfl) ?_
        refine lv_i2l (v := p3.toInt64) hx hb dX6_rate_112 rfl ?_
        refine lv_lconst (v := 1) hx hb dX6_rate_113 (by decide) ?_
        refine lv_ldc2 (v := 100000000) hx hb hown (hZ _ t_323) dX6_rate_114 ?_
        have J := zJ.mk (wc := []) (wr := [(m0, .inr (6, [.int th, .int (nI M.1), .ref m1, .ref m2, .int (nI bt), .ref m3, .int (nI ln), .ref m4, .ref m5, .int (nI cl), .ref m6, .ref m7, .ref m8, .ref m9, .ref m10, .ref m11, .ref m12, .int (nI pn), .ref m13, .ref m14])), (m10, .inl (D.2 0, 3, .inl (fun i => nI (rt i)))), (m11, .inl (D.2 0, 30, .inl rd)), (m12, .inl (D.2 0, 30, .inl rv))]) hA hB hK hP hD hS [] [0, 1, 2, 3] rfl rfl (by decide)
        refine z_goi (z_runS (As := [.long p3.toInt64, .long 1, .long 100000000]) (rest := [.int 1, .int 0, .ref m0]) hF (d_lies D p3.toInt64 1 100000000 H.size) (va_cwS 3 hZ (z_gS t_273 t_274 t_272 t_271) rfl rfl rfl (by decide +kernel) ⟨Nat.le_of_ble_eq_true rfl, Nat.le_of_ble_eq_true rfl⟩) J rfl hl.1 (Nat.le_of_ble_eq_true rfl) dX6_rate_117 ⟨Nat.le_of_ble_eq_true rfl, Nat.le_of_ble_eq_true rfl⟩) J (fun r3 _ H locs w3 hP hD hS => ?_)
        have hP : va_P D.1 vwCl [(m0, .inr (6, [.int th, .int (nI M.1), .ref m1, .ref m2, .int (nI bt), .ref m3, .int (nI ln), .ref m4, .ref m5, .int (nI cl), .ref m6, .ref m7, .ref m8, .ref m9, .ref m10, .ref m11, .ref m12, .int (nI pn), .ref m13, .ref m14])), (m10, .inl (D.2 0, 3, .inl (fun i => nI (rt i)))), (m11, .inl (D.2 0, 30, .inl rd)), (m12, .inl (D.2 0, 30, .inl rv))] H := hP
        have hD : va_D A [(m0, .inr (6, [.int th, .int (nI M.1), .ref m1, .ref m2, .int (nI bt), .ref m3, .int (nI ln), .ref m4, .ref m5, .int (nI cl), .ref m6, .ref m7, .ref m8, .ref m9, .ref m10, .ref m11, .ref m12, .int (nI pn), .ref m13, .ref m14])), (m10, .inl (D.2 0, 3, .inl (fun i => nI (rt i)))), (m11, .inl (D.2 0, 30, .inl rd)), (m12, .inl (D.2 0, 30, .inl rv))] := hD
        have f3 : (r3 = 1 ∧ ¬ p3 < 1 ∧ p3 ≤ 100000000) ∨ (r3 = 0 ∧ ¬ (¬ p3 < 1 ∧ p3 ≤ 100000000)) := z_li (a := 1) (b := 100000000) (by decide) (by decide) w3
        refine lv_if_eq (tgt := 128) hx hb dX6_rate_120 (by decide) (fun c9 => ?_) (fun c9 => ?_)
        · skip
          have g3 := z_b0 f3 c9
          have rg : ¬ (¬ p2 < 0 ∧ p2 ≤ 365 ∧ ¬ p3 < 1 ∧ p3 ≤ 100000000 ∧ ¬ (0 < rt j ∧ p2 ≤ rd (10 * j + (rt j - 1)))) := fun h => g3 ⟨h.2.2.1, h.2.2.2.1⟩
          refine lv_iconst (v := 1) hx hb dX6_rate_128 (by decide) ?_
          refine lv_goto (tgt := 133) hx hb dX6_rate_129 (by decide) ?_
          refine lv_iconst (v := 0) hx hb dX6_rate_133 (by decide) ?_
          have J := zJ.mk (wc := [(m0, .inr (6, [.int th, .int (nI M.1), .ref m1, .ref m2, .int (nI bt), .ref m3, .int (nI ln), .ref m4, .ref m5, .int (nI cl), .ref m6, .ref m7, .ref m8, .ref m9, .ref m10, .ref m11, .ref m12, .int (nI pn), .ref m13, .ref m14]))]) (wr := [(m10, .inl (D.2 0, 3, .inl (fun i => nI (rt i)))), (m11, .inl (D.2 0, 30, .inl rd)), (m12, .inl (D.2 0, 30, .inl rv))]) hA hB hK hP hD hS [0] [1, 2, 3] rfl rfl (by decide)
          refine z_goi (z_runV (As := [.int 0, .int 1, .int 1, .int 0]) (rest := []) (b := m0) hF (d_throwing D m0 m1 m2 m3 m4 m5 m6 m7 m8 m9 m10 m11 m12 m13 m14 (M.1, fun _ => 0, fun _ => 0) bt ln cl pn th 0 1 1 0 H.size) (cwV 4 hZ (z_gV t_286 t_287 t_288 t_272 t_285) rfl rfl rfl (by decide +kernel) ⟨Nat.le_of_ble_eq_true rfl, Nat.le_of_ble_eq_true rfl⟩) J 0 6 rfl rfl rfl rfl hl.1 (Nat.le_of_ble_eq_true rfl) dX6_rate_134 ⟨Nat.le_of_ble_eq_true rfl, Nat.le_of_ble_eq_true rfl⟩) J (fun r4 _ H locs w4 hP hD hS => ?_)
          have hP : va_P D.1 vwCl [(m10, .inl (D.2 0, 3, .inl (fun i => nI (rt i)))), (m11, .inl (D.2 0, 30, .inl rd)), (m12, .inl (D.2 0, 30, .inl rv)), (m0, .inr (6, [.int 2, .int (nI M.1), .ref m1, .ref m2, .int (nI bt), .ref m3, .int (nI ln), .ref m4, .ref m5, .int (nI cl), .ref m6, .ref m7, .ref m8, .ref m9, .ref m10, .ref m11, .ref m12, .int (nI pn), .ref m13, .ref m14]))] H := hP
          have hD : va_D A [(m10, .inl (D.2 0, 3, .inl (fun i => nI (rt i)))), (m11, .inl (D.2 0, 30, .inl rd)), (m12, .inl (D.2 0, 30, .inl rv)), (m0, .inr (6, [.int 2, .int (nI M.1), .ref m1, .ref m2, .int (nI bt), .ref m3, .int (nI ln), .ref m4, .ref m5, .int (nI cl), .ref m6, .ref m7, .ref m8, .ref m9, .ref m10, .ref m11, .ref m12, .int (nI pn), .ref m13, .ref m14]))] := hD
          have w4 : r4 = 1 := w4
          subst w4
          refine lv_if_eq (tgt := 142) hx hb dX6_rate_137 (by decide) (fun c11 => ?_) (fun c11 => ?_)
          · skip
            exfalso; exact absurd c11 (by decide)
          refine lv_iconst (v := 0) hx hb dX6_rate_140 (by decide) ?_
          exact z_iret (v := 0) hx hb hr hlocks hP hD hS (some 2) (Or.inr (Or.inr (Or.inl ⟨rfl, trivial, tu⟩))) [3, 0, 1, 2] rfl (by decide) (Nat.le_of_ble_eq_true rfl) (Nat.le_of_ble_eq_true rfl) dX6_rate_141
        have g3 := z_b1 f3 c9
        refine lv_iload hx hb dX6_rate_123 (lv_at hl 0 rfl) ?_
        refine lv_if_eq (tgt := 132) hx hb dX6_rate_125 (by decide) (fun c10 => ?_) (fun c10 => ?_)
        · skip
          have rg : ¬ p2 < 0 ∧ p2 ≤ 365 ∧ ¬ p3 < 1 ∧ p3 ≤ 100000000 ∧ ¬ (0 < rt j ∧ p2 ≤ rd (10 * j + (rt j - 1))) := ⟨g2.1, g2.2, g3.1, g3.2, fl⟩
          refine lv_iconst (v := 0) hx hb dX6_rate_132 (by decide) ?_
          refine lv_iconst (v := 0) hx hb dX6_rate_133 (by decide) ?_
          have J := zJ.mk (wc := [(m0, .inr (6, [.int th, .int (nI M.1), .ref m1, .ref m2, .int (nI bt), .ref m3, .int (nI ln), .ref m4, .ref m5, .int (nI cl), .ref m6, .ref m7, .ref m8, .ref m9, .ref m10, .ref m11, .ref m12, .int (nI pn), .ref m13, .ref m14]))]) (wr := [(m10, .inl (D.2 0, 3, .inl (fun i => nI (rt i)))), (m11, .inl (D.2 0, 30, .inl rd)), (m12, .inl (D.2 0, 30, .inl rv))]) hA hB hK hP hD hS [0] [1, 2, 3] rfl rfl (by decide)
          refine z_goi (z_runV (As := [.int 0, .int 1, .int 0, .int 0]) (rest := []) (b := m0) hF (d_throwing D m0 m1 m2 m3 m4 m5 m6 m7 m8 m9 m10 m11 m12 m13 m14 (M.1, fun _ => 0, fun _ => 0) bt ln cl pn th 0 1 0 0 H.size) (cwV 4 hZ (z_gV t_286 t_287 t_288 t_272 t_285) rfl rfl rfl (by decide +kernel) ⟨Nat.le_of_ble_eq_true rfl, Nat.le_of_ble_eq_true rfl⟩) J 0 6 rfl rfl rfl rfl hl.1 (Nat.le_of_ble_eq_true rfl) dX6_rate_134 ⟨Nat.le_of_ble_eq_true rfl, Nat.le_of_ble_eq_true rfl⟩) J (fun r4 _ H locs w4 hP hD hS => ?_)
          have hP : va_P D.1 vwCl [(m10, .inl (D.2 0, 3, .inl (fun i => nI (rt i)))), (m11, .inl (D.2 0, 30, .inl rd)), (m12, .inl (D.2 0, 30, .inl rv)), (m0, .inr (6, [.int 2, .int (nI M.1), .ref m1, .ref m2, .int (nI bt), .ref m3, .int (nI ln), .ref m4, .ref m5, .int (nI cl), .ref m6, .ref m7, .ref m8, .ref m9, .ref m10, .ref m11, .ref m12, .int (nI pn), .ref m13, .ref m14]))] H := hP
          have hD : va_D A [(m10, .inl (D.2 0, 3, .inl (fun i => nI (rt i)))), (m11, .inl (D.2 0, 30, .inl rd)), (m12, .inl (D.2 0, 30, .inl rv)), (m0, .inr (6, [.int 2, .int (nI M.1), .ref m1, .ref m2, .int (nI bt), .ref m3, .int (nI ln), .ref m4, .ref m5, .int (nI cl), .ref m6, .ref m7, .ref m8, .ref m9, .ref m10, .ref m11, .ref m12, .int (nI pn), .ref m13, .ref m14]))] := hD
          have w4 : r4 = 1 := w4
          subst w4
          refine lv_if_eq (tgt := 142) hx hb dX6_rate_137 (by decide) (fun c11 => ?_) (fun c11 => ?_)
          · skip
            exfalso; exact absurd c11 (by decide)
          refine lv_iconst (v := 0) hx hb dX6_rate_140 (by decide) ?_
          exact z_iret (v := 0) hx hb hr hlocks hP hD hS (some 2) (Or.inr (Or.inr (Or.inl ⟨rfl, trivial, tu⟩))) [3, 0, 1, 2] rfl (by decide) (Nat.le_of_ble_eq_true rfl) (Nat.le_of_ble_eq_true rfl) dX6_rate_141
        exfalso; exact absurd c10 (by decide)
      have h3 : 0 < rt j := Nat.pos_of_ne_zero (fun h => c3 (by rw [h]; decide))
      refine lv_iload_n hx hb dX6_rate_41 rfl (lv_at hl 4 rfl) ?_
      refine lv_aload_n hx hb dX6_rate_42 rfl (lv_at hl 2 rfl) ?_
      refine va_get (D := D.1) (ci := 6) (v := .ref m11) (C := "ShopLedgerModel") (T := TX6) (N := 20) hx hb hZ inX6 hown hK hP 0 rfl rfl 15 (by decide) (hZ _ t_324) (fun _ h9 => h9) rfl dX6_rate_43 ?_
      refine lv_bipush (v := 10) hx hb dX6_rate_46 (by decide) ?_
      refine lv_iload hx hb dX6_rate_48 (lv_at hl 1 rfl) ?_
      refine lv_if_eq (tgt := 57) hx hb dX6_rate_50 (by decide) (fun c4 => ?_) (fun c4 => ?_)
      · skip
        refine lv_iload_n hx hb dX6_rate_57 rfl (lv_at hl 3 rfl) ?_
        refine lv_imul hx hb dX6_rate_58 ?_
        rw [show (10 * (nI j)) = nI (10 * j) from pk_mul 10 j]
        refine lv_iload hx hb dX6_rate_59 (lv_at hl 0 rfl) ?_
        refine lv_if_le (tgt := 71) hx hb dX6_rate_61 (by decide) (fun c5 => ?_) (fun c5 => ?_)
        · skip
          exfalso; exact c3 c5
        refine lv_iload hx hb dX6_rate_64 (lv_at hl 0 rfl) ?_
        refine lv_iconst (v := 1) hx hb dX6_rate_66 (by decide) ?_
        refine lv_isub hx hb dX6_rate_67 ?_
        rw [show ((nI (rt j)) - 1) = nI (rt j - 1) from pk_sub (b := 1) h3]
        refine lv_goto (tgt := 72) hx hb dX6_rate_68 (by decide) ?_
        refine lv_iadd hx hb dX6_rate_72 ?_
        rw [show ((nI (10 * j)) + (nI (rt j - 1))) = nI (10 * j + (rt j - 1)) from nI_add _ _]
        refine z_iald (k := 10 * j + (rt j - 1)) hx hb hK hP 2 rfl (by omega) (by decide) dX6_rate_73 ?_
        refine lv_icmp_gt (tgt := 81) hx hb dX6_rate_74 (by decide) (fun c6 => ?_) (fun c6 => ?_)
        · skip
          have fl : ¬ (0 < rt j ∧ p2 ≤ rd (10 * j + (rt j - 1))) := fun h => Int32.not_le.mpr c6 h.2
          refine lv_iconst (v := 0) hx hb dX6_rate_81 (by decide) ?_
          refine lv_istore (lv' := [(6, .int 0), (5, .int (nI (rt j))), (4, .int 0), (0, .ref m0), (1, .int (nI j)), (2, .int p2), (3, .int p3)]) hx hb dX6_rate_82 hl (by decide) rfl (fun ls hl => ?_)
          refine lv_aload_n hx hb dX6_rate_84 rfl (lv_at hl 3 rfl) ?_
          refine lv_iload hx hb dX6_rate_85 (lv_at hl 2 rfl) ?_
          refine lv_iload hx hb dX6_rate_87 (lv_at hl 1 rfl) ?_
          refine lv_bipush (v := 10) hx hb dX6_rate_89 (by decide) ?_
          refine lv_icmp_ne (tgt := 98) hx hb dX6_rate_91 (by decide) (fun c7 => ?_) (fun c7 => ?_)
          · skip
            have tu : ¬ 10 ≤ nI (rt j) := fun h => c7 (z_full (t := 10) hy (by decide) h)
            refine lv_iconst (v := 0) hx hb dX6_rate_98 (by decide) ?_
            refine lv_iload_n hx hb dX6_rate_99 rfl (lv_at hl 5 rfl) ?_
            refine lv_i2l (v := p2.toInt64) hx hb dX6_rate_100 rfl ?_
            refine lv_lconst (v := 0) hx hb dX6_rate_101 (by decide) ?_
            refine lv_ldc2 (v := 365) hx hb hown (hZ _ t_322) dX6_rate_102 ?_
            have J := zJ.mk (wc := []) (wr := [(m0, .inr (6, [.int th, .int (nI M.1), .ref m1, .ref m2, .int (nI bt), .ref m3, .int (nI ln), .ref m4, .ref m5, .int (nI cl), .ref m6, .ref m7, .ref m8, .ref m9, .ref m10, .ref m11, .ref m12, .int (nI pn), .ref m13, .ref m14])), (m10, .inl (D.2 0, 3, .inl (fun i => nI (rt i)))), (m11, .inl (D.2 0, 30, .inl rd)), (m12, .inl (D.2 0, 30, .inl rv))]) hA hB hK hP hD hS [] [0, 1, 2, 3] rfl rfl (by decide)
            refine z_goi (z_runS (As := [.long p2.toInt64, .long 0, .long 365]) (rest := [.int 0, .int 0, .ref m0]) hF (d_lies D p2.toInt64 0 365 H.size) (va_cwS 3 hZ (z_gS t_273 t_274 t_272 t_271) rfl rfl rfl (by decide +kernel) ⟨Nat.le_of_ble_eq_true rfl, Nat.le_of_ble_eq_true rfl⟩) J rfl hl.1 (Nat.le_of_ble_eq_true rfl) dX6_rate_105 ⟨Nat.le_of_ble_eq_true rfl, Nat.le_of_ble_eq_true rfl⟩) J (fun r2 _ H locs w2 hP hD hS => ?_)
            have hP : va_P D.1 vwCl [(m0, .inr (6, [.int th, .int (nI M.1), .ref m1, .ref m2, .int (nI bt), .ref m3, .int (nI ln), .ref m4, .ref m5, .int (nI cl), .ref m6, .ref m7, .ref m8, .ref m9, .ref m10, .ref m11, .ref m12, .int (nI pn), .ref m13, .ref m14])), (m10, .inl (D.2 0, 3, .inl (fun i => nI (rt i)))), (m11, .inl (D.2 0, 30, .inl rd)), (m12, .inl (D.2 0, 30, .inl rv))] H := hP
            have hD : va_D A [(m0, .inr (6, [.int th, .int (nI M.1), .ref m1, .ref m2, .int (nI bt), .ref m3, .int (nI ln), .ref m4, .ref m5, .int (nI cl), .ref m6, .ref m7, .ref m8, .ref m9, .ref m10, .ref m11, .ref m12, .int (nI pn), .ref m13, .ref m14])), (m10, .inl (D.2 0, 3, .inl (fun i => nI (rt i)))), (m11, .inl (D.2 0, 30, .inl rd)), (m12, .inl (D.2 0, 30, .inl rv))] := hD
            have f2 : (r2 = 1 ∧ ¬ p2 < 0 ∧ p2 ≤ 365) ∨ (r2 = 0 ∧ ¬ (¬ p2 < 0 ∧ p2 ≤ 365)) := z_li (a := 0) (b := 365) (by decide) (by decide) w2
            refine lv_if_eq (tgt := 128) hx hb dX6_rate_108 (by decide) (fun c8 => ?_) (fun c8 => ?_)
            · skip
              have g2 := z_b0 f2 c8
              have rg : ¬ (¬ p2 < 0 ∧ p2 ≤ 365 ∧ ¬ p3 < 1 ∧ p3 ≤ 100000000 ∧ ¬ (0 < rt j ∧ p2 ≤ rd (10 * j + (rt j - 1)))) := fun h => g2 ⟨h.1, h.2.1⟩
              refine lv_iconst (v := 1) hx hb dX6_rate_128 (by decide) ?_
              refine lv_goto (tgt := 133) hx hb dX6_rate_129 (by decide) ?_
              refine lv_iconst (v := 0) hx hb dX6_rate_133 (by decide) ?_
              have J := zJ.mk (wc := [(m0, .inr (6, [.int th, .int (nI M.1), .ref m1, .ref m2, .int (nI bt), .ref m3, .int (nI ln), .ref m4, .ref m5, .int (nI cl), .ref m6, .ref m7, .ref m8, .ref m9, .ref m10, .ref m11, .ref m12, .int (nI pn), .ref m13, .ref m14]))]) (wr := [(m10, .inl (D.2 0, 3, .inl (fun i => nI (rt i)))), (m11, .inl (D.2 0, 30, .inl rd)), (m12, .inl (D.2 0, 30, .inl rv))]) hA hB hK hP hD hS [0] [1, 2, 3] rfl rfl (by decide)
              refine z_goi (z_runV (As := [.int 0, .int 0, .int 1, .int 0]) (rest := []) (b := m0) hF (d_throwing D m0 m1 m2 m3 m4 m5 m6 m7 m8 m9 m10 m11 m12 m13 m14 (M.1, fun _ => 0, fun _ => 0) bt ln cl pn th 0 0 1 0 H.size) (cwV 4 hZ (z_gV t_286 t_287 t_288 t_272 t_285) rfl rfl rfl (by decide +kernel) ⟨Nat.le_of_ble_eq_true rfl, Nat.le_of_ble_eq_true rfl⟩) J 0 6 rfl rfl rfl rfl hl.1 (Nat.le_of_ble_eq_true rfl) dX6_rate_134 ⟨Nat.le_of_ble_eq_true rfl, Nat.le_of_ble_eq_true rfl⟩) J (fun r4 _ H locs w4 hP hD hS => ?_)
              have hP : va_P D.1 vwCl [(m10, .inl (D.2 0, 3, .inl (fun i => nI (rt i)))), (m11, .inl (D.2 0, 30, .inl rd)), (m12, .inl (D.2 0, 30, .inl rv)), (m0, .inr (6, [.int 3, .int (nI M.1), .ref m1, .ref m2, .int (nI bt), .ref m3, .int (nI ln), .ref m4, .ref m5, .int (nI cl), .ref m6, .ref m7, .ref m8, .ref m9, .ref m10, .ref m11, .ref m12, .int (nI pn), .ref m13, .ref m14]))] H := hP
              have hD : va_D A [(m10, .inl (D.2 0, 3, .inl (fun i => nI (rt i)))), (m11, .inl (D.2 0, 30, .inl rd)), (m12, .inl (D.2 0, 30, .inl rv)), (m0, .inr (6, [.int 3, .int (nI M.1), .ref m1, .ref m2, .int (nI bt), .ref m3, .int (nI ln), .ref m4, .ref m5, .int (nI cl), .ref m6, .ref m7, .ref m8, .ref m9, .ref m10, .ref m11, .ref m12, .int (nI pn), .ref m13, .ref m14]))] := hD
              have w4 : r4 = 1 := w4
              subst w4
              refine lv_if_eq (tgt := 142) hx hb dX6_rate_137 (by decide) (fun c11 => ?_) (fun c11 => ?_)
              · skip
                exfalso; exact absurd c11 (by decide)
              refine lv_iconst (v := 0) hx hb dX6_rate_140 (by decide) ?_
              exact z_iret (v := 0) hx hb hr hlocks hP hD hS (some 3) (Or.inr (Or.inr (Or.inr (⟨rfl, trivial, tu, rg⟩)))) [3, 0, 1, 2] rfl (by decide) (Nat.le_of_ble_eq_true rfl) (Nat.le_of_ble_eq_true rfl) dX6_rate_141
            have g2 := z_b1 f2 c8
            refine lv_iload_n hx hb dX6_rate_111 rfl (lv_at hl 6 rfl) ?_
            refine lv_i2l (v := p3.toInt64) hx hb dX6_rate_112 rfl ?_
            refine lv_lconst (v := 1) hx hb dX6_rate_113 (by decide) ?_
            refine lv_ldc2 (v := 100000000) hx hb hown (hZ _ t_323) dX6_rate_114 ?_
            have J := zJ.mk (wc := []) (wr := [(m0, .inr (6, [.int th, .int (nI M.1), .ref m1, .ref m2, .int (nI bt), .ref m3, .int (nI ln), .ref m4, .ref m5, .int (nI cl), .ref m6, .ref m7, .ref m8, .ref m9, .ref m10, .ref m11, .ref m12, .int (nI pn), .ref m13, .ref m14])), (m10, .inl (D.2 0, 3, .inl (fun i => nI (rt i)))), (m11, .inl (D.2 0, 30, .inl rd)), (m12, .inl (D.2 0, 30, .inl rv))]) hA hB hK hP hD hS [] [0, 1, 2, 3] rfl rfl (by decide)
            refine z_goi (z_runS (As := [.long p3.toInt64, .long 1, .long 100000000]) (rest := [.int 0, .int 0, .ref m0]) hF (d_lies D p3.toInt64 1 100000000 H.size) (va_cwS 3 hZ (z_gS t_273 t_274 t_272 t_271) rfl rfl rfl (by decide +kernel) ⟨Nat.le_of_ble_eq_true rfl, Nat.le_of_ble_eq_true rfl⟩) J rfl hl.1 (Nat.le_of_ble_eq_true rfl) dX6_rate_117 ⟨Nat.le_of_ble_eq_true rfl, Nat.le_of_ble_eq_true rfl⟩) J (fun r3 _ H locs w3 hP hD hS => ?_)
            have hP : va_P D.1 vwCl [(m0, .inr (6, [.int th, .int (nI M.1), .ref m1, .ref m2, .int (nI bt), .ref m3, .int (nI ln), .ref m4, .ref m5, .int (nI cl), .ref m6, .ref m7, .ref m8, .ref m9, .ref m10, .ref m11, .ref m12, .int (nI pn), .ref m13, .ref m14])), (m10, .inl (D.2 0, 3, .inl (fun i => nI (rt i)))), (m11, .inl (D.2 0, 30, .inl rd)), (m12, .inl (D.2 0, 30, .inl rv))] H := hP
            have hD : va_D A [(m0, .inr (6, [.int th, .int (nI M.1), .ref m1, .ref m2, .int (nI bt), .ref m3, .int (nI ln), .ref m4, .ref m5, .int (nI cl), .ref m6, .ref m7, .ref m8, .ref m9, .ref m10, .ref m11, .ref m12, .int (nI pn), .ref m13, .ref m14])), (m10, .inl (D.2 0, 3, .inl (fun i => nI (rt i)))), (m11, .inl (D.2 0, 30, .inl rd)), (m12, .inl (D.2 0, 30, .inl rv))] := hD
            have f3 : (r3 = 1 ∧ ¬ p3 < 1 ∧ p3 ≤ 100000000) ∨ (r3 = 0 ∧ ¬ (¬ p3 < 1 ∧ p3 ≤ 100000000)) := z_li (a := 1) (b := 100000000) (by decide) (by decide) w3
            refine lv_if_eq (tgt := 128) hx hb dX6_rate_120 (by decide) (fun c9 => ?_) (fun c9 => ?_)
            · skip
              have g3 := z_b0 f3 c9
              have rg : ¬ (¬ p2 < 0 ∧ p2 ≤ 365 ∧ ¬ p3 < 1 ∧ p3 ≤ 100000000 ∧ ¬ (0 < rt j ∧ p2 ≤ rd (10 * j + (rt j - 1)))) := fun h => g3 ⟨h.2.2.1, h.2.2.2.1⟩
              refine lv_iconst (v := 1) hx hb dX6_rate_128 (by decide) ?_
              refine lv_goto (tgt := 133) hx hb dX6_rate_129 (by decide) ?_
              refine lv_iconst (v := 0) hx hb dX6_rate_133 (by decide) ?_
              have J := zJ.mk (wc := [(m0, .inr (6, [.int th, .int (nI M.1), .ref m1, .ref m2, .int (nI bt), .ref m3, .int (nI ln), .ref m4, .ref m5, .int (nI cl), .ref m6, .ref m7, .ref m8, .ref m9, .ref m10, .ref m11, .ref m12, .int (nI pn), .ref m13, .ref m14]))]) (wr := [(m10, .inl (D.2 0, 3, .inl (fun i => nI (rt i)))), (m11, .inl (D.2 0, 30, .inl rd)), (m12, .inl (D.2 0, 30, .inl rv))]) hA hB hK hP hD hS [0] [1, 2, 3] rfl rfl (by decide)
              refine z_goi (z_runV (As := [.int 0, .int 0, .int 1, .int 0]) (rest := []) (b := m0) hF (d_throwing D m0 m1 m2 m3 m4 m5 m6 m7 m8 m9 m10 m11 m12 m13 m14 (M.1, fun _ => 0, fun _ => 0) bt ln cl pn th 0 0 1 0 H.size) (cwV 4 hZ (z_gV t_286 t_287 t_288 t_272 t_285) rfl rfl rfl (by decide +kernel) ⟨Nat.le_of_ble_eq_true rfl, Nat.le_of_ble_eq_true rfl⟩) J 0 6 rfl rfl rfl rfl hl.1 (Nat.le_of_ble_eq_true rfl) dX6_rate_134 ⟨Nat.le_of_ble_eq_true rfl, Nat.le_of_ble_eq_true rfl⟩) J (fun r4 _ H locs w4 hP hD hS => ?_)
              have hP : va_P D.1 vwCl [(m10, .inl (D.2 0, 3, .inl (fun i => nI (rt i)))), (m11, .inl (D.2 0, 30, .inl rd)), (m12, .inl (D.2 0, 30, .inl rv)), (m0, .inr (6, [.int 3, .int (nI M.1), .ref m1, .ref m2, .int (nI bt), .ref m3, .int (nI ln), .ref m4, .ref m5, .int (nI cl), .ref m6, .ref m7, .ref m8, .ref m9, .ref m10, .ref m11, .ref m12, .int (nI pn), .ref m13, .ref m14]))] H := hP
              have hD : va_D A [(m10, .inl (D.2 0, 3, .inl (fun i => nI (rt i)))), (m11, .inl (D.2 0, 30, .inl rd)), (m12, .inl (D.2 0, 30, .inl rv)), (m0, .inr (6, [.int 3, .int (nI M.1), .ref m1, .ref m2, .int (nI bt), .ref m3, .int (nI ln), .ref m4, .ref m5, .int (nI cl), .ref m6, .ref m7, .ref m8, .ref m9, .ref m10, .ref m11, .ref m12, .int (nI pn), .ref m13, .ref m14]))] := hD
              have w4 : r4 = 1 := w4
              subst w4
              refine lv_if_eq (tgt := 142) hx hb dX6_rate_137 (by decide) (fun c11 => ?_) (fun c11 => ?_)
              · skip
                exfalso; exact absurd c11 (by decide)
              refine lv_iconst (v := 0) hx hb dX6_rate_140 (by decide) ?_
              exact z_iret (v := 0) hx hb hr hlocks hP hD hS (some 3) (Or.inr (Or.inr (Or.inr (⟨rfl, trivial, tu, rg⟩)))) [3, 0, 1, 2] rfl (by decide) (Nat.le_of_ble_eq_true rfl) (Nat.le_of_ble_eq_true rfl) dX6_rate_141
            have g3 := z_b1 f3 c9
            refine lv_iload hx hb dX6_rate_123 (lv_at hl 0 rfl) ?_
            refine lv_if_eq (tgt := 132) hx hb dX6_rate_125 (by decide) (fun c10 => ?_) (fun c10 => ?_)
            · skip
              have rg : ¬ p2 < 0 ∧ p2 ≤ 365 ∧ ¬ p3 < 1 ∧ p3 ≤ 100000000 ∧ ¬ (0 < rt j ∧ p2 ≤ rd (10 * j + (rt j - 1))) := ⟨g2.1, g2.2, g3.1, g3.2, fl⟩
              refine lv_iconst (v := 0) hx hb dX6_rate_132 (by decide) ?_
              refine lv_iconst (v := 0) hx hb dX6_rate_133 (by decide) ?_
              have J := zJ.mk (wc := [(m0, .inr (6, [.int th, .int (nI M.1), .ref m1, .ref m2, .int (nI bt), .ref m3, .int (nI ln), .ref m4, .ref m5, .int (nI cl), .ref m6, .ref m7, .ref m8, .ref m9, .ref m10, .ref m11, .ref m12, .int (nI pn), .ref m13, .ref m14]))]) (wr := [(m10, .inl (D.2 0, 3, .inl (fun i => nI (rt i)))), (m11, .inl (D.2 0, 30, .inl rd)), (m12, .inl (D.2 0, 30, .inl rv))]) hA hB hK hP hD hS [0] [1, 2, 3] rfl rfl (by decide)
              refine z_goi (z_runV (As := [.int 0, .int 0, .int 0, .int 0]) (rest := []) (b := m0) hF (d_throwing D m0 m1 m2 m3 m4 m5 m6 m7 m8 m9 m10 m11 m12 m13 m14 (M.1, fun _ => 0, fun _ => 0) bt ln cl pn th 0 0 0 0 H.size) (cwV 4 hZ (z_gV t_286 t_287 t_288 t_272 t_285) rfl rfl rfl (by decide +kernel) ⟨Nat.le_of_ble_eq_true rfl, Nat.le_of_ble_eq_true rfl⟩) J 0 6 rfl rfl rfl rfl hl.1 (Nat.le_of_ble_eq_true rfl) dX6_rate_134 ⟨Nat.le_of_ble_eq_true rfl, Nat.le_of_ble_eq_true rfl⟩) J (fun r4 _ H locs w4 hP hD hS => ?_)
              have hP : va_P D.1 vwCl [(m10, .inl (D.2 0, 3, .inl (fun i => nI (rt i)))), (m11, .inl (D.2 0, 30, .inl rd)), (m12, .inl (D.2 0, 30, .inl rv)), (m0, .inr (6, [.int 0, .int (nI M.1), .ref m1, .ref m2, .int (nI bt), .ref m3, .int (nI ln), .ref m4, .ref m5, .int (nI cl), .ref m6, .ref m7, .ref m8, .ref m9, .ref m10, .ref m11, .ref m12, .int (nI pn), .ref m13, .ref m14]))] H := hP
              have hD : va_D A [(m10, .inl (D.2 0, 3, .inl (fun i => nI (rt i)))), (m11, .inl (D.2 0, 30, .inl rd)), (m12, .inl (D.2 0, 30, .inl rv)), (m0, .inr (6, [.int 0, .int (nI M.1), .ref m1, .ref m2, .int (nI bt), .ref m3, .int (nI ln), .ref m4, .ref m5, .int (nI cl), .ref m6, .ref m7, .ref m8, .ref m9, .ref m10, .ref m11, .ref m12, .int (nI pn), .ref m13, .ref m14]))] := hD
              have w4 : r4 = 0 := w4
              subst w4
              refine lv_if_eq (tgt := 142) hx hb dX6_rate_137 (by decide) (fun c11 => ?_) (fun c11 => ?_)
              · skip
                have hk : rt j < 10 := z_lt (t := 10) hy (by decide) tu
                refine lv_aload_n hx hb dX6_rate_142 rfl (lv_at hl 3 rfl) ?_
                refine va_get (D := D.1) (ci := 6) (v := .ref m11) (C := "ShopLedgerModel") (T := TX6) (N := 20) hx hb hZ inX6 hown hK hP 3 rfl rfl 15 (by decide) (hZ _ t_324) (fun _ h9 => h9) rfl dX6_rate_143 ?_
                refine lv_bipush (v := 10) hx hb dX6_rate_146 (by decide) ?_
                refine lv_iload_n hx hb dX6_rate_148 rfl (lv_at hl 4 rfl) ?_
                refine lv_imul hx hb dX6_rate_149 ?_
                rw [show (10 * (nI j)) = nI (10 * j) from pk_mul 10 j]
                refine lv_iload hx hb dX6_rate_150 (lv_at hl 1 rfl) ?_
                refine lv_iadd hx hb dX6_rate_152 ?_
                rw [show ((nI (10 * j)) + (nI (rt j))) = nI (10 * j + rt j) from nI_add _ _]
                refine lv_iload_n hx hb dX6_rate_153 rfl (lv_at hl 5 rfl) ?_
                refine z_iast (k := 10 * j + rt j) hx hb hK hP hD hS 1 rfl (by omega) (by decide) dX6_rate_154 (fun H locs hP hD hS => ?_)
                have hP : va_P D.1 vwCl [(m10, .inl (D.2 0, 3, .inl (fun i => nI (rt i)))), (m11, .inl (D.2 0, 30, .inl (upd rd (10 * j + rt j) p2))), (m12, .inl (D.2 0, 30, .inl rv)), (m0, .inr (6, [.int 0, .int (nI M.1), .ref m1, .ref m2, .int (nI bt), .ref m3, .int (nI ln), .ref m4, .ref m5, .int (nI cl), .ref m6, .ref m7, .ref m8, .ref m9, .ref m10, .ref m11, .ref m12, .int (nI pn), .ref m13, .ref m14]))] H := hP
                have hD : va_D A [(m10, .inl (D.2 0, 3, .inl (fun i => nI (rt i)))), (m11, .inl (D.2 0, 30, .inl (upd rd (10 * j + rt j) p2))), (m12, .inl (D.2 0, 30, .inl rv)), (m0, .inr (6, [.int 0, .int (nI M.1), .ref m1, .ref m2, .int (nI bt), .ref m3, .int (nI ln), .ref m4, .ref m5, .int (nI cl), .ref m6, .ref m7, .ref m8, .ref m9, .ref m10, .ref m11, .ref m12, .int (nI pn), .ref m13, .ref m14]))] := hD
                refine lv_aload_n hx hb dX6_rate_155 rfl (lv_at hl 3 rfl) ?_
                refine va_get (D := D.1) (ci := 6) (v := .ref m12) (C := "ShopLedgerModel") (T := TX6) (N := 20) hx hb hZ inX6 hown hK hP 3 rfl rfl 16 (by decide) (hZ _ t_325) (fun _ h9 => h9) rfl dX6_rate_156 ?_
                refine lv_bipush (v := 10) hx hb dX6_rate_159 (by decide) ?_
                refine lv_iload_n hx hb dX6_rate_161 rfl (lv_at hl 4 rfl) ?_
                refine lv_imul hx hb dX6_rate_162 ?_
                rw [show (10 * (nI j)) = nI (10 * j) from pk_mul 10 j]
                refine lv_iload hx hb dX6_rate_163 (lv_at hl 1 rfl) ?_
                refine lv_iadd hx hb dX6_rate_165 ?_
                rw [show ((nI (10 * j)) + (nI (rt j))) = nI (10 * j + rt j) from nI_add _ _]
                refine lv_iload_n hx hb dX6_rate_166 rfl (lv_at hl 6 rfl) ?_
                refine z_iast (k := 10 * j + rt j) hx hb hK hP hD hS 2 rfl (by omega) (by decide) dX6_rate_167 (fun H locs hP hD hS => ?_)
                have hP : va_P D.1 vwCl [(m10, .inl (D.2 0, 3, .inl (fun i => nI (rt i)))), (m11, .inl (D.2 0, 30, .inl (upd rd (10 * j + rt j) p2))), (m12, .inl (D.2 0, 30, .inl (upd rv (10 * j + rt j) p3))), (m0, .inr (6, [.int 0, .int (nI M.1), .ref m1, .ref m2, .int (nI bt), .ref m3, .int (nI ln), .ref m4, .ref m5, .int (nI cl), .ref m6, .ref m7, .ref m8, .ref m9, .ref m10, .ref m11, .ref m12, .int (nI pn), .ref m13, .ref m14]))] H := hP
                have hD : va_D A [(m10, .inl (D.2 0, 3, .inl (fun i => nI (rt i)))), (m11, .inl (D.2 0, 30, .inl (upd rd (10 * j + rt j) p2))), (m12, .inl (D.2 0, 30, .inl (upd rv (10 * j + rt j) p3))), (m0, .inr (6, [.int 0, .int (nI M.1), .ref m1, .ref m2, .int (nI bt), .ref m3, .int (nI ln), .ref m4, .ref m5, .int (nI cl), .ref m6, .ref m7, .ref m8, .ref m9, .ref m10, .ref m11, .ref m12, .int (nI pn), .ref m13, .ref m14]))] := hD
                refine lv_aload_n hx hb dX6_rate_168 rfl (lv_at hl 3 rfl) ?_
                refine va_get (D := D.1) (ci := 6) (v := .ref m10) (C := "ShopLedgerModel") (T := TX6) (N := 20) hx hb hZ inX6 hown hK hP 3 rfl rfl 14 (by decide) (hZ _ t_321) (fun _ h9 => h9) rfl dX6_rate_169 ?_
                refine lv_iload_n hx hb dX6_rate_172 rfl (lv_at hl 4 rfl) ?_
                refine lv_dup2_11 hx hb dX6_rate_173 rfl rfl ?_
                refine z_iald (k := j) hx hb hK hP 0 rfl (hj) (by decide) dX6_rate_174 ?_
                refine lv_iconst (v := 1) hx hb dX6_rate_175 (by decide) ?_
                refine lv_iadd hx hb dX6_rate_176 ?_
                rw [show ((nI (rt j)) + 1) = nI (rt j + 1) from nI_1 _]
                refine z_iast (k := j) hx hb hK hP hD hS 0 rfl (hj) (by decide) dX6_rate_177 (fun H locs hP hD hS => ?_)
                have hP : va_P D.1 vwCl [(m10, .inl (D.2 0, 3, .inl (upd (fun i => nI (rt i)) j (nI (rt j + 1))))), (m11, .inl (D.2 0, 30, .inl (upd rd (10 * j + rt j) p2))), (m12, .inl (D.2 0, 30, .inl (upd rv (10 * j + rt j) p3))), (m0, .inr (6, [.int 0, .int (nI M.1), .ref m1, .ref m2, .int (nI bt), .ref m3, .int (nI ln), .ref m4, .ref m5, .int (nI cl), .ref m6, .ref m7, .ref m8, .ref m9, .ref m10, .ref m11, .ref m12, .int (nI pn), .ref m13, .ref m14]))] H := hP
                have hD : va_D A [(m10, .inl (D.2 0, 3, .inl (upd (fun i => nI (rt i)) j (nI (rt j + 1))))), (m11, .inl (D.2 0, 30, .inl (upd rd (10 * j + rt j) p2))), (m12, .inl (D.2 0, 30, .inl (upd rv (10 * j + rt j) p3))), (m0, .inr (6, [.int 0, .int (nI M.1), .ref m1, .ref m2, .int (nI bt), .ref m3, .int (nI ln), .ref m4, .ref m5, .int (nI cl), .ref m6, .ref m7, .ref m8, .ref m9, .ref m10, .ref m11, .ref m12, .int (nI pn), .ref m13, .ref m14]))] := hD
                rw [z_updN] at hP hD
                have hP : va_P D.1 vwCl [(m10, .inl (D.2 0, 3, .inl (fun i => nI (va_up rt j (rt j + 1) i)))), (m11, .inl (D.2 0, 30, .inl (upd rd (10 * j + rt j) p2))), (m12, .inl (D.2 0, 30, .inl (upd rv (10 * j + rt j) p3))), (m0, .inr (6, [.int 0, .int (nI M.1), .ref m1, .ref m2, .int (nI bt), .ref m3, .int (nI ln), .ref m4, .ref m5, .int (nI cl), .ref m6, .ref m7, .ref m8, .ref m9, .ref m10, .ref m11, .ref m12, .int (nI pn), .ref m13, .ref m14]))] H := hP
                have hD : va_D A [(m10, .inl (D.2 0, 3, .inl (fun i => nI (va_up rt j (rt j + 1) i)))), (m11, .inl (D.2 0, 30, .inl (upd rd (10 * j + rt j) p2))), (m12, .inl (D.2 0, 30, .inl (upd rv (10 * j + rt j) p3))), (m0, .inr (6, [.int 0, .int (nI M.1), .ref m1, .ref m2, .int (nI bt), .ref m3, .int (nI ln), .ref m4, .ref m5, .int (nI cl), .ref m6, .ref m7, .ref m8, .ref m9, .ref m10, .ref m11, .ref m12, .int (nI pn), .ref m13, .ref m14]))] := hD
                refine lv_aload_n hx hb dX6_rate_178 rfl (lv_at hl 3 rfl) ?_
                refine va_get (D := D.1) (ci := 6) (v := .ref m10) (C := "ShopLedgerModel") (T := TX6) (N := 20) hx hb hZ inX6 hown hK hP 3 rfl rfl 14 (by decide) (hZ _ t_321) (fun _ h9 => h9) rfl dX6_rate_179 ?_
                refine lv_iload_n hx hb dX6_rate_182 rfl (lv_at hl 4 rfl) ?_
                refine z_iald (k := j) hx hb hK hP 0 rfl (hj) (by decide) dX6_rate_183 ?_
                rw [show (nI (va_up rt j (rt j + 1) j)) = nI (rt j + 1) from congrArg nI (va_up_self _ _ _)]
                exact z_iret (v := nI (rt j + 1)) hx hb hr hlocks hP hD hS none (Or.inl ⟨rfl, trivial, tu, rg, rfl⟩) [3, 0, 1, 2] rfl (by decide) (Nat.le_of_ble_eq_true rfl) (Nat.le_of_ble_eq_true rfl) dX6_rate_184
              exfalso; exact absurd c11 (by decide)
            exfalso; exact absurd c10 (by decide)
          have tu : ¬ (¬ 10 ≤ nI (rt j)) := fun h => h (by rw [c7]; decide)
          refine lv_iconst (v := 1) hx hb dX6_rate_94 (by decide) ?_
          refine lv_goto (tgt := 99) hx hb dX6_rate_95 (by decide) ?_
          refine lv_iload_n hx hb dX6_rate_99 rfl (lv_at hl 5 rfl) ?_
          refine lv_i2l (v := p2.toInt64) hx hb dX6_rate_100 rfl ?_
          refine lv_lconst (v := 0) hx hb dX6_rate_101 (by decide) ?_
          refine lv_ldc2 (v := 365) hx hb hown (hZ _ t_322) dX6_rate_102 ?_
          have J := zJ.mk (wc := []) (wr := [(m0, .inr (6, [.int th, .int (nI M.1), .ref m1, .ref m2, .int (nI bt), .ref m3, .int (nI ln), .ref m4, .ref m5, .int (nI cl), .ref m6, .ref m7, .ref m8, .ref m9, .ref m10, .ref m11, .ref m12, .int (nI pn), .ref m13, .ref m14])), (m10, .inl (D.2 0, 3, .inl (fun i => nI (rt i)))), (m11, .inl (D.2 0, 30, .inl rd)), (m12, .inl (D.2 0, 30, .inl rv))]) hA hB hK hP hD hS [] [0, 1, 2, 3] rfl rfl (by decide)
          refine z_goi (z_runS (As := [.long p2.toInt64, .long 0, .long 365]) (rest := [.int 1, .int 0, .ref m0]) hF (d_lies D p2.toInt64 0 365 H.size) (va_cwS 3 hZ (z_gS t_273 t_274 t_272 t_271) rfl rfl rfl (by decide +kernel) ⟨Nat.le_of_ble_eq_true rfl, Nat.le_of_ble_eq_true rfl⟩) J rfl hl.1 (Nat.le_of_ble_eq_true rfl) dX6_rate_105 ⟨Nat.le_of_ble_eq_true rfl, Nat.le_of_ble_eq_true rfl⟩) J (fun r2 _ H locs w2 hP hD hS => ?_)
          have hP : va_P D.1 vwCl [(m0, .inr (6, [.int th, .int (nI M.1), .ref m1, .ref m2, .int (nI bt), .ref m3, .int (nI ln), .ref m4, .ref m5, .int (nI cl), .ref m6, .ref m7, .ref m8, .ref m9, .ref m10, .ref m11, .ref m12, .int (nI pn), .ref m13, .ref m14])), (m10, .inl (D.2 0, 3, .inl (fun i => nI (rt i)))), (m11, .inl (D.2 0, 30, .inl rd)), (m12, .inl (D.2 0, 30, .inl rv))] H := hP
          have hD : va_D A [(m0, .inr (6, [.int th, .int (nI M.1), .ref m1, .ref m2, .int (nI bt), .ref m3, .int (nI ln), .ref m4, .ref m5, .int (nI cl), .ref m6, .ref m7, .ref m8, .ref m9, .ref m10, .ref m11, .ref m12, .int (nI pn), .ref m13, .ref m14])), (m10, .inl (D.2 0, 3, .inl (fun i => nI (rt i)))), (m11, .inl (D.2 0, 30, .inl rd)), (m12, .inl (D.2 0, 30, .inl rv))] := hD
          have f2 : (r2 = 1 ∧ ¬ p2 < 0 ∧ p2 ≤ 365) ∨ (r2 = 0 ∧ ¬ (¬ p2 < 0 ∧ p2 ≤ 365)) := z_li (a := 0) (b := 365) (by decide) (by decide) w2
          refine lv_if_eq (tgt := 128) hx hb dX6_rate_108 (by decide) (fun c8 => ?_) (fun c8 => ?_)
          · skip
            have g2 := z_b0 f2 c8
            have rg : ¬ (¬ p2 < 0 ∧ p2 ≤ 365 ∧ ¬ p3 < 1 ∧ p3 ≤ 100000000 ∧ ¬ (0 < rt j ∧ p2 ≤ rd (10 * j + (rt j - 1)))) := fun h => g2 ⟨h.1, h.2.1⟩
            refine lv_iconst (v := 1) hx hb dX6_rate_128 (by decide) ?_
            refine lv_goto (tgt := 133) hx hb dX6_rate_129 (by decide) ?_
            refine lv_iconst (v := 0) hx hb dX6_rate_133 (by decide) ?_
            have J := zJ.mk (wc := [(m0, .inr (6, [.int th, .int (nI M.1), .ref m1, .ref m2, .int (nI bt), .ref m3, .int (nI ln), .ref m4, .ref m5, .int (nI cl), .ref m6, .ref m7, .ref m8, .ref m9, .ref m10, .ref m11, .ref m12, .int (nI pn), .ref m13, .ref m14]))]) (wr := [(m10, .inl (D.2 0, 3, .inl (fun i => nI (rt i)))), (m11, .inl (D.2 0, 30, .inl rd)), (m12, .inl (D.2 0, 30, .inl rv))]) hA hB hK hP hD hS [0] [1, 2, 3] rfl rfl (by decide)
            refine z_goi (z_runV (As := [.int 0, .int 1, .int 1, .int 0]) (rest := []) (b := m0) hF (d_throwing D m0 m1 m2 m3 m4 m5 m6 m7 m8 m9 m10 m11 m12 m13 m14 (M.1, fun _ => 0, fun _ => 0) bt ln cl pn th 0 1 1 0 H.size) (cwV 4 hZ (z_gV t_286 t_287 t_288 t_272 t_285) rfl rfl rfl (by decide +kernel) ⟨Nat.le_of_ble_eq_true rfl, Nat.le_of_ble_eq_true rfl⟩) J 0 6 rfl rfl rfl rfl hl.1 (Nat.le_of_ble_eq_true rfl) dX6_rate_134 ⟨Nat.le_of_ble_eq_true rfl, Nat.le_of_ble_eq_true rfl⟩) J (fun r4 _ H locs w4 hP hD hS => ?_)
            have hP : va_P D.1 vwCl [(m10, .inl (D.2 0, 3, .inl (fun i => nI (rt i)))), (m11, .inl (D.2 0, 30, .inl rd)), (m12, .inl (D.2 0, 30, .inl rv)), (m0, .inr (6, [.int 2, .int (nI M.1), .ref m1, .ref m2, .int (nI bt), .ref m3, .int (nI ln), .ref m4, .ref m5, .int (nI cl), .ref m6, .ref m7, .ref m8, .ref m9, .ref m10, .ref m11, .ref m12, .int (nI pn), .ref m13, .ref m14]))] H := hP
            have hD : va_D A [(m10, .inl (D.2 0, 3, .inl (fun i => nI (rt i)))), (m11, .inl (D.2 0, 30, .inl rd)), (m12, .inl (D.2 0, 30, .inl rv)), (m0, .inr (6, [.int 2, .int (nI M.1), .ref m1, .ref m2, .int (nI bt), .ref m3, .int (nI ln), .ref m4, .ref m5, .int (nI cl), .ref m6, .ref m7, .ref m8, .ref m9, .ref m10, .ref m11, .ref m12, .int (nI pn), .ref m13, .ref m14]))] := hD
            have w4 : r4 = 1 := w4
            subst w4
            refine lv_if_eq (tgt := 142) hx hb dX6_rate_137 (by decide) (fun c11 => ?_) (fun c11 => ?_)
            · skip
              exfalso; exact absurd c11 (by decide)
            refine lv_iconst (v := 0) hx hb dX6_rate_140 (by decide) ?_
            exact z_iret (v := 0) hx hb hr hlocks hP hD hS (some 2) (Or.inr (Or.inr (Or.inl ⟨rfl, trivial, tu⟩))) [3, 0, 1, 2] rfl (by decide) (Nat.le_of_ble_eq_true rfl) (Nat.le_of_ble_eq_true rfl) dX6_rate_141
          have g2 := z_b1 f2 c8
          refine lv_iload_n hx hb dX6_rate_111 rfl (lv_at hl 6 rfl) ?_
          refine lv_i2l (v := p3.toInt64) hx hb dX6_rate_112 rfl ?_
          refine lv_lconst (v := 1) hx hb dX6_rate_113 (by decide) ?_
          refine lv_ldc2 (v := 100000000) hx hb hown (hZ _ t_323) dX6_rate_114 ?_
          have J := zJ.mk (wc := []) (wr := [(m0, .inr (6, [.int th, .int (nI M.1), .ref m1, .ref m2, .int (nI bt), .ref m3, .int (nI ln), .ref m4, .ref m5, .int (nI cl), .ref m6, .ref m7, .ref m8, .ref m9, .ref m10, .ref m11, .ref m12, .int (nI pn), .ref m13, .ref m14])), (m10, .inl (D.2 0, 3, .inl (fun i => nI (rt i)))), (m11, .inl (D.2 0, 30, .inl rd)), (m12, .inl (D.2 0, 30, .inl rv))]) hA hB hK hP hD hS [] [0, 1, 2, 3] rfl rfl (by decide)
          refine z_goi (z_runS (As := [.long p3.toInt64, .long 1, .long 100000000]) (rest := [.int 1, .int 0, .ref m0]) hF (d_lies D p3.toInt64 1 100000000 H.size) (va_cwS 3 hZ (z_gS t_273 t_274 t_272 t_271) rfl rfl rfl (by decide +kernel) ⟨Nat.le_of_ble_eq_true rfl, Nat.le_of_ble_eq_true rfl⟩) J rfl hl.1 (Nat.le_of_ble_eq_true rfl) dX6_rate_117 ⟨Nat.le_of_ble_eq_true rfl, Nat.le_of_ble_eq_true rfl⟩) J (fun r3 _ H locs w3 hP hD hS => ?_)
          have hP : va_P D.1 vwCl [(m0, .inr (6, [.int th, .int (nI M.1), .ref m1, .ref m2, .int (nI bt), .ref m3, .int (nI ln), .ref m4, .ref m5, .int (nI cl), .ref m6, .ref m7, .ref m8, .ref m9, .ref m10, .ref m11, .ref m12, .int (nI pn), .ref m13, .ref m14])), (m10, .inl (D.2 0, 3, .inl (fun i => nI (rt i)))), (m11, .inl (D.2 0, 30, .inl rd)), (m12, .inl (D.2 0, 30, .inl rv))] H := hP
          have hD : va_D A [(m0, .inr (6, [.int th, .int (nI M.1), .ref m1, .ref m2, .int (nI bt), .ref m3, .int (nI ln), .ref m4, .ref m5, .int (nI cl), .ref m6, .ref m7, .ref m8, .ref m9, .ref m10, .ref m11, .ref m12, .int (nI pn), .ref m13, .ref m14])), (m10, .inl (D.2 0, 3, .inl (fun i => nI (rt i)))), (m11, .inl (D.2 0, 30, .inl rd)), (m12, .inl (D.2 0, 30, .inl rv))] := hD
          have f3 : (r3 = 1 ∧ ¬ p3 < 1 ∧ p3 ≤ 100000000) ∨ (r3 = 0 ∧ ¬ (¬ p3 < 1 ∧ p3 ≤ 100000000)) := z_li (a := 1) (b := 100000000) (by decide) (by decide) w3
          refine lv_if_eq (tgt := 128) hx hb dX6_rate_120 (by decide) (fun c9 => ?_) (fun c9 => ?_)
          · skip
            have g3 := z_b0 f3 c9
            have rg : ¬ (¬ p2 < 0 ∧ p2 ≤ 365 ∧ ¬ p3 < 1 ∧ p3 ≤ 100000000 ∧ ¬ (0 < rt j ∧ p2 ≤ rd (10 * j + (rt j - 1)))) := fun h => g3 ⟨h.2.2.1, h.2.2.2.1⟩
            refine lv_iconst (v := 1) hx hb dX6_rate_128 (by decide) ?_
            refine lv_goto (tgt := 133) hx hb dX6_rate_129 (by decide) ?_
            refine lv_iconst (v := 0) hx hb dX6_rate_133 (by decide) ?_
            have J := zJ.mk (wc := [(m0, .inr (6, [.int th, .int (nI M.1), .ref m1, .ref m2, .int (nI bt), .ref m3, .int (nI ln), .ref m4, .ref m5, .int (nI cl), .ref m6, .ref m7, .ref m8, .ref m9, .ref m10, .ref m11, .ref m12, .int (nI pn), .ref m13, .ref m14]))]) (wr := [(m10, .inl (D.2 0, 3, .inl (fun i => nI (rt i)))), (m11, .inl (D.2 0, 30, .inl rd)), (m12, .inl (D.2 0, 30, .inl rv))]) hA hB hK hP hD hS [0] [1, 2, 3] rfl rfl (by decide)
            refine z_goi (z_runV (As := [.int 0, .int 1, .int 1, .int 0]) (rest := []) (b := m0) hF (d_throwing D m0 m1 m2 m3 m4 m5 m6 m7 m8 m9 m10 m11 m12 m13 m14 (M.1, fun _ => 0, fun _ => 0) bt ln cl pn th 0 1 1 0 H.size) (cwV 4 hZ (z_gV t_286 t_287 t_288 t_272 t_285) rfl rfl rfl (by decide +kernel) ⟨Nat.le_of_ble_eq_true rfl, Nat.le_of_ble_eq_true rfl⟩) J 0 6 rfl rfl rfl rfl hl.1 (Nat.le_of_ble_eq_true rfl) dX6_rate_134 ⟨Nat.le_of_ble_eq_true rfl, Nat.le_of_ble_eq_true rfl⟩) J (fun r4 _ H locs w4 hP hD hS => ?_)
            have hP : va_P D.1 vwCl [(m10, .inl (D.2 0, 3, .inl (fun i => nI (rt i)))), (m11, .inl (D.2 0, 30, .inl rd)), (m12, .inl (D.2 0, 30, .inl rv)), (m0, .inr (6, [.int 2, .int (nI M.1), .ref m1, .ref m2, .int (nI bt), .ref m3, .int (nI ln), .ref m4, .ref m5, .int (nI cl), .ref m6, .ref m7, .ref m8, .ref m9, .ref m10, .ref m11, .ref m12, .int (nI pn), .ref m13, .ref m14]))] H := hP
            have hD : va_D A [(m10, .inl (D.2 0, 3, .inl (fun i => nI (rt i)))), (m11, .inl (D.2 0, 30, .inl rd)), (m12, .inl (D.2 0, 30, .inl rv)), (m0, .inr (6, [.int 2, .int (nI M.1), .ref m1, .ref m2, .int (nI bt), .ref m3, .int (nI ln), .ref m4, .ref m5, .int (nI cl), .ref m6, .ref m7, .ref m8, .ref m9, .ref m10, .ref m11, .ref m12, .int (nI pn), .ref m13, .ref m14]))] := hD
            have w4 : r4 = 1 := w4
            subst w4
            refine lv_if_eq (tgt := 142) hx hb dX6_rate_137 (by decide) (fun c11 => ?_) (fun c11 => ?_)
            · skip
              exfalso; exact absurd c11 (by decide)
            refine lv_iconst (v := 0) hx hb dX6_rate_140 (by decide) ?_
            exact z_iret (v := 0) hx hb hr hlocks hP hD hS (some 2) (Or.inr (Or.inr (Or.inl ⟨rfl, trivial, tu⟩))) [3, 0, 1, 2] rfl (by decide) (Nat.le_of_ble_eq_true rfl) (Nat.le_of_ble_eq_true rfl) dX6_rate_141
          have g3 := z_b1 f3 c9
          refine lv_iload hx hb dX6_rate_123 (lv_at hl 0 rfl) ?_
          refine lv_if_eq (tgt := 132) hx hb dX6_rate_125 (by decide) (fun c10 => ?_) (fun c10 => ?_)
          · skip
            have rg : ¬ p2 < 0 ∧ p2 ≤ 365 ∧ ¬ p3 < 1 ∧ p3 ≤ 100000000 ∧ ¬ (0 < rt j ∧ p2 ≤ rd (10 * j + (rt j - 1))) := ⟨g2.1, g2.2, g3.1, g3.2, fl⟩
            refine lv_iconst (v := 0) hx hb dX6_rate_132 (by decide) ?_
            refine lv_iconst (v := 0) hx hb dX6_rate_133 (by decide) ?_
            have J := zJ.mk (wc := [(m0, .inr (6, [.int th, .int (nI M.1), .ref m1, .ref m2, .int (nI bt), .ref m3, .int (nI ln), .ref m4, .ref m5, .int (nI cl), .ref m6, .ref m7, .ref m8, .ref m9, .ref m10, .ref m11, .ref m12, .int (nI pn), .ref m13, .ref m14]))]) (wr := [(m10, .inl (D.2 0, 3, .inl (fun i => nI (rt i)))), (m11, .inl (D.2 0, 30, .inl rd)), (m12, .inl (D.2 0, 30, .inl rv))]) hA hB hK hP hD hS [0] [1, 2, 3] rfl rfl (by decide)
            refine z_goi (z_runV (As := [.int 0, .int 1, .int 0, .int 0]) (rest := []) (b := m0) hF (d_throwing D m0 m1 m2 m3 m4 m5 m6 m7 m8 m9 m10 m11 m12 m13 m14 (M.1, fun _ => 0, fun _ => 0) bt ln cl pn th 0 1 0 0 H.size) (cwV 4 hZ (z_gV t_286 t_287 t_288 t_272 t_285) rfl rfl rfl (by decide +kernel) ⟨Nat.le_of_ble_eq_true rfl, Nat.le_of_ble_eq_true rfl⟩) J 0 6 rfl rfl rfl rfl hl.1 (Nat.le_of_ble_eq_true rfl) dX6_rate_134 ⟨Nat.le_of_ble_eq_true rfl, Nat.le_of_ble_eq_true rfl⟩) J (fun r4 _ H locs w4 hP hD hS => ?_)
            have hP : va_P D.1 vwCl [(m10, .inl (D.2 0, 3, .inl (fun i => nI (rt i)))), (m11, .inl (D.2 0, 30, .inl rd)), (m12, .inl (D.2 0, 30, .inl rv)), (m0, .inr (6, [.int 2, .int (nI M.1), .ref m1, .ref m2, .int (nI bt), .ref m3, .int (nI ln), .ref m4, .ref m5, .int (nI cl), .ref m6, .ref m7, .ref m8, .ref m9, .ref m10, .ref m11, .ref m12, .int (nI pn), .ref m13, .ref m14]))] H := hP
            have hD : va_D A [(m10, .inl (D.2 0, 3, .inl (fun i => nI (rt i)))), (m11, .inl (D.2 0, 30, .inl rd)), (m12, .inl (D.2 0, 30, .inl rv)), (m0, .inr (6, [.int 2, .int (nI M.1), .ref m1, .ref m2, .int (nI bt), .ref m3, .int (nI ln), .ref m4, .ref m5, .int (nI cl), .ref m6, .ref m7, .ref m8, .ref m9, .ref m10, .ref m11, .ref m12, .int (nI pn), .ref m13, .ref m14]))] := hD
            have w4 : r4 = 1 := w4
            subst w4
            refine lv_if_eq (tgt := 142) hx hb dX6_rate_137 (by decide) (fun c11 => ?_) (fun c11 => ?_)
            · skip
              exfalso; exact absurd c11 (by decide)
            refine lv_iconst (v := 0) hx hb dX6_rate_140 (by decide) ?_
            exact z_iret (v := 0) hx hb hr hlocks hP hD hS (some 2) (Or.inr (Or.inr (Or.inl ⟨rfl, trivial, tu⟩))) [3, 0, 1, 2] rfl (by decide) (Nat.le_of_ble_eq_true rfl) (Nat.le_of_ble_eq_true rfl) dX6_rate_141
          exfalso; exact absurd c10 (by decide)
        have fl : 0 < rt j ∧ p2 ≤ rd (10 * j + (rt j - 1)) := ⟨h3, Int32.not_lt.mp c6⟩
        refine lv_iconst (v := 1) hx hb dX6_rate_77 (by decide) ?_
        refine lv_goto (tgt := 82) hx hb dX6_rate_78 (by decide) ?_
        refine lv_istore (lv' := [(6, .int 1), (5, .int (nI (rt j))), (4, .int 0), (0, .ref m0), (1, .int (nI j)), (2, .int p2), (3, .int p3)]) hx hb dX6_rate_82 hl (by decide) rfl (fun ls hl => ?_)
        refine lv_aload_n hx hb dX6_rate_84 rfl (lv_at hl 3 rfl) ?_
        refine lv_iload hx hb dX6_rate_85 (lv_at hl 2 rfl) ?_
        refine lv_iload hx hb dX6_rate_87 (lv_at hl 1 rfl) ?_
        refine lv_bipush (v := 10) hx hb dX6_rate_89 (by decide) ?_
        refine lv_icmp_ne (tgt := 98) hx hb dX6_rate_91 (by decide) (fun c7 => ?_) (fun c7 => ?_)
        · skip
          have tu : ¬ 10 ≤ nI (rt j) := fun h => c7 (z_full (t := 10) hy (by decide) h)
          refine lv_iconst (v := 0) hx hb dX6_rate_98 (by decide) ?_
          refine lv_iload_n hx hb dX6_rate_99 rfl (lv_at hl 5 rfl) ?_
          refine lv_i2l (v := p2.toInt64) hx hb dX6_rate_100 rfl ?_
          refine lv_lconst (v := 0) hx hb dX6_rate_101 (by decide) ?_
          refine lv_ldc2 (v := 365) hx hb hown (hZ _ t_322) dX6_rate_102 ?_
          have J := zJ.mk (wc := []) (wr := [(m0, .inr (6, [.int th, .int (nI M.1), .ref m1, .ref m2, .int (nI bt), .ref m3, .int (nI ln), .ref m4, .ref m5, .int (nI cl), .ref m6, .ref m7, .ref m8, .ref m9, .ref m10, .ref m11, .ref m12, .int (nI pn), .ref m13, .ref m14])), (m10, .inl (D.2 0, 3, .inl (fun i => nI (rt i)))), (m11, .inl (D.2 0, 30, .inl rd)), (m12, .inl (D.2 0, 30, .inl rv))]) hA hB hK hP hD hS [] [0, 1, 2, 3] rfl rfl (by decide)
          refine z_goi (z_runS (As := [.long p2.toInt64, .long 0, .long 365]) (rest := [.int 0, .int 0, .ref m0]) hF (d_lies D p2.toInt64 0 365 H.size) (va_cwS 3 hZ (z_gS t_273 t_274 t_272 t_271) rfl rfl rfl (by decide +kernel) ⟨Nat.le_of_ble_eq_true rfl, Nat.le_of_ble_eq_true rfl⟩) J rfl hl.1 (Nat.le_of_ble_eq_true rfl) dX6_rate_105 ⟨Nat.le_of_ble_eq_true rfl, Nat.le_of_ble_eq_true rfl⟩) J (fun r2 _ H locs w2 hP hD hS => ?_)
          have hP : va_P D.1 vwCl [(m0, .inr (6, [.int th, .int (nI M.1), .ref m1, .ref m2, .int (nI bt), .ref m3, .int (nI ln), .ref m4, .ref m5, .int (nI cl), .ref m6, .ref m7, .ref m8, .ref m9, .ref m10, .ref m11, .ref m12, .int (nI pn), .ref m13, .ref m14])), (m10, .inl (D.2 0, 3, .inl (fun i => nI (rt i)))), (m11, .inl (D.2 0, 30, .inl rd)), (m12, .inl (D.2 0, 30, .inl rv))] H := hP
          have hD : va_D A [(m0, .inr (6, [.int th, .int (nI M.1), .ref m1, .ref m2, .int (nI bt), .ref m3, .int (nI ln), .ref m4, .ref m5, .int (nI cl), .ref m6, .ref m7, .ref m8, .ref m9, .ref m10, .ref m11, .ref m12, .int (nI pn), .ref m13, .ref m14])), (m10, .inl (D.2 0, 3, .inl (fun i => nI (rt i)))), (m11, .inl (D.2 0, 30, .inl rd)), (m12, .inl (D.2 0, 30, .inl rv))] := hD
          have f2 : (r2 = 1 ∧ ¬ p2 < 0 ∧ p2 ≤ 365) ∨ (r2 = 0 ∧ ¬ (¬ p2 < 0 ∧ p2 ≤ 365)) := z_li (a := 0) (b := 365) (by decide) (by decide) w2
          refine lv_if_eq (tgt := 128) hx hb dX6_rate_108 (by decide) (fun c8 => ?_) (fun c8 => ?_)
          · skip
            have g2 := z_b0 f2 c8
            have rg : ¬ (¬ p2 < 0 ∧ p2 ≤ 365 ∧ ¬ p3 < 1 ∧ p3 ≤ 100000000 ∧ ¬ (0 < rt j ∧ p2 ≤ rd (10 * j + (rt j - 1)))) := fun h => g2 ⟨h.1, h.2.1⟩
            refine lv_iconst (v := 1) hx hb dX6_rate_128 (by decide) ?_
            refine lv_goto (tgt := 133) hx hb dX6_rate_129 (by decide) ?_
            refine lv_iconst (v := 0) hx hb dX6_rate_133 (by decide) ?_
            have J := zJ.mk (wc := [(m0, .inr (6, [.int th, .int (nI M.1), .ref m1, .ref m2, .int (nI bt), .ref m3, .int (nI ln), .ref m4, .ref m5, .int (nI cl), .ref m6, .ref m7, .ref m8, .ref m9, .ref m10, .ref m11, .ref m12, .int (nI pn), .ref m13, .ref m14]))]) (wr := [(m10, .inl (D.2 0, 3, .inl (fun i => nI (rt i)))), (m11, .inl (D.2 0, 30, .inl rd)), (m12, .inl (D.2 0, 30, .inl rv))]) hA hB hK hP hD hS [0] [1, 2, 3] rfl rfl (by decide)
            refine z_goi (z_runV (As := [.int 0, .int 0, .int 1, .int 0]) (rest := []) (b := m0) hF (d_throwing D m0 m1 m2 m3 m4 m5 m6 m7 m8 m9 m10 m11 m12 m13 m14 (M.1, fun _ => 0, fun _ => 0) bt ln cl pn th 0 0 1 0 H.size) (cwV 4 hZ (z_gV t_286 t_287 t_288 t_272 t_285) rfl rfl rfl (by decide +kernel) ⟨Nat.le_of_ble_eq_true rfl, Nat.le_of_ble_eq_true rfl⟩) J 0 6 rfl rfl rfl rfl hl.1 (Nat.le_of_ble_eq_true rfl) dX6_rate_134 ⟨Nat.le_of_ble_eq_true rfl, Nat.le_of_ble_eq_true rfl⟩) J (fun r4 _ H locs w4 hP hD hS => ?_)
            have hP : va_P D.1 vwCl [(m10, .inl (D.2 0, 3, .inl (fun i => nI (rt i)))), (m11, .inl (D.2 0, 30, .inl rd)), (m12, .inl (D.2 0, 30, .inl rv)), (m0, .inr (6, [.int 3, .int (nI M.1), .ref m1, .ref m2, .int (nI bt), .ref m3, .int (nI ln), .ref m4, .ref m5, .int (nI cl), .ref m6, .ref m7, .ref m8, .ref m9, .ref m10, .ref m11, .ref m12, .int (nI pn), .ref m13, .ref m14]))] H := hP
            have hD : va_D A [(m10, .inl (D.2 0, 3, .inl (fun i => nI (rt i)))), (m11, .inl (D.2 0, 30, .inl rd)), (m12, .inl (D.2 0, 30, .inl rv)), (m0, .inr (6, [.int 3, .int (nI M.1), .ref m1, .ref m2, .int (nI bt), .ref m3, .int (nI ln), .ref m4, .ref m5, .int (nI cl), .ref m6, .ref m7, .ref m8, .ref m9, .ref m10, .ref m11, .ref m12, .int (nI pn), .ref m13, .ref m14]))] := hD
            have w4 : r4 = 1 := w4
            subst w4
            refine lv_if_eq (tgt := 142) hx hb dX6_rate_137 (by decide) (fun c11 => ?_) (fun c11 => ?_)
            · skip
              exfalso; exact absurd c11 (by decide)
            refine lv_iconst (v := 0) hx hb dX6_rate_140 (by decide) ?_
            exact z_iret (v := 0) hx hb hr hlocks hP hD hS (some 3) (Or.inr (Or.inr (Or.inr (⟨rfl, trivial, tu, rg⟩)))) [3, 0, 1, 2] rfl (by decide) (Nat.le_of_ble_eq_true rfl) (Nat.le_of_ble_eq_true rfl) dX6_rate_141
          have g2 := z_b1 f2 c8
          refine lv_iload_n hx hb dX6_rate_111 rfl (lv_at hl 6 rfl) ?_
          refine lv_i2l (v := p3.toInt64) hx hb dX6_rate_112 rfl ?_
          refine lv_lconst (v := 1) hx hb dX6_rate_113 (by decide) ?_
          refine lv_ldc2 (v := 100000000) hx hb hown (hZ _ t_323) dX6_rate_114 ?_
          have J := zJ.mk (wc := []) (wr := [(m0, .inr (6, [.int th, .int (nI M.1), .ref m1, .ref m2, .int (nI bt), .ref m3, .int (nI ln), .ref m4, .ref m5, .int (nI cl), .ref m6, .ref m7, .ref m8, .ref m9, .ref m10, .ref m11, .ref m12, .int (nI pn), .ref m13, .ref m14])), (m10, .inl (D.2 0, 3, .inl (fun i => nI (rt i)))), (m11, .inl (D.2 0, 30, .inl rd)), (m12, .inl (D.2 0, 30, .inl rv))]) hA hB hK hP hD hS [] [0, 1, 2, 3] rfl rfl (by decide)
          refine z_goi (z_runS (As := [.long p3.toInt64, .long 1, .long 100000000]) (rest := [.int 0, .int 0, .ref m0]) hF (d_lies D p3.toInt64 1 100000000 H.size) (va_cwS 3 hZ (z_gS t_273 t_274 t_272 t_271) rfl rfl rfl (by decide +kernel) ⟨Nat.le_of_ble_eq_true rfl, Nat.le_of_ble_eq_true rfl⟩) J rfl hl.1 (Nat.le_of_ble_eq_true rfl) dX6_rate_117 ⟨Nat.le_of_ble_eq_true rfl, Nat.le_of_ble_eq_true rfl⟩) J (fun r3 _ H locs w3 hP hD hS => ?_)
          have hP : va_P D.1 vwCl [(m0, .inr (6, [.int th, .int (nI M.1), .ref m1, .ref m2, .int (nI bt), .ref m3, .int (nI ln), .ref m4, .ref m5, .int (nI cl), .ref m6, .ref m7, .ref m8, .ref m9, .ref m10, .ref m11, .ref m12, .int (nI pn), .ref m13, .ref m14])), (m10, .inl (D.2 0, 3, .inl (fun i => nI (rt i)))), (m11, .inl (D.2 0, 30, .inl rd)), (m12, .inl (D.2 0, 30, .inl rv))] H := hP
          have hD : va_D A [(m0, .inr (6, [.int th, .int (nI M.1), .ref m1, .ref m2, .int (nI bt), .ref m3, .int (nI ln), .ref m4, .ref m5, .int (nI cl), .ref m6, .ref m7, .ref m8, .ref m9, .ref m10, .ref m11, .ref m12, .int (nI pn), .ref m13, .ref m14])), (m10, .inl (D.2 0, 3, .inl (fun i => nI (rt i)))), (m11, .inl (D.2 0, 30, .inl rd)), (m12, .inl (D.2 0, 30, .inl rv))] := hD
          have f3 : (r3 = 1 ∧ ¬ p3 < 1 ∧ p3 ≤ 100000000) ∨ (r3 = 0 ∧ ¬ (¬ p3 < 1 ∧ p3 ≤ 100000000)) := z_li (a := 1) (b := 100000000) (by decide) (by decide) w3
          refine lv_if_eq (tgt := 128) hx hb dX6_rate_120 (by decide) (fun c9 => ?_) (fun c9 => ?_)
          · skip
            have g3 := z_b0 f3 c9
            have rg : ¬ (¬ p2 < 0 ∧ p2 ≤ 365 ∧ ¬ p3 < 1 ∧ p3 ≤ 100000000 ∧ ¬ (0 < rt j ∧ p2 ≤ rd (10 * j + (rt j - 1)))) := fun h => g3 ⟨h.2.2.1, h.2.2.2.1⟩
            refine lv_iconst (v := 1) hx hb dX6_rate_128 (by decide) ?_
            refine lv_goto (tgt := 133) hx hb dX6_rate_129 (by decide) ?_
            refine lv_iconst (v := 0) hx hb dX6_rate_133 (by decide) ?_
            have J := zJ.mk (wc := [(m0, .inr (6, [.int th, .int (nI M.1), .ref m1, .ref m2, .int (nI bt), .ref m3, .int (nI ln), .ref m4, .ref m5, .int (nI cl), .ref m6, .ref m7, .ref m8, .ref m9, .ref m10, .ref m11, .ref m12, .int (nI pn), .ref m13, .ref m14]))]) (wr := [(m10, .inl (D.2 0, 3, .inl (fun i => nI (rt i)))), (m11, .inl (D.2 0, 30, .inl rd)), (m12, .inl (D.2 0, 30, .inl rv))]) hA hB hK hP hD hS [0] [1, 2, 3] rfl rfl (by decide)
            refine z_goi (z_runV (As := [.int 0, .int 0, .int 1, .int 0]) (rest := []) (b := m0) hF (d_throwing D m0 m1 m2 m3 m4 m5 m6 m7 m8 m9 m10 m11 m12 m13 m14 (M.1, fun _ => 0, fun _ => 0) bt ln cl pn th 0 0 1 0 H.size) (cwV 4 hZ (z_gV t_286 t_287 t_288 t_272 t_285) rfl rfl rfl (by decide +kernel) ⟨Nat.le_of_ble_eq_true rfl, Nat.le_of_ble_eq_true rfl⟩) J 0 6 rfl rfl rfl rfl hl.1 (Nat.le_of_ble_eq_true rfl) dX6_rate_134 ⟨Nat.le_of_ble_eq_true rfl, Nat.le_of_ble_eq_true rfl⟩) J (fun r4 _ H locs w4 hP hD hS => ?_)
            have hP : va_P D.1 vwCl [(m10, .inl (D.2 0, 3, .inl (fun i => nI (rt i)))), (m11, .inl (D.2 0, 30, .inl rd)), (m12, .inl (D.2 0, 30, .inl rv)), (m0, .inr (6, [.int 3, .int (nI M.1), .ref m1, .ref m2, .int (nI bt), .ref m3, .int (nI ln), .ref m4, .ref m5, .int (nI cl), .ref m6, .ref m7, .ref m8, .ref m9, .ref m10, .ref m11, .ref m12, .int (nI pn), .ref m13, .ref m14]))] H := hP
            have hD : va_D A [(m10, .inl (D.2 0, 3, .inl (fun i => nI (rt i)))), (m11, .inl (D.2 0, 30, .inl rd)), (m12, .inl (D.2 0, 30, .inl rv)), (m0, .inr (6, [.int 3, .int (nI M.1), .ref m1, .ref m2, .int (nI bt), .ref m3, .int (nI ln), .ref m4, .ref m5, .int (nI cl), .ref m6, .ref m7, .ref m8, .ref m9, .ref m10, .ref m11, .ref m12, .int (nI pn), .ref m13, .ref m14]))] := hD
            have w4 : r4 = 1 := w4
            subst w4
            refine lv_if_eq (tgt := 142) hx hb dX6_rate_137 (by decide) (fun c11 => ?_) (fun c11 => ?_)
            · skip
              exfalso; exact absurd c11 (by decide)
            refine lv_iconst (v := 0) hx hb dX6_rate_140 (by decide) ?_
            exact z_iret (v := 0) hx hb hr hlocks hP hD hS (some 3) (Or.inr (Or.inr (Or.inr (⟨rfl, trivial, tu, rg⟩)))) [3, 0, 1, 2] rfl (by decide) (Nat.le_of_ble_eq_true rfl) (Nat.le_of_ble_eq_true rfl) dX6_rate_141
          have g3 := z_b1 f3 c9
          refine lv_iload hx hb dX6_rate_123 (lv_at hl 0 rfl) ?_
          refine lv_if_eq (tgt := 132) hx hb dX6_rate_125 (by decide) (fun c10 => ?_) (fun c10 => ?_)
          · skip
            exfalso; exact absurd c10 (by decide)
          have rg : ¬ (¬ p2 < 0 ∧ p2 ≤ 365 ∧ ¬ p3 < 1 ∧ p3 ≤ 100000000 ∧ ¬ (0 < rt j ∧ p2 ≤ rd (10 * j + (rt j - 1)))) := fun h => h.2.2.2.2 fl
          refine lv_iconst (v := 1) hx hb dX6_rate_128 (by decide) ?_
          refine lv_goto (tgt := 133) hx hb dX6_rate_129 (by decide) ?_
          refine lv_iconst (v := 0) hx hb dX6_rate_133 (by decide) ?_
          have J := zJ.mk (wc := [(m0, .inr (6, [.int th, .int (nI M.1), .ref m1, .ref m2, .int (nI bt), .ref m3, .int (nI ln), .ref m4, .ref m5, .int (nI cl), .ref m6, .ref m7, .ref m8, .ref m9, .ref m10, .ref m11, .ref m12, .int (nI pn), .ref m13, .ref m14]))]) (wr := [(m10, .inl (D.2 0, 3, .inl (fun i => nI (rt i)))), (m11, .inl (D.2 0, 30, .inl rd)), (m12, .inl (D.2 0, 30, .inl rv))]) hA hB hK hP hD hS [0] [1, 2, 3] rfl rfl (by decide)
          refine z_goi (z_runV (As := [.int 0, .int 0, .int 1, .int 0]) (rest := []) (b := m0) hF (d_throwing D m0 m1 m2 m3 m4 m5 m6 m7 m8 m9 m10 m11 m12 m13 m14 (M.1, fun _ => 0, fun _ => 0) bt ln cl pn th 0 0 1 0 H.size) (cwV 4 hZ (z_gV t_286 t_287 t_288 t_272 t_285) rfl rfl rfl (by decide +kernel) ⟨Nat.le_of_ble_eq_true rfl, Nat.le_of_ble_eq_true rfl⟩) J 0 6 rfl rfl rfl rfl hl.1 (Nat.le_of_ble_eq_true rfl) dX6_rate_134 ⟨Nat.le_of_ble_eq_true rfl, Nat.le_of_ble_eq_true rfl⟩) J (fun r4 _ H locs w4 hP hD hS => ?_)
          have hP : va_P D.1 vwCl [(m10, .inl (D.2 0, 3, .inl (fun i => nI (rt i)))), (m11, .inl (D.2 0, 30, .inl rd)), (m12, .inl (D.2 0, 30, .inl rv)), (m0, .inr (6, [.int 3, .int (nI M.1), .ref m1, .ref m2, .int (nI bt), .ref m3, .int (nI ln), .ref m4, .ref m5, .int (nI cl), .ref m6, .ref m7, .ref m8, .ref m9, .ref m10, .ref m11, .ref m12, .int (nI pn), .ref m13, .ref m14]))] H := hP
          have hD : va_D A [(m10, .inl (D.2 0, 3, .inl (fun i => nI (rt i)))), (m11, .inl (D.2 0, 30, .inl rd)), (m12, .inl (D.2 0, 30, .inl rv)), (m0, .inr (6, [.int 3, .int (nI M.1), .ref m1, .ref m2, .int (nI bt), .ref m3, .int (nI ln), .ref m4, .ref m5, .int (nI cl), .ref m6, .ref m7, .ref m8, .ref m9, .ref m10, .ref m11, .ref m12, .int (nI pn), .ref m13, .ref m14]))] := hD
          have w4 : r4 = 1 := w4
          subst w4
          refine lv_if_eq (tgt := 142) hx hb dX6_rate_137 (by decide) (fun c11 => ?_) (fun c11 => ?_)
          · skip
            exfalso; exact absurd c11 (by decide)
          refine lv_iconst (v := 0) hx hb dX6_rate_140 (by decide) ?_
          exact z_iret (v := 0) hx hb hr hlocks hP hD hS (some 3) (Or.inr (Or.inr (Or.inr (⟨rfl, trivial, tu, rg⟩)))) [3, 0, 1, 2] rfl (by decide) (Nat.le_of_ble_eq_true rfl) (Nat.le_of_ble_eq_true rfl) dX6_rate_141
        have tu : ¬ (¬ 10 ≤ nI (rt j)) := fun h => h (by rw [c7]; decide)
        refine lv_iconst (v := 1) hx hb dX6_rate_94 (by decide) ?_
        refine lv_goto (tgt := 99) hx hb dX6_rate_95 (by decide) ?_
        refine lv_iload_n hx hb dX6_rate_99 rfl (lv_at hl 5 rfl) ?_
        refine lv_i2l (v := p2.toInt64) hx hb dX6_rate_100 rfl ?_
        refine lv_lconst (v := 0) hx hb dX6_rate_101 (by decide) ?_
        refine lv_ldc2 (v := 365) hx hb hown (hZ _ t_322) dX6_rate_102 ?_
        have J := zJ.mk (wc := []) (wr := [(m0, .inr (6, [.int th, .int (nI M.1), .ref m1, .ref m2, .int (nI bt), .ref m3, .int (nI ln), .ref m4, .ref m5, .int (nI cl), .ref m6, .ref m7, .ref m8, .ref m9, .ref m10, .ref m11, .ref m12, .int (nI pn), .ref m13, .ref m14])), (m10, .inl (D.2 0, 3, .inl (fun i => nI (rt i)))), (m11, .inl (D.2 0, 30, .inl rd)), (m12, .inl (D.2 0, 30, .inl rv))]) hA hB hK hP hD hS [] [0, 1, 2, 3] rfl rfl (by decide)
        refine z_goi (z_runS (As := [.long p2.toInt64, .long 0, .long 365]) (rest := [.int 1, .int 0, .ref m0]) hF (d_lies D p2.toInt64 0 365 H.size) (va_cwS 3 hZ (z_gS t_273 t_274 t_272 t_271) rfl rfl rfl (by decide +kernel) ⟨Nat.le_of_ble_eq_true rfl, Nat.le_of_ble_eq_true rfl⟩) J rfl hl.1 (Nat.le_of_ble_eq_true rfl) dX6_rate_105 ⟨Nat.le_of_ble_eq_true rfl, Nat.le_of_ble_eq_true rfl⟩) J (fun r2 _ H locs w2 hP hD hS => ?_)
        have hP : va_P D.1 vwCl [(m0, .inr (6, [.int th, .int (nI M.1), .ref m1, .ref m2, .int (nI bt), .ref m3, .int (nI ln), .ref m4, .ref m5, .int (nI cl), .ref m6, .ref m7, .ref m8, .ref m9, .ref m10, .ref m11, .ref m12, .int (nI pn), .ref m13, .ref m14])), (m10, .inl (D.2 0, 3, .inl (fun i => nI (rt i)))), (m11, .inl (D.2 0, 30, .inl rd)), (m12, .inl (D.2 0, 30, .inl rv))] H := hP
        have hD : va_D A [(m0, .inr (6, [.int th, .int (nI M.1), .ref m1, .ref m2, .int (nI bt), .ref m3, .int (nI ln), .ref m4, .ref m5, .int (nI cl), .ref m6, .ref m7, .ref m8, .ref m9, .ref m10, .ref m11, .ref m12, .int (nI pn), .ref m13, .ref m14])), (m10, .inl (D.2 0, 3, .inl (fun i => nI (rt i)))), (m11, .inl (D.2 0, 30, .inl rd)), (m12, .inl (D.2 0, 30, .inl rv))] := hD
        have f2 : (r2 = 1 ∧ ¬ p2 < 0 ∧ p2 ≤ 365) ∨ (r2 = 0 ∧ ¬ (¬ p2 < 0 ∧ p2 ≤ 365)) := z_li (a := 0) (b := 365) (by decide) (by decide) w2
        refine lv_if_eq (tgt := 128) hx hb dX6_rate_108 (by decide) (fun c8 => ?_) (fun c8 => ?_)
        · skip
          have g2 := z_b0 f2 c8
          have rg : ¬ (¬ p2 < 0 ∧ p2 ≤ 365 ∧ ¬ p3 < 1 ∧ p3 ≤ 100000000 ∧ ¬ (0 < rt j ∧ p2 ≤ rd (10 * j + (rt j - 1)))) := fun h => g2 ⟨h.1, h.2.1⟩
          refine lv_iconst (v := 1) hx hb dX6_rate_128 (by decide) ?_
          refine lv_goto (tgt := 133) hx hb dX6_rate_129 (by decide) ?_
          refine lv_iconst (v := 0) hx hb dX6_rate_133 (by decide) ?_
          have J := zJ.mk (wc := [(m0, .inr (6, [.int th, .int (nI M.1), .ref m1, .ref m2, .int (nI bt), .ref m3, .int (nI ln), .ref m4, .ref m5, .int (nI cl), .ref m6, .ref m7, .ref m8, .ref m9, .ref m10, .ref m11, .ref m12, .int (nI pn), .ref m13, .ref m14]))]) (wr := [(m10, .inl (D.2 0, 3, .inl (fun i => nI (rt i)))), (m11, .inl (D.2 0, 30, .inl rd)), (m12, .inl (D.2 0, 30, .inl rv))]) hA hB hK hP hD hS [0] [1, 2, 3] rfl rfl (by decide)
          refine z_goi (z_runV (As := [.int 0, .int 1, .int 1, .int 0]) (rest := []) (b := m0) hF (d_throwing D m0 m1 m2 m3 m4 m5 m6 m7 m8 m9 m10 m11 m12 m13 m14 (M.1, fun _ => 0, fun _ => 0) bt ln cl pn th 0 1 1 0 H.size) (cwV 4 hZ (z_gV t_286 t_287 t_288 t_272 t_285) rfl rfl rfl (by decide +kernel) ⟨Nat.le_of_ble_eq_true rfl, Nat.le_of_ble_eq_true rfl⟩) J 0 6 rfl rfl rfl rfl hl.1 (Nat.le_of_ble_eq_true rfl) dX6_rate_134 ⟨Nat.le_of_ble_eq_true rfl, Nat.le_of_ble_eq_true rfl⟩) J (fun r4 _ H locs w4 hP hD hS => ?_)
          have hP : va_P D.1 vwCl [(m10, .inl (D.2 0, 3, .inl (fun i => nI (rt i)))), (m11, .inl (D.2 0, 30, .inl rd)), (m12, .inl (D.2 0, 30, .inl rv)), (m0, .inr (6, [.int 2, .int (nI M.1), .ref m1, .ref m2, .int (nI bt), .ref m3, .int (nI ln), .ref m4, .ref m5, .int (nI cl), .ref m6, .ref m7, .ref m8, .ref m9, .ref m10, .ref m11, .ref m12, .int (nI pn), .ref m13, .ref m14]))] H := hP
          have hD : va_D A [(m10, .inl (D.2 0, 3, .inl (fun i => nI (rt i)))), (m11, .inl (D.2 0, 30, .inl rd)), (m12, .inl (D.2 0, 30, .inl rv)), (m0, .inr (6, [.int 2, .int (nI M.1), .ref m1, .ref m2, .int (nI bt), .ref m3, .int (nI ln), .ref m4, .ref m5, .int (nI cl), .ref m6, .ref m7, .ref m8, .ref m9, .ref m10, .ref m11, .ref m12, .int (nI pn), .ref m13, .ref m14]))] := hD
          have w4 : r4 = 1 := w4
          subst w4
          refine lv_if_eq (tgt := 142) hx hb dX6_rate_137 (by decide) (fun c11 => ?_) (fun c11 => ?_)
          · skip
            exfalso; exact absurd c11 (by decide)
          refine lv_iconst (v := 0) hx hb dX6_rate_140 (by decide) ?_
          exact z_iret (v := 0) hx hb hr hlocks hP hD hS (some 2) (Or.inr (Or.inr (Or.inl ⟨rfl, trivial, tu⟩))) [3, 0, 1, 2] rfl (by decide) (Nat.le_of_ble_eq_true rfl) (Nat.le_of_ble_eq_true rfl) dX6_rate_141
        have g2 := z_b1 f2 c8
        refine lv_iload_n hx hb dX6_rate_111 rfl (lv_at hl 6 rfl) ?_
        refine lv_i2l (v := p3.toInt64) hx hb dX6_rate_112 rfl ?_
        refine lv_lconst (v := 1) hx hb dX6_rate_113 (by decide) ?_
        refine lv_ldc2 (v := 100000000) hx hb hown (hZ _ t_323) dX6_rate_114 ?_
        have J := zJ.mk (wc := []) (wr := [(m0, .inr (6, [.int th, .int (nI M.1), .ref m1, .ref m2, .int (nI bt), .ref m3, .int (nI ln), .ref m4, .ref m5, .int (nI cl), .ref m6, .ref m7, .ref m8, .ref m9, .ref m10, .ref m11, .ref m12, .int (nI pn), .ref m13, .ref m14])), (m10, .inl (D.2 0, 3, .inl (fun i => nI (rt i)))), (m11, .inl (D.2 0, 30, .inl rd)), (m12, .inl (D.2 0, 30, .inl rv))]) hA hB hK hP hD hS [] [0, 1, 2, 3] rfl rfl (by decide)
        refine z_goi (z_runS (As := [.long p3.toInt64, .long 1, .long 100000000]) (rest := [.int 1, .int 0, .ref m0]) hF (d_lies D p3.toInt64 1 100000000 H.size) (va_cwS 3 hZ (z_gS t_273 t_274 t_272 t_271) rfl rfl rfl (by decide +kernel) ⟨Nat.le_of_ble_eq_true rfl, Nat.le_of_ble_eq_true rfl⟩) J rfl hl.1 (Nat.le_of_ble_eq_true rfl) dX6_rate_117 ⟨Nat.le_of_ble_eq_true rfl, Nat.le_of_ble_eq_true rfl⟩) J (fun r3 _ H locs w3 hP hD hS => ?_)
        have hP : va_P D.1 vwCl [(m0, .inr (6, [.int th, .int (nI M.1), .ref m1, .ref m2, .int (nI bt), .ref m3, .int (nI ln), .ref m4, .ref m5, .int (nI cl), .ref m6, .ref m7, .ref m8, .ref m9, .ref m10, .ref m11, .ref m12, .int (nI pn), .ref m13, .ref m14])), (m10, .inl (D.2 0, 3, .inl (fun i => nI (rt i)))), (m11, .inl (D.2 0, 30, .inl rd)), (m12, .inl (D.2 0, 30, .inl rv))] H := hP
        have hD : va_D A [(m0, .inr (6, [.int th, .int (nI M.1), .ref m1, .ref m2, .int (nI bt), .ref m3, .int (nI ln), .ref m4, .ref m5, .int (nI cl), .ref m6, .ref m7, .ref m8, .ref m9, .ref m10, .ref m11, .ref m12, .int (nI pn), .ref m13, .ref m14])), (m10, .inl (D.2 0, 3, .inl (fun i => nI (rt i)))), (m11, .inl (D.2 0, 30, .inl rd)), (m12, .inl (D.2 0, 30, .inl rv))] := hD
        have f3 : (r3 = 1 ∧ ¬ p3 < 1 ∧ p3 ≤ 100000000) ∨ (r3 = 0 ∧ ¬ (¬ p3 < 1 ∧ p3 ≤ 100000000)) := z_li (a := 1) (b := 100000000) (by decide) (by decide) w3
        refine lv_if_eq (tgt := 128) hx hb dX6_rate_120 (by decide) (fun c9 => ?_) (fun c9 => ?_)
        · skip
          have g3 := z_b0 f3 c9
          have rg : ¬ (¬ p2 < 0 ∧ p2 ≤ 365 ∧ ¬ p3 < 1 ∧ p3 ≤ 100000000 ∧ ¬ (0 < rt j ∧ p2 ≤ rd (10 * j + (rt j - 1)))) := fun h => g3 ⟨h.2.2.1, h.2.2.2.1⟩
          refine lv_iconst (v := 1) hx hb dX6_rate_128 (by decide) ?_
          refine lv_goto (tgt := 133) hx hb dX6_rate_129 (by decide) ?_
          refine lv_iconst (v := 0) hx hb dX6_rate_133 (by decide) ?_
          have J := zJ.mk (wc := [(m0, .inr (6, [.int th, .int (nI M.1), .ref m1, .ref m2, .int (nI bt), .ref m3, .int (nI ln), .ref m4, .ref m5, .int (nI cl), .ref m6, .ref m7, .ref m8, .ref m9, .ref m10, .ref m11, .ref m12, .int (nI pn), .ref m13, .ref m14]))]) (wr := [(m10, .inl (D.2 0, 3, .inl (fun i => nI (rt i)))), (m11, .inl (D.2 0, 30, .inl rd)), (m12, .inl (D.2 0, 30, .inl rv))]) hA hB hK hP hD hS [0] [1, 2, 3] rfl rfl (by decide)
          refine z_goi (z_runV (As := [.int 0, .int 1, .int 1, .int 0]) (rest := []) (b := m0) hF (d_throwing D m0 m1 m2 m3 m4 m5 m6 m7 m8 m9 m10 m11 m12 m13 m14 (M.1, fun _ => 0, fun _ => 0) bt ln cl pn th 0 1 1 0 H.size) (cwV 4 hZ (z_gV t_286 t_287 t_288 t_272 t_285) rfl rfl rfl (by decide +kernel) ⟨Nat.le_of_ble_eq_true rfl, Nat.le_of_ble_eq_true rfl⟩) J 0 6 rfl rfl rfl rfl hl.1 (Nat.le_of_ble_eq_true rfl) dX6_rate_134 ⟨Nat.le_of_ble_eq_true rfl, Nat.le_of_ble_eq_true rfl⟩) J (fun r4 _ H locs w4 hP hD hS => ?_)
          have hP : va_P D.1 vwCl [(m10, .inl (D.2 0, 3, .inl (fun i => nI (rt i)))), (m11, .inl (D.2 0, 30, .inl rd)), (m12, .inl (D.2 0, 30, .inl rv)), (m0, .inr (6, [.int 2, .int (nI M.1), .ref m1, .ref m2, .int (nI bt), .ref m3, .int (nI ln), .ref m4, .ref m5, .int (nI cl), .ref m6, .ref m7, .ref m8, .ref m9, .ref m10, .ref m11, .ref m12, .int (nI pn), .ref m13, .ref m14]))] H := hP
          have hD : va_D A [(m10, .inl (D.2 0, 3, .inl (fun i => nI (rt i)))), (m11, .inl (D.2 0, 30, .inl rd)), (m12, .inl (D.2 0, 30, .inl rv)), (m0, .inr (6, [.int 2, .int (nI M.1), .ref m1, .ref m2, .int (nI bt), .ref m3, .int (nI ln), .ref m4, .ref m5, .int (nI cl), .ref m6, .ref m7, .ref m8, .ref m9, .ref m10, .ref m11, .ref m12, .int (nI pn), .ref m13, .ref m14]))] := hD
          have w4 : r4 = 1 := w4
          subst w4
          refine lv_if_eq (tgt := 142) hx hb dX6_rate_137 (by decide) (fun c11 => ?_) (fun c11 => ?_)
          · skip
            exfalso; exact absurd c11 (by decide)
          refine lv_iconst (v := 0) hx hb dX6_rate_140 (by decide) ?_
          exact z_iret (v := 0) hx hb hr hlocks hP hD hS (some 2) (Or.inr (Or.inr (Or.inl ⟨rfl, trivial, tu⟩))) [3, 0, 1, 2] rfl (by decide) (Nat.le_of_ble_eq_true rfl) (Nat.le_of_ble_eq_true rfl) dX6_rate_141
        have g3 := z_b1 f3 c9
        refine lv_iload hx hb dX6_rate_123 (lv_at hl 0 rfl) ?_
        refine lv_if_eq (tgt := 132) hx hb dX6_rate_125 (by decide) (fun c10 => ?_) (fun c10 => ?_)
        · skip
          exfalso; exact absurd c10 (by decide)
        have rg : ¬ (¬ p2 < 0 ∧ p2 ≤ 365 ∧ ¬ p3 < 1 ∧ p3 ≤ 100000000 ∧ ¬ (0 < rt j ∧ p2 ≤ rd (10 * j + (rt j - 1)))) := fun h => h.2.2.2.2 fl
        refine lv_iconst (v := 1) hx hb dX6_rate_128 (by decide) ?_
        refine lv_goto (tgt := 133) hx hb dX6_rate_129 (by decide) ?_
        refine lv_iconst (v := 0) hx hb dX6_rate_133 (by decide) ?_
        have J := zJ.mk (wc := [(m0, .inr (6, [.int th, .int (nI M.1), .ref m1, .ref m2, .int (nI bt), .ref m3, .int (nI ln), .ref m4, .ref m5, .int (nI cl), .ref m6, .ref m7, .ref m8, .ref m9, .ref m10, .ref m11, .ref m12, .int (nI pn), .ref m13, .ref m14]))]) (wr := [(m10, .inl (D.2 0, 3, .inl (fun i => nI (rt i)))), (m11, .inl (D.2 0, 30, .inl rd)), (m12, .inl (D.2 0, 30, .inl rv))]) hA hB hK hP hD hS [0] [1, 2, 3] rfl rfl (by decide)
        refine z_goi (z_runV (As := [.int 0, .int 1, .int 1, .int 0]) (rest := []) (b := m0) hF (d_throwing D m0 m1 m2 m3 m4 m5 m6 m7 m8 m9 m10 m11 m12 m13 m14 (M.1, fun _ => 0, fun _ => 0) bt ln cl pn th 0 1 1 0 H.size) (cwV 4 hZ (z_gV t_286 t_287 t_288 t_272 t_285) rfl rfl rfl (by decide +kernel) ⟨Nat.le_of_ble_eq_true rfl, Nat.le_of_ble_eq_true rfl⟩) J 0 6 rfl rfl rfl rfl hl.1 (Nat.le_of_ble_eq_true rfl) dX6_rate_134 ⟨Nat.le_of_ble_eq_true rfl, Nat.le_of_ble_eq_true rfl⟩) J (fun r4 _ H locs w4 hP hD hS => ?_)
        have hP : va_P D.1 vwCl [(m10, .inl (D.2 0, 3, .inl (fun i => nI (rt i)))), (m11, .inl (D.2 0, 30, .inl rd)), (m12, .inl (D.2 0, 30, .inl rv)), (m0, .inr (6, [.int 2, .int (nI M.1), .ref m1, .ref m2, .int (nI bt), .ref m3, .int (nI ln), .ref m4, .ref m5, .int (nI cl), .ref m6, .ref m7, .ref m8, .ref m9, .ref m10, .ref m11, .ref m12, .int (nI pn), .ref m13, .ref m14]))] H := hP
        have hD : va_D A [(m10, .inl (D.2 0, 3, .inl (fun i => nI (rt i)))), (m11, .inl (D.2 0, 30, .inl rd)), (m12, .inl (D.2 0, 30, .inl rv)), (m0, .inr (6, [.int 2, .int (nI M.1), .ref m1, .ref m2, .int (nI bt), .ref m3, .int (nI ln), .ref m4, .ref m5, .int (nI cl), .ref m6, .ref m7, .ref m8, .ref m9, .ref m10, .ref m11, .ref m12, .int (nI pn), .ref m13, .ref m14]))] := hD
        have w4 : r4 = 1 := w4
        subst w4
        refine lv_if_eq (tgt := 142) hx hb dX6_rate_137 (by decide) (fun c11 => ?_) (fun c11 => ?_)
        · skip
          exfalso; exact absurd c11 (by decide)
        refine lv_iconst (v := 0) hx hb dX6_rate_140 (by decide) ?_
        exact z_iret (v := 0) hx hb hr hlocks hP hD hS (some 2) (Or.inr (Or.inr (Or.inl ⟨rfl, trivial, tu⟩))) [3, 0, 1, 2] rfl (by decide) (Nat.le_of_ble_eq_true rfl) (Nat.le_of_ble_eq_true rfl) dX6_rate_141
      exfalso; exact absurd c4 (by decide)
    exfalso; exact absurd c2 (by decide)
  exfalso; exact z_b0 f1 c1 ⟨nI_pos (by omega), nI_ge hj (by decide)⟩
set_option maxHeartbeats 4000000 in
set_option maxRecDepth 100000 in
/-- the reference: rate -/
theorem d_rateX {l : Launch} (D : zD) (m0 m1 m2 m3 m4 m5 m6 m7 m8 m9 m10 m11 m12 m13 m14 : Nat) (M : zM) (bt ln cl pn : Nat) (th : Int32) (p1 p2 p3 : Int32) (sz : Nat) (hp : ¬ zin p1 3) : Met l yX6_rate wsX6_rate ({ frames := 1, cells := 0, slots := 0, locals := 25 }) (va_Pc [.ref m0, .int p1, .int p2, .int p3] (zp D sz [(m0, .inr (6, [.int th, .int (nI M.1), .ref m1, .ref m2, .int (nI bt), .ref m3, .int (nI ln), .ref m4, .ref m5, .int (nI cl), .ref m6, .ref m7, .ref m8, .ref m9, .ref m10, .ref m11, .ref m12, .int (nI pn), .ref m13, .ref m14]))])) (va_Qi (fun r (u : Option Int32) => (u = none ∧ (zin p1 3) ∧ r = 0) ∨ (u = some 1 ∧ ¬ (zin p1 3))) (zq D (va_A [(m0, .inr (6, [.int th, .int (nI M.1), .ref m1, .ref m2, .int (nI bt), .ref m3, .int (nI ln), .ref m4, .ref m5, .int (nI cl), .ref m6, .ref m7, .ref m8, .ref m9, .ref m10, .ref m11, .ref m12, .int (nI pn), .ref m13, .ref m14]))] sz) (fun (u : Option Int32) => (u.elim [(m0, .inr (6, [.int 0, .int (nI M.1), .ref m1, .ref m2, .int (nI bt), .ref m3, .int (nI ln), .ref m4, .ref m5, .int (nI cl), .ref m6, .ref m7, .ref m8, .ref m9, .ref m10, .ref m11, .ref m12, .int (nI pn), .ref m13, .ref m14]))] (fun t => [(m0, .inr (6, [.int t, .int (nI M.1), .ref m1, .ref m2, .int (nI bt), .ref m3, .int (nI ln), .ref m4, .ref m5, .int (nI cl), .ref m6, .ref m7, .ref m8, .ref m9, .ref m10, .ref m11, .ref m12, .int (nI pn), .ref m13, .ref m14]))]) : va_W))) (va_A [(m0, .inr (6, [.int th, .int (nI M.1), .ref m1, .ref m2, .int (nI bt), .ref m3, .int (nI ln), .ref m4, .ref m5, .int (nI cl), .ref m6, .ref m7, .ref m8, .ref m9, .ref m10, .ref m11, .ref m12, .int (nI pn), .ref m13, .ref m14]))] sz)) 0 0 (va_A [(m0, .inr (6, [.int th, .int (nI M.1), .ref m1, .ref m2, .int (nI bt), .ref m3, .int (nI ln), .ref m4, .ref m5, .int (nI cl), .ref m6, .ref m7, .ref m8, .ref m9, .ref m10, .ref m11, .ref m12, .int (nI pn), .ref m13, .ref m14]))] sz) := by
  refine Met.ofW (cc := cX6_rate) (maxL := 7) (ret := (some .int)) (by decide) rfl ?_
  intro p e s m args below meth c s₁ B hml hv
  obtain ⟨rfl, hsz, hP, hK, hD0, hB⟩ := hv
  have hx := B.exec
  have hb := B.bytes
  have hr := B.returns
  have hts := atoms_spec (ws := wsX6_rate) B.pre
  have hown : s.vm.findClass "ShopLedgerModel" = some m.cls := findClass_of_methodNamed B.named
  have hlocks := B.notSynchronized
  subst hsz
  have hD := hD0.self (sz := s.heap.size)
  generalize hAe : va_A [(m0, .inr (6, [.int th, .int (nI M.1), .ref m1, .ref m2, .int (nI bt), .ref m3, .int (nI ln), .ref m4, .ref m5, .int (nI cl), .ref m6, .ref m7, .ref m8, .ref m9, .ref m10, .ref m11, .ref m12, .int (nI pn), .ref m13, .ref m14]))] s.heap.size = A at hD hB ⊢
  have hA : ∀ q : Nat, s.heap.size ≤ q → A q := fun q h => by rw [← hAe]; exact Or.inr h
  have hS : va_S A s.heap s.heap [] := va_S.rf
  have hZ : ∀ w ∈ zALL, w.before _ s = true := fun w h => hts w (List.mem_cons_of_mem _ h)
  have hF : CallFix p m c cX6_rate 7 s _ zALL "ShopLedgerModel" := ⟨hx, hb, hml, hown, hZ⟩
  have hl := lv_entry ([.ref m0, .int p1, .int p2, .int p3]) (n := 7) (Nat.le_of_ble_eq_true rfl)
  rw [lg_entry_eq]
  generalize (lg_sl ([.ref m0, .int p1, .int p2, .int p3]) ++ List.replicate (7 - (lg_sl ([.ref m0, .int p1, .int p2, .int p3])).length) Slot.unset).toArray = ls at hl ⊢
  have hl : lv_has ls 7 [(0, .ref m0), (1, .int p1), (2, .int p2), (3, .int p3)] := hl
  refine lv_iload_n hx hb dX6_rate_0 rfl (lv_at hl 1 rfl) ?_
  refine lv_i2l (v := p1.toInt64) hx hb dX6_rate_1 rfl ?_
  refine lv_lconst (v := 0) hx hb dX6_rate_2 (by decide) ?_
  refine lv_ldc2 (v := 2) hx hb hown (hZ _ t_316) dX6_rate_3 ?_
  have J := zJ.mk (wc := []) (wr := [(m0, .inr (6, [.int th, .int (nI M.1), .ref m1, .ref m2, .int (nI bt), .ref m3, .int (nI ln), .ref m4, .ref m5, .int (nI cl), .ref m6, .ref m7, .ref m8, .ref m9, .ref m10, .ref m11, .ref m12, .int (nI pn), .ref m13, .ref m14]))]) hA hB hK hP hD hS [] [0] rfl rfl (by decide)
  refine z_goi (z_runS (As := [.long p1.toInt64, .long 0, .long 2]) (rest := []) hF (d_lies D p1.toInt64 0 2 s.heap.size) (va_cwS 3 hZ (z_gS t_273 t_274 t_272 t_271) rfl rfl rfl (by decide +kernel) ⟨Nat.le_of_ble_eq_true rfl, Nat.le_of_ble_eq_true rfl⟩) J rfl hl.1 (Nat.le_of_ble_eq_true rfl) dX6_rate_6 ⟨Nat.le_of_ble_eq_true rfl, Nat.le_of_ble_eq_true rfl⟩) J (fun r1 _ H locs w1 hP hD hS => ?_)
  have hP : va_P D.1 vwCl [(m0, .inr (6, [.int th, .int (nI M.1), .ref m1, .ref m2, .int (nI bt), .ref m3, .int (nI ln), .ref m4, .ref m5, .int (nI cl), .ref m6, .ref m7, .ref m8, .ref m9, .ref m10, .ref m11, .ref m12, .int (nI pn), .ref m13, .ref m14]))] H := hP
  have hD : va_D A [(m0, .inr (6, [.int th, .int (nI M.1), .ref m1, .ref m2, .int (nI bt), .ref m3, .int (nI ln), .ref m4, .ref m5, .int (nI cl), .ref m6, .ref m7, .ref m8, .ref m9, .ref m10, .ref m11, .ref m12, .int (nI pn), .ref m13, .ref m14]))] := hD
  have f1 : (r1 = 1 ∧ zin p1 3) ∨ (r1 = 0 ∧ ¬ zin p1 3) := z_lz 2 (by decide) (by decide) w1
  refine lv_if_ne (tgt := 16) hx hb dX6_rate_9 (by decide) (fun c1 => ?_) (fun c1 => ?_)
  · skip
    exfalso; exact hp (z_b1 f1 c1)
  refine lv_iconst (v := 1) hx hb dX6_rate_12 (by decide) ?_
  refine lv_goto (tgt := 17) hx hb dX6_rate_13 (by decide) ?_
  refine lv_istore (lv' := [(4, .int 1), (0, .ref m0), (1, .int p1), (2, .int p2), (3, .int p3)]) hx hb dX6_rate_17 hl (by decide) rfl (fun ls hl => ?_)
  refine lv_iload hx hb dX6_rate_19 (lv_at hl 0 rfl) ?_
  refine lv_if_eq (tgt := 28) hx hb dX6_rate_21 (by decide) (fun c2 => ?_) (fun c2 => ?_)
  · skip
    exfalso; exact absurd c2 (by decide)
  refine lv_iconst (v := 0) hx hb dX6_rate_24 (by decide) ?_
  refine lv_goto (tgt := 34) hx hb dX6_rate_25 (by decide) ?_
  refine lv_istore (lv' := [(5, .int 0), (4, .int 1), (0, .ref m0), (1, .int p1), (2, .int p2), (3, .int p3)]) hx hb dX6_rate_34 hl (by decide) rfl (fun ls hl => ?_)
  refine lv_iload hx hb dX6_rate_36 (lv_at hl 0 rfl) ?_
  refine lv_if_le (tgt := 81) hx hb dX6_rate_38 (by decide) (fun c3 => ?_) (fun c3 => ?_)
  · skip
    refine lv_iconst (v := 0) hx hb dX6_rate_81 (by decide) ?_
    refine lv_istore (lv' := [(6, .int 0), (5, .int 0), (4, .int 1), (0, .ref m0), (1, .int p1), (2, .int p2), (3, .int p3)]) hx hb dX6_rate_82 hl (by decide) rfl (fun ls hl => ?_)
    refine lv_aload_n hx hb dX6_rate_84 rfl (lv_at hl 3 rfl) ?_
    refine lv_iload hx hb dX6_rate_85 (lv_at hl 2 rfl) ?_
    refine lv_iload hx hb dX6_rate_87 (lv_at hl 1 rfl) ?_
    refine lv_bipush (v := 10) hx hb dX6_rate_89 (by decide) ?_
    refine lv_icmp_ne (tgt := 98) hx hb dX6_rate_91 (by decide) (fun c7 => ?_) (fun c7 => ?_)
    · skip
      refine lv_iconst (v := 0) hx hb dX6_rate_98 (by decide) ?_
      refine lv_iload_n hx hb dX6_rate_99 rfl (lv_at hl 5 rfl) ?_
      refine lv_i2l (v := p2.toInt64) hx hb dX6_rate_100 rfl ?_
      refine lv_lconst (v := 0) hx hb dX6_rate_101 (by decide) ?_
      refine lv_ldc2 (v := 365) hx hb hown (hZ _ t_322) dX6_rate_102 ?_
      have J := zJ.mk (wc := []) (wr := [(m0, .inr (6, [.int th, .int (nI M.1), .ref m1, .ref m2, .int (nI bt), .ref m3, .int (nI ln), .ref m4, .ref m5, .int (nI cl), .ref m6, .ref m7, .ref m8, .ref m9, .ref m10, .ref m11, .ref m12, .int (nI pn), .ref m13, .ref m14]))]) hA hB hK hP hD hS [] [0] rfl rfl (by decide)
      refine z_goi (z_runS (As := [.long p2.toInt64, .long 0, .long 365]) (rest := [.int 0, .int 1, .ref m0]) hF (d_lies D p2.toInt64 0 365 H.size) (va_cwS 3 hZ (z_gS t_273 t_274 t_272 t_271) rfl rfl rfl (by decide +kernel) ⟨Nat.le_of_ble_eq_true rfl, Nat.le_of_ble_eq_true rfl⟩) J rfl hl.1 (Nat.le_of_ble_eq_true rfl) dX6_rate_105 ⟨Nat.le_of_ble_eq_true rfl, Nat.le_of_ble_eq_true rfl⟩) J (fun r2 _ H locs w2 hP hD hS => ?_)
      have hP : va_P D.1 vwCl [(m0, .inr (6, [.int th, .int (nI M.1), .ref m1, .ref m2, .int (nI bt), .ref m3, .int (nI ln), .ref m4, .ref m5, .int (nI cl), .ref m6, .ref m7, .ref m8, .ref m9, .ref m10, .ref m11, .ref m12, .int (nI pn), .ref m13, .ref m14]))] H := hP
      have hD : va_D A [(m0, .inr (6, [.int th, .int (nI M.1), .ref m1, .ref m2, .int (nI bt), .ref m3, .int (nI ln), .ref m4, .ref m5, .int (nI cl), .ref m6, .ref m7, .ref m8, .ref m9, .ref m10, .ref m11, .ref m12, .int (nI pn), .ref m13, .ref m14]))] := hD
      have f2 : (r2 = 1 ∧ ¬ p2 < 0 ∧ p2 ≤ 365) ∨ (r2 = 0 ∧ ¬ (¬ p2 < 0 ∧ p2 ≤ 365)) := z_li (a := 0) (b := 365) (by decide) (by decide) w2
      refine lv_if_eq (tgt := 128) hx hb dX6_rate_108 (by decide) (fun c8 => ?_) (fun c8 => ?_)
      · skip
        refine lv_iconst (v := 1) hx hb dX6_rate_128 (by decide) ?_
        refine lv_goto (tgt := 133) hx hb dX6_rate_129 (by decide) ?_
        refine lv_iconst (v := 0) hx hb dX6_rate_133 (by decide) ?_
        have J := zJ.mk (wc := [(m0, .inr (6, [.int th, .int (nI M.1), .ref m1, .ref m2, .int (nI bt), .ref m3, .int (nI ln), .ref m4, .ref m5, .int (nI cl), .ref m6, .ref m7, .ref m8, .ref m9, .ref m10, .ref m11, .ref m12, .int (nI pn), .ref m13, .ref m14]))]) (wr := []) hA hB hK hP hD hS [0] [] rfl rfl (by decide)
        refine z_goi (z_runV (As := [.int 1, .int 0, .int 1, .int 0]) (rest := []) (b := m0) hF (d_throwing D m0 m1 m2 m3 m4 m5 m6 m7 m8 m9 m10 m11 m12 m13 m14 (M.1, fun _ => 0, fun _ => 0) bt ln cl pn th 1 0 1 0 H.size) (cwV 4 hZ (z_gV t_286 t_287 t_288 t_272 t_285) rfl rfl rfl (by decide +kernel) ⟨Nat.le_of_ble_eq_true rfl, Nat.le_of_ble_eq_true rfl⟩) J 0 6 rfl rfl rfl rfl hl.1 (Nat.le_of_ble_eq_true rfl) dX6_rate_134 ⟨Nat.le_of_ble_eq_true rfl, Nat.le_of_ble_eq_true rfl⟩) J (fun r4 _ H locs w4 hP hD hS => ?_)
        have hP : va_P D.1 vwCl [(m0, .inr (6, [.int 1, .int (nI M.1), .ref m1, .ref m2, .int (nI bt), .ref m3, .int (nI ln), .ref m4, .ref m5, .int (nI cl), .ref m6, .ref m7, .ref m8, .ref m9, .ref m10, .ref m11, .ref m12, .int (nI pn), .ref m13, .ref m14]))] H := hP
        have hD : va_D A [(m0, .inr (6, [.int 1, .int (nI M.1), .ref m1, .ref m2, .int (nI bt), .ref m3, .int (nI ln), .ref m4, .ref m5, .int (nI cl), .ref m6, .ref m7, .ref m8, .ref m9, .ref m10, .ref m11, .ref m12, .int (nI pn), .ref m13, .ref m14]))] := hD
        have w4 : r4 = 1 := w4
        subst w4
        refine lv_if_eq (tgt := 142) hx hb dX6_rate_137 (by decide) (fun c11 => ?_) (fun c11 => ?_)
        · skip
          exfalso; exact absurd c11 (by decide)
        refine lv_iconst (v := 0) hx hb dX6_rate_140 (by decide) ?_
        exact z_iret (v := 0) hx hb hr hlocks hP hD hS (some 1) (Or.inr (⟨rfl, hp⟩)) [0] rfl (by decide) (Nat.le_of_ble_eq_true rfl) (Nat.le_of_ble_eq_true rfl) dX6_rate_141
      refine lv_iload_n hx hb dX6_rate_111 rfl (lv_at hl 6 rfl) ?_
      refine lv_i2l (v := p3.toInt64) hx hb dX6_rate_112 rfl ?_
      refine lv_lconst (v := 1) hx hb dX6_rate_113 (by decide) ?_
      refine lv_ldc2 (v := 100000000) hx hb hown (hZ _ t_323) dX6_rate_114 ?_
      have J := zJ.mk (wc := []) (wr := [(m0, .inr (6, [.int th, .int (nI M.1), .ref m1, .ref m2, .int (nI bt), .ref m3, .int (nI ln), .ref m4, .ref m5, .int (nI cl), .ref m6, .ref m7, .ref m8, .ref m9, .ref m10, .ref m11, .ref m12, .int (nI pn), .ref m13, .ref m14]))]) hA hB hK hP hD hS [] [0] rfl rfl (by decide)
      refine z_goi (z_runS (As := [.long p3.toInt64, .long 1, .long 100000000]) (rest := [.int 0, .int 1, .ref m0]) hF (d_lies D p3.toInt64 1 100000000 H.size) (va_cwS 3 hZ (z_gS t_273 t_274 t_272 t_271) rfl rfl rfl (by decide +kernel) ⟨Nat.le_of_ble_eq_true rfl, Nat.le_of_ble_eq_true rfl⟩) J rfl hl.1 (Nat.le_of_ble_eq_true rfl) dX6_rate_117 ⟨Nat.le_of_ble_eq_true rfl, Nat.le_of_ble_eq_true rfl⟩) J (fun r3 _ H locs w3 hP hD hS => ?_)
      have hP : va_P D.1 vwCl [(m0, .inr (6, [.int th, .int (nI M.1), .ref m1, .ref m2, .int (nI bt), .ref m3, .int (nI ln), .ref m4, .ref m5, .int (nI cl), .ref m6, .ref m7, .ref m8, .ref m9, .ref m10, .ref m11, .ref m12, .int (nI pn), .ref m13, .ref m14]))] H := hP
      have hD : va_D A [(m0, .inr (6, [.int th, .int (nI M.1), .ref m1, .ref m2, .int (nI bt), .ref m3, .int (nI ln), .ref m4, .ref m5, .int (nI cl), .ref m6, .ref m7, .ref m8, .ref m9, .ref m10, .ref m11, .ref m12, .int (nI pn), .ref m13, .ref m14]))] := hD
      have f3 : (r3 = 1 ∧ ¬ p3 < 1 ∧ p3 ≤ 100000000) ∨ (r3 = 0 ∧ ¬ (¬ p3 < 1 ∧ p3 ≤ 100000000)) := z_li (a := 1) (b := 100000000) (by decide) (by decide) w3
      refine lv_if_eq (tgt := 128) hx hb dX6_rate_120 (by decide) (fun c9 => ?_) (fun c9 => ?_)
      · skip
        refine lv_iconst (v := 1) hx hb dX6_rate_128 (by decide) ?_
        refine lv_goto (tgt := 133) hx hb dX6_rate_129 (by decide) ?_
        refine lv_iconst (v := 0) hx hb dX6_rate_133 (by decide) ?_
        have J := zJ.mk (wc := [(m0, .inr (6, [.int th, .int (nI M.1), .ref m1, .ref m2, .int (nI bt), .ref m3, .int (nI ln), .ref m4, .ref m5, .int (nI cl), .ref m6, .ref m7, .ref m8, .ref m9, .ref m10, .ref m11, .ref m12, .int (nI pn), .ref m13, .ref m14]))]) (wr := []) hA hB hK hP hD hS [0] [] rfl rfl (by decide)
        refine z_goi (z_runV (As := [.int 1, .int 0, .int 1, .int 0]) (rest := []) (b := m0) hF (d_throwing D m0 m1 m2 m3 m4 m5 m6 m7 m8 m9 m10 m11 m12 m13 m14 (M.1, fun _ => 0, fun _ => 0) bt ln cl pn th 1 0 1 0 H.size) (cwV 4 hZ (z_gV t_286 t_287 t_288 t_272 t_285) rfl rfl rfl (by decide +kernel) ⟨Nat.le_of_ble_eq_true rfl, Nat.le_of_ble_eq_true rfl⟩) J 0 6 rfl rfl rfl rfl hl.1 (Nat.le_of_ble_eq_true rfl) dX6_rate_134 ⟨Nat.le_of_ble_eq_true rfl, Nat.le_of_ble_eq_true rfl⟩) J (fun r4 _ H locs w4 hP hD hS => ?_)
        have hP : va_P D.1 vwCl [(m0, .inr (6, [.int 1, .int (nI M.1), .ref m1, .ref m2, .int (nI bt), .ref m3, .int (nI ln), .ref m4, .ref m5, .int (nI cl), .ref m6, .ref m7, .ref m8, .ref m9, .ref m10, .ref m11, .ref m12, .int (nI pn), .ref m13, .ref m14]))] H := hP
        have hD : va_D A [(m0, .inr (6, [.int 1, .int (nI M.1), .ref m1, .ref m2, .int (nI bt), .ref m3, .int (nI ln), .ref m4, .ref m5, .int (nI cl), .ref m6, .ref m7, .ref m8, .ref m9, .ref m10, .ref m11, .ref m12, .int (nI pn), .ref m13, .ref m14]))] := hD
        have w4 : r4 = 1 := w4
        subst w4
        refine lv_if_eq (tgt := 142) hx hb dX6_rate_137 (by decide) (fun c11 => ?_) (fun c11 => ?_)
        · skip
          exfalso; exact absurd c11 (by decide)
        refine lv_iconst (v := 0) hx hb dX6_rate_140 (by decide) ?_
        exact z_iret (v := 0) hx hb hr hlocks hP hD hS (some 1) (Or.inr (⟨rfl, hp⟩)) [0] rfl (by decide) (Nat.le_of_ble_eq_true rfl) (Nat.le_of_ble_eq_true rfl) dX6_rate_141
      refine lv_iload hx hb dX6_rate_123 (lv_at hl 0 rfl) ?_
      refine lv_if_eq (tgt := 132) hx hb dX6_rate_125 (by decide) (fun c10 => ?_) (fun c10 => ?_)
      · skip
        refine lv_iconst (v := 0) hx hb dX6_rate_132 (by decide) ?_
        refine lv_iconst (v := 0) hx hb dX6_rate_133 (by decide) ?_
        have J := zJ.mk (wc := [(m0, .inr (6, [.int th, .int (nI M.1), .ref m1, .ref m2, .int (nI bt), .ref m3, .int (nI ln), .ref m4, .ref m5, .int (nI cl), .ref m6, .ref m7, .ref m8, .ref m9, .ref m10, .ref m11, .ref m12, .int (nI pn), .ref m13, .ref m14]))]) (wr := []) hA hB hK hP hD hS [0] [] rfl rfl (by decide)
        refine z_goi (z_runV (As := [.int 1, .int 0, .int 0, .int 0]) (rest := []) (b := m0) hF (d_throwing D m0 m1 m2 m3 m4 m5 m6 m7 m8 m9 m10 m11 m12 m13 m14 (M.1, fun _ => 0, fun _ => 0) bt ln cl pn th 1 0 0 0 H.size) (cwV 4 hZ (z_gV t_286 t_287 t_288 t_272 t_285) rfl rfl rfl (by decide +kernel) ⟨Nat.le_of_ble_eq_true rfl, Nat.le_of_ble_eq_true rfl⟩) J 0 6 rfl rfl rfl rfl hl.1 (Nat.le_of_ble_eq_true rfl) dX6_rate_134 ⟨Nat.le_of_ble_eq_true rfl, Nat.le_of_ble_eq_true rfl⟩) J (fun r4 _ H locs w4 hP hD hS => ?_)
        have hP : va_P D.1 vwCl [(m0, .inr (6, [.int 1, .int (nI M.1), .ref m1, .ref m2, .int (nI bt), .ref m3, .int (nI ln), .ref m4, .ref m5, .int (nI cl), .ref m6, .ref m7, .ref m8, .ref m9, .ref m10, .ref m11, .ref m12, .int (nI pn), .ref m13, .ref m14]))] H := hP
        have hD : va_D A [(m0, .inr (6, [.int 1, .int (nI M.1), .ref m1, .ref m2, .int (nI bt), .ref m3, .int (nI ln), .ref m4, .ref m5, .int (nI cl), .ref m6, .ref m7, .ref m8, .ref m9, .ref m10, .ref m11, .ref m12, .int (nI pn), .ref m13, .ref m14]))] := hD
        have w4 : r4 = 1 := w4
        subst w4
        refine lv_if_eq (tgt := 142) hx hb dX6_rate_137 (by decide) (fun c11 => ?_) (fun c11 => ?_)
        · skip
          exfalso; exact absurd c11 (by decide)
        refine lv_iconst (v := 0) hx hb dX6_rate_140 (by decide) ?_
        exact z_iret (v := 0) hx hb hr hlocks hP hD hS (some 1) (Or.inr (⟨rfl, hp⟩)) [0] rfl (by decide) (Nat.le_of_ble_eq_true rfl) (Nat.le_of_ble_eq_true rfl) dX6_rate_141
      exfalso; exact absurd c10 (by decide)
    exfalso; exact absurd c7 (by decide)
  exfalso; exact absurd c3 (by decide)
set_option maxHeartbeats 4000000 in
set_option maxRecDepth 100000 in
/-- the reference: foreign -/
theorem d_foreign {l : Launch} (D : zD) (m0 m1 m2 m3 m4 m5 m6 m7 m8 m9 m10 m11 m12 m13 m14 : Nat) (M : zM) (bt ln cl pn : Nat) (th : Int32) (rt : Nat → Nat) (rd rv : Nat → Int32) (j : Nat) (p2 p3 : Int32) (sz : Nat) (hj : j < 3) (hy : rt j ≤ 10) : Met l yX6_foreign wsX6_foreign ({ frames := 1, cells := 0, slots := 0, locals := 25 }) (va_Pc [.ref m0, .int (nI j), .int p2, .int p3] (zp D sz [(m0, .inr (6, [.int th, .int (nI M.1), .ref m1, .ref m2, .int (nI bt), .ref m3, .int (nI ln), .ref m4, .ref m5, .int (nI cl), .ref m6, .ref m7, .ref m8, .ref m9, .ref m10, .ref m11, .ref m12, .int (nI pn), .ref m13, .ref m14])), (m10, .inl (D.2 0, 3, .inl (fun i => nI (rt i)))), (m11, .inl (D.2 0, 30, .inl rd)), (m12, .inl (D.2 0, 30, .inl rv))])) (va_Ql (fun r (u : Option Int32) => (u = none ∧ (True) ∧ (¬ p2 < 0 ∧ p2 ≤ 365 ∧ ¬ p3 < 0 ∧ p3 ≤ 1000000000) ∧ (¬ zm_rate rd rv (10 * j) p2 (rt j) = 0) ∧ r = (2 * p3.toInt64 * (zm_rate rd rv (10 * j) p2 (rt j)).toInt64 + 10000) / 20000) ∨ (u = some 1 ∧ ¬ (True)) ∨ (u = some 2 ∧ (True) ∧ ¬ (¬ p2 < 0 ∧ p2 ≤ 365 ∧ ¬ p3 < 0 ∧ p3 ≤ 1000000000)) ∨ (u = some 3 ∧ (True) ∧ (¬ p2 < 0 ∧ p2 ≤ 365 ∧ ¬ p3 < 0 ∧ p3 ≤ 1000000000) ∧ ¬ (¬ zm_rate rd rv (10 * j) p2 (rt j) = 0))) (zq D (va_A [(m0, .inr (6, [.int th, .int (nI M.1), .ref m1, .ref m2, .int (nI bt), .ref m3, .int (nI ln), .ref m4, .ref m5, .int (nI cl), .ref m6, .ref m7, .ref m8, .ref m9, .ref m10, .ref m11, .ref m12, .int (nI pn), .ref m13, .ref m14])), (m10, .inl (D.2 0, 3, .inl (fun i => nI (rt i)))), (m11, .inl (D.2 0, 30, .inl rd)), (m12, .inl (D.2 0, 30, .inl rv))] sz) (fun (u : Option Int32) => (u.elim [(m0, .inr (6, [.int 0, .int (nI M.1), .ref m1, .ref m2, .int (nI bt), .ref m3, .int (nI ln), .ref m4, .ref m5, .int (nI cl), .ref m6, .ref m7, .ref m8, .ref m9, .ref m10, .ref m11, .ref m12, .int (nI pn), .ref m13, .ref m14])), (m10, .inl (D.2 0, 3, .inl (fun i => nI (rt i)))), (m11, .inl (D.2 0, 30, .inl rd)), (m12, .inl (D.2 0, 30, .inl rv))] (fun t => [(m0, .inr (6, [.int t, .int (nI M.1), .ref m1, .ref m2, .int (nI bt), .ref m3, .int (nI ln), .ref m4, .ref m5, .int (nI cl), .ref m6, .ref m7, .ref m8, .ref m9, .ref m10, .ref m11, .ref m12, .int (nI pn), .ref m13, .ref m14])), (m10, .inl (D.2 0, 3, .inl (fun i => nI (rt i)))), (m11, .inl (D.2 0, 30, .inl rd)), (m12, .inl (D.2 0, 30, .inl rv))]) : va_W))) (va_A [(m0, .inr (6, [.int th, .int (nI M.1), .ref m1, .ref m2, .int (nI bt), .ref m3, .int (nI ln), .ref m4, .ref m5, .int (nI cl), .ref m6, .ref m7, .ref m8, .ref m9, .ref m10, .ref m11, .ref m12, .int (nI pn), .ref m13, .ref m14])), (m10, .inl (D.2 0, 3, .inl (fun i => nI (rt i)))), (m11, .inl (D.2 0, 30, .inl rd)), (m12, .inl (D.2 0, 30, .inl rv))] sz)) 0 0 (va_A [(m0, .inr (6, [.int th, .int (nI M.1), .ref m1, .ref m2, .int (nI bt), .ref m3, .int (nI ln), .ref m4, .ref m5, .int (nI cl), .ref m6, .ref m7, .ref m8, .ref m9, .ref m10, .ref m11, .ref m12, .int (nI pn), .ref m13, .ref m14])), (m10, .inl (D.2 0, 3, .inl (fun i => nI (rt i)))), (m11, .inl (D.2 0, 30, .inl rd)), (m12, .inl (D.2 0, 30, .inl rv))] sz) := by
  refine Met.ofW (cc := cX6_foreign) (maxL := 7) (ret := (some .long)) (by decide) rfl ?_
  intro p e s m args below meth c s₁ B hml hv
  obtain ⟨rfl, hsz, hP, hK, hD0, hB⟩ := hv
  have hx := B.exec
  have hb := B.bytes
  have hr := B.returns
  have hts := atoms_spec (ws := wsX6_foreign) B.pre
  have hown : s.vm.findClass "ShopLedgerModel" = some m.cls := findClass_of_methodNamed B.named
  have hlocks := B.notSynchronized
  subst hsz
  have hD := hD0.self (sz := s.heap.size)
  generalize hAe : va_A [(m0, .inr (6, [.int th, .int (nI M.1), .ref m1, .ref m2, .int (nI bt), .ref m3, .int (nI ln), .ref m4, .ref m5, .int (nI cl), .ref m6, .ref m7, .ref m8, .ref m9, .ref m10, .ref m11, .ref m12, .int (nI pn), .ref m13, .ref m14])), (m10, .inl (D.2 0, 3, .inl (fun i => nI (rt i)))), (m11, .inl (D.2 0, 30, .inl rd)), (m12, .inl (D.2 0, 30, .inl rv))] s.heap.size = A at hD hB ⊢
  have hA : ∀ q : Nat, s.heap.size ≤ q → A q := fun q h => by rw [← hAe]; exact Or.inr h
  have hS : va_S A s.heap s.heap [] := va_S.rf
  have hZ : ∀ w ∈ zALL, w.before _ s = true := fun w h => hts w (List.mem_cons_of_mem _ h)
  have hF : CallFix p m c cX6_foreign 7 s _ zALL "ShopLedgerModel" := ⟨hx, hb, hml, hown, hZ⟩
  have hl := lv_entry ([.ref m0, .int (nI j), .int p2, .int p3]) (n := 7) (Nat.le_of_ble_eq_true rfl)
  rw [lg_entry_eq]
  generalize (lg_sl ([.ref m0, .int (nI j), .int p2, .int p3]) ++ List.replicate (7 - (lg_sl ([.ref m0, .int (nI j), .int p2, .int p3])).length) Slot.unset).toArray = ls at hl ⊢
  have hl : lv_has ls 7 [(0, .ref m0), (1, .int (nI j)), (2, .int p2), (3, .int p3)] := hl
  refine lv_iload_n hx hb dX6_foreign_0 rfl (lv_at hl 1 rfl) ?_
  refine lv_i2l (v := (nI j).toInt64) hx hb dX6_foreign_1 rfl ?_
  refine lv_lconst (v := 0) hx hb dX6_foreign_2 (by decide) ?_
  refine lv_ldc2 (v := 2) hx hb hown (hZ _ t_316) dX6_foreign_3 ?_
  have J := zJ.mk (wc := []) (wr := [(m0, .inr (6, [.int th, .int (nI M.1), .ref m1, .ref m2, .int (nI bt), .ref m3, .int (nI ln), .ref m4, .ref m5, .int (nI cl), .ref m6, .ref m7, .ref m8, .ref m9, .ref m10, .ref m11, .ref m12, .int (nI pn), .ref m13, .ref m14])), (m10, .inl (D.2 0, 3, .inl (fun i => nI (rt i)))), (m11, .inl (D.2 0, 30, .inl rd)), (m12, .inl (D.2 0, 30, .inl rv))]) hA hB hK hP hD hS [] [0, 1, 2, 3] rfl rfl (by decide)
  refine z_goi (z_runS (As := [.long ((nI j).toInt64), .long 0, .long 2]) (rest := []) hF (d_lies D (nI j).toInt64 0 2 s.heap.size) (va_cwS 3 hZ (z_gS t_273 t_274 t_272 t_271) rfl rfl rfl (by decide +kernel) ⟨Nat.le_of_ble_eq_true rfl, Nat.le_of_ble_eq_true rfl⟩) J rfl hl.1 (Nat.le_of_ble_eq_true rfl) dX6_foreign_6 ⟨Nat.le_of_ble_eq_true rfl, Nat.le_of_ble_eq_true rfl⟩) J (fun r1 _ H locs w1 hP hD hS => ?_)
  have hP : va_P D.1 vwCl [(m0, .inr (6, [.int th, .int (nI M.1), .ref m1, .ref m2, .int (nI bt), .ref m3, .int (nI ln), .ref m4, .ref m5, .int (nI cl), .ref m6, .ref m7, .ref m8, .ref m9, .ref m10, .ref m11, .ref m12, .int (nI pn), .ref m13, .ref m14])), (m10, .inl (D.2 0, 3, .inl (fun i => nI (rt i)))), (m11, .inl (D.2 0, 30, .inl rd)), (m12, .inl (D.2 0, 30, .inl rv))] H := hP
  have hD : va_D A [(m0, .inr (6, [.int th, .int (nI M.1), .ref m1, .ref m2, .int (nI bt), .ref m3, .int (nI ln), .ref m4, .ref m5, .int (nI cl), .ref m6, .ref m7, .ref m8, .ref m9, .ref m10, .ref m11, .ref m12, .int (nI pn), .ref m13, .ref m14])), (m10, .inl (D.2 0, 3, .inl (fun i => nI (rt i)))), (m11, .inl (D.2 0, 30, .inl rd)), (m12, .inl (D.2 0, 30, .inl rv))] := hD
  have f1 : (r1 = 1 ∧ zin (nI j) 3) ∨ (r1 = 0 ∧ ¬ zin (nI j) 3) := z_lz 2 (by decide) (by decide) w1
  refine lv_if_ne (tgt := 16) hx hb dX6_foreign_9 (by decide) (fun c1 => ?_) (fun c1 => ?_)
  · skip
    refine lv_iconst (v := 0) hx hb dX6_foreign_16 (by decide) ?_
    refine lv_istore (lv' := [(4, .int 0), (0, .ref m0), (1, .int (nI j)), (2, .int p2), (3, .int p3)]) hx hb dX6_foreign_17 hl (by decide) rfl (fun ls hl => ?_)
    refine lv_iconst (v := 0) hx hb dX6_foreign_19 (by decide) ?_
    refine lv_istore (lv' := [(5, .int 0), (4, .int 0), (0, .ref m0), (1, .int (nI j)), (2, .int p2), (3, .int p3)]) hx hb dX6_foreign_20 hl (by decide) rfl (fun ls hl => ?_)
    refine lv_iconst (v := 0) hx hb dX6_foreign_22 (by decide) ?_
    refine lv_istore (lv' := [(6, .int 0), (5, .int 0), (4, .int 0), (0, .ref m0), (1, .int (nI j)), (2, .int p2), (3, .int p3)]) hx hb dX6_foreign_23 hl (by decide) rfl (fun ls hl => ?_)
    have lo1 : ∀ (nn : Nat) (k : Nat), k ≤ (rt j) → (rt j) + 1 ≤ k + nn → ∀ (H : Heap) (locs : List Loc), va_P D.1 vwCl [(m0, .inr (6, [.int th, .int (nI M.1), .ref m1, .ref m2, .int (nI bt), .ref m3, .int (nI ln), .ref m4, .ref m5, .int (nI cl), .ref m6, .ref m7, .ref m8, .ref m9, .ref m10, .ref m11, .ref m12, .int (nI pn), .ref m13, .ref m14])), (m10, .inl (D.2 0, 3, .inl (fun i => nI (rt i)))), (m11, .inl (D.2 0, 30, .inl rd)), (m12, .inl (D.2 0, 30, .inl rv))] H → va_D A [(m0, .inr (6, [.int th, .int (nI M.1), .ref m1, .ref m2, .int (nI bt), .ref m3, .int (nI ln), .ref m4, .ref m5, .int (nI cl), .ref m6, .ref m7, .ref m8, .ref m9, .ref m10, .ref m11, .ref m12, .int (nI pn), .ref m13, .ref m14])), (m10, .inl (D.2 0, 3, .inl (fun i => nI (rt i)))), (m11, .inl (D.2 0, 30, .inl rd)), (m12, .inl (D.2 0, 30, .inl rv))] → va_S A s.heap H locs → ∀ (ls : Array Slot), lv_has ls 7 [(0, .ref m0), (1, .int (nI j)), (2, .int p2), (3, .int p3), (4, .int 0), (5, .int (zm_rate rd rv (10 * j) p2 k)), (6, .int (nI k))] → W p l e (headSpec wsX6_foreign ({ frames := 1, cells := 0, slots := 0, locals := 25 })).room s m [.ref m0, .int (nI j), .int p2, .int p3].toArray below meth c H locs 0 0 (MQ below (va_Ql (fun r (u : Option Int32) => (u = none ∧ (True) ∧ (¬ p2 < 0 ∧ p2 ≤ 365 ∧ ¬ p3 < 0 ∧ p3 ≤ 1000000000) ∧ (¬ zm_rate rd rv (10 * j) p2 (rt j) = 0) ∧ r = (2 * p3.toInt64 * (zm_rate rd rv (10 * j) p2 (rt j)).toInt64 + 10000) / 20000) ∨ (u = some 1 ∧ ¬ (True)) ∨ (u = some 2 ∧ (True) ∧ ¬ (¬ p2 < 0 ∧ p2 ≤ 365 ∧ ¬ p3 < 0 ∧ p3 ≤ 1000000000)) ∨ (u = some 3 ∧ (True) ∧ (¬ p2 < 0 ∧ p2 ≤ 365 ∧ ¬ p3 < 0 ∧ p3 ≤ 1000000000) ∧ ¬ (¬ zm_rate rd rv (10 * j) p2 (rt j) = 0))) (zq D A (fun (u : Option Int32) => (u.elim [(m0, .inr (6, [.int 0, .int (nI M.1), .ref m1, .ref m2, .int (nI bt), .ref m3, .int (nI ln), .ref m4, .ref m5, .int (nI cl), .ref m6, .ref m7, .ref m8, .ref m9, .ref m10, .ref m11, .ref m12, .int (nI pn), .ref m13, .ref m14])), (m10, .inl (D.2 0, 3, .inl (fun i => nI (rt i)))), (m11, .inl (D.2 0, 30, .inl rd)), (m12, .inl (D.2 0, 30, .inl rv))] (fun t => [(m0, .inr (6, [.int t, .int (nI M.1), .ref m1, .ref m2, .int (nI bt), .ref m3, .int (nI ln), .ref m4, .ref m5, .int (nI cl), .ref m6, .ref m7, .ref m8, .ref m9, .ref m10, .ref m11, .ref m12, .int (nI pn), .ref m13, .ref m14])), (m10, .inl (D.2 0, 3, .inl (fun i => nI (rt i)))), (m11, .inl (D.2 0, 30, .inl rd)), (m12, .inl (D.2 0, 30, .inl rv))]) : va_W))) A) [.ref m0, .int (nI j), .int p2, .int p3].toArray s 0 0 A) (F0 m 25 ls []) := by
      intro nn
      induction nn with
      | zero =>
        intro k q1 q2
        exfalso
        omega
      | succ nn ih_lo1 =>
        intro k q1 q2 H locs hP hD hS ls hl
        refine lv_iload hx hb dX6_foreign_25 (lv_at hl 6 rfl) ?_
        refine lv_iload hx hb dX6_foreign_27 (lv_at hl 4 rfl) ?_
        refine lv_if_eq (tgt := 36) hx hb dX6_foreign_29 (by decide) (fun c2 => ?_) (fun c2 => ?_)
        · skip
          refine lv_aload_n hx hb dX6_foreign_36 rfl (lv_at hl 0 rfl) ?_
          refine va_get (D := D.1) (ci := 6) (v := .ref m10) (C := "ShopLedgerModel") (T := TX6) (N := 20) hx hb hZ inX6 hown hK hP 0 rfl rfl 14 (by decide) (hZ _ t_321) (fun _ h9 => h9) rfl dX6_foreign_37 ?_
          refine lv_iload_n hx hb dX6_foreign_40 rfl (lv_at hl 1 rfl) ?_
          refine z_iald (k := j) hx hb hK hP 1 rfl (hj) (by decide) dX6_foreign_41 ?_
          refine lv_icmp_ge (tgt := 86) hx hb dX6_foreign_42 (by decide) (fun c3 => ?_) (fun c3 => ?_)
          · skip
            have e9 : rt j = k := (z_ge q1 (by omega) c3).symm
            subst e9
            refine lv_aload_n hx hb dX6_foreign_86 rfl (lv_at hl 0 rfl) ?_
            refine lv_iload hx hb dX6_foreign_87 (lv_at hl 4 rfl) ?_
            refine lv_iload_n hx hb dX6_foreign_89 rfl (lv_at hl 2 rfl) ?_
            refine lv_i2l (v := p2.toInt64) hx hb dX6_foreign_90 rfl ?_
            refine lv_lconst (v := 0) hx hb dX6_foreign_91 (by decide) ?_
            refine lv_ldc2 (v := 365) hx hb hown (hZ _ t_322) dX6_foreign_92 ?_
            have J := zJ.mk (wc := []) (wr := [(m0, .inr (6, [.int th, .int (nI M.1), .ref m1, .ref m2, .int (nI bt), .ref m3, .int (nI ln), .ref m4, .ref m5, .int (nI cl), .ref m6, .ref m7, .ref m8, .ref m9, .ref m10, .ref m11, .ref m12, .int (nI pn), .ref m13, .ref m14])), (m10, .inl (D.2 0, 3, .inl (fun i => nI (rt i)))), (m11, .inl (D.2 0, 30, .inl rd)), (m12, .inl (D.2 0, 30, .inl rv))]) hA hB hK hP hD hS [] [0, 1, 2, 3] rfl rfl (by decide)
            refine z_goi (z_runS (As := [.long p2.toInt64, .long 0, .long 365]) (rest := [.int 0, .ref m0]) hF (d_lies D p2.toInt64 0 365 H.size) (va_cwS 3 hZ (z_gS t_273 t_274 t_272 t_271) rfl rfl rfl (by decide +kernel) ⟨Nat.le_of_ble_eq_true rfl, Nat.le_of_ble_eq_true rfl⟩) J rfl hl.1 (Nat.le_of_ble_eq_true rfl) dX6_foreign_95 ⟨Nat.le_of_ble_eq_true rfl, Nat.le_of_ble_eq_true rfl⟩) J (fun r2 _ H locs w2 hP hD hS => ?_)
            have hP : va_P D.1 vwCl [(m0, .inr (6, [.int th, .int (nI M.1), .ref m1, .ref m2, .int (nI bt), .ref m3, .int (nI ln), .ref m4, .ref m5, .int (nI cl), .ref m6, .ref m7, .ref m8, .ref m9, .ref m10, .ref m11, .ref m12, .int (nI pn), .ref m13, .ref m14])), (m10, .inl (D.2 0, 3, .inl (fun i => nI (rt i)))), (m11, .inl (D.2 0, 30, .inl rd)), (m12, .inl (D.2 0, 30, .inl rv))] H := hP
            have hD : va_D A [(m0, .inr (6, [.int th, .int (nI M.1), .ref m1, .ref m2, .int (nI bt), .ref m3, .int (nI ln), .ref m4, .ref m5, .int (nI cl), .ref m6, .ref m7, .ref m8, .ref m9, .ref m10, .ref m11, .ref m12, .int (nI pn), .ref m13, .ref m14])), (m10, .inl (D.2 0, 3, .inl (fun i => nI (rt i)))), (m11, .inl (D.2 0, 30, .inl rd)), (m12, .inl (D.2 0, 30, .inl rv))] := hD
            have f2 : (r2 = 1 ∧ ¬ p2 < 0 ∧ p2 ≤ 365) ∨ (r2 = 0 ∧ ¬ (¬ p2 < 0 ∧ p2 ≤ 365)) := z_li (a := 0) (b := 365) (by decide) (by decide) w2
            refine lv_if_eq (tgt := 113) hx hb dX6_foreign_98 (by decide) (fun c5 => ?_) (fun c5 => ?_)
            · skip
              have g2 := z_b0 f2 c5
              have rg : ¬ (¬ p2 < 0 ∧ p2 ≤ 365 ∧ ¬ p3 < 0 ∧ p3 ≤ 1000000000) := fun h => g2 ⟨h.1, h.2.1⟩
              refine lv_iconst (v := 1) hx hb dX6_foreign_113 (by decide) ?_
              refine lv_goto (tgt := 118) hx hb dX6_foreign_114 (by decide) ?_
              refine lv_iload hx hb dX6_foreign_118 (lv_at hl 5 rfl) ?_
              refine lv_if_ne (tgt := 127) hx hb dX6_foreign_120 (by decide) (fun c7 => ?_) (fun c7 => ?_)
              · skip
                have me : ¬ zm_rate rd rv (10 * j) p2 (rt j) = 0 := c7
                refine lv_iconst (v := 0) hx hb dX6_foreign_127 (by decide) ?_
                refine lv_iconst (v := 0) hx hb dX6_foreign_128 (by decide) ?_
                have J := zJ.mk (wc := [(m0, .inr (6, [.int th, .int (nI M.1), .ref m1, .ref m2, .int (nI bt), .ref m3, .int (nI ln), .ref m4, .ref m5, .int (nI cl), .ref m6, .ref m7, .ref m8, .ref m9, .ref m10, .ref m11, .ref m12, .int (nI pn), .ref m13, .ref m14]))]) (wr := [(m10, .inl (D.2 0, 3, .inl (fun i => nI (rt i)))), (m11, .inl (D.2 0, 30, .inl rd)), (m12, .inl (D.2 0, 30, .inl rv))]) hA hB hK hP hD hS [0] [1, 2, 3] rfl rfl (by decide)
                refine z_goi (z_runV (As := [.int 0, .int 1, .int 0, .int 0]) (rest := []) (b := m0) hF (d_throwing D m0 m1 m2 m3 m4 m5 m6 m7 m8 m9 m10 m11 m12 m13 m14 (M.1, fun _ => 0, fun _ => 0) bt ln cl pn th 0 1 0 0 H.size) (cwV 4 hZ (z_gV t_286 t_287 t_288 t_272 t_285) rfl rfl rfl (by decide +kernel) ⟨Nat.le_of_ble_eq_true rfl, Nat.le_of_ble_eq_true rfl⟩) J 0 6 rfl rfl rfl rfl hl.1 (Nat.le_of_ble_eq_true rfl) dX6_foreign_129 ⟨Nat.le_of_ble_eq_true rfl, Nat.le_of_ble_eq_true rfl⟩) J (fun r4 _ H locs w4 hP hD hS => ?_)
                have hP : va_P D.1 vwCl [(m10, .inl (D.2 0, 3, .inl (fun i => nI (rt i)))), (m11, .inl (D.2 0, 30, .inl rd)), (m12, .inl (D.2 0, 30, .inl rv)), (m0, .inr (6, [.int 2, .int (nI M.1), .ref m1, .ref m2, .int (nI bt), .ref m3, .int (nI ln), .ref m4, .ref m5, .int (nI cl), .ref m6, .ref m7, .ref m8, .ref m9, .ref m10, .ref m11, .ref m12, .int (nI pn), .ref m13, .ref m14]))] H := hP
                have hD : va_D A [(m10, .inl (D.2 0, 3, .inl (fun i => nI (rt i)))), (m11, .inl (D.2 0, 30, .inl rd)), (m12, .inl (D.2 0, 30, .inl rv)), (m0, .inr (6, [.int 2, .int (nI M.1), .ref m1, .ref m2, .int (nI bt), .ref m3, .int (nI ln), .ref m4, .ref m5, .int (nI cl), .ref m6, .ref m7, .ref m8, .ref m9, .ref m10, .ref m11, .ref m12, .int (nI pn), .ref m13, .ref m14]))] := hD
                have w4 : r4 = 1 := w4
                subst w4
                refine lv_if_eq (tgt := 137) hx hb dX6_foreign_132 (by decide) (fun c8 => ?_) (fun c8 => ?_)
                · skip
                  exfalso; exact absurd c8 (by decide)
                refine lv_lconst (v := 0) hx hb dX6_foreign_135 (by decide) ?_
                exact z_lret (v := 0) hx hb hr hlocks hP hD hS (some 2) (Or.inr (Or.inr (Or.inl ⟨rfl, trivial, rg⟩))) [3, 0, 1, 2] rfl (by decide) (Nat.le_of_ble_eq_true rfl) (Nat.le_of_ble_eq_true rfl) dX6_foreign_136
              have me : ¬ (¬ zm_rate rd rv (10 * j) p2 (rt j) = 0) := fun h => h c7
              refine lv_iconst (v := 1) hx hb dX6_foreign_123 (by decide) ?_
              refine lv_goto (tgt := 128) hx hb dX6_foreign_124 (by decide) ?_
              refine lv_iconst (v := 0) hx hb dX6_foreign_128 (by decide) ?_
              have J := zJ.mk (wc := [(m0, .inr (6, [.int th, .int (nI M.1), .ref m1, .ref m2, .int (nI bt), .ref m3, .int (nI ln), .ref m4, .ref m5, .int (nI cl), .ref m6, .ref m7, .ref m8, .ref m9, .ref m10, .ref m11, .ref m12, .int (nI pn), .ref m13, .ref m14]))]) (wr := [(m10, .inl (D.2 0, 3, .inl (fun i => nI (rt i)))), (m11, .inl (D.2 0, 30, .inl rd)), (m12, .inl (D.2 0, 30, .inl rv))]) hA hB hK hP hD hS [0] [1, 2, 3] rfl rfl (by decide)
              refine z_goi (z_runV (As := [.int 0, .int 1, .int 1, .int 0]) (rest := []) (b := m0) hF (d_throwing D m0 m1 m2 m3 m4 m5 m6 m7 m8 m9 m10 m11 m12 m13 m14 (M.1, fun _ => 0, fun _ => 0) bt ln cl pn th 0 1 1 0 H.size) (cwV 4 hZ (z_gV t_286 t_287 t_288 t_272 t_285) rfl rfl rfl (by decide +kernel) ⟨Nat.le_of_ble_eq_true rfl, Nat.le_of_ble_eq_true rfl⟩) J 0 6 rfl rfl rfl rfl hl.1 (Nat.le_of_ble_eq_true rfl) dX6_foreign_129 ⟨Nat.le_of_ble_eq_true rfl, Nat.le_of_ble_eq_true rfl⟩) J (fun r4 _ H locs w4 hP hD hS => ?_)
              have hP : va_P D.1 vwCl [(m10, .inl (D.2 0, 3, .inl (fun i => nI (rt i)))), (m11, .inl (D.2 0, 30, .inl rd)), (m12, .inl (D.2 0, 30, .inl rv)), (m0, .inr (6, [.int 2, .int (nI M.1), .ref m1, .ref m2, .int (nI bt), .ref m3, .int (nI ln), .ref m4, .ref m5, .int (nI cl), .ref m6, .ref m7, .ref m8, .ref m9, .ref m10, .ref m11, .ref m12, .int (nI pn), .ref m13, .ref m14]))] H := hP
              have hD : va_D A [(m10, .inl (D.2 0, 3, .inl (fun i => nI (rt i)))), (m11, .inl (D.2 0, 30, .inl rd)), (m12, .inl (D.2 0, 30, .inl rv)), (m0, .inr (6, [.int 2, .int (nI M.1), .ref m1, .ref m2, .int (nI bt), .ref m3, .int (nI ln), .ref m4, .ref m5, .int (nI cl), .ref m6, .ref m7, .ref m8, .ref m9, .ref m10, .ref m11, .ref m12, .int (nI pn), .ref m13, .ref m14]))] := hD
              have w4 : r4 = 1 := w4
              subst w4
              refine lv_if_eq (tgt := 137) hx hb dX6_foreign_132 (by decide) (fun c8 => ?_) (fun c8 => ?_)
              · skip
                exfalso; exact absurd c8 (by decide)
              refine lv_lconst (v := 0) hx hb dX6_foreign_135 (by decide) ?_
              exact z_lret (v := 0) hx hb hr hlocks hP hD hS (some 2) (Or.inr (Or.inr (Or.inl ⟨rfl, trivial, rg⟩))) [3, 0, 1, 2] rfl (by decide) (Nat.le_of_ble_eq_true rfl) (Nat.le_of_ble_eq_true rfl) dX6_foreign_136
            have g2 := z_b1 f2 c5
            refine lv_iload_n hx hb dX6_foreign_101 rfl (lv_at hl 3 rfl) ?_
            refine lv_i2l (v := p3.toInt64) hx hb dX6_foreign_102 rfl ?_
            refine lv_lconst (v := 0) hx hb dX6_foreign_103 (by decide) ?_
            refine lv_ldc2 (v := 1000000000) hx hb hown (hZ _ t_290) dX6_foreign_104 ?_
            have J := zJ.mk (wc := []) (wr := [(m0, .inr (6, [.int th, .int (nI M.1), .ref m1, .ref m2, .int (nI bt), .ref m3, .int (nI ln), .ref m4, .ref m5, .int (nI cl), .ref m6, .ref m7, .ref m8, .ref m9, .ref m10, .ref m11, .ref m12, .int (nI pn), .ref m13, .ref m14])), (m10, .inl (D.2 0, 3, .inl (fun i => nI (rt i)))), (m11, .inl (D.2 0, 30, .inl rd)), (m12, .inl (D.2 0, 30, .inl rv))]) hA hB hK hP hD hS [] [0, 1, 2, 3] rfl rfl (by decide)
            refine z_goi (z_runS (As := [.long p3.toInt64, .long 0, .long 1000000000]) (rest := [.int 0, .ref m0]) hF (d_lies D p3.toInt64 0 1000000000 H.size) (va_cwS 3 hZ (z_gS t_273 t_274 t_272 t_271) rfl rfl rfl (by decide +kernel) ⟨Nat.le_of_ble_eq_true rfl, Nat.le_of_ble_eq_true rfl⟩) J rfl hl.1 (Nat.le_of_ble_eq_true rfl) dX6_foreign_107 ⟨Nat.le_of_ble_eq_true rfl, Nat.le_of_ble_eq_true rfl⟩) J (fun r3 _ H locs w3 hP hD hS => ?_)
            have hP : va_P D.1 vwCl [(m0, .inr (6, [.int th, .int (nI M.1), .ref m1, .ref m2, .int (nI bt), .ref m3, .int (nI ln), .ref m4, .ref m5, .int (nI cl), .ref m6, .ref m7, .ref m8, .ref m9, .ref m10, .ref m11, .ref m12, .int (nI pn), .ref m13, .ref m14])), (m10, .inl (D.2 0, 3, .inl (fun i => nI (rt i)))), (m11, .inl (D.2 0, 30, .inl rd)), (m12, .inl (D.2 0, 30, .inl rv))] H := hP
            have hD : va_D A [(m0, .inr (6, [.int th, .int (nI M.1), .ref m1, .ref m2, .int (nI bt), .ref m3, .int (nI ln), .ref m4, .ref m5, .int (nI cl), .ref m6, .ref m7, .ref m8, .ref m9, .ref m10, .ref m11, .ref m12, .int (nI pn), .ref m13, .ref m14])), (m10, .inl (D.2 0, 3, .inl (fun i => nI (rt i)))), (m11, .inl (D.2 0, 30, .inl rd)), (m12, .inl (D.2 0, 30, .inl rv))] := hD
            have f3 : (r3 = 1 ∧ ¬ p3 < 0 ∧ p3 ≤ 1000000000) ∨ (r3 = 0 ∧ ¬ (¬ p3 < 0 ∧ p3 ≤ 1000000000)) := z_li (a := 0) (b := 1000000000) (by decide) (by decide) w3
            refine lv_if_ne (tgt := 117) hx hb dX6_foreign_110 (by decide) (fun c6 => ?_) (fun c6 => ?_)
            · skip
              have g3 := z_b1 f3 c6
              have rg : ¬ p2 < 0 ∧ p2 ≤ 365 ∧ ¬ p3 < 0 ∧ p3 ≤ 1000000000 := ⟨g2.1, g2.2, g3.1, g3.2⟩
              refine lv_iconst (v := 0) hx hb dX6_foreign_117 (by decide) ?_
              refine lv_iload hx hb dX6_foreign_118 (lv_at hl 5 rfl) ?_
              refine lv_if_ne (tgt := 127) hx hb dX6_foreign_120 (by decide) (fun c7 => ?_) (fun c7 => ?_)
              · skip
                have me : ¬ zm_rate rd rv (10 * j) p2 (rt j) = 0 := c7
                refine lv_iconst (v := 0) hx hb dX6_foreign_127 (by decide) ?_
                refine lv_iconst (v := 0) hx hb dX6_foreign_128 (by decide) ?_
                have J := zJ.mk (wc := [(m0, .inr (6, [.int th, .int (nI M.1), .ref m1, .ref m2, .int (nI bt), .ref m3, .int (nI ln), .ref m4, .ref m5, .int (nI cl), .ref m6, .ref m7, .ref m8, .ref m9, .ref m10, .ref m11, .ref m12, .int (nI pn), .ref m13, .ref m14]))]) (wr := [(m10, .inl (D.2 0, 3, .inl (fun i => nI (rt i)))), (m11, .inl (D.2 0, 30, .inl rd)), (m12, .inl (D.2 0, 30, .inl rv))]) hA hB hK hP hD hS [0] [1, 2, 3] rfl rfl (by decide)
                refine z_goi (z_runV (As := [.int 0, .int 0, .int 0, .int 0]) (rest := []) (b := m0) hF (d_throwing D m0 m1 m2 m3 m4 m5 m6 m7 m8 m9 m10 m11 m12 m13 m14 (M.1, fun _ => 0, fun _ => 0) bt ln cl pn th 0 0 0 0 H.size) (cwV 4 hZ (z_gV t_286 t_287 t_288 t_272 t_285) rfl rfl rfl (by decide +kernel) ⟨Nat.le_of_ble_eq_true rfl, Nat.le_of_ble_eq_true rfl⟩) J 0 6 rfl rfl rfl rfl hl.1 (Nat.le_of_ble_eq_true rfl) dX6_foreign_129 ⟨Nat.le_of_ble_eq_true rfl, Nat.le_of_ble_eq_true rfl⟩) J (fun r4 _ H locs w4 hP hD hS => ?_)
                have hP : va_P D.1 vwCl [(m10, .inl (D.2 0, 3, .inl (fun i => nI (rt i)))), (m11, .inl (D.2 0, 30, .inl rd)), (m12, .inl (D.2 0, 30, .inl rv)), (m0, .inr (6, [.int 0, .int (nI M.1), .ref m1, .ref m2, .int (nI bt), .ref m3, .int (nI ln), .ref m4, .ref m5, .int (nI cl), .ref m6, .ref m7, .ref m8, .ref m9, .ref m10, .ref m11, .ref m12, .int (nI pn), .ref m13, .ref m14]))] H := hP
                have hD : va_D A [(m10, .inl (D.2 0, 3, .inl (fun i => nI (rt i)))), (m11, .inl (D.2 0, 30, .inl rd)), (m12, .inl (D.2 0, 30, .inl rv)), (m0, .inr (6, [.int 0, .int (nI M.1), .ref m1, .ref m2, .int (nI bt), .ref m3, .int (nI ln), .ref m4, .ref m5, .int (nI cl), .ref m6, .ref m7, .ref m8, .ref m9, .ref m10, .ref m11, .ref m12, .int (nI pn), .ref m13, .ref m14]))] := hD
                have w4 : r4 = 0 := w4
                subst w4
                refine lv_if_eq (tgt := 137) hx hb dX6_foreign_132 (by decide) (fun c8 => ?_) (fun c8 => ?_)
                · skip
                  refine lv_ldc2 (v := 2) hx hb hown (hZ _ t_316) dX6_foreign_137 ?_
                  refine lv_iload_n hx hb dX6_foreign_140 rfl (lv_at hl 3 rfl) ?_
                  refine lv_i2l (v := p3.toInt64) hx hb dX6_foreign_141 rfl ?_
                  refine lv_lmul hx hb dX6_foreign_142 ?_
                  refine lv_iload hx hb dX6_foreign_143 (lv_at hl 5 rfl) ?_
                  refine lv_i2l (v := (zm_rate rd rv (10 * j) p2 (rt j)).toInt64) hx hb dX6_foreign_145 rfl ?_
                  refine lv_lmul hx hb dX6_foreign_146 ?_
                  refine lv_ldc2 (v := 10000) hx hb hown (hZ _ t_326) dX6_foreign_147 ?_
                  refine lv_ladd hx hb dX6_foreign_150 ?_
                  refine lv_ldc2 (v := 20000) hx hb hown (hZ _ t_327) dX6_foreign_151 ?_
                  refine lv_ldiv hx hb dX6_foreign_154 (by decide) ?_
                  exact z_lret (v := (((2 * p3.toInt64) * ((zm_rate rd rv (10 * j) p2 (rt j)).toInt64)) + 10000) / 20000) hx hb hr hlocks hP hD hS none (Or.inl ⟨rfl, trivial, rg, me, rfl⟩) [3, 0, 1, 2] rfl (by decide) (Nat.le_of_ble_eq_true rfl) (Nat.le_of_ble_eq_true rfl) dX6_foreign_155
                exfalso; exact absurd c8 (by decide)
              have me : ¬ (¬ zm_rate rd rv (10 * j) p2 (rt j) = 0) := fun h => h c7
              refine lv_iconst (v := 1) hx hb dX6_foreign_123 (by decide) ?_
              refine lv_goto (tgt := 128) hx hb dX6_foreign_124 (by decide) ?_
              refine lv_iconst (v := 0) hx hb dX6_foreign_128 (by decide) ?_
              have J := zJ.mk (wc := [(m0, .inr (6, [.int th, .int (nI M.1), .ref m1, .ref m2, .int (nI bt), .ref m3, .int (nI ln), .ref m4, .ref m5, .int (nI cl), .ref m6, .ref m7, .ref m8, .ref m9, .ref m10, .ref m11, .ref m12, .int (nI pn), .ref m13, .ref m14]))]) (wr := [(m10, .inl (D.2 0, 3, .inl (fun i => nI (rt i)))), (m11, .inl (D.2 0, 30, .inl rd)), (m12, .inl (D.2 0, 30, .inl rv))]) hA hB hK hP hD hS [0] [1, 2, 3] rfl rfl (by decide)
              refine z_goi (z_runV (As := [.int 0, .int 0, .int 1, .int 0]) (rest := []) (b := m0) hF (d_throwing D m0 m1 m2 m3 m4 m5 m6 m7 m8 m9 m10 m11 m12 m13 m14 (M.1, fun _ => 0, fun _ => 0) bt ln cl pn th 0 0 1 0 H.size) (cwV 4 hZ (z_gV t_286 t_287 t_288 t_272 t_285) rfl rfl rfl (by decide +kernel) ⟨Nat.le_of_ble_eq_true rfl, Nat.le_of_ble_eq_true rfl⟩) J 0 6 rfl rfl rfl rfl hl.1 (Nat.le_of_ble_eq_true rfl) dX6_foreign_129 ⟨Nat.le_of_ble_eq_true rfl, Nat.le_of_ble_eq_true rfl⟩) J (fun r4 _ H locs w4 hP hD hS => ?_)
              have hP : va_P D.1 vwCl [(m10, .inl (D.2 0, 3, .inl (fun i => nI (rt i)))), (m11, .inl (D.2 0, 30, .inl rd)), (m12, .inl (D.2 0, 30, .inl rv)), (m0, .inr (6, [.int 3, .int (nI M.1), .ref m1, .ref m2, .int (nI bt), .ref m3, .int (nI ln), .ref m4, .ref m5, .int (nI cl), .ref m6, .ref m7, .ref m8, .ref m9, .ref m10, .ref m11, .ref m12, .int (nI pn), .ref m13, .ref m14]))] H := hP
              have hD : va_D A [(m10, .inl (D.2 0, 3, .inl (fun i => nI (rt i)))), (m11, .inl (D.2 0, 30, .inl rd)), (m12, .inl (D.2 0, 30, .inl rv)), (m0, .inr (6, [.int 3, .int (nI M.1), .ref m1, .ref m2, .int (nI bt), .ref m3, .int (nI ln), .ref m4, .ref m5, .int (nI cl), .ref m6, .ref m7, .ref m8, .ref m9, .ref m10, .ref m11, .ref m12, .int (nI pn), .ref m13, .ref m14]))] := hD
              have w4 : r4 = 1 := w4
              subst w4
              refine lv_if_eq (tgt := 137) hx hb dX6_foreign_132 (by decide) (fun c8 => ?_) (fun c8 => ?_)
              · skip
                exfalso; exact absurd c8 (by decide)
              refine lv_lconst (v := 0) hx hb dX6_foreign_135 (by decide) ?_
              exact z_lret (v := 0) hx hb hr hlocks hP hD hS (some 3) (Or.inr (Or.inr (Or.inr (⟨rfl, trivial, rg, me⟩)))) [3, 0, 1, 2] rfl (by decide) (Nat.le_of_ble_eq_true rfl) (Nat.le_of_ble_eq_true rfl) dX6_foreign_136
            have g3 := z_b0 f3 c6
            have rg : ¬ (¬ p2 < 0 ∧ p2 ≤ 365 ∧ ¬ p3 < 0 ∧ p3 ≤ 1000000000) := fun h => g3 ⟨h.2.2.1, h.2.2.2⟩
            refine lv_iconst (v := 1) hx hb dX6_foreign_113 (by decide) ?_
            refine lv_goto (tgt := 118) hx hb dX6_foreign_114 (by decide) ?_
            refine lv_iload hx hb dX6_foreign_118 (lv_at hl 5 rfl) ?_
            refine lv_if_ne (tgt := 127) hx hb dX6_foreign_120 (by decide) (fun c7 => ?_) (fun c7 => ?_)
            · skip
              have me : ¬ zm_rate rd rv (10 * j) p2 (rt j) = 0 := c7
              refine lv_iconst (v := 0) hx hb dX6_foreign_127 (by decide) ?_
              refine lv_iconst (v := 0) hx hb dX6_foreign_128 (by decide) ?_
              have J := zJ.mk (wc := [(m0, .inr (6, [.int th, .int (nI M.1), .ref m1, .ref m2, .int (nI bt), .ref m3, .int (nI ln), .ref m4, .ref m5, .int (nI cl), .ref m6, .ref m7, .ref m8, .ref m9, .ref m10, .ref m11, .ref m12, .int (nI pn), .ref m13, .ref m14]))]) (wr := [(m10, .inl (D.2 0, 3, .inl (fun i => nI (rt i)))), (m11, .inl (D.2 0, 30, .inl rd)), (m12, .inl (D.2 0, 30, .inl rv))]) hA hB hK hP hD hS [0] [1, 2, 3] rfl rfl (by decide)
              refine z_goi (z_runV (As := [.int 0, .int 1, .int 0, .int 0]) (rest := []) (b := m0) hF (d_throwing D m0 m1 m2 m3 m4 m5 m6 m7 m8 m9 m10 m11 m12 m13 m14 (M.1, fun _ => 0, fun _ => 0) bt ln cl pn th 0 1 0 0 H.size) (cwV 4 hZ (z_gV t_286 t_287 t_288 t_272 t_285) rfl rfl rfl (by decide +kernel) ⟨Nat.le_of_ble_eq_true rfl, Nat.le_of_ble_eq_true rfl⟩) J 0 6 rfl rfl rfl rfl hl.1 (Nat.le_of_ble_eq_true rfl) dX6_foreign_129 ⟨Nat.le_of_ble_eq_true rfl, Nat.le_of_ble_eq_true rfl⟩) J (fun r4 _ H locs w4 hP hD hS => ?_)
              have hP : va_P D.1 vwCl [(m10, .inl (D.2 0, 3, .inl (fun i => nI (rt i)))), (m11, .inl (D.2 0, 30, .inl rd)), (m12, .inl (D.2 0, 30, .inl rv)), (m0, .inr (6, [.int 2, .int (nI M.1), .ref m1, .ref m2, .int (nI bt), .ref m3, .int (nI ln), .ref m4, .ref m5, .int (nI cl), .ref m6, .ref m7, .ref m8, .ref m9, .ref m10, .ref m11, .ref m12, .int (nI pn), .ref m13, .ref m14]))] H := hP
              have hD : va_D A [(m10, .inl (D.2 0, 3, .inl (fun i => nI (rt i)))), (m11, .inl (D.2 0, 30, .inl rd)), (m12, .inl (D.2 0, 30, .inl rv)), (m0, .inr (6, [.int 2, .int (nI M.1), .ref m1, .ref m2, .int (nI bt), .ref m3, .int (nI ln), .ref m4, .ref m5, .int (nI cl), .ref m6, .ref m7, .ref m8, .ref m9, .ref m10, .ref m11, .ref m12, .int (nI pn), .ref m13, .ref m14]))] := hD
              have w4 : r4 = 1 := w4
              subst w4
              refine lv_if_eq (tgt := 137) hx hb dX6_foreign_132 (by decide) (fun c8 => ?_) (fun c8 => ?_)
              · skip
                exfalso; exact absurd c8 (by decide)
              refine lv_lconst (v := 0) hx hb dX6_foreign_135 (by decide) ?_
              exact z_lret (v := 0) hx hb hr hlocks hP hD hS (some 2) (Or.inr (Or.inr (Or.inl ⟨rfl, trivial, rg⟩))) [3, 0, 1, 2] rfl (by decide) (Nat.le_of_ble_eq_true rfl) (Nat.le_of_ble_eq_true rfl) dX6_foreign_136
            have me : ¬ (¬ zm_rate rd rv (10 * j) p2 (rt j) = 0) := fun h => h c7
            refine lv_iconst (v := 1) hx hb dX6_foreign_123 (by decide) ?_
            refine lv_goto (tgt := 128) hx hb dX6_foreign_124 (by decide) ?_
            refine lv_iconst (v := 0) hx hb dX6_foreign_128 (by decide) ?_
            have J := zJ.mk (wc := [(m0, .inr (6, [.int th, .int (nI M.1), .ref m1, .ref m2, .int (nI bt), .ref m3, .int (nI ln), .ref m4, .ref m5, .int (nI cl), .ref m6, .ref m7, .ref m8, .ref m9, .ref m10, .ref m11, .ref m12, .int (nI pn), .ref m13, .ref m14]))]) (wr := [(m10, .inl (D.2 0, 3, .inl (fun i => nI (rt i)))), (m11, .inl (D.2 0, 30, .inl rd)), (m12, .inl (D.2 0, 30, .inl rv))]) hA hB hK hP hD hS [0] [1, 2, 3] rfl rfl (by decide)
            refine z_goi (z_runV (As := [.int 0, .int 1, .int 1, .int 0]) (rest := []) (b := m0) hF (d_throwing D m0 m1 m2 m3 m4 m5 m6 m7 m8 m9 m10 m11 m12 m13 m14 (M.1, fun _ => 0, fun _ => 0) bt ln cl pn th 0 1 1 0 H.size) (cwV 4 hZ (z_gV t_286 t_287 t_288 t_272 t_285) rfl rfl rfl (by decide +kernel) ⟨Nat.le_of_ble_eq_true rfl, Nat.le_of_ble_eq_true rfl⟩) J 0 6 rfl rfl rfl rfl hl.1 (Nat.le_of_ble_eq_true rfl) dX6_foreign_129 ⟨Nat.le_of_ble_eq_true rfl, Nat.le_of_ble_eq_true rfl⟩) J (fun r4 _ H locs w4 hP hD hS => ?_)
            have hP : va_P D.1 vwCl [(m10, .inl (D.2 0, 3, .inl (fun i => nI (rt i)))), (m11, .inl (D.2 0, 30, .inl rd)), (m12, .inl (D.2 0, 30, .inl rv)), (m0, .inr (6, [.int 2, .int (nI M.1), .ref m1, .ref m2, .int (nI bt), .ref m3, .int (nI ln), .ref m4, .ref m5, .int (nI cl), .ref m6, .ref m7, .ref m8, .ref m9, .ref m10, .ref m11, .ref m12, .int (nI pn), .ref m13, .ref m14]))] H := hP
            have hD : va_D A [(m10, .inl (D.2 0, 3, .inl (fun i => nI (rt i)))), (m11, .inl (D.2 0, 30, .inl rd)), (m12, .inl (D.2 0, 30, .inl rv)), (m0, .inr (6, [.int 2, .int (nI M.1), .ref m1, .ref m2, .int (nI bt), .ref m3, .int (nI ln), .ref m4, .ref m5, .int (nI cl), .ref m6, .ref m7, .ref m8, .ref m9, .ref m10, .ref m11, .ref m12, .int (nI pn), .ref m13, .ref m14]))] := hD
            have w4 : r4 = 1 := w4
            subst w4
            refine lv_if_eq (tgt := 137) hx hb dX6_foreign_132 (by decide) (fun c8 => ?_) (fun c8 => ?_)
            · skip
              exfalso; exact absurd c8 (by decide)
            refine lv_lconst (v := 0) hx hb dX6_foreign_135 (by decide) ?_
            exact z_lret (v := 0) hx hb hr hlocks hP hD hS (some 2) (Or.inr (Or.inr (Or.inl ⟨rfl, trivial, rg⟩))) [3, 0, 1, 2] rfl (by decide) (Nat.le_of_ble_eq_true rfl) (Nat.le_of_ble_eq_true rfl) dX6_foreign_136
          have hk : k < rt j := z_lt q1 (by omega) c3
          refine lv_aload_n hx hb dX6_foreign_45 rfl (lv_at hl 0 rfl) ?_
          refine va_get (D := D.1) (ci := 6) (v := .ref m11) (C := "ShopLedgerModel") (T := TX6) (N := 20) hx hb hZ inX6 hown hK hP 0 rfl rfl 15 (by decide) (hZ _ t_324) (fun _ h9 => h9) rfl dX6_foreign_46 ?_
          refine lv_bipush (v := 10) hx hb dX6_foreign_49 (by decide) ?_
          refine lv_iload_n hx hb dX6_foreign_51 rfl (lv_at hl 1 rfl) ?_
          refine lv_imul hx hb dX6_foreign_52 ?_
          rw [show (10 * (nI j)) = nI (10 * j) from pk_mul 10 j]
          refine lv_iload hx hb dX6_foreign_53 (lv_at hl 6 rfl) ?_
          refine lv_iadd hx hb dX6_foreign_55 ?_
          rw [show ((nI (10 * j)) + (nI k)) = nI (10 * j + k) from nI_add _ _]
          refine z_iald (k := 10 * j + k) hx hb hK hP 2 rfl (by omega) (by decide) dX6_foreign_56 ?_
          refine lv_iload_n hx hb dX6_foreign_57 rfl (lv_at hl 2 rfl) ?_
          refine lv_icmp_gt (tgt := 76) hx hb dX6_foreign_58 (by decide) (fun c4 => ?_) (fun c4 => ?_)
          · skip
            have e8 : zm_rate rd rv (10 * j) p2 (k + 1) = zm_rate rd rv (10 * j) p2 k := by simp only [zm_rate]; rw [if_neg (Int32.not_le.mpr c4)]
            refine lv_iload hx hb dX6_foreign_76 (lv_at hl 5 rfl) ?_
            refine lv_istore (lv' := [(5, .int (zm_rate rd rv (10 * j) p2 k)), (0, .ref m0), (1, .int (nI j)), (2, .int p2), (3, .int p3), (4, .int 0), (6, .int (nI k))]) hx hb dX6_foreign_78 hl (by decide) rfl (fun ls hl => ?_)
            have hl : lv_has ls 7 [(5, .int (zm_rate rd rv (10 * j) p2 (k + 1))), (0, .ref m0), (1, .int (nI j)), (2, .int p2), (3, .int p3), (4, .int 0), (6, .int (nI k))] := by rw [e8]; exact hl
            refine lv_iinc (v := nI (k + 1)) (lv' := [(6, .int (nI (k + 1))), (5, .int (zm_rate rd rv (10 * j) p2 (k + 1))), (0, .ref m0), (1, .int (nI j)), (2, .int p2), (3, .int p3), (4, .int 0)]) hx hb dX6_foreign_80 hl (k := 6) rfl (nI_1 k) (by decide) rfl (fun ls hl => ?_)
            refine lv_goto (tgt := 25) hx hb dX6_foreign_83 (by decide) ?_
            exact ih_lo1 (k + 1) (Nat.succ_le_of_lt hk) (by omega)  _ _ (hP.sub [0, 1, 2, 3] rfl) (hD.sub [0, 1, 2, 3] (by decide) rfl) hS ls (lv_sub hl [2, 3, 4, 5, 6, 1, 0] rfl)
          have e8 : zm_rate rd rv (10 * j) p2 (k + 1) = rv (10 * j + k) := by simp only [zm_rate]; rw [if_pos (Int32.not_lt.mp c4)]
          refine lv_aload_n hx hb dX6_foreign_61 rfl (lv_at hl 0 rfl) ?_
          refine va_get (D := D.1) (ci := 6) (v := .ref m12) (C := "ShopLedgerModel") (T := TX6) (N := 20) hx hb hZ inX6 hown hK hP 0 rfl rfl 16 (by decide) (hZ _ t_325) (fun _ h9 => h9) rfl dX6_foreign_62 ?_
          refine lv_bipush (v := 10) hx hb dX6_foreign_65 (by decide) ?_
          refine lv_iload_n hx hb dX6_foreign_67 rfl (lv_at hl 1 rfl) ?_
          refine lv_imul hx hb dX6_foreign_68 ?_
          rw [show (10 * (nI j)) = nI (10 * j) from pk_mul 10 j]
          refine lv_iload hx hb dX6_foreign_69 (lv_at hl 6 rfl) ?_
          refine lv_iadd hx hb dX6_foreign_71 ?_
          rw [show ((nI (10 * j)) + (nI k)) = nI (10 * j + k) from nI_add _ _]
          refine z_iald (k := 10 * j + k) hx hb hK hP 3 rfl (by omega) (by decide) dX6_foreign_72 ?_
          refine lv_goto (tgt := 78) hx hb dX6_foreign_73 (by decide) ?_
          refine lv_istore (lv' := [(5, .int (rv (10 * j + k))), (0, .ref m0), (1, .int (nI j)), (2, .int p2), (3, .int p3), (4, .int 0), (6, .int (nI k))]) hx hb dX6_foreign_78 hl (by decide) rfl (fun ls hl => ?_)
          have hl : lv_has ls 7 [(5, .int (zm_rate rd rv (10 * j) p2 (k + 1))), (0, .ref m0), (1, .int (nI j)), (2, .int p2), (3, .int p3), (4, .int 0), (6, .int (nI k))] := by rw [e8]; exact hl
          refine lv_iinc (v := nI (k + 1)) (lv' := [(6, .int (nI (k + 1))), (5, .int (zm_rate rd rv (10 * j) p2 (k + 1))), (0, .ref m0), (1, .int (nI j)), (2, .int p2), (3, .int p3), (4, .int 0)]) hx hb dX6_foreign_80 hl (k := 6) rfl (nI_1 k) (by decide) rfl (fun ls hl => ?_)
          refine lv_goto (tgt := 25) hx hb dX6_foreign_83 (by decide) ?_
          exact ih_lo1 (k + 1) (Nat.succ_le_of_lt hk) (by omega)  _ _ (hP.sub [0, 1, 2, 3] rfl) (hD.sub [0, 1, 2, 3] (by decide) rfl) hS ls (lv_sub hl [2, 3, 4, 5, 6, 1, 0] rfl)
        exfalso; exact absurd c2 (by decide)
    exact lo1 ((rt j) + 1) 0 (Nat.zero_le _) (by omega)  _ _ (hP.sub [0, 1, 2, 3] rfl) (hD.sub [0, 1, 2, 3] (by decide) rfl) hS ls (lv_sub hl [3, 4, 5, 6, 2, 1, 0] rfl)
  exfalso; exact z_b0 f1 c1 ⟨nI_pos (by omega), nI_ge hj (by decide)⟩
set_option maxHeartbeats 4000000 in
set_option maxRecDepth 100000 in
/-- the reference: foreign -/
theorem d_foreignX {l : Launch} (D : zD) (m0 m1 m2 m3 m4 m5 m6 m7 m8 m9 m10 m11 m12 m13 m14 : Nat) (M : zM) (bt ln cl pn : Nat) (th : Int32) (p1 p2 p3 : Int32) (sz : Nat) (hp : ¬ zin p1 3) : Met l yX6_foreign wsX6_foreign ({ frames := 1, cells := 0, slots := 0, locals := 25 }) (va_Pc [.ref m0, .int p1, .int p2, .int p3] (zp D sz [(m0, .inr (6, [.int th, .int (nI M.1), .ref m1, .ref m2, .int (nI bt), .ref m3, .int (nI ln), .ref m4, .ref m5, .int (nI cl), .ref m6, .ref m7, .ref m8, .ref m9, .ref m10, .ref m11, .ref m12, .int (nI pn), .ref m13, .ref m14]))])) (va_Ql (fun r (u : Option Int32) => (u = none ∧ (zin p1 3) ∧ r = 0) ∨ (u = some 1 ∧ ¬ (zin p1 3))) (zq D (va_A [(m0, .inr (6, [.int th, .int (nI M.1), .ref m1, .ref m2, .int (nI bt), .ref m3, .int (nI ln), .ref m4, .ref m5, .int (nI cl), .ref m6, .ref m7, .ref m8, .ref m9, .ref m10, .ref m11, .ref m12, .int (nI pn), .ref m13, .ref m14]))] sz) (fun (u : Option Int32) => (u.elim [(m0, .inr (6, [.int 0, .int (nI M.1), .ref m1, .ref m2, .int (nI bt), .ref m3, .int (nI ln), .ref m4, .ref m5, .int (nI cl), .ref m6, .ref m7, .ref m8, .ref m9, .ref m10, .ref m11, .ref m12, .int (nI pn), .ref m13, .ref m14]))] (fun t => [(m0, .inr (6, [.int t, .int (nI M.1), .ref m1, .ref m2, .int (nI bt), .ref m3, .int (nI ln), .ref m4, .ref m5, .int (nI cl), .ref m6, .ref m7, .ref m8, .ref m9, .ref m10, .ref m11, .ref m12, .int (nI pn), .ref m13, .ref m14]))]) : va_W))) (va_A [(m0, .inr (6, [.int th, .int (nI M.1), .ref m1, .ref m2, .int (nI bt), .ref m3, .int (nI ln), .ref m4, .ref m5, .int (nI cl), .ref m6, .ref m7, .ref m8, .ref m9, .ref m10, .ref m11, .ref m12, .int (nI pn), .ref m13, .ref m14]))] sz)) 0 0 (va_A [(m0, .inr (6, [.int th, .int (nI M.1), .ref m1, .ref m2, .int (nI bt), .ref m3, .int (nI ln), .ref m4, .ref m5, .int (nI cl), .ref m6, .ref m7, .ref m8, .ref m9, .ref m10, .ref m11, .ref m12, .int (nI pn), .ref m13, .ref m14]))] sz) := by
  refine Met.ofW (cc := cX6_foreign) (maxL := 7) (ret := (some .long)) (by decide) rfl ?_
  intro p e s m args below meth c s₁ B hml hv
  obtain ⟨rfl, hsz, hP, hK, hD0, hB⟩ := hv
  have hx := B.exec
  have hb := B.bytes
  have hr := B.returns
  have hts := atoms_spec (ws := wsX6_foreign) B.pre
  have hown : s.vm.findClass "ShopLedgerModel" = some m.cls := findClass_of_methodNamed B.named
  have hlocks := B.notSynchronized
  subst hsz
  have hD := hD0.self (sz := s.heap.size)
  generalize hAe : va_A [(m0, .inr (6, [.int th, .int (nI M.1), .ref m1, .ref m2, .int (nI bt), .ref m3, .int (nI ln), .ref m4, .ref m5, .int (nI cl), .ref m6, .ref m7, .ref m8, .ref m9, .ref m10, .ref m11, .ref m12, .int (nI pn), .ref m13, .ref m14]))] s.heap.size = A at hD hB ⊢
  have hA : ∀ q : Nat, s.heap.size ≤ q → A q := fun q h => by rw [← hAe]; exact Or.inr h
  have hS : va_S A s.heap s.heap [] := va_S.rf
  have hZ : ∀ w ∈ zALL, w.before _ s = true := fun w h => hts w (List.mem_cons_of_mem _ h)
  have hF : CallFix p m c cX6_foreign 7 s _ zALL "ShopLedgerModel" := ⟨hx, hb, hml, hown, hZ⟩
  have hl := lv_entry ([.ref m0, .int p1, .int p2, .int p3]) (n := 7) (Nat.le_of_ble_eq_true rfl)
  rw [lg_entry_eq]
  generalize (lg_sl ([.ref m0, .int p1, .int p2, .int p3]) ++ List.replicate (7 - (lg_sl ([.ref m0, .int p1, .int p2, .int p3])).length) Slot.unset).toArray = ls at hl ⊢
  have hl : lv_has ls 7 [(0, .ref m0), (1, .int p1), (2, .int p2), (3, .int p3)] := hl
  refine lv_iload_n hx hb dX6_foreign_0 rfl (lv_at hl 1 rfl) ?_
  refine lv_i2l (v := p1.toInt64) hx hb dX6_foreign_1 rfl ?_
  refine lv_lconst (v := 0) hx hb dX6_foreign_2 (by decide) ?_
  refine lv_ldc2 (v := 2) hx hb hown (hZ _ t_316) dX6_foreign_3 ?_
  have J := zJ.mk (wc := []) (wr := [(m0, .inr (6, [.int th, .int (nI M.1), .ref m1, .ref m2, .int (nI bt), .ref m3, .int (nI ln), .ref m4, .ref m5, .int (nI cl), .ref m6, .ref m7, .ref m8, .ref m9, .ref m10, .ref m11, .ref m12, .int (nI pn), .ref m13, .ref m14]))]) hA hB hK hP hD hS [] [0] rfl rfl (by decide)
  refine z_goi (z_runS (As := [.long p1.toInt64, .long 0, .long 2]) (rest := []) hF (d_lies D p1.toInt64 0 2 s.heap.size) (va_cwS 3 hZ (z_gS t_273 t_274 t_272 t_271) rfl rfl rfl (by decide +kernel) ⟨Nat.le_of_ble_eq_true rfl, Nat.le_of_ble_eq_true rfl⟩) J rfl hl.1 (Nat.le_of_ble_eq_true rfl) dX6_foreign_6 ⟨Nat.le_of_ble_eq_true rfl, Nat.le_of_ble_eq_true rfl⟩) J (fun r1 _ H locs w1 hP hD hS => ?_)
  have hP : va_P D.1 vwCl [(m0, .inr (6, [.int th, .int (nI M.1), .ref m1, .ref m2, .int (nI bt), .ref m3, .int (nI ln), .ref m4, .ref m5, .int (nI cl), .ref m6, .ref m7, .ref m8, .ref m9, .ref m10, .ref m11, .ref m12, .int (nI pn), .ref m13, .ref m14]))] H := hP
  have hD : va_D A [(m0, .inr (6, [.int th, .int (nI M.1), .ref m1, .ref m2, .int (nI bt), .ref m3, .int (nI ln), .ref m4, .ref m5, .int (nI cl), .ref m6, .ref m7, .ref m8, .ref m9, .ref m10, .ref m11, .ref m12, .int (nI pn), .ref m13, .ref m14]))] := hD
  have f1 : (r1 = 1 ∧ zin p1 3) ∨ (r1 = 0 ∧ ¬ zin p1 3) := z_lz 2 (by decide) (by decide) w1
  refine lv_if_ne (tgt := 16) hx hb dX6_foreign_9 (by decide) (fun c1 => ?_) (fun c1 => ?_)
  · skip
    exfalso; exact hp (z_b1 f1 c1)
  refine lv_iconst (v := 1) hx hb dX6_foreign_12 (by decide) ?_
  refine lv_goto (tgt := 17) hx hb dX6_foreign_13 (by decide) ?_
  refine lv_istore (lv' := [(4, .int 1), (0, .ref m0), (1, .int p1), (2, .int p2), (3, .int p3)]) hx hb dX6_foreign_17 hl (by decide) rfl (fun ls hl => ?_)
  refine lv_iconst (v := 0) hx hb dX6_foreign_19 (by decide) ?_
  refine lv_istore (lv' := [(5, .int 0), (4, .int 1), (0, .ref m0), (1, .int p1), (2, .int p2), (3, .int p3)]) hx hb dX6_foreign_20 hl (by decide) rfl (fun ls hl => ?_)
  refine lv_iconst (v := 0) hx hb dX6_foreign_22 (by decide) ?_
  refine lv_istore (lv' := [(6, .int 0), (5, .int 0), (4, .int 1), (0, .ref m0), (1, .int p1), (2, .int p2), (3, .int p3)]) hx hb dX6_foreign_23 hl (by decide) rfl (fun ls hl => ?_)
  refine lv_iload hx hb dX6_foreign_25 (lv_at hl 0 rfl) ?_
  refine lv_iload hx hb dX6_foreign_27 (lv_at hl 2 rfl) ?_
  refine lv_if_eq (tgt := 36) hx hb dX6_foreign_29 (by decide) (fun c2 => ?_) (fun c2 => ?_)
  · skip
    exfalso; exact absurd c2 (by decide)
  refine lv_iconst (v := 0) hx hb dX6_foreign_32 (by decide) ?_
  refine lv_goto (tgt := 42) hx hb dX6_foreign_33 (by decide) ?_
  refine lv_icmp_ge (tgt := 86) hx hb dX6_foreign_42 (by decide) (fun c3 => ?_) (fun c3 => ?_)
  · skip
    refine lv_aload_n hx hb dX6_foreign_86 rfl (lv_at hl 3 rfl) ?_
    refine lv_iload hx hb dX6_foreign_87 (lv_at hl 2 rfl) ?_
    refine lv_iload_n hx hb dX6_foreign_89 rfl (lv_at hl 5 rfl) ?_
    refine lv_i2l (v := p2.toInt64) hx hb dX6_foreign_90 rfl ?_
    refine lv_lconst (v := 0) hx hb dX6_foreign_91 (by decide) ?_
    refine lv_ldc2 (v := 365) hx hb hown (hZ _ t_322) dX6_foreign_92 ?_
    have J := zJ.mk (wc := []) (wr := [(m0, .inr (6, [.int th, .int (nI M.1), .ref m1, .ref m2, .int (nI bt), .ref m3, .int (nI ln), .ref m4, .ref m5, .int (nI cl), .ref m6, .ref m7, .ref m8, .ref m9, .ref m10, .ref m11, .ref m12, .int (nI pn), .ref m13, .ref m14]))]) hA hB hK hP hD hS [] [0] rfl rfl (by decide)
    refine z_goi (z_runS (As := [.long p2.toInt64, .long 0, .long 365]) (rest := [.int 1, .ref m0]) hF (d_lies D p2.toInt64 0 365 H.size) (va_cwS 3 hZ (z_gS t_273 t_274 t_272 t_271) rfl rfl rfl (by decide +kernel) ⟨Nat.le_of_ble_eq_true rfl, Nat.le_of_ble_eq_true rfl⟩) J rfl hl.1 (Nat.le_of_ble_eq_true rfl) dX6_foreign_95 ⟨Nat.le_of_ble_eq_true rfl, Nat.le_of_ble_eq_true rfl⟩) J (fun r2 _ H locs w2 hP hD hS => ?_)
    have hP : va_P D.1 vwCl [(m0, .inr (6, [.int th, .int (nI M.1), .ref m1, .ref m2, .int (nI bt), .ref m3, .int (nI ln), .ref m4, .ref m5, .int (nI cl), .ref m6, .ref m7, .ref m8, .ref m9, .ref m10, .ref m11, .ref m12, .int (nI pn), .ref m13, .ref m14]))] H := hP
    have hD : va_D A [(m0, .inr (6, [.int th, .int (nI M.1), .ref m1, .ref m2, .int (nI bt), .ref m3, .int (nI ln), .ref m4, .ref m5, .int (nI cl), .ref m6, .ref m7, .ref m8, .ref m9, .ref m10, .ref m11, .ref m12, .int (nI pn), .ref m13, .ref m14]))] := hD
    have f2 : (r2 = 1 ∧ ¬ p2 < 0 ∧ p2 ≤ 365) ∨ (r2 = 0 ∧ ¬ (¬ p2 < 0 ∧ p2 ≤ 365)) := z_li (a := 0) (b := 365) (by decide) (by decide) w2
    refine lv_if_eq (tgt := 113) hx hb dX6_foreign_98 (by decide) (fun c5 => ?_) (fun c5 => ?_)
    · skip
      refine lv_iconst (v := 1) hx hb dX6_foreign_113 (by decide) ?_
      refine lv_goto (tgt := 118) hx hb dX6_foreign_114 (by decide) ?_
      refine lv_iload hx hb dX6_foreign_118 (lv_at hl 1 rfl) ?_
      refine lv_if_ne (tgt := 127) hx hb dX6_foreign_120 (by decide) (fun c7 => ?_) (fun c7 => ?_)
      · skip
        exfalso; exact absurd c7 (by decide)
      refine lv_iconst (v := 1) hx hb dX6_foreign_123 (by decide) ?_
      refine lv_goto (tgt := 128) hx hb dX6_foreign_124 (by decide) ?_
      refine lv_iconst (v := 0) hx hb dX6_foreign_128 (by decide) ?_
      have J := zJ.mk (wc := [(m0, .inr (6, [.int th, .int (nI M.1), .ref m1, .ref m2, .int (nI bt), .ref m3, .int (nI ln), .ref m4, .ref m5, .int (nI cl), .ref m6, .ref m7, .ref m8, .ref m9, .ref m10, .ref m11, .ref m12, .int (nI pn), .ref m13, .ref m14]))]) (wr := []) hA hB hK hP hD hS [0] [] rfl rfl (by decide)
      refine z_goi (z_runV (As := [.int 1, .int 1, .int 1, .int 0]) (rest := []) (b := m0) hF (d_throwing D m0 m1 m2 m3 m4 m5 m6 m7 m8 m9 m10 m11 m12 m13 m14 (M.1, fun _ => 0, fun _ => 0) bt ln cl pn th 1 1 1 0 H.size) (cwV 4 hZ (z_gV t_286 t_287 t_288 t_272 t_285) rfl rfl rfl (by decide +kernel) ⟨Nat.le_of_ble_eq_true rfl, Nat.le_of_ble_eq_true rfl⟩) J 0 6 rfl rfl rfl rfl hl.1 (Nat.le_of_ble_eq_true rfl) dX6_foreign_129 ⟨Nat.le_of_ble_eq_true rfl, Nat.le_of_ble_eq_true rfl⟩) J (fun r4 _ H locs w4 hP hD hS => ?_)
      have hP : va_P D.1 vwCl [(m0, .inr (6, [.int 1, .int (nI M.1), .ref m1, .ref m2, .int (nI bt), .ref m3, .int (nI ln), .ref m4, .ref m5, .int (nI cl), .ref m6, .ref m7, .ref m8, .ref m9, .ref m10, .ref m11, .ref m12, .int (nI pn), .ref m13, .ref m14]))] H := hP
      have hD : va_D A [(m0, .inr (6, [.int 1, .int (nI M.1), .ref m1, .ref m2, .int (nI bt), .ref m3, .int (nI ln), .ref m4, .ref m5, .int (nI cl), .ref m6, .ref m7, .ref m8, .ref m9, .ref m10, .ref m11, .ref m12, .int (nI pn), .ref m13, .ref m14]))] := hD
      have w4 : r4 = 1 := w4
      subst w4
      refine lv_if_eq (tgt := 137) hx hb dX6_foreign_132 (by decide) (fun c8 => ?_) (fun c8 => ?_)
      · skip
        exfalso; exact absurd c8 (by decide)
      refine lv_lconst (v := 0) hx hb dX6_foreign_135 (by decide) ?_
      exact z_lret (v := 0) hx hb hr hlocks hP hD hS (some 1) (Or.inr (⟨rfl, hp⟩)) [0] rfl (by decide) (Nat.le_of_ble_eq_true rfl) (Nat.le_of_ble_eq_true rfl) dX6_foreign_136
    refine lv_iload_n hx hb dX6_foreign_101 rfl (lv_at hl 6 rfl) ?_
    refine lv_i2l (v := p3.toInt64) hx hb dX6_foreign_102 rfl ?_
    refine lv_lconst (v := 0) hx hb dX6_foreign_103 (by decide) ?_
    refine lv_ldc2 (v := 1000000000) hx hb hown (hZ _ t_290) dX6_foreign_104 ?_
    have J := zJ.mk (wc := []) (wr := [(m0, .inr (6, [.int th, .int (nI M.1), .ref m1, .ref m2, .int (nI bt), .ref m3, .int (nI ln), .ref m4, .ref m5, .int (nI cl), .ref m6, .ref m7, .ref m8, .ref m9, .ref m10, .ref m11, .ref m12, .int (nI pn), .ref m13, .ref m14]))]) hA hB hK hP hD hS [] [0] rfl rfl (by decide)
    refine z_goi (z_runS (As := [.long p3.toInt64, .long 0, .long 1000000000]) (rest := [.int 1, .ref m0]) hF (d_lies D p3.toInt64 0 1000000000 H.size) (va_cwS 3 hZ (z_gS t_273 t_274 t_272 t_271) rfl rfl rfl (by decide +kernel) ⟨Nat.le_of_ble_eq_true rfl, Nat.le_of_ble_eq_true rfl⟩) J rfl hl.1 (Nat.le_of_ble_eq_true rfl) dX6_foreign_107 ⟨Nat.le_of_ble_eq_true rfl, Nat.le_of_ble_eq_true rfl⟩) J (fun r3 _ H locs w3 hP hD hS => ?_)
    have hP : va_P D.1 vwCl [(m0, .inr (6, [.int th, .int (nI M.1), .ref m1, .ref m2, .int (nI bt), .ref m3, .int (nI ln), .ref m4, .ref m5, .int (nI cl), .ref m6, .ref m7, .ref m8, .ref m9, .ref m10, .ref m11, .ref m12, .int (nI pn), .ref m13, .ref m14]))] H := hP
    have hD : va_D A [(m0, .inr (6, [.int th, .int (nI M.1), .ref m1, .ref m2, .int (nI bt), .ref m3, .int (nI ln), .ref m4, .ref m5, .int (nI cl), .ref m6, .ref m7, .ref m8, .ref m9, .ref m10, .ref m11, .ref m12, .int (nI pn), .ref m13, .ref m14]))] := hD
    have f3 : (r3 = 1 ∧ ¬ p3 < 0 ∧ p3 ≤ 1000000000) ∨ (r3 = 0 ∧ ¬ (¬ p3 < 0 ∧ p3 ≤ 1000000000)) := z_li (a := 0) (b := 1000000000) (by decide) (by decide) w3
    refine lv_if_ne (tgt := 117) hx hb dX6_foreign_110 (by decide) (fun c6 => ?_) (fun c6 => ?_)
    · skip
      refine lv_iconst (v := 0) hx hb dX6_foreign_117 (by decide) ?_
      refine lv_iload hx hb dX6_foreign_118 (lv_at hl 1 rfl) ?_
      refine lv_if_ne (tgt := 127) hx hb dX6_foreign_120 (by decide) (fun c7 => ?_) (fun c7 => ?_)
      · skip
        exfalso; exact absurd c7 (by decide)
      refine lv_iconst (v := 1) hx hb dX6_foreign_123 (by decide) ?_
      refine lv_goto (tgt := 128) hx hb dX6_foreign_124 (by decide) ?_
      refine lv_iconst (v := 0) hx hb dX6_foreign_128 (by decide) ?_
      have J := zJ.mk (wc := [(m0, .inr (6, [.int th, .int (nI M.1), .ref m1, .ref m2, .int (nI bt), .ref m3, .int (nI ln), .ref m4, .ref m5, .int (nI cl), .ref m6, .ref m7, .ref m8, .ref m9, .ref m10, .ref m11, .ref m12, .int (nI pn), .ref m13, .ref m14]))]) (wr := []) hA hB hK hP hD hS [0] [] rfl rfl (by decide)
      refine z_goi (z_runV (As := [.int 1, .int 0, .int 1, .int 0]) (rest := []) (b := m0) hF (d_throwing D m0 m1 m2 m3 m4 m5 m6 m7 m8 m9 m10 m11 m12 m13 m14 (M.1, fun _ => 0, fun _ => 0) bt ln cl pn th 1 0 1 0 H.size) (cwV 4 hZ (z_gV t_286 t_287 t_288 t_272 t_285) rfl rfl rfl (by decide +kernel) ⟨Nat.le_of_ble_eq_true rfl, Nat.le_of_ble_eq_true rfl⟩) J 0 6 rfl rfl rfl rfl hl.1 (Nat.le_of_ble_eq_true rfl) dX6_foreign_129 ⟨Nat.le_of_ble_eq_true rfl, Nat.le_of_ble_eq_true rfl⟩) J (fun r4 _ H locs w4 hP hD hS => ?_)
      have hP : va_P D.1 vwCl [(m0, .inr (6, [.int 1, .int (nI M.1), .ref m1, .ref m2, .int (nI bt), .ref m3, .int (nI ln), .ref m4, .ref m5, .int (nI cl), .ref m6, .ref m7, .ref m8, .ref m9, .ref m10, .ref m11, .ref m12, .int (nI pn), .ref m13, .ref m14]))] H := hP
      have hD : va_D A [(m0, .inr (6, [.int 1, .int (nI M.1), .ref m1, .ref m2, .int (nI bt), .ref m3, .int (nI ln), .ref m4, .ref m5, .int (nI cl), .ref m6, .ref m7, .ref m8, .ref m9, .ref m10, .ref m11, .ref m12, .int (nI pn), .ref m13, .ref m14]))] := hD
      have w4 : r4 = 1 := w4
      subst w4
      refine lv_if_eq (tgt := 137) hx hb dX6_foreign_132 (by decide) (fun c8 => ?_) (fun c8 => ?_)
      · skip
        exfalso; exact absurd c8 (by decide)
      refine lv_lconst (v := 0) hx hb dX6_foreign_135 (by decide) ?_
      exact z_lret (v := 0) hx hb hr hlocks hP hD hS (some 1) (Or.inr (⟨rfl, hp⟩)) [0] rfl (by decide) (Nat.le_of_ble_eq_true rfl) (Nat.le_of_ble_eq_true rfl) dX6_foreign_136
    refine lv_iconst (v := 1) hx hb dX6_foreign_113 (by decide) ?_
    refine lv_goto (tgt := 118) hx hb dX6_foreign_114 (by decide) ?_
    refine lv_iload hx hb dX6_foreign_118 (lv_at hl 1 rfl) ?_
    refine lv_if_ne (tgt := 127) hx hb dX6_foreign_120 (by decide) (fun c7 => ?_) (fun c7 => ?_)
    · skip
      exfalso; exact absurd c7 (by decide)
    refine lv_iconst (v := 1) hx hb dX6_foreign_123 (by decide) ?_
    refine lv_goto (tgt := 128) hx hb dX6_foreign_124 (by decide) ?_
    refine lv_iconst (v := 0) hx hb dX6_foreign_128 (by decide) ?_
    have J := zJ.mk (wc := [(m0, .inr (6, [.int th, .int (nI M.1), .ref m1, .ref m2, .int (nI bt), .ref m3, .int (nI ln), .ref m4, .ref m5, .int (nI cl), .ref m6, .ref m7, .ref m8, .ref m9, .ref m10, .ref m11, .ref m12, .int (nI pn), .ref m13, .ref m14]))]) (wr := []) hA hB hK hP hD hS [0] [] rfl rfl (by decide)
    refine z_goi (z_runV (As := [.int 1, .int 1, .int 1, .int 0]) (rest := []) (b := m0) hF (d_throwing D m0 m1 m2 m3 m4 m5 m6 m7 m8 m9 m10 m11 m12 m13 m14 (M.1, fun _ => 0, fun _ => 0) bt ln cl pn th 1 1 1 0 H.size) (cwV 4 hZ (z_gV t_286 t_287 t_288 t_272 t_285) rfl rfl rfl (by decide +kernel) ⟨Nat.le_of_ble_eq_true rfl, Nat.le_of_ble_eq_true rfl⟩) J 0 6 rfl rfl rfl rfl hl.1 (Nat.le_of_ble_eq_true rfl) dX6_foreign_129 ⟨Nat.le_of_ble_eq_true rfl, Nat.le_of_ble_eq_true rfl⟩) J (fun r4 _ H locs w4 hP hD hS => ?_)
    have hP : va_P D.1 vwCl [(m0, .inr (6, [.int 1, .int (nI M.1), .ref m1, .ref m2, .int (nI bt), .ref m3, .int (nI ln), .ref m4, .ref m5, .int (nI cl), .ref m6, .ref m7, .ref m8, .ref m9, .ref m10, .ref m11, .ref m12, .int (nI pn), .ref m13, .ref m14]))] H := hP
    have hD : va_D A [(m0, .inr (6, [.int 1, .int (nI M.1), .ref m1, .ref m2, .int (nI bt), .ref m3, .int (nI ln), .ref m4, .ref m5, .int (nI cl), .ref m6, .ref m7, .ref m8, .ref m9, .ref m10, .ref m11, .ref m12, .int (nI pn), .ref m13, .ref m14]))] := hD
    have w4 : r4 = 1 := w4
    subst w4
    refine lv_if_eq (tgt := 137) hx hb dX6_foreign_132 (by decide) (fun c8 => ?_) (fun c8 => ?_)
    · skip
      exfalso; exact absurd c8 (by decide)
    refine lv_lconst (v := 0) hx hb dX6_foreign_135 (by decide) ?_
    exact z_lret (v := 0) hx hb hr hlocks hP hD hS (some 1) (Or.inr (⟨rfl, hp⟩)) [0] rfl (by decide) (Nat.le_of_ble_eq_true rfl) (Nat.le_of_ble_eq_true rfl) dX6_foreign_136
  exfalso; exact absurd c3 (by decide)
set_option maxHeartbeats 4000000 in
set_option maxRecDepth 100000 in
/-- the reference: opened -/
theorem d_opened {l : Launch} (D : zD) (m0 m1 m2 m3 m4 m5 m6 m7 m8 m9 m10 m11 m12 m13 m14 : Nat) (M : zM) (bt ln cl pn : Nat) (th : Int32) (po pw : Nat → Int32) (j : Nat) (sz : Nat) (hM : M.1 ≤ 200) (hj : j < pn) (hn : pn ≤ 10) (hall : ¬ zs_wof po pw (po j) pn = 0) : Met l yX6_opened wsX6_opened ({ frames := 1, cells := 0, slots := 0, locals := 25 }) (va_Pc [.ref m0, .int (nI j)] (zp D sz [(m0, .inr (6, [.int th, .int (nI M.1), .ref m1, .ref m2, .int (nI bt), .ref m3, .int (nI ln), .ref m4, .ref m5, .int (nI cl), .ref m6, .ref m7, .ref m8, .ref m9, .ref m10, .ref m11, .ref m12, .int (nI pn), .ref m13, .ref m14])), (m1, .inl (D.2 0, 800, .inl M.2.1)), (m2, .inl (D.2 0, 200, .inl M.2.2)), (m13, .inl (D.2 0, 10, .inl po)), (m14, .inl (D.2 0, 10, .inl pw))])) (va_Ql (fun r (u : Option Int32) => (u = none ∧ (True) ∧ r = zm_part (zm_bal M.2.1 M.2.2 1 (po j) M.1) (zs_wof po pw (po j) (j + 1)) (pw j).toInt64 (zs_wof po pw (po j) pn)) ∨ (u = some 1 ∧ ¬ (True))) (zq D (va_A [(m0, .inr (6, [.int th, .int (nI M.1), .ref m1, .ref m2, .int (nI bt), .ref m3, .int (nI ln), .ref m4, .ref m5, .int (nI cl), .ref m6, .ref m7, .ref m8, .ref m9, .ref m10, .ref m11, .ref m12, .int (nI pn), .ref m13, .ref m14])), (m1, .inl (D.2 0, 800, .inl M.2.1)), (m2, .inl (D.2 0, 200, .inl M.2.2)), (m13, .inl (D.2 0, 10, .inl po)), (m14, .inl (D.2 0, 10, .inl pw))] sz) (fun (u : Option Int32) => (u.elim [(m0, .inr (6, [.int 0, .int (nI M.1), .ref m1, .ref m2, .int (nI bt), .ref m3, .int (nI ln), .ref m4, .ref m5, .int (nI cl), .ref m6, .ref m7, .ref m8, .ref m9, .ref m10, .ref m11, .ref m12, .int (nI pn), .ref m13, .ref m14])), (m1, .inl (D.2 0, 800, .inl M.2.1)), (m2, .inl (D.2 0, 200, .inl M.2.2)), (m13, .inl (D.2 0, 10, .inl po)), (m14, .inl (D.2 0, 10, .inl pw))] (fun t => [(m0, .inr (6, [.int t, .int (nI M.1), .ref m1, .ref m2, .int (nI bt), .ref m3, .int (nI ln), .ref m4, .ref m5, .int (nI cl), .ref m6, .ref m7, .ref m8, .ref m9, .ref m10, .ref m11, .ref m12, .int (nI pn), .ref m13, .ref m14])), (m1, .inl (D.2 0, 800, .inl M.2.1)), (m2, .inl (D.2 0, 200, .inl M.2.2)), (m13, .inl (D.2 0, 10, .inl po)), (m14, .inl (D.2 0, 10, .inl pw))]) : va_W))) (va_A [(m0, .inr (6, [.int th, .int (nI M.1), .ref m1, .ref m2, .int (nI bt), .ref m3, .int (nI ln), .ref m4, .ref m5, .int (nI cl), .ref m6, .ref m7, .ref m8, .ref m9, .ref m10, .ref m11, .ref m12, .int (nI pn), .ref m13, .ref m14])), (m1, .inl (D.2 0, 800, .inl M.2.1)), (m2, .inl (D.2 0, 200, .inl M.2.2)), (m13, .inl (D.2 0, 10, .inl po)), (m14, .inl (D.2 0, 10, .inl pw))] sz)) 0 0 (va_A [(m0, .inr (6, [.int th, .int (nI M.1), .ref m1, .ref m2, .int (nI bt), .ref m3, .int (nI ln), .ref m4, .ref m5, .int (nI cl), .ref m6, .ref m7, .ref m8, .ref m9, .ref m10, .ref m11, .ref m12, .int (nI pn), .ref m13, .ref m14])), (m1, .inl (D.2 0, 800, .inl M.2.1)), (m2, .inl (D.2 0, 200, .inl M.2.2)), (m13, .inl (D.2 0, 10, .inl po)), (m14, .inl (D.2 0, 10, .inl pw))] sz) := by
  refine Met.ofW (cc := cX6_opened) (maxL := 12) (ret := (some .long)) (by decide) rfl ?_
  intro p e s m args below meth c s₁ B hml hv
  obtain ⟨rfl, hsz, hP, hK, hD0, hB⟩ := hv
  have hx := B.exec
  have hb := B.bytes
  have hr := B.returns
  have hts := atoms_spec (ws := wsX6_opened) B.pre
  have hown : s.vm.findClass "ShopLedgerModel" = some m.cls := findClass_of_methodNamed B.named
  have hlocks := B.notSynchronized
  subst hsz
  have hD := hD0.self (sz := s.heap.size)
  generalize hAe : va_A [(m0, .inr (6, [.int th, .int (nI M.1), .ref m1, .ref m2, .int (nI bt), .ref m3, .int (nI ln), .ref m4, .ref m5, .int (nI cl), .ref m6, .ref m7, .ref m8, .ref m9, .ref m10, .ref m11, .ref m12, .int (nI pn), .ref m13, .ref m14])), (m1, .inl (D.2 0, 800, .inl M.2.1)), (m2, .inl (D.2 0, 200, .inl M.2.2)), (m13, .inl (D.2 0, 10, .inl po)), (m14, .inl (D.2 0, 10, .inl pw))] s.heap.size = A at hD hB ⊢
  have hA : ∀ q : Nat, s.heap.size ≤ q → A q := fun q h => by rw [← hAe]; exact Or.inr h
  have hS : va_S A s.heap s.heap [] := va_S.rf
  have hZ : ∀ w ∈ zALL, w.before _ s = true := fun w h => hts w (List.mem_cons_of_mem _ h)
  have hF : CallFix p m c cX6_opened 12 s _ zALL "ShopLedgerModel" := ⟨hx, hb, hml, hown, hZ⟩
  have hl := lv_entry ([.ref m0, .int (nI j)]) (n := 12) (Nat.le_of_ble_eq_true rfl)
  rw [lg_entry_eq]
  generalize (lg_sl ([.ref m0, .int (nI j)]) ++ List.replicate (12 - (lg_sl ([.ref m0, .int (nI j)])).length) Slot.unset).toArray = ls at hl ⊢
  have hl : lv_has ls 12 [(0, .ref m0), (1, .int (nI j))] := hl
  refine lv_aload_n hx hb dX6_opened_0 rfl (lv_at hl 0 rfl) ?_
  refine lv_iload_n hx hb dX6_opened_1 rfl (lv_at hl 1 rfl) ?_
  refine lv_i2l (v := (nI j).toInt64) hx hb dX6_opened_2 rfl ?_
  refine lv_lconst (v := 0) hx hb dX6_opened_3 (by decide) ?_
  refine lv_aload_n hx hb dX6_opened_4 rfl (lv_at hl 0 rfl) ?_
  refine va_get (D := D.1) (ci := 6) (v := .int (nI pn)) (C := "ShopLedgerModel") (T := TX6) (N := 20) hx hb hZ inX6 hown hK hP 0 rfl rfl 17 (by decide) (hZ _ t_295) (fun _ h9 => h9) rfl dX6_opened_5 ?_
  refine lv_iconst (v := 1) hx hb dX6_opened_8 (by decide) ?_
  refine lv_isub hx hb dX6_opened_9 ?_
  refine lv_i2l (v := ((nI pn) - 1).toInt64) hx hb dX6_opened_10 rfl ?_
  have J := zJ.mk (wc := []) (wr := [(m0, .inr (6, [.int th, .int (nI M.1), .ref m1, .ref m2, .int (nI bt), .ref m3, .int (nI ln), .ref m4, .ref m5, .int (nI cl), .ref m6, .ref m7, .ref m8, .ref m9, .ref m10, .ref m11, .ref m12, .int (nI pn), .ref m13, .ref m14])), (m1, .inl (D.2 0, 800, .inl M.2.1)), (m2, .inl (D.2 0, 200, .inl M.2.2)), (m13, .inl (D.2 0, 10, .inl po)), (m14, .inl (D.2 0, 10, .inl pw))]) hA hB hK hP hD hS [] [0, 1, 2, 3, 4] rfl rfl (by decide)
  refine z_goi (z_runS (As := [.long ((nI j).toInt64), .long 0, .long (((nI pn) - 1).toInt64)]) (rest := [.ref m0]) hF (d_lies D (nI j).toInt64 0 (nI pn - 1).toInt64 s.heap.size) (va_cwS 3 hZ (z_gS t_273 t_274 t_272 t_271) rfl rfl rfl (by decide +kernel) ⟨Nat.le_of_ble_eq_true rfl, Nat.le_of_ble_eq_true rfl⟩) J rfl hl.1 (Nat.le_of_ble_eq_true rfl) dX6_opened_11 ⟨Nat.le_of_ble_eq_true rfl, Nat.le_of_ble_eq_true rfl⟩) J (fun r1 _ H locs w1 hP hD hS => ?_)
  have hP : va_P D.1 vwCl [(m0, .inr (6, [.int th, .int (nI M.1), .ref m1, .ref m2, .int (nI bt), .ref m3, .int (nI ln), .ref m4, .ref m5, .int (nI cl), .ref m6, .ref m7, .ref m8, .ref m9, .ref m10, .ref m11, .ref m12, .int (nI pn), .ref m13, .ref m14])), (m1, .inl (D.2 0, 800, .inl M.2.1)), (m2, .inl (D.2 0, 200, .inl M.2.2)), (m13, .inl (D.2 0, 10, .inl po)), (m14, .inl (D.2 0, 10, .inl pw))] H := hP
  have hD : va_D A [(m0, .inr (6, [.int th, .int (nI M.1), .ref m1, .ref m2, .int (nI bt), .ref m3, .int (nI ln), .ref m4, .ref m5, .int (nI cl), .ref m6, .ref m7, .ref m8, .ref m9, .ref m10, .ref m11, .ref m12, .int (nI pn), .ref m13, .ref m14])), (m1, .inl (D.2 0, 800, .inl M.2.1)), (m2, .inl (D.2 0, 200, .inl M.2.2)), (m13, .inl (D.2 0, 10, .inl po)), (m14, .inl (D.2 0, 10, .inl pw))] := hD
  have f1 := z_lzn pn (by omega) w1
  refine lv_if_ne (tgt := 21) hx hb dX6_opened_14 (by decide) (fun c1 => ?_) (fun c1 => ?_)
  · skip
    refine lv_iconst (v := 0) hx hb dX6_opened_21 (by decide) ?_
    refine lv_iconst (v := 0) hx hb dX6_opened_22 (by decide) ?_
    refine lv_iconst (v := 0) hx hb dX6_opened_23 (by decide) ?_
    refine lv_iconst (v := 0) hx hb dX6_opened_24 (by decide) ?_
    have J := zJ.mk (wc := [(m0, .inr (6, [.int th, .int (nI M.1), .ref m1, .ref m2, .int (nI bt), .ref m3, .int (nI ln), .ref m4, .ref m5, .int (nI cl), .ref m6, .ref m7, .ref m8, .ref m9, .ref m10, .ref m11, .ref m12, .int (nI pn), .ref m13, .ref m14]))]) (wr := [(m1, .inl (D.2 0, 800, .inl M.2.1)), (m2, .inl (D.2 0, 200, .inl M.2.2)), (m13, .inl (D.2 0, 10, .inl po)), (m14, .inl (D.2 0, 10, .inl pw))]) hA hB hK hP hD hS [0] [1, 2, 3, 4] rfl rfl (by decide)
    refine z_goi (z_runV (As := [.int 0, .int 0, .int 0, .int 0]) (rest := []) (b := m0) hF (d_throwing D m0 m1 m2 m3 m4 m5 m6 m7 m8 m9 m10 m11 m12 m13 m14 (M.1, fun _ => 0, fun _ => 0) bt ln cl pn th 0 0 0 0 H.size) (cwV 4 hZ (z_gV t_286 t_287 t_288 t_272 t_285) rfl rfl rfl (by decide +kernel) ⟨Nat.le_of_ble_eq_true rfl, Nat.le_of_ble_eq_true rfl⟩) J 0 6 rfl rfl rfl rfl hl.1 (Nat.le_of_ble_eq_true rfl) dX6_opened_25 ⟨Nat.le_of_ble_eq_true rfl, Nat.le_of_ble_eq_true rfl⟩) J (fun r2 _ H locs w2 hP hD hS => ?_)
    have hP : va_P D.1 vwCl [(m1, .inl (D.2 0, 800, .inl M.2.1)), (m2, .inl (D.2 0, 200, .inl M.2.2)), (m13, .inl (D.2 0, 10, .inl po)), (m14, .inl (D.2 0, 10, .inl pw)), (m0, .inr (6, [.int 0, .int (nI M.1), .ref m1, .ref m2, .int (nI bt), .ref m3, .int (nI ln), .ref m4, .ref m5, .int (nI cl), .ref m6, .ref m7, .ref m8, .ref m9, .ref m10, .ref m11, .ref m12, .int (nI pn), .ref m13, .ref m14]))] H := hP
    have hD : va_D A [(m1, .inl (D.2 0, 800, .inl M.2.1)), (m2, .inl (D.2 0, 200, .inl M.2.2)), (m13, .inl (D.2 0, 10, .inl po)), (m14, .inl (D.2 0, 10, .inl pw)), (m0, .inr (6, [.int 0, .int (nI M.1), .ref m1, .ref m2, .int (nI bt), .ref m3, .int (nI ln), .ref m4, .ref m5, .int (nI cl), .ref m6, .ref m7, .ref m8, .ref m9, .ref m10, .ref m11, .ref m12, .int (nI pn), .ref m13, .ref m14]))] := hD
    have w2 : r2 = 0 := w2
    subst w2
    refine lv_if_eq (tgt := 33) hx hb dX6_opened_28 (by decide) (fun c2 => ?_) (fun c2 => ?_)
    · skip
      refine lv_lconst (v := 0) hx hb dX6_opened_33 (by decide) ?_
      refine lv_lstore_n (lv' := [(2, .long 0), (0, .ref m0), (1, .int (nI j))]) hx hb dX6_opened_34 rfl hl (by decide) rfl (fun ls hl => ?_)
      refine lv_lconst (v := 0) hx hb dX6_opened_35 (by decide) ?_
      refine lv_lstore (lv' := [(4, .long 0), (2, .long 0), (0, .ref m0), (1, .int (nI j))]) hx hb dX6_opened_36 hl (by decide) rfl (fun ls hl => ?_)
      refine lv_iconst (v := 0) hx hb dX6_opened_38 (by decide) ?_
      refine lv_istore (lv' := [(6, .int 0), (4, .long 0), (2, .long 0), (0, .ref m0), (1, .int (nI j))]) hx hb dX6_opened_39 hl (by decide) rfl (fun ls hl => ?_)
      have lo1 : ∀ (nn : Nat) (k : Nat), k ≤ pn → pn + 1 ≤ k + nn → ∀ (H : Heap) (locs : List Loc), va_P D.1 vwCl [(m1, .inl (D.2 0, 800, .inl M.2.1)), (m2, .inl (D.2 0, 200, .inl M.2.2)), (m13, .inl (D.2 0, 10, .inl po)), (m14, .inl (D.2 0, 10, .inl pw)), (m0, .inr (6, [.int 0, .int (nI M.1), .ref m1, .ref m2, .int (nI bt), .ref m3, .int (nI ln), .ref m4, .ref m5, .int (nI cl), .ref m6, .ref m7, .ref m8, .ref m9, .ref m10, .ref m11, .ref m12, .int (nI pn), .ref m13, .ref m14]))] H → va_D A [(m1, .inl (D.2 0, 800, .inl M.2.1)), (m2, .inl (D.2 0, 200, .inl M.2.2)), (m13, .inl (D.2 0, 10, .inl po)), (m14, .inl (D.2 0, 10, .inl pw)), (m0, .inr (6, [.int 0, .int (nI M.1), .ref m1, .ref m2, .int (nI bt), .ref m3, .int (nI ln), .ref m4, .ref m5, .int (nI cl), .ref m6, .ref m7, .ref m8, .ref m9, .ref m10, .ref m11, .ref m12, .int (nI pn), .ref m13, .ref m14]))] → va_S A s.heap H locs → ∀ (ls : Array Slot), lv_has ls 12 [(0, .ref m0), (1, .int (nI j)), (2, .long (zs_wof po pw (po j) k)), (4, .long (zs_wof po pw (po j) (min k (j + 1)))), (6, .int (nI k))] → W p l e (headSpec wsX6_opened ({ frames := 1, cells := 0, slots := 0, locals := 25 })).room s m [.ref m0, .int (nI j)].toArray below meth c H locs 0 0 (MQ below (va_Ql (fun r (u : Option Int32) => (u = none ∧ (True) ∧ r = zm_part (zm_bal M.2.1 M.2.2 1 (po j) M.1) (zs_wof po pw (po j) (j + 1)) (pw j).toInt64 (zs_wof po pw (po j) pn)) ∨ (u = some 1 ∧ ¬ (True))) (zq D A (fun (u : Option Int32) => (u.elim [(m0, .inr (6, [.int 0, .int (nI M.1), .ref m1, .ref m2, .int (nI bt), .ref m3, .int (nI ln), .ref m4, .ref m5, .int (nI cl), .ref m6, .ref m7, .ref m8, .ref m9, .ref m10, .ref m11, .ref m12, .int (nI pn), .ref m13, .ref m14])), (m1, .inl (D.2 0, 800, .inl M.2.1)), (m2, .inl (D.2 0, 200, .inl M.2.2)), (m13, .inl (D.2 0, 10, .inl po)), (m14, .inl (D.2 0, 10, .inl pw))] (fun t => [(m0, .inr (6, [.int t, .int (nI M.1), .ref m1, .ref m2, .int (nI bt), .ref m3, .int (nI ln), .ref m4, .ref m5, .int (nI cl), .ref m6, .ref m7, .ref m8, .ref m9, .ref m10, .ref m11, .ref m12, .int (nI pn), .ref m13, .ref m14])), (m1, .inl (D.2 0, 800, .inl M.2.1)), (m2, .inl (D.2 0, 200, .inl M.2.2)), (m13, .inl (D.2 0, 10, .inl po)), (m14, .inl (D.2 0, 10, .inl pw))]) : va_W))) A) [.ref m0, .int (nI j)].toArray s 0 0 A) (F0 m 41 ls []) := by
        intro nn
        induction nn with
        | zero =>
          intro k q1 q2
          exfalso
          omega
        | succ nn ih_lo1 =>
          intro k q1 q2 H locs hP hD hS ls hl
          refine lv_iload hx hb dX6_opened_41 (lv_at hl 4 rfl) ?_
          refine lv_aload_n hx hb dX6_opened_43 rfl (lv_at hl 0 rfl) ?_
          refine va_get (D := D.1) (ci := 6) (v := .int (nI pn)) (C := "ShopLedgerModel") (T := TX6) (N := 20) hx hb hZ inX6 hown hK hP 4 rfl rfl 17 (by decide) (hZ _ t_295) (fun _ h9 => h9) rfl dX6_opened_44 ?_
          refine lv_icmp_ge (tgt := 109) hx hb dX6_opened_47 (by decide) (fun c3 => ?_) (fun c3 => ?_)
          · skip
            have e9 : pn = k := (z_ge q1 (by omega) c3).symm
            subst e9
            rw [Nat.min_eq_right (show j + 1 ≤ pn from hj)] at hl
            refine lv_aload_n hx hb dX6_opened_109 rfl (lv_at hl 0 rfl) ?_
            refine lv_iconst (v := 1) hx hb dX6_opened_110 (by decide) ?_
            refine lv_aload_n hx hb dX6_opened_111 rfl (lv_at hl 0 rfl) ?_
            refine va_get (D := D.1) (ci := 6) (v := .ref m13) (C := "ShopLedgerModel") (T := TX6) (N := 20) hx hb hZ inX6 hown hK hP 4 rfl rfl 18 (by decide) (hZ _ t_298) (fun _ h9 => h9) rfl dX6_opened_112 ?_
            refine lv_iload_n hx hb dX6_opened_115 rfl (lv_at hl 1 rfl) ?_
            refine z_iald (k := j) hx hb hK hP 2 rfl (by omega) (by decide) dX6_opened_116 ?_
            have J := zJ.mk (wc := [(m0, .inr (6, [.int 0, .int (nI M.1), .ref m1, .ref m2, .int (nI bt), .ref m3, .int (nI ln), .ref m4, .ref m5, .int (nI cl), .ref m6, .ref m7, .ref m8, .ref m9, .ref m10, .ref m11, .ref m12, .int (nI pn), .ref m13, .ref m14])), (m1, .inl (D.2 0, 800, .inl M.2.1)), (m2, .inl (D.2 0, 200, .inl M.2.2))]) (wr := [(m13, .inl (D.2 0, 10, .inl po)), (m14, .inl (D.2 0, 10, .inl pw))]) hA hB hK hP hD hS [4, 0, 1] [2, 3] rfl rfl (by decide)
            refine z_gol (z_runV (As := [.int 1, .int (po j)]) (rest := []) (b := m0) hF (d_balance D m0 m1 m2 m3 m4 m5 m6 m7 m8 m9 m10 m11 m12 m13 m14 M bt ln cl pn 0 1 (po j) H.size hM (by decide)) (cwV 2 hZ (z_gV t_309 t_310 t_311 t_272 t_308) rfl rfl rfl (by decide +kernel) ⟨Nat.le_of_ble_eq_true rfl, Nat.le_of_ble_eq_true rfl⟩) J 0 6 rfl rfl rfl rfl hl.1 (Nat.le_of_ble_eq_true rfl) dX6_opened_117 ⟨Nat.le_of_ble_eq_true rfl, Nat.le_of_ble_eq_true rfl⟩) J (fun r3 _ H locs w3 hP hD hS => ?_)
            have hP : va_P D.1 vwCl [(m13, .inl (D.2 0, 10, .inl po)), (m14, .inl (D.2 0, 10, .inl pw)), (m0, .inr (6, [.int 0, .int (nI M.1), .ref m1, .ref m2, .int (nI bt), .ref m3, .int (nI ln), .ref m4, .ref m5, .int (nI cl), .ref m6, .ref m7, .ref m8, .ref m9, .ref m10, .ref m11, .ref m12, .int (nI pn), .ref m13, .ref m14])), (m1, .inl (D.2 0, 800, .inl M.2.1)), (m2, .inl (D.2 0, 200, .inl M.2.2))] H := hP
            have hD : va_D A [(m13, .inl (D.2 0, 10, .inl po)), (m14, .inl (D.2 0, 10, .inl pw)), (m0, .inr (6, [.int 0, .int (nI M.1), .ref m1, .ref m2, .int (nI bt), .ref m3, .int (nI ln), .ref m4, .ref m5, .int (nI cl), .ref m6, .ref m7, .ref m8, .ref m9, .ref m10, .ref m11, .ref m12, .int (nI pn), .ref m13, .ref m14])), (m1, .inl (D.2 0, 800, .inl M.2.1)), (m2, .inl (D.2 0, 200, .inl M.2.2))] := hD
            subst w3
            refine lv_lstore (lv' := [(6, .long (zm_bal M.2.1 M.2.2 1 (po j) M.1)), (0, .ref m0), (1, .int (nI j)), (2, .long (zs_wof po pw (po j) pn)), (4, .long (zs_wof po pw (po j) (j + 1)))]) hx hb dX6_opened_120 hl (by decide) rfl (fun ls hl => ?_)
            refine lv_lload hx hb dX6_opened_122 (lv_at hl 0 rfl) ?_
            refine lv_lconst (v := 0) hx hb dX6_opened_124 (by decide) ?_
            refine W.lcmp hx hb dX6_opened_125 ?_
            refine lv_if_ge (tgt := 135) hx hb dX6_opened_126 (by decide) (fun c6 => ?_) (fun c6 => ?_)
            · skip
              have e6 : ¬ zm_bal M.2.1 M.2.2 1 (po j) M.1 < 0 := Int64.not_lt.mpr ((lg_cmp_ge _ _).mp c6)
              have ab : zm_abs (zm_bal M.2.1 M.2.2 1 (po j) M.1) = zm_bal M.2.1 M.2.2 1 (po j) M.1 := if_neg e6
              refine lv_lload hx hb dX6_opened_135 (lv_at hl 0 rfl) ?_
              refine lv_lstore (lv' := [(8, .long (zm_bal M.2.1 M.2.2 1 (po j) M.1)), (6, .long (zm_bal M.2.1 M.2.2 1 (po j) M.1)), (0, .ref m0), (1, .int (nI j)), (2, .long (zs_wof po pw (po j) pn)), (4, .long (zs_wof po pw (po j) (j + 1)))]) hx hb dX6_opened_137 hl (by decide) rfl (fun ls hl => ?_)
              refine lv_lload hx hb dX6_opened_139 (lv_at hl 0 rfl) ?_
              refine lv_lload hx hb dX6_opened_141 (lv_at hl 5 rfl) ?_
              refine lv_lmul hx hb dX6_opened_143 ?_
              refine lv_lload_n hx hb dX6_opened_144 rfl (lv_at hl 4 rfl) ?_
              refine lv_ldiv hx hb dX6_opened_145 (hall) ?_
              refine lv_lload hx hb dX6_opened_146 (lv_at hl 0 rfl) ?_
              refine lv_lload hx hb dX6_opened_148 (lv_at hl 5 rfl) ?_
              refine lv_aload_n hx hb dX6_opened_150 rfl (lv_at hl 2 rfl) ?_
              refine va_get (D := D.1) (ci := 6) (v := .ref m14) (C := "ShopLedgerModel") (T := TX6) (N := 20) hx hb hZ inX6 hown hK hP 2 rfl rfl 19 (by decide) (hZ _ t_299) (fun _ h9 => h9) rfl dX6_opened_151 ?_
              refine lv_iload_n hx hb dX6_opened_154 rfl (lv_at hl 3 rfl) ?_
              refine z_iald (k := j) hx hb hK hP 1 rfl (by omega) (by decide) dX6_opened_155 ?_
              refine lv_i2l (v := (pw j).toInt64) hx hb dX6_opened_156 rfl ?_
              refine lv_lsub hx hb dX6_opened_157 ?_
              refine lv_lmul hx hb dX6_opened_158 ?_
              refine lv_lload_n hx hb dX6_opened_159 rfl (lv_at hl 4 rfl) ?_
              refine lv_ldiv hx hb dX6_opened_160 (hall) ?_
              refine lv_lsub hx hb dX6_opened_161 ?_
              refine lv_lstore (lv' := [(10, .long ((((zm_bal M.2.1 M.2.2 1 (po j) M.1) * (zs_wof po pw (po j) (j + 1))) / (zs_wof po pw (po j) pn)) - (((zm_bal M.2.1 M.2.2 1 (po j) M.1) * ((zs_wof po pw (po j) (j + 1)) - ((pw j).toInt64))) / (zs_wof po pw (po j) pn)))), (8, .long (zm_bal M.2.1 M.2.2 1 (po j) M.1)), (6, .long (zm_bal M.2.1 M.2.2 1 (po j) M.1)), (0, .ref m0), (1, .int (nI j)), (2, .long (zs_wof po pw (po j) pn)), (4, .long (zs_wof po pw (po j) (j + 1)))]) hx hb dX6_opened_162 hl (by decide) rfl (fun ls hl => ?_)
              refine lv_lload hx hb dX6_opened_164 (lv_at hl 2 rfl) ?_
              refine lv_lconst (v := 0) hx hb dX6_opened_166 (by decide) ?_
              refine W.lcmp hx hb dX6_opened_167 ?_
              refine lv_if_ge (tgt := 177) hx hb dX6_opened_168 (by decide) (fun c7 => ?_) (fun c7 => ?_)
              · skip
                refine lv_lload hx hb dX6_opened_177 (lv_at hl 0 rfl) ?_
                exact z_lret (v := (((zm_bal M.2.1 M.2.2 1 (po j) M.1) * (zs_wof po pw (po j) (j + 1))) / (zs_wof po pw (po j) pn)) - (((zm_bal M.2.1 M.2.2 1 (po j) M.1) * ((zs_wof po pw (po j) (j + 1)) - ((pw j).toInt64))) / (zs_wof po pw (po j) pn))) hx hb hr hlocks hP hD hS none (Or.inl ⟨rfl, trivial, by first | (rw [zm_part, if_neg e6, ab]; done) | (rw [zm_part, if_pos e6, ab]; done) | exact absurd c6 c7 | exact absurd c7 c6⟩) [2, 3, 4, 0, 1] rfl (by decide) (Nat.le_of_ble_eq_true rfl) (Nat.le_of_ble_eq_true rfl) dX6_opened_179
              refine lv_lload hx hb dX6_opened_171 (lv_at hl 0 rfl) ?_
              refine lv_lneg hx hb dX6_opened_173 ?_
              refine lv_goto (tgt := 179) hx hb dX6_opened_174 (by decide) ?_
              exact z_lret (v := -((((zm_bal M.2.1 M.2.2 1 (po j) M.1) * (zs_wof po pw (po j) (j + 1))) / (zs_wof po pw (po j) pn)) - (((zm_bal M.2.1 M.2.2 1 (po j) M.1) * ((zs_wof po pw (po j) (j + 1)) - ((pw j).toInt64))) / (zs_wof po pw (po j) pn)))) hx hb hr hlocks hP hD hS none (Or.inl ⟨rfl, trivial, by first | (rw [zm_part, if_neg e6, ab]; done) | (rw [zm_part, if_pos e6, ab]; done) | exact absurd c6 c7 | exact absurd c7 c6⟩) [2, 3, 4, 0, 1] rfl (by decide) (Nat.le_of_ble_eq_true rfl) (Nat.le_of_ble_eq_true rfl) dX6_opened_179
            have e6 : zm_bal M.2.1 M.2.2 1 (po j) M.1 < 0 := Int64.not_le.mp (fun h => c6 ((lg_cmp_ge _ _).mpr h))
            have ab : zm_abs (zm_bal M.2.1 M.2.2 1 (po j) M.1) = -(zm_bal M.2.1 M.2.2 1 (po j) M.1) := if_pos e6
            refine lv_lload hx hb dX6_opened_129 (lv_at hl 0 rfl) ?_
            refine lv_lneg hx hb dX6_opened_131 ?_
            refine lv_goto (tgt := 137) hx hb dX6_opened_132 (by decide) ?_
            refine lv_lstore (lv' := [(8, .long (-(zm_bal M.2.1 M.2.2 1 (po j) M.1))), (6, .long (zm_bal M.2.1 M.2.2 1 (po j) M.1)), (0, .ref m0), (1, .int (nI j)), (2, .long (zs_wof po pw (po j) pn)), (4, .long (zs_wof po pw (po j) (j + 1)))]) hx hb dX6_opened_137 hl (by decide) rfl (fun ls hl => ?_)
            refine lv_lload hx hb dX6_opened_139 (lv_at hl 0 rfl) ?_
            refine lv_lload hx hb dX6_opened_141 (lv_at hl 5 rfl) ?_
            refine lv_lmul hx hb dX6_opened_143 ?_
            refine lv_lload_n hx hb dX6_opened_144 rfl (lv_at hl 4 rfl) ?_
            refine lv_ldiv hx hb dX6_opened_145 (hall) ?_
            refine lv_lload hx hb dX6_opened_146 (lv_at hl 0 rfl) ?_
            refine lv_lload hx hb dX6_opened_148 (lv_at hl 5 rfl) ?_
            refine lv_aload_n hx hb dX6_opened_150 rfl (lv_at hl 2 rfl) ?_
            refine va_get (D := D.1) (ci := 6) (v := .ref m14) (C := "ShopLedgerModel") (T := TX6) (N := 20) hx hb hZ inX6 hown hK hP 2 rfl rfl 19 (by decide) (hZ _ t_299) (fun _ h9 => h9) rfl dX6_opened_151 ?_
            refine lv_iload_n hx hb dX6_opened_154 rfl (lv_at hl 3 rfl) ?_
            refine z_iald (k := j) hx hb hK hP 1 rfl (by omega) (by decide) dX6_opened_155 ?_
            refine lv_i2l (v := (pw j).toInt64) hx hb dX6_opened_156 rfl ?_
            refine lv_lsub hx hb dX6_opened_157 ?_
            refine lv_lmul hx hb dX6_opened_158 ?_
            refine lv_lload_n hx hb dX6_opened_159 rfl (lv_at hl 4 rfl) ?_
            refine lv_ldiv hx hb dX6_opened_160 (hall) ?_
            refine lv_lsub hx hb dX6_opened_161 ?_
            refine lv_lstore (lv' := [(10, .long ((((-(zm_bal M.2.1 M.2.2 1 (po j) M.1)) * (zs_wof po pw (po j) (j + 1))) / (zs_wof po pw (po j) pn)) - (((-(zm_bal M.2.1 M.2.2 1 (po j) M.1)) * ((zs_wof po pw (po j) (j + 1)) - ((pw j).toInt64))) / (zs_wof po pw (po j) pn)))), (8, .long (-(zm_bal M.2.1 M.2.2 1 (po j) M.1))), (6, .long (zm_bal M.2.1 M.2.2 1 (po j) M.1)), (0, .ref m0), (1, .int (nI j)), (2, .long (zs_wof po pw (po j) pn)), (4, .long (zs_wof po pw (po j) (j + 1)))]) hx hb dX6_opened_162 hl (by decide) rfl (fun ls hl => ?_)
            refine lv_lload hx hb dX6_opened_164 (lv_at hl 2 rfl) ?_
            refine lv_lconst (v := 0) hx hb dX6_opened_166 (by decide) ?_
            refine W.lcmp hx hb dX6_opened_167 ?_
            refine lv_if_ge (tgt := 177) hx hb dX6_opened_168 (by decide) (fun c7 => ?_) (fun c7 => ?_)
            · skip
              refine lv_lload hx hb dX6_opened_177 (lv_at hl 0 rfl) ?_
              exact z_lret (v := (((-(zm_bal M.2.1 M.2.2 1 (po j) M.1)) * (zs_wof po pw (po j) (j + 1))) / (zs_wof po pw (po j) pn)) - (((-(zm_bal M.2.1 M.2.2 1 (po j) M.1)) * ((zs_wof po pw (po j) (j + 1)) - ((pw j).toInt64))) / (zs_wof po pw (po j) pn))) hx hb hr hlocks hP hD hS none (Or.inl ⟨rfl, trivial, by first | (rw [zm_part, if_neg e6, ab]; done) | (rw [zm_part, if_pos e6, ab]; done) | exact absurd c6 c7 | exact absurd c7 c6⟩) [2, 3, 4, 0, 1] rfl (by decide) (Nat.le_of_ble_eq_true rfl) (Nat.le_of_ble_eq_true rfl) dX6_opened_179
            refine lv_lload hx hb dX6_opened_171 (lv_at hl 0 rfl) ?_
            refine lv_lneg hx hb dX6_opened_173 ?_
            refine lv_goto (tgt := 179) hx hb dX6_opened_174 (by decide) ?_
            exact z_lret (v := -((((-(zm_bal M.2.1 M.2.2 1 (po j) M.1)) * (zs_wof po pw (po j) (j + 1))) / (zs_wof po pw (po j) pn)) - (((-(zm_bal M.2.1 M.2.2 1 (po j) M.1)) * ((zs_wof po pw (po j) (j + 1)) - ((pw j).toInt64))) / (zs_wof po pw (po j) pn)))) hx hb hr hlocks hP hD hS none (Or.inl ⟨rfl, trivial, by first | (rw [zm_part, if_neg e6, ab]; done) | (rw [zm_part, if_pos e6, ab]; done) | exact absurd c6 c7 | exact absurd c7 c6⟩) [2, 3, 4, 0, 1] rfl (by decide) (Nat.le_of_ble_eq_true rfl) (Nat.le_of_ble_eq_true rfl) dX6_opened_179
          have hk : k < pn := z_lt q1 (by omega) c3
          refine lv_aload_n hx hb dX6_opened_50 rfl (lv_at hl 0 rfl) ?_
          refine va_get (D := D.1) (ci := 6) (v := .ref m13) (C := "ShopLedgerModel") (T := TX6) (N := 20) hx hb hZ inX6 hown hK hP 4 rfl rfl 18 (by decide) (hZ _ t_298) (fun _ h9 => h9) rfl dX6_opened_51 ?_
          refine lv_iload hx hb dX6_opened_54 (lv_at hl 4 rfl) ?_
          refine z_iald (k := k) hx hb hK hP 2 rfl (by omega) (by decide) dX6_opened_56 ?_
          refine lv_aload_n hx hb dX6_opened_57 rfl (lv_at hl 0 rfl) ?_
          refine va_get (D := D.1) (ci := 6) (v := .ref m13) (C := "ShopLedgerModel") (T := TX6) (N := 20) hx hb hZ inX6 hown hK hP 4 rfl rfl 18 (by decide) (hZ _ t_298) (fun _ h9 => h9) rfl dX6_opened_58 ?_
          refine lv_iload_n hx hb dX6_opened_61 rfl (lv_at hl 1 rfl) ?_
          refine z_iald (k := j) hx hb hK hP 2 rfl (by omega) (by decide) dX6_opened_62 ?_
          refine lv_icmp_ne (tgt := 76) hx hb dX6_opened_63 (by decide) (fun c4 => ?_) (fun c4 => ?_)
          · skip
            have e8 : zm_w po pw j k = 0 := if_neg c4
            refine lv_iconst (v := 0) hx hb dX6_opened_76 (by decide) ?_
            refine lv_istore (lv' := [(7, .int 0), (0, .ref m0), (1, .int (nI j)), (2, .long (zs_wof po pw (po j) k)), (4, .long (zs_wof po pw (po j) (min k (j + 1)))), (6, .int (nI k))]) hx hb dX6_opened_77 hl (by decide) rfl (fun ls hl => ?_)
            have hl : lv_has ls 12 [(7, .int (zm_w po pw j k)), (0, .ref m0), (1, .int (nI j)), (2, .long (zs_wof po pw (po j) k)), (4, .long (zs_wof po pw (po j) (min k (j + 1)))), (6, .int (nI k))] := by rw [e8]; exact hl
            refine lv_lload_n hx hb dX6_opened_79 rfl (lv_at hl 3 rfl) ?_
            refine lv_iload hx hb dX6_opened_80 (lv_at hl 0 rfl) ?_
            refine lv_i2l (v := (zm_w po pw j k).toInt64) hx hb dX6_opened_82 rfl ?_
            refine lv_ladd hx hb dX6_opened_83 ?_
            rw [show ((zs_wof po pw (po j) k) + ((zm_w po pw j k).toInt64)) = zs_wof po pw (po j) (k + 1) from (zm_w_all po pw j k).symm]
            refine lv_lstore_n (lv' := [(2, .long (zs_wof po pw (po j) (k + 1))), (7, .int (zm_w po pw j k)), (0, .ref m0), (1, .int (nI j)), (4, .long (zs_wof po pw (po j) (min k (j + 1)))), (6, .int (nI k))]) hx hb dX6_opened_84 rfl hl (by decide) rfl (fun ls hl => ?_)
            refine lv_lload hx hb dX6_opened_85 (lv_at hl 4 rfl) ?_
            refine lv_iload hx hb dX6_opened_87 (lv_at hl 5 rfl) ?_
            refine lv_iload_n hx hb dX6_opened_89 rfl (lv_at hl 3 rfl) ?_
            refine lv_icmp_gt (tgt := 99) hx hb dX6_opened_90 (by decide) (fun c5 => ?_) (fun c5 => ?_)
            · skip
              have hm : zs_wof po pw (po j) (min (k + 1) (j + 1)) = zs_wof po pw (po j) (min k (j + 1)) + 0 := zm_w_hi po pw j k (by have := (nI_ltI (a := j) (b := k) (by omega) (by omega)).mp c5; omega)
              refine lv_lconst (v := 0) hx hb dX6_opened_99 (by decide) ?_
              refine lv_ladd hx hb dX6_opened_100 ?_
              rw [show ((zs_wof po pw (po j) (min k (j + 1))) + 0) = zs_wof po pw (po j) (min (k + 1) (j + 1)) from hm.symm]
              refine lv_lstore (lv' := [(4, .long (zs_wof po pw (po j) (min (k + 1) (j + 1)))), (2, .long (zs_wof po pw (po j) (k + 1))), (7, .int (zm_w po pw j k)), (0, .ref m0), (1, .int (nI j)), (6, .int (nI k))]) hx hb dX6_opened_101 hl (by decide) rfl (fun ls hl => ?_)
              refine lv_iinc (v := nI (k + 1)) (lv' := [(6, .int (nI (k + 1))), (4, .long (zs_wof po pw (po j) (min (k + 1) (j + 1)))), (2, .long (zs_wof po pw (po j) (k + 1))), (7, .int (zm_w po pw j k)), (0, .ref m0), (1, .int (nI j))]) hx hb dX6_opened_103 hl (k := 5) rfl (nI_1 k) (by decide) rfl (fun ls hl => ?_)
              refine lv_goto (tgt := 41) hx hb dX6_opened_106 (by decide) ?_
              exact ih_lo1 (k + 1) (Nat.succ_le_of_lt hk) (by omega)  _ _ (hP.sub [0, 1, 2, 3, 4] rfl) (hD.sub [0, 1, 2, 3, 4] (by decide) rfl) hS ls (lv_sub hl [4, 5, 2, 1, 0] rfl)
            have hm : zs_wof po pw (po j) (min (k + 1) (j + 1)) = zs_wof po pw (po j) (min k (j + 1)) + (zm_w po pw j k).toInt64 := zm_w_lo po pw j k (Nat.le_of_not_lt (fun h => c5 ((nI_ltI (by omega) (by omega)).mpr h)))
            refine lv_iload hx hb dX6_opened_93 (lv_at hl 1 rfl) ?_
            refine lv_i2l (v := (zm_w po pw j k).toInt64) hx hb dX6_opened_95 rfl ?_
            refine lv_goto (tgt := 100) hx hb dX6_opened_96 (by decide) ?_
            refine lv_ladd hx hb dX6_opened_100 ?_
            rw [show ((zs_wof po pw (po j) (min k (j + 1))) + ((zm_w po pw j k).toInt64)) = zs_wof po pw (po j) (min (k + 1) (j + 1)) from hm.symm]
            refine lv_lstore (lv' := [(4, .long (zs_wof po pw (po j) (min (k + 1) (j + 1)))), (2, .long (zs_wof po pw (po j) (k + 1))), (7, .int (zm_w po pw j k)), (0, .ref m0), (1, .int (nI j)), (6, .int (nI k))]) hx hb dX6_opened_101 hl (by decide) rfl (fun ls hl => ?_)
            refine lv_iinc (v := nI (k + 1)) (lv' := [(6, .int (nI (k + 1))), (4, .long (zs_wof po pw (po j) (min (k + 1) (j + 1)))), (2, .long (zs_wof po pw (po j) (k + 1))), (7, .int (zm_w po pw j k)), (0, .ref m0), (1, .int (nI j))]) hx hb dX6_opened_103 hl (k := 5) rfl (nI_1 k) (by decide) rfl (fun ls hl => ?_)
            refine lv_goto (tgt := 41) hx hb dX6_opened_106 (by decide) ?_
            exact ih_lo1 (k + 1) (Nat.succ_le_of_lt hk) (by omega)  _ _ (hP.sub [0, 1, 2, 3, 4] rfl) (hD.sub [0, 1, 2, 3, 4] (by decide) rfl) hS ls (lv_sub hl [4, 5, 2, 1, 0] rfl)
          have e8 : zm_w po pw j k = pw k := if_pos c4
          refine lv_aload_n hx hb dX6_opened_66 rfl (lv_at hl 0 rfl) ?_
          refine va_get (D := D.1) (ci := 6) (v := .ref m14) (C := "ShopLedgerModel") (T := TX6) (N := 20) hx hb hZ inX6 hown hK hP 4 rfl rfl 19 (by decide) (hZ _ t_299) (fun _ h9 => h9) rfl dX6_opened_67 ?_
          refine lv_iload hx hb dX6_opened_70 (lv_at hl 4 rfl) ?_
          refine z_iald (k := k) hx hb hK hP 3 rfl (by omega) (by decide) dX6_opened_72 ?_
          refine lv_goto (tgt := 77) hx hb dX6_opened_73 (by decide) ?_
          refine lv_istore (lv' := [(7, .int (pw k)), (0, .ref m0), (1, .int (nI j)), (2, .long (zs_wof po pw (po j) k)), (4, .long (zs_wof po pw (po j) (min k (j + 1)))), (6, .int (nI k))]) hx hb dX6_opened_77 hl (by decide) rfl (fun ls hl => ?_)
          have hl : lv_has ls 12 [(7, .int (zm_w po pw j k)), (0, .ref m0), (1, .int (nI j)), (2, .long (zs_wof po pw (po j) k)), (4, .long (zs_wof po pw (po j) (min k (j + 1)))), (6, .int (nI k))] := by rw [e8]; exact hl
          refine lv_lload_n hx hb dX6_opened_79 rfl (lv_at hl 3 rfl) ?_
          refine lv_iload hx hb dX6_opened_80 (lv_at hl 0 rfl) ?_
          refine lv_i2l (v := (zm_w po pw j k).toInt64) hx hb dX6_opened_82 rfl ?_
          refine lv_ladd hx hb dX6_opened_83 ?_
          rw [show ((zs_wof po pw (po j) k) + ((zm_w po pw j k).toInt64)) = zs_wof po pw (po j) (k + 1) from (zm_w_all po pw j k).symm]
          refine lv_lstore_n (lv' := [(2, .long (zs_wof po pw (po j) (k + 1))), (7, .int (zm_w po pw j k)), (0, .ref m0), (1, .int (nI j)), (4, .long (zs_wof po pw (po j) (min k (j + 1)))), (6, .int (nI k))]) hx hb dX6_opened_84 rfl hl (by decide) rfl (fun ls hl => ?_)
          refine lv_lload hx hb dX6_opened_85 (lv_at hl 4 rfl) ?_
          refine lv_iload hx hb dX6_opened_87 (lv_at hl 5 rfl) ?_
          refine lv_iload_n hx hb dX6_opened_89 rfl (lv_at hl 3 rfl) ?_
          refine lv_icmp_gt (tgt := 99) hx hb dX6_opened_90 (by decide) (fun c5 => ?_) (fun c5 => ?_)
          · skip
            have hm : zs_wof po pw (po j) (min (k + 1) (j + 1)) = zs_wof po pw (po j) (min k (j + 1)) + 0 := zm_w_hi po pw j k (by have := (nI_ltI (a := j) (b := k) (by omega) (by omega)).mp c5; omega)
            refine lv_lconst (v := 0) hx hb dX6_opened_99 (by decide) ?_
            refine lv_ladd hx hb dX6_opened_100 ?_
            rw [show ((zs_wof po pw (po j) (min k (j + 1))) + 0) = zs_wof po pw (po j) (min (k + 1) (j + 1)) from hm.symm]
            refine lv_lstore (lv' := [(4, .long (zs_wof po pw (po j) (min (k + 1) (j + 1)))), (2, .long (zs_wof po pw (po j) (k + 1))), (7, .int (zm_w po pw j k)), (0, .ref m0), (1, .int (nI j)), (6, .int (nI k))]) hx hb dX6_opened_101 hl (by decide) rfl (fun ls hl => ?_)
            refine lv_iinc (v := nI (k + 1)) (lv' := [(6, .int (nI (k + 1))), (4, .long (zs_wof po pw (po j) (min (k + 1) (j + 1)))), (2, .long (zs_wof po pw (po j) (k + 1))), (7, .int (zm_w po pw j k)), (0, .ref m0), (1, .int (nI j))]) hx hb dX6_opened_103 hl (k := 5) rfl (nI_1 k) (by decide) rfl (fun ls hl => ?_)
            refine lv_goto (tgt := 41) hx hb dX6_opened_106 (by decide) ?_
            exact ih_lo1 (k + 1) (Nat.succ_le_of_lt hk) (by omega)  _ _ (hP.sub [0, 1, 2, 3, 4] rfl) (hD.sub [0, 1, 2, 3, 4] (by decide) rfl) hS ls (lv_sub hl [4, 5, 2, 1, 0] rfl)
          have hm : zs_wof po pw (po j) (min (k + 1) (j + 1)) = zs_wof po pw (po j) (min k (j + 1)) + (zm_w po pw j k).toInt64 := zm_w_lo po pw j k (Nat.le_of_not_lt (fun h => c5 ((nI_ltI (by omega) (by omega)).mpr h)))
          refine lv_iload hx hb dX6_opened_93 (lv_at hl 1 rfl) ?_
          refine lv_i2l (v := (zm_w po pw j k).toInt64) hx hb dX6_opened_95 rfl ?_
          refine lv_goto (tgt := 100) hx hb dX6_opened_96 (by decide) ?_
          refine lv_ladd hx hb dX6_opened_100 ?_
          rw [show ((zs_wof po pw (po j) (min k (j + 1))) + ((zm_w po pw j k).toInt64)) = zs_wof po pw (po j) (min (k + 1) (j + 1)) from hm.symm]
          refine lv_lstore (lv' := [(4, .long (zs_wof po pw (po j) (min (k + 1) (j + 1)))), (2, .long (zs_wof po pw (po j) (k + 1))), (7, .int (zm_w po pw j k)), (0, .ref m0), (1, .int (nI j)), (6, .int (nI k))]) hx hb dX6_opened_101 hl (by decide) rfl (fun ls hl => ?_)
          refine lv_iinc (v := nI (k + 1)) (lv' := [(6, .int (nI (k + 1))), (4, .long (zs_wof po pw (po j) (min (k + 1) (j + 1)))), (2, .long (zs_wof po pw (po j) (k + 1))), (7, .int (zm_w po pw j k)), (0, .ref m0), (1, .int (nI j))]) hx hb dX6_opened_103 hl (k := 5) rfl (nI_1 k) (by decide) rfl (fun ls hl => ?_)
          refine lv_goto (tgt := 41) hx hb dX6_opened_106 (by decide) ?_
          exact ih_lo1 (k + 1) (Nat.succ_le_of_lt hk) (by omega)  _ _ (hP.sub [0, 1, 2, 3, 4] rfl) (hD.sub [0, 1, 2, 3, 4] (by decide) rfl) hS ls (lv_sub hl [4, 5, 2, 1, 0] rfl)
      exact lo1 (pn + 1) 0 (Nat.zero_le _) (by omega)  _ _ (hP.sub [0, 1, 2, 3, 4] rfl) (hD.sub [0, 1, 2, 3, 4] (by decide) rfl) hS ls (lv_sub hl [3, 4, 2, 1, 0] rfl)
    exfalso; exact absurd c2 (by decide)
  exfalso; exact z_b0 f1 c1 ⟨nI_pos (by omega), nI_ge hj (by omega)⟩
set_option maxHeartbeats 4000000 in
set_option maxRecDepth 100000 in
/-- the reference: opened -/
theorem d_openedX {l : Launch} (D : zD) (m0 m1 m2 m3 m4 m5 m6 m7 m8 m9 m10 m11 m12 m13 m14 : Nat) (M : zM) (bt ln cl pn : Nat) (th : Int32) (p1 : Int32) (sz : Nat) (hn : pn ≤ 10) (hp : ¬ zin p1 (nI pn)) : Met l yX6_opened wsX6_opened ({ frames := 1, cells := 0, slots := 0, locals := 25 }) (va_Pc [.ref m0, .int p1] (zp D sz [(m0, .inr (6, [.int th, .int (nI M.1), .ref m1, .ref m2, .int (nI bt), .ref m3, .int (nI ln), .ref m4, .ref m5, .int (nI cl), .ref m6, .ref m7, .ref m8, .ref m9, .ref m10, .ref m11, .ref m12, .int (nI pn), .ref m13, .ref m14]))])) (va_Ql (fun r (u : Option Int32) => (u = none ∧ (zin p1 (nI pn)) ∧ r = 0) ∨ (u = some 1 ∧ ¬ (zin p1 (nI pn)))) (zq D (va_A [(m0, .inr (6, [.int th, .int (nI M.1), .ref m1, .ref m2, .int (nI bt), .ref m3, .int (nI ln), .ref m4, .ref m5, .int (nI cl), .ref m6, .ref m7, .ref m8, .ref m9, .ref m10, .ref m11, .ref m12, .int (nI pn), .ref m13, .ref m14]))] sz) (fun (u : Option Int32) => (u.elim [(m0, .inr (6, [.int 0, .int (nI M.1), .ref m1, .ref m2, .int (nI bt), .ref m3, .int (nI ln), .ref m4, .ref m5, .int (nI cl), .ref m6, .ref m7, .ref m8, .ref m9, .ref m10, .ref m11, .ref m12, .int (nI pn), .ref m13, .ref m14]))] (fun t => [(m0, .inr (6, [.int t, .int (nI M.1), .ref m1, .ref m2, .int (nI bt), .ref m3, .int (nI ln), .ref m4, .ref m5, .int (nI cl), .ref m6, .ref m7, .ref m8, .ref m9, .ref m10, .ref m11, .ref m12, .int (nI pn), .ref m13, .ref m14]))]) : va_W))) (va_A [(m0, .inr (6, [.int th, .int (nI M.1), .ref m1, .ref m2, .int (nI bt), .ref m3, .int (nI ln), .ref m4, .ref m5, .int (nI cl), .ref m6, .ref m7, .ref m8, .ref m9, .ref m10, .ref m11, .ref m12, .int (nI pn), .ref m13, .ref m14]))] sz)) 0 0 (va_A [(m0, .inr (6, [.int th, .int (nI M.1), .ref m1, .ref m2, .int (nI bt), .ref m3, .int (nI ln), .ref m4, .ref m5, .int (nI cl), .ref m6, .ref m7, .ref m8, .ref m9, .ref m10, .ref m11, .ref m12, .int (nI pn), .ref m13, .ref m14]))] sz) := by
  refine Met.ofW (cc := cX6_opened) (maxL := 12) (ret := (some .long)) (by decide) rfl ?_
  intro p e s m args below meth c s₁ B hml hv
  obtain ⟨rfl, hsz, hP, hK, hD0, hB⟩ := hv
  have hx := B.exec
  have hb := B.bytes
  have hr := B.returns
  have hts := atoms_spec (ws := wsX6_opened) B.pre
  have hown : s.vm.findClass "ShopLedgerModel" = some m.cls := findClass_of_methodNamed B.named
  have hlocks := B.notSynchronized
  subst hsz
  have hD := hD0.self (sz := s.heap.size)
  generalize hAe : va_A [(m0, .inr (6, [.int th, .int (nI M.1), .ref m1, .ref m2, .int (nI bt), .ref m3, .int (nI ln), .ref m4, .ref m5, .int (nI cl), .ref m6, .ref m7, .ref m8, .ref m9, .ref m10, .ref m11, .ref m12, .int (nI pn), .ref m13, .ref m14]))] s.heap.size = A at hD hB ⊢
  have hA : ∀ q : Nat, s.heap.size ≤ q → A q := fun q h => by rw [← hAe]; exact Or.inr h
  have hS : va_S A s.heap s.heap [] := va_S.rf
  have hZ : ∀ w ∈ zALL, w.before _ s = true := fun w h => hts w (List.mem_cons_of_mem _ h)
  have hF : CallFix p m c cX6_opened 12 s _ zALL "ShopLedgerModel" := ⟨hx, hb, hml, hown, hZ⟩
  have hl := lv_entry ([.ref m0, .int p1]) (n := 12) (Nat.le_of_ble_eq_true rfl)
  rw [lg_entry_eq]
  generalize (lg_sl ([.ref m0, .int p1]) ++ List.replicate (12 - (lg_sl ([.ref m0, .int p1])).length) Slot.unset).toArray = ls at hl ⊢
  have hl : lv_has ls 12 [(0, .ref m0), (1, .int p1)] := hl
  refine lv_aload_n hx hb dX6_opened_0 rfl (lv_at hl 0 rfl) ?_
  refine lv_iload_n hx hb dX6_opened_1 rfl (lv_at hl 1 rfl) ?_
  refine lv_i2l (v := p1.toInt64) hx hb dX6_opened_2 rfl ?_
  refine lv_lconst (v := 0) hx hb dX6_opened_3 (by decide) ?_
  refine lv_aload_n hx hb dX6_opened_4 rfl (lv_at hl 0 rfl) ?_
  refine va_get (D := D.1) (ci := 6) (v := .int (nI pn)) (C := "ShopLedgerModel") (T := TX6) (N := 20) hx hb hZ inX6 hown hK hP 0 rfl rfl 17 (by decide) (hZ _ t_295) (fun _ h9 => h9) rfl dX6_opened_5 ?_
  refine lv_iconst (v := 1) hx hb dX6_opened_8 (by decide) ?_
  refine lv_isub hx hb dX6_opened_9 ?_
  refine lv_i2l (v := ((nI pn) - 1).toInt64) hx hb dX6_opened_10 rfl ?_
  have J := zJ.mk (wc := []) (wr := [(m0, .inr (6, [.int th, .int (nI M.1), .ref m1, .ref m2, .int (nI bt), .ref m3, .int (nI ln), .ref m4, .ref m5, .int (nI cl), .ref m6, .ref m7, .ref m8, .ref m9, .ref m10, .ref m11, .ref m12, .int (nI pn), .ref m13, .ref m14]))]) hA hB hK hP hD hS [] [0] rfl rfl (by decide)
  refine z_goi (z_runS (As := [.long p1.toInt64, .long 0, .long (((nI pn) - 1).toInt64)]) (rest := [.ref m0]) hF (d_lies D p1.toInt64 0 (nI pn - 1).toInt64 s.heap.size) (va_cwS 3 hZ (z_gS t_273 t_274 t_272 t_271) rfl rfl rfl (by decide +kernel) ⟨Nat.le_of_ble_eq_true rfl, Nat.le_of_ble_eq_true rfl⟩) J rfl hl.1 (Nat.le_of_ble_eq_true rfl) dX6_opened_11 ⟨Nat.le_of_ble_eq_true rfl, Nat.le_of_ble_eq_true rfl⟩) J (fun r1 _ H locs w1 hP hD hS => ?_)
  have hP : va_P D.1 vwCl [(m0, .inr (6, [.int th, .int (nI M.1), .ref m1, .ref m2, .int (nI bt), .ref m3, .int (nI ln), .ref m4, .ref m5, .int (nI cl), .ref m6, .ref m7, .ref m8, .ref m9, .ref m10, .ref m11, .ref m12, .int (nI pn), .ref m13, .ref m14]))] H := hP
  have hD : va_D A [(m0, .inr (6, [.int th, .int (nI M.1), .ref m1, .ref m2, .int (nI bt), .ref m3, .int (nI ln), .ref m4, .ref m5, .int (nI cl), .ref m6, .ref m7, .ref m8, .ref m9, .ref m10, .ref m11, .ref m12, .int (nI pn), .ref m13, .ref m14]))] := hD
  have f1 := z_lzn pn (by omega) w1
  refine lv_if_ne (tgt := 21) hx hb dX6_opened_14 (by decide) (fun c1 => ?_) (fun c1 => ?_)
  · skip
    exfalso; exact hp (z_b1 f1 c1)
  refine lv_iconst (v := 1) hx hb dX6_opened_17 (by decide) ?_
  refine lv_goto (tgt := 22) hx hb dX6_opened_18 (by decide) ?_
  refine lv_iconst (v := 0) hx hb dX6_opened_22 (by decide) ?_
  refine lv_iconst (v := 0) hx hb dX6_opened_23 (by decide) ?_
  refine lv_iconst (v := 0) hx hb dX6_opened_24 (by decide) ?_
  have J := zJ.mk (wc := [(m0, .inr (6, [.int th, .int (nI M.1), .ref m1, .ref m2, .int (nI bt), .ref m3, .int (nI ln), .ref m4, .ref m5, .int (nI cl), .ref m6, .ref m7, .ref m8, .ref m9, .ref m10, .ref m11, .ref m12, .int (nI pn), .ref m13, .ref m14]))]) (wr := []) hA hB hK hP hD hS [0] [] rfl rfl (by decide)
  refine z_goi (z_runV (As := [.int 1, .int 0, .int 0, .int 0]) (rest := []) (b := m0) hF (d_throwing D m0 m1 m2 m3 m4 m5 m6 m7 m8 m9 m10 m11 m12 m13 m14 (M.1, fun _ => 0, fun _ => 0) bt ln cl pn th 1 0 0 0 H.size) (cwV 4 hZ (z_gV t_286 t_287 t_288 t_272 t_285) rfl rfl rfl (by decide +kernel) ⟨Nat.le_of_ble_eq_true rfl, Nat.le_of_ble_eq_true rfl⟩) J 0 6 rfl rfl rfl rfl hl.1 (Nat.le_of_ble_eq_true rfl) dX6_opened_25 ⟨Nat.le_of_ble_eq_true rfl, Nat.le_of_ble_eq_true rfl⟩) J (fun r2 _ H locs w2 hP hD hS => ?_)
  have hP : va_P D.1 vwCl [(m0, .inr (6, [.int 1, .int (nI M.1), .ref m1, .ref m2, .int (nI bt), .ref m3, .int (nI ln), .ref m4, .ref m5, .int (nI cl), .ref m6, .ref m7, .ref m8, .ref m9, .ref m10, .ref m11, .ref m12, .int (nI pn), .ref m13, .ref m14]))] H := hP
  have hD : va_D A [(m0, .inr (6, [.int 1, .int (nI M.1), .ref m1, .ref m2, .int (nI bt), .ref m3, .int (nI ln), .ref m4, .ref m5, .int (nI cl), .ref m6, .ref m7, .ref m8, .ref m9, .ref m10, .ref m11, .ref m12, .int (nI pn), .ref m13, .ref m14]))] := hD
  have w2 : r2 = 1 := w2
  subst w2
  refine lv_if_eq (tgt := 33) hx hb dX6_opened_28 (by decide) (fun c2 => ?_) (fun c2 => ?_)
  · skip
    exfalso; exact absurd c2 (by decide)
  refine lv_lconst (v := 0) hx hb dX6_opened_31 (by decide) ?_
  exact z_lret (v := 0) hx hb hr hlocks hP hD hS (some 1) (Or.inr (⟨rfl, hp⟩)) [0] rfl (by decide) (Nat.le_of_ble_eq_true rfl) (Nat.le_of_ble_eq_true rfl) dX6_opened_32
set_option maxHeartbeats 4000000 in
set_option maxRecDepth 100000 in
/-- the reference: made -/
theorem d_init {l : Launch} (D : zD) (m0 : Nat) (sz : Nat) : Met l yX6_init wsX6_init ({ frames := 1, cells := 14, slots := 1455, locals := 12 }) (va_Pc [.ref m0] (zp D sz [(m0, .inr (6, [.int 0, .int 0, .null, .null, .int 0, .null, .int 0, .null, .null, .int 0, .null, .null, .null, .null, .null, .null, .null, .int 0, .null, .null]))])) (va_Qv (fun (_ : Nat → Nat) => True) (zq D (va_A [(m0, .inr (6, [.int 0, .int 0, .null, .null, .int 0, .null, .int 0, .null, .null, .int 0, .null, .null, .null, .null, .null, .null, .null, .int 0, .null, .null]))] sz) (fun (u : Nat → Nat) => ([(m0, .inr (6, [.int 0, .int 0, .ref (u 0), .ref (u 1), .int 0, .ref (u 2), .int 0, .ref (u 3), .ref (u 4), .int 0, .ref (u 5), .ref (u 6), .ref (u 7), .ref (u 8), .ref (u 9), .ref (u 10), .ref (u 11), .int 0, .ref (u 12), .ref (u 13)])), (u 0, .inl (D.2 0, 800, .inl (fun _ => 0))), (u 1, .inl (D.2 0, 200, .inl (fun _ => 0))), (u 2, .inl (D.2 0, 200, .inl (fun _ => 0))), (u 3, .inl (D.2 0, 48, .inl (fun _ => 0))), (u 4, .inl (D.2 0, 16, .inl (fun _ => 0))), (u 5, .inl (D.2 0, 8, .inl (fun _ => 0))), (u 6, .inl (D.2 0, 4, .inl (fun _ => 0))), (u 7, .inl (D.2 0, 48, .inl (fun _ => 0))), (u 8, .inl (D.2 0, 48, .inl (fun _ => 0))), (u 9, .inl (D.2 0, 3, .inl (fun _ => 0))), (u 10, .inl (D.2 0, 30, .inl (fun _ => 0))), (u 11, .inl (D.2 0, 30, .inl (fun _ => 0))), (u 12, .inl (D.2 0, 10, .inl (fun _ => 0))), (u 13, .inl (D.2 0, 10, .inl (fun _ => 0)))] : va_W))) (va_A [(m0, .inr (6, [.int 0, .int 0, .null, .null, .int 0, .null, .int 0, .null, .null, .int 0, .null, .null, .null, .null, .null, .null, .null, .int 0, .null, .null]))] sz)) 14 1455 (va_A [(m0, .inr (6, [.int 0, .int 0, .null, .null, .int 0, .null, .int 0, .null, .null, .int 0, .null, .null, .null, .null, .null, .null, .null, .int 0, .null, .null]))] sz) := by
  refine Met.ofW (cc := cX6_init) (maxL := 1) (ret := none) (by decide) rfl ?_
  intro p e s m args below meth c s₁ B hml hv
  obtain ⟨rfl, hsz, hP, hK, hD0, hB⟩ := hv
  have hx := B.exec
  have hb := B.bytes
  have hr := B.returns
  have hts := atoms_spec (ws := wsX6_init) B.pre
  have hown : s.vm.findClass "ShopLedgerModel" = some m.cls := findClass_of_methodNamed B.named
  have hlocks := B.notSynchronized
  have hin : meth.name = "<init>" := (name_of_methodNamed B.named B.method).1
  subst hsz
  have hD := hD0.self (sz := s.heap.size)
  generalize hAe : va_A [(m0, .inr (6, [.int 0, .int 0, .null, .null, .int 0, .null, .int 0, .null, .null, .int 0, .null, .null, .null, .null, .null, .null, .null, .int 0, .null, .null]))] s.heap.size = A at hD hB ⊢
  have hA : ∀ q : Nat, s.heap.size ≤ q → A q := fun q h => by rw [← hAe]; exact Or.inr h
  have hS : va_S A s.heap s.heap [] := va_S.rf
  have hZ : ∀ w ∈ zALL, w.before _ s = true := fun w h => hts w (List.mem_cons_of_mem _ h)
  have hF : CallFix p m c cX6_init 1 s _ zALL "ShopLedgerModel" := ⟨hx, hb, hml, hown, hZ⟩
  have hl := lv_entry ([.ref m0]) (n := 1) (Nat.le_of_ble_eq_true rfl)
  rw [lg_entry_eq]
  generalize (lg_sl ([.ref m0]) ++ List.replicate (1 - (lg_sl ([.ref m0])).length) Slot.unset).toArray = ls at hl ⊢
  have hl : lv_has ls 1 [(0, .ref m0)] := hl
  refine lv_aload_n hx hb dX6_init_0 rfl (lv_at hl 0 rfl) ?_
  refine W.objInit hx hb hown (hZ _ t_328) (hZ _ t_172) (hZ _ t_obj) rfl (by rw [hml]; exact hl.1) rfl dX6_init_1 (Nat.le_of_ble_eq_true rfl) (Nat.le_of_ble_eq_true rfl) ?_
  refine W.eq (g2 := F0 m 4 ls []) rfl ?_
  refine lv_aload_n hx hb dX6_init_4 rfl (lv_at hl 0 rfl) ?_
  refine lv_sipush (v := 800) hx hb dX6_init_5 (by decide) ?_
  refine va_newa (atype := .int) (ty := .int) (a0 := (800, .inl (fun _ => 0))) hx hb (hZ _ t_173) rfl hK hP hD hS hA (fun _ => rfl) (by decide) (by decide) (by decide) (Nat.le_of_ble_eq_true rfl) (Nat.le_of_ble_eq_true rfl) dX6_init_8 (fun m1 cA H hK9 hP hD hS => ?_)
  have e9 := z_cai hK9
  subst e9
  have hP : va_P D.1 vwCl [(m0, .inr (6, [.int 0, .int 0, .null, .null, .int 0, .null, .int 0, .null, .null, .int 0, .null, .null, .null, .null, .null, .null, .null, .int 0, .null, .null])), (m1, .inl (D.2 0, 800, .inl (fun _ => 0)))] H := hP
  have hD : va_D A [(m0, .inr (6, [.int 0, .int 0, .null, .null, .int 0, .null, .int 0, .null, .null, .int 0, .null, .null, .null, .null, .null, .null, .null, .int 0, .null, .null])), (m1, .inl (D.2 0, 800, .inl (fun _ => 0)))] := hD
  refine va_putF (D := D.1) (ci := 6) (v := .ref m1) (ty := .array .int) (C := "ShopLedgerModel") (T := TX6) (N := 20) hx hb hZ inX6 tyX6 tyX6_ok nmX6 hown hK hP hD hS 0 rfl rfl 2 (by decide) (hZ _ t_276) (fun _ h9 => h9) rfl hin rfl (by decide +kernel) rfl rfl (Nat.le_of_ble_eq_true rfl) dX6_init_10 (fun H locs hP hD hS => ?_)
  have hP : va_P D.1 vwCl [(m0, .inr (6, [.int 0, .int 0, .ref m1, .null, .int 0, .null, .int 0, .null, .null, .int 0, .null, .null, .null, .null, .null, .null, .null, .int 0, .null, .null])), (m1, .inl (D.2 0, 800, .inl (fun _ => 0)))] H := hP
  have hD : va_D A [(m0, .inr (6, [.int 0, .int 0, .ref m1, .null, .int 0, .null, .int 0, .null, .null, .int 0, .null, .null, .null, .null, .null, .null, .null, .int 0, .null, .null])), (m1, .inl (D.2 0, 800, .inl (fun _ => 0)))] := hD
  refine lv_aload_n hx hb dX6_init_13 rfl (lv_at hl 0 rfl) ?_
  refine lv_sipush (v := 200) hx hb dX6_init_14 (by decide) ?_
  refine va_newa (atype := .int) (ty := .int) (a0 := (200, .inl (fun _ => 0))) hx hb (hZ _ t_173) rfl hK hP hD hS hA (fun _ => rfl) (by decide) (by decide) (by decide) (Nat.le_of_ble_eq_true rfl) (Nat.le_of_ble_eq_true rfl) dX6_init_17 (fun m2 cA H hK9 hP hD hS => ?_)
  have e9 := z_cai hK9
  subst e9
  have hP : va_P D.1 vwCl [(m0, .inr (6, [.int 0, .int 0, .ref m1, .null, .int 0, .null, .int 0, .null, .null, .int 0, .null, .null, .null, .null, .null, .null, .null, .int 0, .null, .null])), (m1, .inl (D.2 0, 800, .inl (fun _ => 0))), (m2, .inl (D.2 0, 200, .inl (fun _ => 0)))] H := hP
  have hD : va_D A [(m0, .inr (6, [.int 0, .int 0, .ref m1, .null, .int 0, .null, .int 0, .null, .null, .int 0, .null, .null, .null, .null, .null, .null, .null, .int 0, .null, .null])), (m1, .inl (D.2 0, 800, .inl (fun _ => 0))), (m2, .inl (D.2 0, 200, .inl (fun _ => 0)))] := hD
  refine va_putF (D := D.1) (ci := 6) (v := .ref m2) (ty := .array .int) (C := "ShopLedgerModel") (T := TX6) (N := 20) hx hb hZ inX6 tyX6 tyX6_ok nmX6 hown hK hP hD hS 0 rfl rfl 3 (by decide) (hZ _ t_279) (fun _ h9 => h9) rfl hin rfl (by decide +kernel) rfl rfl (Nat.le_of_ble_eq_true rfl) dX6_init_19 (fun H locs hP hD hS => ?_)
  have hP : va_P D.1 vwCl [(m0, .inr (6, [.int 0, .int 0, .ref m1, .ref m2, .int 0, .null, .int 0, .null, .null, .int 0, .null, .null, .null, .null, .null, .null, .null, .int 0, .null, .null])), (m1, .inl (D.2 0, 800, .inl (fun _ => 0))), (m2, .inl (D.2 0, 200, .inl (fun _ => 0)))] H := hP
  have hD : va_D A [(m0, .inr (6, [.int 0, .int 0, .ref m1, .ref m2, .int 0, .null, .int 0, .null, .null, .int 0, .null, .null, .null, .null, .null, .null, .null, .int 0, .null, .null])), (m1, .inl (D.2 0, 800, .inl (fun _ => 0))), (m2, .inl (D.2 0, 200, .inl (fun _ => 0)))] := hD
  refine lv_aload_n hx hb dX6_init_22 rfl (lv_at hl 0 rfl) ?_
  refine lv_sipush (v := 200) hx hb dX6_init_23 (by decide) ?_
  refine va_newa (atype := .int) (ty := .int) (a0 := (200, .inl (fun _ => 0))) hx hb (hZ _ t_173) rfl hK hP hD hS hA (fun _ => rfl) (by decide) (by decide) (by decide) (Nat.le_of_ble_eq_true rfl) (Nat.le_of_ble_eq_true rfl) dX6_init_26 (fun m3 cA H hK9 hP hD hS => ?_)
  have e9 := z_cai hK9
  subst e9
  have hP : va_P D.1 vwCl [(m0, .inr (6, [.int 0, .int 0, .ref m1, .ref m2, .int 0, .null, .int 0, .null, .null, .int 0, .null, .null, .null, .null, .null, .null, .null, .int 0, .null, .null])), (m1, .inl (D.2 0, 800, .inl (fun _ => 0))), (m2, .inl (D.2 0, 200, .inl (fun _ => 0))), (m3, .inl (D.2 0, 200, .inl (fun _ => 0)))] H := hP
  have hD : va_D A [(m0, .inr (6, [.int 0, .int 0, .ref m1, .ref m2, .int 0, .null, .int 0, .null, .null, .int 0, .null, .null, .null, .null, .null, .null, .null, .int 0, .null, .null])), (m1, .inl (D.2 0, 800, .inl (fun _ => 0))), (m2, .inl (D.2 0, 200, .inl (fun _ => 0))), (m3, .inl (D.2 0, 200, .inl (fun _ => 0)))] := hD
  refine va_putF (D := D.1) (ci := 6) (v := .ref m3) (ty := .array .int) (C := "ShopLedgerModel") (T := TX6) (N := 20) hx hb hZ inX6 tyX6 tyX6_ok nmX6 hown hK hP hD hS 0 rfl rfl 5 (by decide) (hZ _ t_280) (fun _ h9 => h9) rfl hin rfl (by decide +kernel) rfl rfl (Nat.le_of_ble_eq_true rfl) dX6_init_28 (fun H locs hP hD hS => ?_)
  have hP : va_P D.1 vwCl [(m0, .inr (6, [.int 0, .int 0, .ref m1, .ref m2, .int 0, .ref m3, .int 0, .null, .null, .int 0, .null, .null, .null, .null, .null, .null, .null, .int 0, .null, .null])), (m1, .inl (D.2 0, 800, .inl (fun _ => 0))), (m2, .inl (D.2 0, 200, .inl (fun _ => 0))), (m3, .inl (D.2 0, 200, .inl (fun _ => 0)))] H := hP
  have hD : va_D A [(m0, .inr (6, [.int 0, .int 0, .ref m1, .ref m2, .int 0, .ref m3, .int 0, .null, .null, .int 0, .null, .null, .null, .null, .null, .null, .null, .int 0, .null, .null])), (m1, .inl (D.2 0, 800, .inl (fun _ => 0))), (m2, .inl (D.2 0, 200, .inl (fun _ => 0))), (m3, .inl (D.2 0, 200, .inl (fun _ => 0)))] := hD
  refine lv_aload_n hx hb dX6_init_31 rfl (lv_at hl 0 rfl) ?_
  refine lv_bipush (v := 48) hx hb dX6_init_32 (by decide) ?_
  refine va_newa (atype := .int) (ty := .int) (a0 := (48, .inl (fun _ => 0))) hx hb (hZ _ t_173) rfl hK hP hD hS hA (fun _ => rfl) (by decide) (by decide) (by decide) (Nat.le_of_ble_eq_true rfl) (Nat.le_of_ble_eq_true rfl) dX6_init_34 (fun m4 cA H hK9 hP hD hS => ?_)
  have e9 := z_cai hK9
  subst e9
  have hP : va_P D.1 vwCl [(m0, .inr (6, [.int 0, .int 0, .ref m1, .ref m2, .int 0, .ref m3, .int 0, .null, .null, .int 0, .null, .null, .null, .null, .null, .null, .null, .int 0, .null, .null])), (m1, .inl (D.2 0, 800, .inl (fun _ => 0))), (m2, .inl (D.2 0, 200, .inl (fun _ => 0))), (m3, .inl (D.2 0, 200, .inl (fun _ => 0))), (m4, .inl (D.2 0, 48, .inl (fun _ => 0)))] H := hP
  have hD : va_D A [(m0, .inr (6, [.int 0, .int 0, .ref m1, .ref m2, .int 0, .ref m3, .int 0, .null, .null, .int 0, .null, .null, .null, .null, .null, .null, .null, .int 0, .null, .null])), (m1, .inl (D.2 0, 800, .inl (fun _ => 0))), (m2, .inl (D.2 0, 200, .inl (fun _ => 0))), (m3, .inl (D.2 0, 200, .inl (fun _ => 0))), (m4, .inl (D.2 0, 48, .inl (fun _ => 0)))] := hD
  refine va_putF (D := D.1) (ci := 6) (v := .ref m4) (ty := .array .int) (C := "ShopLedgerModel") (T := TX6) (N := 20) hx hb hZ inX6 tyX6 tyX6_ok nmX6 hown hK hP hD hS 0 rfl rfl 7 (by decide) (hZ _ t_291) (fun _ h9 => h9) rfl hin rfl (by decide +kernel) rfl rfl (Nat.le_of_ble_eq_true rfl) dX6_init_36 (fun H locs hP hD hS => ?_)
  have hP : va_P D.1 vwCl [(m0, .inr (6, [.int 0, .int 0, .ref m1, .ref m2, .int 0, .ref m3, .int 0, .ref m4, .null, .int 0, .null, .null, .null, .null, .null, .null, .null, .int 0, .null, .null])), (m1, .inl (D.2 0, 800, .inl (fun _ => 0))), (m2, .inl (D.2 0, 200, .inl (fun _ => 0))), (m3, .inl (D.2 0, 200, .inl (fun _ => 0))), (m4, .inl (D.2 0, 48, .inl (fun _ => 0)))] H := hP
  have hD : va_D A [(m0, .inr (6, [.int 0, .int 0, .ref m1, .ref m2, .int 0, .ref m3, .int 0, .ref m4, .null, .int 0, .null, .null, .null, .null, .null, .null, .null, .int 0, .null, .null])), (m1, .inl (D.2 0, 800, .inl (fun _ => 0))), (m2, .inl (D.2 0, 200, .inl (fun _ => 0))), (m3, .inl (D.2 0, 200, .inl (fun _ => 0))), (m4, .inl (D.2 0, 48, .inl (fun _ => 0)))] := hD
  refine lv_aload_n hx hb dX6_init_39 rfl (lv_at hl 0 rfl) ?_
  refine lv_bipush (v := 16) hx hb dX6_init_40 (by decide) ?_
  refine va_newa (atype := .int) (ty := .int) (a0 := (16, .inl (fun _ => 0))) hx hb (hZ _ t_173) rfl hK hP hD hS hA (fun _ => rfl) (by decide) (by decide) (by decide) (Nat.le_of_ble_eq_true rfl) (Nat.le_of_ble_eq_true rfl) dX6_init_42 (fun m5 cA H hK9 hP hD hS => ?_)
  have e9 := z_cai hK9
  subst e9
  have hP : va_P D.1 vwCl [(m0, .inr (6, [.int 0, .int 0, .ref m1, .ref m2, .int 0, .ref m3, .int 0, .ref m4, .null, .int 0, .null, .null, .null, .null, .null, .null, .null, .int 0, .null, .null])), (m1, .inl (D.2 0, 800, .inl (fun _ => 0))), (m2, .inl (D.2 0, 200, .inl (fun _ => 0))), (m3, .inl (D.2 0, 200, .inl (fun _ => 0))), (m4, .inl (D.2 0, 48, .inl (fun _ => 0))), (m5, .inl (D.2 0, 16, .inl (fun _ => 0)))] H := hP
  have hD : va_D A [(m0, .inr (6, [.int 0, .int 0, .ref m1, .ref m2, .int 0, .ref m3, .int 0, .ref m4, .null, .int 0, .null, .null, .null, .null, .null, .null, .null, .int 0, .null, .null])), (m1, .inl (D.2 0, 800, .inl (fun _ => 0))), (m2, .inl (D.2 0, 200, .inl (fun _ => 0))), (m3, .inl (D.2 0, 200, .inl (fun _ => 0))), (m4, .inl (D.2 0, 48, .inl (fun _ => 0))), (m5, .inl (D.2 0, 16, .inl (fun _ => 0)))] := hD
  refine va_putF (D := D.1) (ci := 6) (v := .ref m5) (ty := .array .int) (C := "ShopLedgerModel") (T := TX6) (N := 20) hx hb hZ inX6 tyX6 tyX6_ok nmX6 hown hK hP hD hS 0 rfl rfl 8 (by decide) (hZ _ t_292) (fun _ h9 => h9) rfl hin rfl (by decide +kernel) rfl rfl (Nat.le_of_ble_eq_true rfl) dX6_init_44 (fun H locs hP hD hS => ?_)
  have hP : va_P D.1 vwCl [(m0, .inr (6, [.int 0, .int 0, .ref m1, .ref m2, .int 0, .ref m3, .int 0, .ref m4, .ref m5, .int 0, .null, .null, .null, .null, .null, .null, .null, .int 0, .null, .null])), (m1, .inl (D.2 0, 800, .inl (fun _ => 0))), (m2, .inl (D.2 0, 200, .inl (fun _ => 0))), (m3, .inl (D.2 0, 200, .inl (fun _ => 0))), (m4, .inl (D.2 0, 48, .inl (fun _ => 0))), (m5, .inl (D.2 0, 16, .inl (fun _ => 0)))] H := hP
  have hD : va_D A [(m0, .inr (6, [.int 0, .int 0, .ref m1, .ref m2, .int 0, .ref m3, .int 0, .ref m4, .ref m5, .int 0, .null, .null, .null, .null, .null, .null, .null, .int 0, .null, .null])), (m1, .inl (D.2 0, 800, .inl (fun _ => 0))), (m2, .inl (D.2 0, 200, .inl (fun _ => 0))), (m3, .inl (D.2 0, 200, .inl (fun _ => 0))), (m4, .inl (D.2 0, 48, .inl (fun _ => 0))), (m5, .inl (D.2 0, 16, .inl (fun _ => 0)))] := hD
  refine lv_aload_n hx hb dX6_init_47 rfl (lv_at hl 0 rfl) ?_
  refine lv_bipush (v := 8) hx hb dX6_init_48 (by decide) ?_
  refine va_newa (atype := .int) (ty := .int) (a0 := (8, .inl (fun _ => 0))) hx hb (hZ _ t_173) rfl hK hP hD hS hA (fun _ => rfl) (by decide) (by decide) (by decide) (Nat.le_of_ble_eq_true rfl) (Nat.le_of_ble_eq_true rfl) dX6_init_50 (fun m6 cA H hK9 hP hD hS => ?_)
  have e9 := z_cai hK9
  subst e9
  have hP : va_P D.1 vwCl [(m0, .inr (6, [.int 0, .int 0, .ref m1, .ref m2, .int 0, .ref m3, .int 0, .ref m4, .ref m5, .int 0, .null, .null, .null, .null, .null, .null, .null, .int 0, .null, .null])), (m1, .inl (D.2 0, 800, .inl (fun _ => 0))), (m2, .inl (D.2 0, 200, .inl (fun _ => 0))), (m3, .inl (D.2 0, 200, .inl (fun _ => 0))), (m4, .inl (D.2 0, 48, .inl (fun _ => 0))), (m5, .inl (D.2 0, 16, .inl (fun _ => 0))), (m6, .inl (D.2 0, 8, .inl (fun _ => 0)))] H := hP
  have hD : va_D A [(m0, .inr (6, [.int 0, .int 0, .ref m1, .ref m2, .int 0, .ref m3, .int 0, .ref m4, .ref m5, .int 0, .null, .null, .null, .null, .null, .null, .null, .int 0, .null, .null])), (m1, .inl (D.2 0, 800, .inl (fun _ => 0))), (m2, .inl (D.2 0, 200, .inl (fun _ => 0))), (m3, .inl (D.2 0, 200, .inl (fun _ => 0))), (m4, .inl (D.2 0, 48, .inl (fun _ => 0))), (m5, .inl (D.2 0, 16, .inl (fun _ => 0))), (m6, .inl (D.2 0, 8, .inl (fun _ => 0)))] := hD
  refine va_putF (D := D.1) (ci := 6) (v := .ref m6) (ty := .array .int) (C := "ShopLedgerModel") (T := TX6) (N := 20) hx hb hZ inX6 tyX6 tyX6_ok nmX6 hown hK hP hD hS 0 rfl rfl 10 (by decide) (hZ _ t_297) (fun _ h9 => h9) rfl hin rfl (by decide +kernel) rfl rfl (Nat.le_of_ble_eq_true rfl) dX6_init_52 (fun H locs hP hD hS => ?_)
  have hP : va_P D.1 vwCl [(m0, .inr (6, [.int 0, .int 0, .ref m1, .ref m2, .int 0, .ref m3, .int 0, .ref m4, .ref m5, .int 0, .ref m6, .null, .null, .null, .null, .null, .null, .int 0, .null, .null])), (m1, .inl (D.2 0, 800, .inl (fun _ => 0))), (m2, .inl (D.2 0, 200, .inl (fun _ => 0))), (m3, .inl (D.2 0, 200, .inl (fun _ => 0))), (m4, .inl (D.2 0, 48, .inl (fun _ => 0))), (m5, .inl (D.2 0, 16, .inl (fun _ => 0))), (m6, .inl (D.2 0, 8, .inl (fun _ => 0)))] H := hP
  have hD : va_D A [(m0, .inr (6, [.int 0, .int 0, .ref m1, .ref m2, .int 0, .ref m3, .int 0, .ref m4, .ref m5, .int 0, .ref m6, .null, .null, .null, .null, .null, .null, .int 0, .null, .null])), (m1, .inl (D.2 0, 800, .inl (fun _ => 0))), (m2, .inl (D.2 0, 200, .inl (fun _ => 0))), (m3, .inl (D.2 0, 200, .inl (fun _ => 0))), (m4, .inl (D.2 0, 48, .inl (fun _ => 0))), (m5, .inl (D.2 0, 16, .inl (fun _ => 0))), (m6, .inl (D.2 0, 8, .inl (fun _ => 0)))] := hD
  refine lv_aload_n hx hb dX6_init_55 rfl (lv_at hl 0 rfl) ?_
  refine lv_iconst (v := 4) hx hb dX6_init_56 (by decide) ?_
  refine va_newa (atype := .int) (ty := .int) (a0 := (4, .inl (fun _ => 0))) hx hb (hZ _ t_173) rfl hK hP hD hS hA (fun _ => rfl) (by decide) (by decide) (by decide) (Nat.le_of_ble_eq_true rfl) (Nat.le_of_ble_eq_true rfl) dX6_init_57 (fun m7 cA H hK9 hP hD hS => ?_)
  have e9 := z_cai hK9
  subst e9
  have hP : va_P D.1 vwCl [(m0, .inr (6, [.int 0, .int 0, .ref m1, .ref m2, .int 0, .ref m3, .int 0, .ref m4, .ref m5, .int 0, .ref m6, .null, .null, .null, .null, .null, .null, .int 0, .null, .null])), (m1, .inl (D.2 0, 800, .inl (fun _ => 0))), (m2, .inl (D.2 0, 200, .inl (fun _ => 0))), (m3, .inl (D.2 0, 200, .inl (fun _ => 0))), (m4, .inl (D.2 0, 48, .inl (fun _ => 0))), (m5, .inl (D.2 0, 16, .inl (fun _ => 0))), (m6, .inl (D.2 0, 8, .inl (fun _ => 0))), (m7, .inl (D.2 0, 4, .inl (fun _ => 0)))] H := hP
  have hD : va_D A [(m0, .inr (6, [.int 0, .int 0, .ref m1, .ref m2, .int 0, .ref m3, .int 0, .ref m4, .ref m5, .int 0, .ref m6, .null, .null, .null, .null, .null, .null, .int 0, .null, .null])), (m1, .inl (D.2 0, 800, .inl (fun _ => 0))), (m2, .inl (D.2 0, 200, .inl (fun _ => 0))), (m3, .inl (D.2 0, 200, .inl (fun _ => 0))), (m4, .inl (D.2 0, 48, .inl (fun _ => 0))), (m5, .inl (D.2 0, 16, .inl (fun _ => 0))), (m6, .inl (D.2 0, 8, .inl (fun _ => 0))), (m7, .inl (D.2 0, 4, .inl (fun _ => 0)))] := hD
  refine va_putF (D := D.1) (ci := 6) (v := .ref m7) (ty := .array .int) (C := "ShopLedgerModel") (T := TX6) (N := 20) hx hb hZ inX6 tyX6 tyX6_ok nmX6 hown hK hP hD hS 0 rfl rfl 11 (by decide) (hZ _ t_312) (fun _ h9 => h9) rfl hin rfl (by decide +kernel) rfl rfl (Nat.le_of_ble_eq_true rfl) dX6_init_59 (fun H locs hP hD hS => ?_)
  have hP : va_P D.1 vwCl [(m0, .inr (6, [.int 0, .int 0, .ref m1, .ref m2, .int 0, .ref m3, .int 0, .ref m4, .ref m5, .int 0, .ref m6, .ref m7, .null, .null, .null, .null, .null, .int 0, .null, .null])), (m1, .inl (D.2 0, 800, .inl (fun _ => 0))), (m2, .inl (D.2 0, 200, .inl (fun _ => 0))), (m3, .inl (D.2 0, 200, .inl (fun _ => 0))), (m4, .inl (D.2 0, 48, .inl (fun _ => 0))), (m5, .inl (D.2 0, 16, .inl (fun _ => 0))), (m6, .inl (D.2 0, 8, .inl (fun _ => 0))), (m7, .inl (D.2 0, 4, .inl (fun _ => 0)))] H := hP
  have hD : va_D A [(m0, .inr (6, [.int 0, .int 0, .ref m1, .ref m2, .int 0, .ref m3, .int 0, .ref m4, .ref m5, .int 0, .ref m6, .ref m7, .null, .null, .null, .null, .null, .int 0, .null, .null])), (m1, .inl (D.2 0, 800, .inl (fun _ => 0))), (m2, .inl (D.2 0, 200, .inl (fun _ => 0))), (m3, .inl (D.2 0, 200, .inl (fun _ => 0))), (m4, .inl (D.2 0, 48, .inl (fun _ => 0))), (m5, .inl (D.2 0, 16, .inl (fun _ => 0))), (m6, .inl (D.2 0, 8, .inl (fun _ => 0))), (m7, .inl (D.2 0, 4, .inl (fun _ => 0)))] := hD
  refine lv_aload_n hx hb dX6_init_62 rfl (lv_at hl 0 rfl) ?_
  refine lv_bipush (v := 48) hx hb dX6_init_63 (by decide) ?_
  refine va_newa (atype := .int) (ty := .int) (a0 := (48, .inl (fun _ => 0))) hx hb (hZ _ t_173) rfl hK hP hD hS hA (fun _ => rfl) (by decide) (by decide) (by decide) (Nat.le_of_ble_eq_true rfl) (Nat.le_of_ble_eq_true rfl) dX6_init_65 (fun m8 cA H hK9 hP hD hS => ?_)
  have e9 := z_cai hK9
  subst e9
  have hP : va_P D.1 vwCl [(m0, .inr (6, [.int 0, .int 0, .ref m1, .ref m2, .int 0, .ref m3, .int 0, .ref m4, .ref m5, .int 0, .ref m6, .ref m7, .null, .null, .null, .null, .null, .int 0, .null, .null])), (m1, .inl (D.2 0, 800, .inl (fun _ => 0))), (m2, .inl (D.2 0, 200, .inl (fun _ => 0))), (m3, .inl (D.2 0, 200, .inl (fun _ => 0))), (m4, .inl (D.2 0, 48, .inl (fun _ => 0))), (m5, .inl (D.2 0, 16, .inl (fun _ => 0))), (m6, .inl (D.2 0, 8, .inl (fun _ => 0))), (m7, .inl (D.2 0, 4, .inl (fun _ => 0))), (m8, .inl (D.2 0, 48, .inl (fun _ => 0)))] H := hP
  have hD : va_D A [(m0, .inr (6, [.int 0, .int 0, .ref m1, .ref m2, .int 0, .ref m3, .int 0, .ref m4, .ref m5, .int 0, .ref m6, .ref m7, .null, .null, .null, .null, .null, .int 0, .null, .null])), (m1, .inl (D.2 0, 800, .inl (fun _ => 0))), (m2, .inl (D.2 0, 200, .inl (fun _ => 0))), (m3, .inl (D.2 0, 200, .inl (fun _ => 0))), (m4, .inl (D.2 0, 48, .inl (fun _ => 0))), (m5, .inl (D.2 0, 16, .inl (fun _ => 0))), (m6, .inl (D.2 0, 8, .inl (fun _ => 0))), (m7, .inl (D.2 0, 4, .inl (fun _ => 0))), (m8, .inl (D.2 0, 48, .inl (fun _ => 0)))] := hD
  refine va_putF (D := D.1) (ci := 6) (v := .ref m8) (ty := .array .int) (C := "ShopLedgerModel") (T := TX6) (N := 20) hx hb hZ inX6 tyX6 tyX6_ok nmX6 hown hK hP hD hS 0 rfl rfl 12 (by decide) (hZ _ t_313) (fun _ h9 => h9) rfl hin rfl (by decide +kernel) rfl rfl (Nat.le_of_ble_eq_true rfl) dX6_init_67 (fun H locs hP hD hS => ?_)
  have hP : va_P D.1 vwCl [(m0, .inr (6, [.int 0, .int 0, .ref m1, .ref m2, .int 0, .ref m3, .int 0, .ref m4, .ref m5, .int 0, .ref m6, .ref m7, .ref m8, .null, .null, .null, .null, .int 0, .null, .null])), (m1, .inl (D.2 0, 800, .inl (fun _ => 0))), (m2, .inl (D.2 0, 200, .inl (fun _ => 0))), (m3, .inl (D.2 0, 200, .inl (fun _ => 0))), (m4, .inl (D.2 0, 48, .inl (fun _ => 0))), (m5, .inl (D.2 0, 16, .inl (fun _ => 0))), (m6, .inl (D.2 0, 8, .inl (fun _ => 0))), (m7, .inl (D.2 0, 4, .inl (fun _ => 0))), (m8, .inl (D.2 0, 48, .inl (fun _ => 0)))] H := hP
  have hD : va_D A [(m0, .inr (6, [.int 0, .int 0, .ref m1, .ref m2, .int 0, .ref m3, .int 0, .ref m4, .ref m5, .int 0, .ref m6, .ref m7, .ref m8, .null, .null, .null, .null, .int 0, .null, .null])), (m1, .inl (D.2 0, 800, .inl (fun _ => 0))), (m2, .inl (D.2 0, 200, .inl (fun _ => 0))), (m3, .inl (D.2 0, 200, .inl (fun _ => 0))), (m4, .inl (D.2 0, 48, .inl (fun _ => 0))), (m5, .inl (D.2 0, 16, .inl (fun _ => 0))), (m6, .inl (D.2 0, 8, .inl (fun _ => 0))), (m7, .inl (D.2 0, 4, .inl (fun _ => 0))), (m8, .inl (D.2 0, 48, .inl (fun _ => 0)))] := hD
  refine lv_aload_n hx hb dX6_init_70 rfl (lv_at hl 0 rfl) ?_
  refine lv_bipush (v := 48) hx hb dX6_init_71 (by decide) ?_
  refine va_newa (atype := .int) (ty := .int) (a0 := (48, .inl (fun _ => 0))) hx hb (hZ _ t_173) rfl hK hP hD hS hA (fun _ => rfl) (by decide) (by decide) (by decide) (Nat.le_of_ble_eq_true rfl) (Nat.le_of_ble_eq_true rfl) dX6_init_73 (fun m9 cA H hK9 hP hD hS => ?_)
  have e9 := z_cai hK9
  subst e9
  have hP : va_P D.1 vwCl [(m0, .inr (6, [.int 0, .int 0, .ref m1, .ref m2, .int 0, .ref m3, .int 0, .ref m4, .ref m5, .int 0, .ref m6, .ref m7, .ref m8, .null, .null, .null, .null, .int 0, .null, .null])), (m1, .inl (D.2 0, 800, .inl (fun _ => 0))), (m2, .inl (D.2 0, 200, .inl (fun _ => 0))), (m3, .inl (D.2 0, 200, .inl (fun _ => 0))), (m4, .inl (D.2 0, 48, .inl (fun _ => 0))), (m5, .inl (D.2 0, 16, .inl (fun _ => 0))), (m6, .inl (D.2 0, 8, .inl (fun _ => 0))), (m7, .inl (D.2 0, 4, .inl (fun _ => 0))), (m8, .inl (D.2 0, 48, .inl (fun _ => 0))), (m9, .inl (D.2 0, 48, .inl (fun _ => 0)))] H := hP
  have hD : va_D A [(m0, .inr (6, [.int 0, .int 0, .ref m1, .ref m2, .int 0, .ref m3, .int 0, .ref m4, .ref m5, .int 0, .ref m6, .ref m7, .ref m8, .null, .null, .null, .null, .int 0, .null, .null])), (m1, .inl (D.2 0, 800, .inl (fun _ => 0))), (m2, .inl (D.2 0, 200, .inl (fun _ => 0))), (m3, .inl (D.2 0, 200, .inl (fun _ => 0))), (m4, .inl (D.2 0, 48, .inl (fun _ => 0))), (m5, .inl (D.2 0, 16, .inl (fun _ => 0))), (m6, .inl (D.2 0, 8, .inl (fun _ => 0))), (m7, .inl (D.2 0, 4, .inl (fun _ => 0))), (m8, .inl (D.2 0, 48, .inl (fun _ => 0))), (m9, .inl (D.2 0, 48, .inl (fun _ => 0)))] := hD
  refine va_putF (D := D.1) (ci := 6) (v := .ref m9) (ty := .array .int) (C := "ShopLedgerModel") (T := TX6) (N := 20) hx hb hZ inX6 tyX6 tyX6_ok nmX6 hown hK hP hD hS 0 rfl rfl 13 (by decide) (hZ _ t_315) (fun _ h9 => h9) rfl hin rfl (by decide +kernel) rfl rfl (Nat.le_of_ble_eq_true rfl) dX6_init_75 (fun H locs hP hD hS => ?_)
  have hP : va_P D.1 vwCl [(m0, .inr (6, [.int 0, .int 0, .ref m1, .ref m2, .int 0, .ref m3, .int 0, .ref m4, .ref m5, .int 0, .ref m6, .ref m7, .ref m8, .ref m9, .null, .null, .null, .int 0, .null, .null])), (m1, .inl (D.2 0, 800, .inl (fun _ => 0))), (m2, .inl (D.2 0, 200, .inl (fun _ => 0))), (m3, .inl (D.2 0, 200, .inl (fun _ => 0))), (m4, .inl (D.2 0, 48, .inl (fun _ => 0))), (m5, .inl (D.2 0, 16, .inl (fun _ => 0))), (m6, .inl (D.2 0, 8, .inl (fun _ => 0))), (m7, .inl (D.2 0, 4, .inl (fun _ => 0))), (m8, .inl (D.2 0, 48, .inl (fun _ => 0))), (m9, .inl (D.2 0, 48, .inl (fun _ => 0)))] H := hP
  have hD : va_D A [(m0, .inr (6, [.int 0, .int 0, .ref m1, .ref m2, .int 0, .ref m3, .int 0, .ref m4, .ref m5, .int 0, .ref m6, .ref m7, .ref m8, .ref m9, .null, .null, .null, .int 0, .null, .null])), (m1, .inl (D.2 0, 800, .inl (fun _ => 0))), (m2, .inl (D.2 0, 200, .inl (fun _ => 0))), (m3, .inl (D.2 0, 200, .inl (fun _ => 0))), (m4, .inl (D.2 0, 48, .inl (fun _ => 0))), (m5, .inl (D.2 0, 16, .inl (fun _ => 0))), (m6, .inl (D.2 0, 8, .inl (fun _ => 0))), (m7, .inl (D.2 0, 4, .inl (fun _ => 0))), (m8, .inl (D.2 0, 48, .inl (fun _ => 0))), (m9, .inl (D.2 0, 48, .inl (fun _ => 0)))] := hD
  refine lv_aload_n hx hb dX6_init_78 rfl (lv_at hl 0 rfl) ?_
  refine lv_iconst (v := 3) hx hb dX6_init_79 (by decide) ?_
  refine va_newa (atype := .int) (ty := .int) (a0 := (3, .inl (fun _ => 0))) hx hb (hZ _ t_173) rfl hK hP hD hS hA (fun _ => rfl) (by decide) (by decide) (by decide) (Nat.le_of_ble_eq_true rfl) (Nat.le_of_ble_eq_true rfl) dX6_init_80 (fun m10 cA H hK9 hP hD hS => ?_)
  have e9 := z_cai hK9
  subst e9
  have hP : va_P D.1 vwCl [(m0, .inr (6, [.int 0, .int 0, .ref m1, .ref m2, .int 0, .ref m3, .int 0, .ref m4, .ref m5, .int 0, .ref m6, .ref m7, .ref m8, .ref m9, .null, .null, .null, .int 0, .null, .null])), (m1, .inl (D.2 0, 800, .inl (fun _ => 0))), (m2, .inl (D.2 0, 200, .inl (fun _ => 0))), (m3, .inl (D.2 0, 200, .inl (fun _ => 0))), (m4, .inl (D.2 0, 48, .inl (fun _ => 0))), (m5, .inl (D.2 0, 16, .inl (fun _ => 0))), (m6, .inl (D.2 0, 8, .inl (fun _ => 0))), (m7, .inl (D.2 0, 4, .inl (fun _ => 0))), (m8, .inl (D.2 0, 48, .inl (fun _ => 0))), (m9, .inl (D.2 0, 48, .inl (fun _ => 0))), (m10, .inl (D.2 0, 3, .inl (fun _ => 0)))] H := hP
  have hD : va_D A [(m0, .inr (6, [.int 0, .int 0, .ref m1, .ref m2, .int 0, .ref m3, .int 0, .ref m4, .ref m5, .int 0, .ref m6, .ref m7, .ref m8, .ref m9, .null, .null, .null, .int 0, .null, .null])), (m1, .inl (D.2 0, 800, .inl (fun _ => 0))), (m2, .inl (D.2 0, 200, .inl (fun _ => 0))), (m3, .inl (D.2 0, 200, .inl (fun _ => 0))), (m4, .inl (D.2 0, 48, .inl (fun _ => 0))), (m5, .inl (D.2 0, 16, .inl (fun _ => 0))), (m6, .inl (D.2 0, 8, .inl (fun _ => 0))), (m7, .inl (D.2 0, 4, .inl (fun _ => 0))), (m8, .inl (D.2 0, 48, .inl (fun _ => 0))), (m9, .inl (D.2 0, 48, .inl (fun _ => 0))), (m10, .inl (D.2 0, 3, .inl (fun _ => 0)))] := hD
  refine va_putF (D := D.1) (ci := 6) (v := .ref m10) (ty := .array .int) (C := "ShopLedgerModel") (T := TX6) (N := 20) hx hb hZ inX6 tyX6 tyX6_ok nmX6 hown hK hP hD hS 0 rfl rfl 14 (by decide) (hZ _ t_321) (fun _ h9 => h9) rfl hin rfl (by decide +kernel) rfl rfl (Nat.le_of_ble_eq_true rfl) dX6_init_82 (fun H locs hP hD hS => ?_)
  have hP : va_P D.1 vwCl [(m0, .inr (6, [.int 0, .int 0, .ref m1, .ref m2, .int 0, .ref m3, .int 0, .ref m4, .ref m5, .int 0, .ref m6, .ref m7, .ref m8, .ref m9, .ref m10, .null, .null, .int 0, .null, .null])), (m1, .inl (D.2 0, 800, .inl (fun _ => 0))), (m2, .inl (D.2 0, 200, .inl (fun _ => 0))), (m3, .inl (D.2 0, 200, .inl (fun _ => 0))), (m4, .inl (D.2 0, 48, .inl (fun _ => 0))), (m5, .inl (D.2 0, 16, .inl (fun _ => 0))), (m6, .inl (D.2 0, 8, .inl (fun _ => 0))), (m7, .inl (D.2 0, 4, .inl (fun _ => 0))), (m8, .inl (D.2 0, 48, .inl (fun _ => 0))), (m9, .inl (D.2 0, 48, .inl (fun _ => 0))), (m10, .inl (D.2 0, 3, .inl (fun _ => 0)))] H := hP
  have hD : va_D A [(m0, .inr (6, [.int 0, .int 0, .ref m1, .ref m2, .int 0, .ref m3, .int 0, .ref m4, .ref m5, .int 0, .ref m6, .ref m7, .ref m8, .ref m9, .ref m10, .null, .null, .int 0, .null, .null])), (m1, .inl (D.2 0, 800, .inl (fun _ => 0))), (m2, .inl (D.2 0, 200, .inl (fun _ => 0))), (m3, .inl (D.2 0, 200, .inl (fun _ => 0))), (m4, .inl (D.2 0, 48, .inl (fun _ => 0))), (m5, .inl (D.2 0, 16, .inl (fun _ => 0))), (m6, .inl (D.2 0, 8, .inl (fun _ => 0))), (m7, .inl (D.2 0, 4, .inl (fun _ => 0))), (m8, .inl (D.2 0, 48, .inl (fun _ => 0))), (m9, .inl (D.2 0, 48, .inl (fun _ => 0))), (m10, .inl (D.2 0, 3, .inl (fun _ => 0)))] := hD
  refine lv_aload_n hx hb dX6_init_85 rfl (lv_at hl 0 rfl) ?_
  refine lv_bipush (v := 30) hx hb dX6_init_86 (by decide) ?_
  refine va_newa (atype := .int) (ty := .int) (a0 := (30, .inl (fun _ => 0))) hx hb (hZ _ t_173) rfl hK hP hD hS hA (fun _ => rfl) (by decide) (by decide) (by decide) (Nat.le_of_ble_eq_true rfl) (Nat.le_of_ble_eq_true rfl) dX6_init_88 (fun m11 cA H hK9 hP hD hS => ?_)
  have e9 := z_cai hK9
  subst e9
  have hP : va_P D.1 vwCl [(m0, .inr (6, [.int 0, .int 0, .ref m1, .ref m2, .int 0, .ref m3, .int 0, .ref m4, .ref m5, .int 0, .ref m6, .ref m7, .ref m8, .ref m9, .ref m10, .null, .null, .int 0, .null, .null])), (m1, .inl (D.2 0, 800, .inl (fun _ => 0))), (m2, .inl (D.2 0, 200, .inl (fun _ => 0))), (m3, .inl (D.2 0, 200, .inl (fun _ => 0))), (m4, .inl (D.2 0, 48, .inl (fun _ => 0))), (m5, .inl (D.2 0, 16, .inl (fun _ => 0))), (m6, .inl (D.2 0, 8, .inl (fun _ => 0))), (m7, .inl (D.2 0, 4, .inl (fun _ => 0))), (m8, .inl (D.2 0, 48, .inl (fun _ => 0))), (m9, .inl (D.2 0, 48, .inl (fun _ => 0))), (m10, .inl (D.2 0, 3, .inl (fun _ => 0))), (m11, .inl (D.2 0, 30, .inl (fun _ => 0)))] H := hP
  have hD : va_D A [(m0, .inr (6, [.int 0, .int 0, .ref m1, .ref m2, .int 0, .ref m3, .int 0, .ref m4, .ref m5, .int 0, .ref m6, .ref m7, .ref m8, .ref m9, .ref m10, .null, .null, .int 0, .null, .null])), (m1, .inl (D.2 0, 800, .inl (fun _ => 0))), (m2, .inl (D.2 0, 200, .inl (fun _ => 0))), (m3, .inl (D.2 0, 200, .inl (fun _ => 0))), (m4, .inl (D.2 0, 48, .inl (fun _ => 0))), (m5, .inl (D.2 0, 16, .inl (fun _ => 0))), (m6, .inl (D.2 0, 8, .inl (fun _ => 0))), (m7, .inl (D.2 0, 4, .inl (fun _ => 0))), (m8, .inl (D.2 0, 48, .inl (fun _ => 0))), (m9, .inl (D.2 0, 48, .inl (fun _ => 0))), (m10, .inl (D.2 0, 3, .inl (fun _ => 0))), (m11, .inl (D.2 0, 30, .inl (fun _ => 0)))] := hD
  refine va_putF (D := D.1) (ci := 6) (v := .ref m11) (ty := .array .int) (C := "ShopLedgerModel") (T := TX6) (N := 20) hx hb hZ inX6 tyX6 tyX6_ok nmX6 hown hK hP hD hS 0 rfl rfl 15 (by decide) (hZ _ t_324) (fun _ h9 => h9) rfl hin rfl (by decide +kernel) rfl rfl (Nat.le_of_ble_eq_true rfl) dX6_init_90 (fun H locs hP hD hS => ?_)
  have hP : va_P D.1 vwCl [(m0, .inr (6, [.int 0, .int 0, .ref m1, .ref m2, .int 0, .ref m3, .int 0, .ref m4, .ref m5, .int 0, .ref m6, .ref m7, .ref m8, .ref m9, .ref m10, .ref m11, .null, .int 0, .null, .null])), (m1, .inl (D.2 0, 800, .inl (fun _ => 0))), (m2, .inl (D.2 0, 200, .inl (fun _ => 0))), (m3, .inl (D.2 0, 200, .inl (fun _ => 0))), (m4, .inl (D.2 0, 48, .inl (fun _ => 0))), (m5, .inl (D.2 0, 16, .inl (fun _ => 0))), (m6, .inl (D.2 0, 8, .inl (fun _ => 0))), (m7, .inl (D.2 0, 4, .inl (fun _ => 0))), (m8, .inl (D.2 0, 48, .inl (fun _ => 0))), (m9, .inl (D.2 0, 48, .inl (fun _ => 0))), (m10, .inl (D.2 0, 3, .inl (fun _ => 0))), (m11, .inl (D.2 0, 30, .inl (fun _ => 0)))] H := hP
  have hD : va_D A [(m0, .inr (6, [.int 0, .int 0, .ref m1, .ref m2, .int 0, .ref m3, .int 0, .ref m4, .ref m5, .int 0, .ref m6, .ref m7, .ref m8, .ref m9, .ref m10, .ref m11, .null, .int 0, .null, .null])), (m1, .inl (D.2 0, 800, .inl (fun _ => 0))), (m2, .inl (D.2 0, 200, .inl (fun _ => 0))), (m3, .inl (D.2 0, 200, .inl (fun _ => 0))), (m4, .inl (D.2 0, 48, .inl (fun _ => 0))), (m5, .inl (D.2 0, 16, .inl (fun _ => 0))), (m6, .inl (D.2 0, 8, .inl (fun _ => 0))), (m7, .inl (D.2 0, 4, .inl (fun _ => 0))), (m8, .inl (D.2 0, 48, .inl (fun _ => 0))), (m9, .inl (D.2 0, 48, .inl (fun _ => 0))), (m10, .inl (D.2 0, 3, .inl (fun _ => 0))), (m11, .inl (D.2 0, 30, .inl (fun _ => 0)))] := hD
  refine lv_aload_n hx hb dX6_init_93 rfl (lv_at hl 0 rfl) ?_
  refine lv_bipush (v := 30) hx hb dX6_init_94 (by decide) ?_
  refine va_newa (atype := .int) (ty := .int) (a0 := (30, .inl (fun _ => 0))) hx hb (hZ _ t_173) rfl hK hP hD hS hA (fun _ => rfl) (by decide) (by decide) (by decide) (Nat.le_of_ble_eq_true rfl) (Nat.le_of_ble_eq_true rfl) dX6_init_96 (fun m12 cA H hK9 hP hD hS => ?_)
  have e9 := z_cai hK9
  subst e9
  have hP : va_P D.1 vwCl [(m0, .inr (6, [.int 0, .int 0, .ref m1, .ref m2, .int 0, .ref m3, .int 0, .ref m4, .ref m5, .int 0, .ref m6, .ref m7, .ref m8, .ref m9, .ref m10, .ref m11, .null, .int 0, .null, .null])), (m1, .inl (D.2 0, 800, .inl (fun _ => 0))), (m2, .inl (D.2 0, 200, .inl (fun _ => 0))), (m3, .inl (D.2 0, 200, .inl (fun _ => 0))), (m4, .inl (D.2 0, 48, .inl (fun _ => 0))), (m5, .inl (D.2 0, 16, .inl (fun _ => 0))), (m6, .inl (D.2 0, 8, .inl (fun _ => 0))), (m7, .inl (D.2 0, 4, .inl (fun _ => 0))), (m8, .inl (D.2 0, 48, .inl (fun _ => 0))), (m9, .inl (D.2 0, 48, .inl (fun _ => 0))), (m10, .inl (D.2 0, 3, .inl (fun _ => 0))), (m11, .inl (D.2 0, 30, .inl (fun _ => 0))), (m12, .inl (D.2 0, 30, .inl (fun _ => 0)))] H := hP
  have hD : va_D A [(m0, .inr (6, [.int 0, .int 0, .ref m1, .ref m2, .int 0, .ref m3, .int 0, .ref m4, .ref m5, .int 0, .ref m6, .ref m7, .ref m8, .ref m9, .ref m10, .ref m11, .null, .int 0, .null, .null])), (m1, .inl (D.2 0, 800, .inl (fun _ => 0))), (m2, .inl (D.2 0, 200, .inl (fun _ => 0))), (m3, .inl (D.2 0, 200, .inl (fun _ => 0))), (m4, .inl (D.2 0, 48, .inl (fun _ => 0))), (m5, .inl (D.2 0, 16, .inl (fun _ => 0))), (m6, .inl (D.2 0, 8, .inl (fun _ => 0))), (m7, .inl (D.2 0, 4, .inl (fun _ => 0))), (m8, .inl (D.2 0, 48, .inl (fun _ => 0))), (m9, .inl (D.2 0, 48, .inl (fun _ => 0))), (m10, .inl (D.2 0, 3, .inl (fun _ => 0))), (m11, .inl (D.2 0, 30, .inl (fun _ => 0))), (m12, .inl (D.2 0, 30, .inl (fun _ => 0)))] := hD
  refine va_putF (D := D.1) (ci := 6) (v := .ref m12) (ty := .array .int) (C := "ShopLedgerModel") (T := TX6) (N := 20) hx hb hZ inX6 tyX6 tyX6_ok nmX6 hown hK hP hD hS 0 rfl rfl 16 (by decide) (hZ _ t_325) (fun _ h9 => h9) rfl hin rfl (by decide +kernel) rfl rfl (Nat.le_of_ble_eq_true rfl) dX6_init_98 (fun H locs hP hD hS => ?_)
  have hP : va_P D.1 vwCl [(m0, .inr (6, [.int 0, .int 0, .ref m1, .ref m2, .int 0, .ref m3, .int 0, .ref m4, .ref m5, .int 0, .ref m6, .ref m7, .ref m8, .ref m9, .ref m10, .ref m11, .ref m12, .int 0, .null, .null])), (m1, .inl (D.2 0, 800, .inl (fun _ => 0))), (m2, .inl (D.2 0, 200, .inl (fun _ => 0))), (m3, .inl (D.2 0, 200, .inl (fun _ => 0))), (m4, .inl (D.2 0, 48, .inl (fun _ => 0))), (m5, .inl (D.2 0, 16, .inl (fun _ => 0))), (m6, .inl (D.2 0, 8, .inl (fun _ => 0))), (m7, .inl (D.2 0, 4, .inl (fun _ => 0))), (m8, .inl (D.2 0, 48, .inl (fun _ => 0))), (m9, .inl (D.2 0, 48, .inl (fun _ => 0))), (m10, .inl (D.2 0, 3, .inl (fun _ => 0))), (m11, .inl (D.2 0, 30, .inl (fun _ => 0))), (m12, .inl (D.2 0, 30, .inl (fun _ => 0)))] H := hP
  have hD : va_D A [(m0, .inr (6, [.int 0, .int 0, .ref m1, .ref m2, .int 0, .ref m3, .int 0, .ref m4, .ref m5, .int 0, .ref m6, .ref m7, .ref m8, .ref m9, .ref m10, .ref m11, .ref m12, .int 0, .null, .null])), (m1, .inl (D.2 0, 800, .inl (fun _ => 0))), (m2, .inl (D.2 0, 200, .inl (fun _ => 0))), (m3, .inl (D.2 0, 200, .inl (fun _ => 0))), (m4, .inl (D.2 0, 48, .inl (fun _ => 0))), (m5, .inl (D.2 0, 16, .inl (fun _ => 0))), (m6, .inl (D.2 0, 8, .inl (fun _ => 0))), (m7, .inl (D.2 0, 4, .inl (fun _ => 0))), (m8, .inl (D.2 0, 48, .inl (fun _ => 0))), (m9, .inl (D.2 0, 48, .inl (fun _ => 0))), (m10, .inl (D.2 0, 3, .inl (fun _ => 0))), (m11, .inl (D.2 0, 30, .inl (fun _ => 0))), (m12, .inl (D.2 0, 30, .inl (fun _ => 0)))] := hD
  refine lv_aload_n hx hb dX6_init_101 rfl (lv_at hl 0 rfl) ?_
  refine lv_bipush (v := 10) hx hb dX6_init_102 (by decide) ?_
  refine va_newa (atype := .int) (ty := .int) (a0 := (10, .inl (fun _ => 0))) hx hb (hZ _ t_173) rfl hK hP hD hS hA (fun _ => rfl) (by decide) (by decide) (by decide) (Nat.le_of_ble_eq_true rfl) (Nat.le_of_ble_eq_true rfl) dX6_init_104 (fun m13 cA H hK9 hP hD hS => ?_)
  have e9 := z_cai hK9
  subst e9
  have hP : va_P D.1 vwCl [(m0, .inr (6, [.int 0, .int 0, .ref m1, .ref m2, .int 0, .ref m3, .int 0, .ref m4, .ref m5, .int 0, .ref m6, .ref m7, .ref m8, .ref m9, .ref m10, .ref m11, .ref m12, .int 0, .null, .null])), (m1, .inl (D.2 0, 800, .inl (fun _ => 0))), (m2, .inl (D.2 0, 200, .inl (fun _ => 0))), (m3, .inl (D.2 0, 200, .inl (fun _ => 0))), (m4, .inl (D.2 0, 48, .inl (fun _ => 0))), (m5, .inl (D.2 0, 16, .inl (fun _ => 0))), (m6, .inl (D.2 0, 8, .inl (fun _ => 0))), (m7, .inl (D.2 0, 4, .inl (fun _ => 0))), (m8, .inl (D.2 0, 48, .inl (fun _ => 0))), (m9, .inl (D.2 0, 48, .inl (fun _ => 0))), (m10, .inl (D.2 0, 3, .inl (fun _ => 0))), (m11, .inl (D.2 0, 30, .inl (fun _ => 0))), (m12, .inl (D.2 0, 30, .inl (fun _ => 0))), (m13, .inl (D.2 0, 10, .inl (fun _ => 0)))] H := hP
  have hD : va_D A [(m0, .inr (6, [.int 0, .int 0, .ref m1, .ref m2, .int 0, .ref m3, .int 0, .ref m4, .ref m5, .int 0, .ref m6, .ref m7, .ref m8, .ref m9, .ref m10, .ref m11, .ref m12, .int 0, .null, .null])), (m1, .inl (D.2 0, 800, .inl (fun _ => 0))), (m2, .inl (D.2 0, 200, .inl (fun _ => 0))), (m3, .inl (D.2 0, 200, .inl (fun _ => 0))), (m4, .inl (D.2 0, 48, .inl (fun _ => 0))), (m5, .inl (D.2 0, 16, .inl (fun _ => 0))), (m6, .inl (D.2 0, 8, .inl (fun _ => 0))), (m7, .inl (D.2 0, 4, .inl (fun _ => 0))), (m8, .inl (D.2 0, 48, .inl (fun _ => 0))), (m9, .inl (D.2 0, 48, .inl (fun _ => 0))), (m10, .inl (D.2 0, 3, .inl (fun _ => 0))), (m11, .inl (D.2 0, 30, .inl (fun _ => 0))), (m12, .inl (D.2 0, 30, .inl (fun _ => 0))), (m13, .inl (D.2 0, 10, .inl (fun _ => 0)))] := hD
  refine va_putF (D := D.1) (ci := 6) (v := .ref m13) (ty := .array .int) (C := "ShopLedgerModel") (T := TX6) (N := 20) hx hb hZ inX6 tyX6 tyX6_ok nmX6 hown hK hP hD hS 0 rfl rfl 18 (by decide) (hZ _ t_298) (fun _ h9 => h9) rfl hin rfl (by decide +kernel) rfl rfl (Nat.le_of_ble_eq_true rfl) dX6_init_106 (fun H locs hP hD hS => ?_)
  have hP : va_P D.1 vwCl [(m0, .inr (6, [.int 0, .int 0, .ref m1, .ref m2, .int 0, .ref m3, .int 0, .ref m4, .ref m5, .int 0, .ref m6, .ref m7, .ref m8, .ref m9, .ref m10, .ref m11, .ref m12, .int 0, .ref m13, .null])), (m1, .inl (D.2 0, 800, .inl (fun _ => 0))), (m2, .inl (D.2 0, 200, .inl (fun _ => 0))), (m3, .inl (D.2 0, 200, .inl (fun _ => 0))), (m4, .inl (D.2 0, 48, .inl (fun _ => 0))), (m5, .inl (D.2 0, 16, .inl (fun _ => 0))), (m6, .inl (D.2 0, 8, .inl (fun _ => 0))), (m7, .inl (D.2 0, 4, .inl (fun _ => 0))), (m8, .inl (D.2 0, 48, .inl (fun _ => 0))), (m9, .inl (D.2 0, 48, .inl (fun _ => 0))), (m10, .inl (D.2 0, 3, .inl (fun _ => 0))), (m11, .inl (D.2 0, 30, .inl (fun _ => 0))), (m12, .inl (D.2 0, 30, .inl (fun _ => 0))), (m13, .inl (D.2 0, 10, .inl (fun _ => 0)))] H := hP
  have hD : va_D A [(m0, .inr (6, [.int 0, .int 0, .ref m1, .ref m2, .int 0, .ref m3, .int 0, .ref m4, .ref m5, .int 0, .ref m6, .ref m7, .ref m8, .ref m9, .ref m10, .ref m11, .ref m12, .int 0, .ref m13, .null])), (m1, .inl (D.2 0, 800, .inl (fun _ => 0))), (m2, .inl (D.2 0, 200, .inl (fun _ => 0))), (m3, .inl (D.2 0, 200, .inl (fun _ => 0))), (m4, .inl (D.2 0, 48, .inl (fun _ => 0))), (m5, .inl (D.2 0, 16, .inl (fun _ => 0))), (m6, .inl (D.2 0, 8, .inl (fun _ => 0))), (m7, .inl (D.2 0, 4, .inl (fun _ => 0))), (m8, .inl (D.2 0, 48, .inl (fun _ => 0))), (m9, .inl (D.2 0, 48, .inl (fun _ => 0))), (m10, .inl (D.2 0, 3, .inl (fun _ => 0))), (m11, .inl (D.2 0, 30, .inl (fun _ => 0))), (m12, .inl (D.2 0, 30, .inl (fun _ => 0))), (m13, .inl (D.2 0, 10, .inl (fun _ => 0)))] := hD
  refine lv_aload_n hx hb dX6_init_109 rfl (lv_at hl 0 rfl) ?_
  refine lv_bipush (v := 10) hx hb dX6_init_110 (by decide) ?_
  refine va_newa (atype := .int) (ty := .int) (a0 := (10, .inl (fun _ => 0))) hx hb (hZ _ t_173) rfl hK hP hD hS hA (fun _ => rfl) (by decide) (by decide) (by decide) (Nat.le_of_ble_eq_true rfl) (Nat.le_of_ble_eq_true rfl) dX6_init_112 (fun m14 cA H hK9 hP hD hS => ?_)
  have e9 := z_cai hK9
  subst e9
  have hP : va_P D.1 vwCl [(m0, .inr (6, [.int 0, .int 0, .ref m1, .ref m2, .int 0, .ref m3, .int 0, .ref m4, .ref m5, .int 0, .ref m6, .ref m7, .ref m8, .ref m9, .ref m10, .ref m11, .ref m12, .int 0, .ref m13, .null])), (m1, .inl (D.2 0, 800, .inl (fun _ => 0))), (m2, .inl (D.2 0, 200, .inl (fun _ => 0))), (m3, .inl (D.2 0, 200, .inl (fun _ => 0))), (m4, .inl (D.2 0, 48, .inl (fun _ => 0))), (m5, .inl (D.2 0, 16, .inl (fun _ => 0))), (m6, .inl (D.2 0, 8, .inl (fun _ => 0))), (m7, .inl (D.2 0, 4, .inl (fun _ => 0))), (m8, .inl (D.2 0, 48, .inl (fun _ => 0))), (m9, .inl (D.2 0, 48, .inl (fun _ => 0))), (m10, .inl (D.2 0, 3, .inl (fun _ => 0))), (m11, .inl (D.2 0, 30, .inl (fun _ => 0))), (m12, .inl (D.2 0, 30, .inl (fun _ => 0))), (m13, .inl (D.2 0, 10, .inl (fun _ => 0))), (m14, .inl (D.2 0, 10, .inl (fun _ => 0)))] H := hP
  have hD : va_D A [(m0, .inr (6, [.int 0, .int 0, .ref m1, .ref m2, .int 0, .ref m3, .int 0, .ref m4, .ref m5, .int 0, .ref m6, .ref m7, .ref m8, .ref m9, .ref m10, .ref m11, .ref m12, .int 0, .ref m13, .null])), (m1, .inl (D.2 0, 800, .inl (fun _ => 0))), (m2, .inl (D.2 0, 200, .inl (fun _ => 0))), (m3, .inl (D.2 0, 200, .inl (fun _ => 0))), (m4, .inl (D.2 0, 48, .inl (fun _ => 0))), (m5, .inl (D.2 0, 16, .inl (fun _ => 0))), (m6, .inl (D.2 0, 8, .inl (fun _ => 0))), (m7, .inl (D.2 0, 4, .inl (fun _ => 0))), (m8, .inl (D.2 0, 48, .inl (fun _ => 0))), (m9, .inl (D.2 0, 48, .inl (fun _ => 0))), (m10, .inl (D.2 0, 3, .inl (fun _ => 0))), (m11, .inl (D.2 0, 30, .inl (fun _ => 0))), (m12, .inl (D.2 0, 30, .inl (fun _ => 0))), (m13, .inl (D.2 0, 10, .inl (fun _ => 0))), (m14, .inl (D.2 0, 10, .inl (fun _ => 0)))] := hD
  refine va_putF (D := D.1) (ci := 6) (v := .ref m14) (ty := .array .int) (C := "ShopLedgerModel") (T := TX6) (N := 20) hx hb hZ inX6 tyX6 tyX6_ok nmX6 hown hK hP hD hS 0 rfl rfl 19 (by decide) (hZ _ t_299) (fun _ h9 => h9) rfl hin rfl (by decide +kernel) rfl rfl (Nat.le_of_ble_eq_true rfl) dX6_init_114 (fun H locs hP hD hS => ?_)
  have hP : va_P D.1 vwCl [(m0, .inr (6, [.int 0, .int 0, .ref m1, .ref m2, .int 0, .ref m3, .int 0, .ref m4, .ref m5, .int 0, .ref m6, .ref m7, .ref m8, .ref m9, .ref m10, .ref m11, .ref m12, .int 0, .ref m13, .ref m14])), (m1, .inl (D.2 0, 800, .inl (fun _ => 0))), (m2, .inl (D.2 0, 200, .inl (fun _ => 0))), (m3, .inl (D.2 0, 200, .inl (fun _ => 0))), (m4, .inl (D.2 0, 48, .inl (fun _ => 0))), (m5, .inl (D.2 0, 16, .inl (fun _ => 0))), (m6, .inl (D.2 0, 8, .inl (fun _ => 0))), (m7, .inl (D.2 0, 4, .inl (fun _ => 0))), (m8, .inl (D.2 0, 48, .inl (fun _ => 0))), (m9, .inl (D.2 0, 48, .inl (fun _ => 0))), (m10, .inl (D.2 0, 3, .inl (fun _ => 0))), (m11, .inl (D.2 0, 30, .inl (fun _ => 0))), (m12, .inl (D.2 0, 30, .inl (fun _ => 0))), (m13, .inl (D.2 0, 10, .inl (fun _ => 0))), (m14, .inl (D.2 0, 10, .inl (fun _ => 0)))] H := hP
  have hD : va_D A [(m0, .inr (6, [.int 0, .int 0, .ref m1, .ref m2, .int 0, .ref m3, .int 0, .ref m4, .ref m5, .int 0, .ref m6, .ref m7, .ref m8, .ref m9, .ref m10, .ref m11, .ref m12, .int 0, .ref m13, .ref m14])), (m1, .inl (D.2 0, 800, .inl (fun _ => 0))), (m2, .inl (D.2 0, 200, .inl (fun _ => 0))), (m3, .inl (D.2 0, 200, .inl (fun _ => 0))), (m4, .inl (D.2 0, 48, .inl (fun _ => 0))), (m5, .inl (D.2 0, 16, .inl (fun _ => 0))), (m6, .inl (D.2 0, 8, .inl (fun _ => 0))), (m7, .inl (D.2 0, 4, .inl (fun _ => 0))), (m8, .inl (D.2 0, 48, .inl (fun _ => 0))), (m9, .inl (D.2 0, 48, .inl (fun _ => 0))), (m10, .inl (D.2 0, 3, .inl (fun _ => 0))), (m11, .inl (D.2 0, 30, .inl (fun _ => 0))), (m12, .inl (D.2 0, 30, .inl (fun _ => 0))), (m13, .inl (D.2 0, 10, .inl (fun _ => 0))), (m14, .inl (D.2 0, 10, .inl (fun _ => 0)))] := hD
  exact z_vret hx hb hr hlocks hP hD hS (fun k => ([m1, m2, m3, m4, m5, m6, m7, m8, m9, m10, m11, m12, m13, m14] : List Nat).getD k 0) (trivial) [0, 1, 2, 3, 4, 5, 6, 7, 8, 9, 10, 11, 12, 13, 14] rfl (by decide) (Nat.le_of_ble_eq_true rfl) (Nat.le_of_ble_eq_true rfl) dX6_init_117
