theorem t_308 : (Cond.code ⟨"ShopLedgerModel", "balance", "(II)J"⟩ prog_8_method_14_code 6 (some .long) : Cond) ∈ zALL := List.mem_filter.mpr ⟨List.mem_append_right _ (List.mem_append_right _ (List.mem_append_right _ (List.mem_of_getElem? (l := tables_1_3) (i := 174) (by decide +kernel)))), by decide +kernel⟩
theorem t_309 : (Cond.methodLink "ShopLedgerModel" 96 ⟨"ShopLedgerModel", "balance", "(II)J"⟩ : Cond) ∈ zALL := List.mem_filter.mpr ⟨List.mem_append_right _ (List.mem_append_right _ (List.mem_append_right _ (List.mem_of_getElem? (l := tables_1_3) (i := 171) (by decide +kernel)))), by decide +kernel⟩
theorem t_310 : (Cond.instanceMethod ⟨"ShopLedgerModel", "balance", "(II)J"⟩ : Cond) ∈ zALL := List.mem_filter.mpr ⟨List.mem_append_right _ (List.mem_append_right _ (List.mem_append_right _ (List.mem_of_getElem? (l := tables_1_3) (i := 173) (by decide +kernel)))), by decide +kernel⟩
theorem t_311 : (Cond.selects "ShopLedgerModel" ⟨"ShopLedgerModel", "balance", "(II)J"⟩ ⟨"ShopLedgerModel", "balance", "(II)J"⟩ : Cond) ∈ zALL := List.mem_filter.mpr ⟨List.mem_append_left _ (by decide +kernel), by decide +kernel⟩
theorem t_312 : (Cond.fieldLink "ShopLedgerModel" 28 "ShopLedgerModel" "layers" "[I" : Cond) ∈ zALL := List.mem_filter.mpr ⟨List.mem_append_right _ (List.mem_append_right _ (List.mem_append_right _ (List.mem_of_getElem? (l := tables_1_3) (i := 67) (by decide +kernel)))), by decide +kernel⟩
theorem t_313 : (Cond.fieldLink "ShopLedgerModel" 31 "ShopLedgerModel" "layerPieces" "[I" : Cond) ∈ zALL := List.mem_filter.mpr ⟨List.mem_append_right _ (List.mem_append_right _ (List.mem_append_right _ (List.mem_of_getElem? (l := tables_1_3) (i := 68) (by decide +kernel)))), by decide +kernel⟩
theorem t_314 : (Cond.constantLong "ShopLedgerModel" 107 3 : Cond) ∈ zALL := List.mem_filter.mpr ⟨List.mem_append_right _ (List.mem_append_right _ (List.mem_append_right _ (List.mem_of_getElem? (l := tables_1_3) (i := 193) (by decide +kernel)))), by decide +kernel⟩
theorem t_315 : (Cond.fieldLink "ShopLedgerModel" 34 "ShopLedgerModel" "layerCents" "[I" : Cond) ∈ zALL := List.mem_filter.mpr ⟨List.mem_append_right _ (List.mem_append_right _ (List.mem_append_right _ (List.mem_of_getElem? (l := tables_1_3) (i := 69) (by decide +kernel)))), by decide +kernel⟩
theorem t_316 : (Cond.constantLong "ShopLedgerModel" 113 2 : Cond) ∈ zALL := List.mem_filter.mpr ⟨List.mem_append_right _ (List.mem_append_right _ (List.mem_append_right _ (List.mem_of_getElem? (l := tables_1_3) (i := 206) (by decide +kernel)))), by decide +kernel⟩
theorem t_317 : (Cond.code ⟨"ShopLedgerModel", "stocked", "(I)J"⟩ prog_8_method_19_code 5 (some .long) : Cond) ∈ zALL := List.mem_filter.mpr ⟨List.mem_append_right _ (List.mem_append_right _ (List.mem_append_right _ (List.mem_of_getElem? (l := tables_1_3) (i := 201) (by decide +kernel)))), by decide +kernel⟩
theorem t_318 : (Cond.methodLink "ShopLedgerModel" 109 ⟨"ShopLedgerModel", "stocked", "(I)J"⟩ : Cond) ∈ zALL := List.mem_filter.mpr ⟨List.mem_append_right _ (List.mem_append_right _ (List.mem_append_right _ (List.mem_of_getElem? (l := tables_1_3) (i := 198) (by decide +kernel)))), by decide +kernel⟩
theorem t_319 : (Cond.instanceMethod ⟨"ShopLedgerModel", "stocked", "(I)J"⟩ : Cond) ∈ zALL := List.mem_filter.mpr ⟨List.mem_append_right _ (List.mem_append_right _ (List.mem_append_right _ (List.mem_of_getElem? (l := tables_1_3) (i := 200) (by decide +kernel)))), by decide +kernel⟩
theorem t_320 : (Cond.selects "ShopLedgerModel" ⟨"ShopLedgerModel", "stocked", "(I)J"⟩ ⟨"ShopLedgerModel", "stocked", "(I)J"⟩ : Cond) ∈ zALL := List.mem_filter.mpr ⟨List.mem_append_left _ (by decide +kernel), by decide +kernel⟩
set_option maxHeartbeats 4000000 in
set_option maxRecDepth 100000 in
/-- the reference: told -/
theorem d_told {l : Launch} (D : zD) (m0 m1 m2 m3 m4 m5 m6 m7 m8 m9 m10 m11 m12 m13 m14 : Nat) (M : zM) (bt ln cl pn : Nat) (th : Int32) (j : Nat) (p2 : Int32) (sz : Nat) (hM : M.1 ≤ 200) (hj : j < 8) : Met l yX6_told wsX6_told ({ frames := 1, cells := 0, slots := 0, locals := 25 }) (va_Pc [.ref m0, .int (nI j), .int p2] (zp D sz [(m0, .inr (6, [.int th, .int (nI M.1), .ref m1, .ref m2, .int (nI bt), .ref m3, .int (nI ln), .ref m4, .ref m5, .int (nI cl), .ref m6, .ref m7, .ref m8, .ref m9, .ref m10, .ref m11, .ref m12, .int (nI pn), .ref m13, .ref m14])), (m1, .inl (D.2 0, 800, .inl M.2.1)), (m2, .inl (D.2 0, 200, .inl M.2.2))])) (va_Ql (fun r (u : Option Int32) => (u = none ∧ (zin p2 (nI (zmost j M.1))) ∧ r = zm_told M j p2) ∨ (u = some 1 ∧ ¬ (zin p2 (nI (zmost j M.1))))) (zq D (va_A [(m0, .inr (6, [.int th, .int (nI M.1), .ref m1, .ref m2, .int (nI bt), .ref m3, .int (nI ln), .ref m4, .ref m5, .int (nI cl), .ref m6, .ref m7, .ref m8, .ref m9, .ref m10, .ref m11, .ref m12, .int (nI pn), .ref m13, .ref m14])), (m1, .inl (D.2 0, 800, .inl M.2.1)), (m2, .inl (D.2 0, 200, .inl M.2.2))] sz) (fun (u : Option Int32) => (u.elim [(m0, .inr (6, [.int 0, .int (nI M.1), .ref m1, .ref m2, .int (nI bt), .ref m3, .int (nI ln), .ref m4, .ref m5, .int (nI cl), .ref m6, .ref m7, .ref m8, .ref m9, .ref m10, .ref m11, .ref m12, .int (nI pn), .ref m13, .ref m14])), (m1, .inl (D.2 0, 800, .inl M.2.1)), (m2, .inl (D.2 0, 200, .inl M.2.2))] (fun t => [(m0, .inr (6, [.int t, .int (nI M.1), .ref m1, .ref m2, .int (nI bt), .ref m3, .int (nI ln), .ref m4, .ref m5, .int (nI cl), .ref m6, .ref m7, .ref m8, .ref m9, .ref m10, .ref m11, .ref m12, .int (nI pn), .ref m13, .ref m14])), (m1, .inl (D.2 0, 800, .inl M.2.1)), (m2, .inl (D.2 0, 200, .inl M.2.2))]) : va_W))) (va_A [(m0, .inr (6, [.int th, .int (nI M.1), .ref m1, .ref m2, .int (nI bt), .ref m3, .int (nI ln), .ref m4, .ref m5, .int (nI cl), .ref m6, .ref m7, .ref m8, .ref m9, .ref m10, .ref m11, .ref m12, .int (nI pn), .ref m13, .ref m14])), (m1, .inl (D.2 0, 800, .inl M.2.1)), (m2, .inl (D.2 0, 200, .inl M.2.2))] sz)) 0 0 (va_A [(m0, .inr (6, [.int th, .int (nI M.1), .ref m1, .ref m2, .int (nI bt), .ref m3, .int (nI ln), .ref m4, .ref m5, .int (nI cl), .ref m6, .ref m7, .ref m8, .ref m9, .ref m10, .ref m11, .ref m12, .int (nI pn), .ref m13, .ref m14])), (m1, .inl (D.2 0, 800, .inl M.2.1)), (m2, .inl (D.2 0, 200, .inl M.2.2))] sz) := by
  refine Met.ofW (cc := cX6_told) (maxL := 4) (ret := (some .long)) (by decide) rfl ?_
  intro p e s m args below meth c s₁ B hml hv
  obtain ⟨rfl, hsz, hP, hK, hD0, hB⟩ := hv
  have hx := B.exec
  have hb := B.bytes
  have hr := B.returns
  have hts := atoms_spec (ws := wsX6_told) B.pre
  have hown : s.vm.findClass "ShopLedgerModel" = some m.cls := findClass_of_methodNamed B.named
  have hlocks := B.notSynchronized
  subst hsz
  have hD := hD0.self (sz := s.heap.size)
  generalize hAe : va_A [(m0, .inr (6, [.int th, .int (nI M.1), .ref m1, .ref m2, .int (nI bt), .ref m3, .int (nI ln), .ref m4, .ref m5, .int (nI cl), .ref m6, .ref m7, .ref m8, .ref m9, .ref m10, .ref m11, .ref m12, .int (nI pn), .ref m13, .ref m14])), (m1, .inl (D.2 0, 800, .inl M.2.1)), (m2, .inl (D.2 0, 200, .inl M.2.2))] s.heap.size = A at hD hB ⊢
  have hA : ∀ q : Nat, s.heap.size ≤ q → A q := fun q h => by rw [← hAe]; exact Or.inr h
  have hS : va_S A s.heap s.heap [] := va_S.rf
  have hZ : ∀ w ∈ zALL, w.before _ s = true := fun w h => hts w (List.mem_cons_of_mem _ h)
  have hF : CallFix p m c cX6_told 4 s _ zALL "ShopLedgerModel" := ⟨hx, hb, hml, hown, hZ⟩
  have hl := lv_entry ([.ref m0, .int (nI j), .int p2]) (n := 4) (Nat.le_of_ble_eq_true rfl)
  rw [lg_entry_eq]
  generalize (lg_sl ([.ref m0, .int (nI j), .int p2]) ++ List.replicate (4 - (lg_sl ([.ref m0, .int (nI j), .int p2])).length) Slot.unset).toArray = ls at hl ⊢
  have hl : lv_has ls 4 [(0, .ref m0), (1, .int (nI j)), (2, .int p2)] := hl
  refine lv_iload_n hx hb dX6_told_0 rfl (lv_at hl 1 rfl) ?_
  refine lv_iconst (v := 2) hx hb dX6_told_1 (by decide) ?_
  refine lv_icmp_ge (tgt := 10) hx hb dX6_told_2 (by decide) (fun c1 => ?_) (fun c1 => ?_)
  · skip
    have h2 := z_jle (k := 2) (by decide) (by omega) c1
    refine lv_iload_n hx hb dX6_told_10 rfl (lv_at hl 1 rfl) ?_
    refine lv_iconst (v := 2) hx hb dX6_told_11 (by decide) ?_
    refine lv_icmp_ne (tgt := 20) hx hb dX6_told_12 (by decide) (fun c2 => ?_) (fun c2 => ?_)
    · skip
      have h3 : ¬ j = 2 := fun h => c2 (by rw [h]; rfl)
      have hz : zmost j M.1 = M.1 := (if_neg (by omega)).trans (if_neg h3)
      refine lv_aload_n hx hb dX6_told_20 rfl (lv_at hl 0 rfl) ?_
      refine va_get (D := D.1) (ci := 6) (v := .int (nI M.1)) (C := "ShopLedgerModel") (T := TX6) (N := 20) hx hb hZ inX6 hown hK hP 0 rfl rfl 1 (by decide) (hZ _ t_277) (fun _ h9 => h9) rfl dX6_told_21 ?_
      refine lv_iconst (v := 1) hx hb dX6_told_24 (by decide) ?_
      refine lv_isub hx hb dX6_told_25 ?_
      refine lv_istore_n (lv' := [(3, .int ((nI M.1) - 1)), (0, .ref m0), (1, .int (nI j)), (2, .int p2)]) hx hb dX6_told_26 rfl hl (by decide) rfl (fun ls hl => ?_)
      refine lv_aload_n hx hb dX6_told_27 rfl (lv_at hl 1 rfl) ?_
      refine lv_iload_n hx hb dX6_told_28 rfl (lv_at hl 2 rfl) ?_
      refine lv_i2l (v := (nI j).toInt64) hx hb dX6_told_29 rfl ?_
      refine lv_lconst (v := 0) hx hb dX6_told_30 (by decide) ?_
      refine lv_ldc2 (v := 7) hx hb hown (hZ _ t_270) dX6_told_31 ?_
      have J := zJ.mk (wc := []) (wr := [(m0, .inr (6, [.int th, .int (nI M.1), .ref m1, .ref m2, .int (nI bt), .ref m3, .int (nI ln), .ref m4, .ref m5, .int (nI cl), .ref m6, .ref m7, .ref m8, .ref m9, .ref m10, .ref m11, .ref m12, .int (nI pn), .ref m13, .ref m14])), (m1, .inl (D.2 0, 800, .inl M.2.1)), (m2, .inl (D.2 0, 200, .inl M.2.2))]) hA hB hK hP hD hS [] [0, 1, 2] rfl rfl (by decide)
      refine z_goi (z_runS (As := [.long ((nI j).toInt64), .long 0, .long 7]) (rest := [.ref m0]) hF (d_lies D (nI j).toInt64 0 7 s.heap.size) (va_cwS 3 hZ (z_gS t_273 t_274 t_272 t_271) rfl rfl rfl (by decide +kernel) ⟨Nat.le_of_ble_eq_true rfl, Nat.le_of_ble_eq_true rfl⟩) J rfl hl.1 (Nat.le_of_ble_eq_true rfl) dX6_told_34 ⟨Nat.le_of_ble_eq_true rfl, Nat.le_of_ble_eq_true rfl⟩) J (fun r1 _ H locs w1 hP hD hS => ?_)
      have hP : va_P D.1 vwCl [(m0, .inr (6, [.int th, .int (nI M.1), .ref m1, .ref m2, .int (nI bt), .ref m3, .int (nI ln), .ref m4, .ref m5, .int (nI cl), .ref m6, .ref m7, .ref m8, .ref m9, .ref m10, .ref m11, .ref m12, .int (nI pn), .ref m13, .ref m14])), (m1, .inl (D.2 0, 800, .inl M.2.1)), (m2, .inl (D.2 0, 200, .inl M.2.2))] H := hP
      have hD : va_D A [(m0, .inr (6, [.int th, .int (nI M.1), .ref m1, .ref m2, .int (nI bt), .ref m3, .int (nI ln), .ref m4, .ref m5, .int (nI cl), .ref m6, .ref m7, .ref m8, .ref m9, .ref m10, .ref m11, .ref m12, .int (nI pn), .ref m13, .ref m14])), (m1, .inl (D.2 0, 800, .inl M.2.1)), (m2, .inl (D.2 0, 200, .inl M.2.2))] := hD
      have f1 : (r1 = 1 ∧ zin (nI j) 8) ∨ (r1 = 0 ∧ ¬ zin (nI j) 8) := z_lz 7 (by decide) (by decide) w1
      refine lv_if_eq (tgt := 51) hx hb dX6_told_37 (by decide) (fun c3 => ?_) (fun c3 => ?_)
      · skip
        exfalso; exact z_b0 f1 c3 ⟨nI_pos (by omega), nI_ge hj (by decide)⟩
      have g1 := z_b1 f1 c3
      refine lv_iload_n hx hb dX6_told_40 rfl (lv_at hl 3 rfl) ?_
      refine lv_i2l (v := p2.toInt64) hx hb dX6_told_41 rfl ?_
      refine lv_lconst (v := 0) hx hb dX6_told_42 (by decide) ?_
      refine lv_iload_n hx hb dX6_told_43 rfl (lv_at hl 0 rfl) ?_
      refine lv_i2l (v := ((nI M.1) - 1).toInt64) hx hb dX6_told_44 rfl ?_
      have J := zJ.mk (wc := []) (wr := [(m0, .inr (6, [.int th, .int (nI M.1), .ref m1, .ref m2, .int (nI bt), .ref m3, .int (nI ln), .ref m4, .ref m5, .int (nI cl), .ref m6, .ref m7, .ref m8, .ref m9, .ref m10, .ref m11, .ref m12, .int (nI pn), .ref m13, .ref m14])), (m1, .inl (D.2 0, 800, .inl M.2.1)), (m2, .inl (D.2 0, 200, .inl M.2.2))]) hA hB hK hP hD hS [] [0, 1, 2] rfl rfl (by decide)
      refine z_goi (z_runS (As := [.long p2.toInt64, .long 0, .long (((nI M.1) - 1).toInt64)]) (rest := [.ref m0]) hF (d_lies D p2.toInt64 0 (nI M.1 - 1).toInt64 H.size) (va_cwS 3 hZ (z_gS t_273 t_274 t_272 t_271) rfl rfl rfl (by decide +kernel) ⟨Nat.le_of_ble_eq_true rfl, Nat.le_of_ble_eq_true rfl⟩) J rfl hl.1 (Nat.le_of_ble_eq_true rfl) dX6_told_45 ⟨Nat.le_of_ble_eq_true rfl, Nat.le_of_ble_eq_true rfl⟩) J (fun r2 _ H locs w2 hP hD hS => ?_)
      have hP : va_P D.1 vwCl [(m0, .inr (6, [.int th, .int (nI M.1), .ref m1, .ref m2, .int (nI bt), .ref m3, .int (nI ln), .ref m4, .ref m5, .int (nI cl), .ref m6, .ref m7, .ref m8, .ref m9, .ref m10, .ref m11, .ref m12, .int (nI pn), .ref m13, .ref m14])), (m1, .inl (D.2 0, 800, .inl M.2.1)), (m2, .inl (D.2 0, 200, .inl M.2.2))] H := hP
      have hD : va_D A [(m0, .inr (6, [.int th, .int (nI M.1), .ref m1, .ref m2, .int (nI bt), .ref m3, .int (nI ln), .ref m4, .ref m5, .int (nI cl), .ref m6, .ref m7, .ref m8, .ref m9, .ref m10, .ref m11, .ref m12, .int (nI pn), .ref m13, .ref m14])), (m1, .inl (D.2 0, 800, .inl M.2.1)), (m2, .inl (D.2 0, 200, .inl M.2.2))] := hD
      have f2 := z_lzn M.1 (by omega) w2
      have f2 : (r2 = 1 ∧ zin p2 (nI (zmost j M.1))) ∨ (r2 = 0 ∧ ¬ zin p2 (nI (zmost j M.1))) := by rw [hz]; exact f2
      refine lv_if_ne (tgt := 55) hx hb dX6_told_48 (by decide) (fun c4 => ?_) (fun c4 => ?_)
      · skip
        have ar := z_b1 f2 c4
        refine lv_iconst (v := 0) hx hb dX6_told_55 (by decide) ?_
        refine lv_iconst (v := 0) hx hb dX6_told_56 (by decide) ?_
        refine lv_iconst (v := 0) hx hb dX6_told_57 (by decide) ?_
        refine lv_iconst (v := 0) hx hb dX6_told_58 (by decide) ?_
        have J := zJ.mk (wc := [(m0, .inr (6, [.int th, .int (nI M.1), .ref m1, .ref m2, .int (nI bt), .ref m3, .int (nI ln), .ref m4, .ref m5, .int (nI cl), .ref m6, .ref m7, .ref m8, .ref m9, .ref m10, .ref m11, .ref m12, .int (nI pn), .ref m13, .ref m14]))]) (wr := [(m1, .inl (D.2 0, 800, .inl M.2.1)), (m2, .inl (D.2 0, 200, .inl M.2.2))]) hA hB hK hP hD hS [0] [1, 2] rfl rfl (by decide)
        refine z_goi (z_runV (As := [.int 0, .int 0, .int 0, .int 0]) (rest := []) (b := m0) hF (d_throwing D m0 m1 m2 m3 m4 m5 m6 m7 m8 m9 m10 m11 m12 m13 m14 (M.1, fun _ => 0, fun _ => 0) bt ln cl pn th 0 0 0 0 H.size) (cwV 4 hZ (z_gV t_286 t_287 t_288 t_272 t_285) rfl rfl rfl (by decide +kernel) ⟨Nat.le_of_ble_eq_true rfl, Nat.le_of_ble_eq_true rfl⟩) J 0 6 rfl rfl rfl rfl hl.1 (Nat.le_of_ble_eq_true rfl) dX6_told_59 ⟨Nat.le_of_ble_eq_true rfl, Nat.le_of_ble_eq_true rfl⟩) J (fun r3 _ H locs w3 hP hD hS => ?_)
        have hP : va_P D.1 vwCl [(m1, .inl (D.2 0, 800, .inl M.2.1)), (m2, .inl (D.2 0, 200, .inl M.2.2)), (m0, .inr (6, [.int 0, .int (nI M.1), .ref m1, .ref m2, .int (nI bt), .ref m3, .int (nI ln), .ref m4, .ref m5, .int (nI cl), .ref m6, .ref m7, .ref m8, .ref m9, .ref m10, .ref m11, .ref m12, .int (nI pn), .ref m13, .ref m14]))] H := hP
        have hD : va_D A [(m1, .inl (D.2 0, 800, .inl M.2.1)), (m2, .inl (D.2 0, 200, .inl M.2.2)), (m0, .inr (6, [.int 0, .int (nI M.1), .ref m1, .ref m2, .int (nI bt), .ref m3, .int (nI ln), .ref m4, .ref m5, .int (nI cl), .ref m6, .ref m7, .ref m8, .ref m9, .ref m10, .ref m11, .ref m12, .int (nI pn), .ref m13, .ref m14]))] := hD
        have w3 : r3 = 0 := w3
        subst w3
        refine lv_if_eq (tgt := 67) hx hb dX6_told_62 (by decide) (fun c5 => ?_) (fun c5 => ?_)
        · skip
          refine lv_iload_n hx hb dX6_told_67 rfl (lv_at hl 2 rfl) ?_
          refine lv_iconst (v := 3) hx hb dX6_told_68 (by decide) ?_
          refine lv_icmp_ge (tgt := 79) hx hb dX6_told_69 (by decide) (fun c6 => ?_) (fun c6 => ?_)
          · skip
            have h6 := z_jle (k := 3) (by decide) (by omega) c6
            have hz6 : zmost j M.1 = M.1 := (if_neg (by omega)).trans (if_neg (by omega))
            have ar6 := ar
            rw [hz6] at ar6
            refine lv_iload_n hx hb dX6_told_79 rfl (lv_at hl 2 rfl) ?_
            refine lv_iconst (v := 3) hx hb dX6_told_80 (by decide) ?_
            refine lv_icmp_ne (tgt := 94) hx hb dX6_told_81 (by decide) (fun c7 => ?_) (fun c7 => ?_)
            · skip
              have h7 : ¬ j = 3 := fun h => c7 (by rw [h]; rfl)
              obtain ⟨i, hi, e9⟩ := z_ix (by omega) ar6
              subst e9
              refine lv_aload_n hx hb dX6_told_94 rfl (lv_at hl 1 rfl) ?_
              refine va_get (D := D.1) (ci := 6) (v := .ref m1) (C := "ShopLedgerModel") (T := TX6) (N := 20) hx hb hZ inX6 hown hK hP 2 rfl rfl 2 (by decide) (hZ _ t_276) (fun _ h9 => h9) rfl dX6_told_95 ?_
              refine lv_iconst (v := 4) hx hb dX6_told_98 (by decide) ?_
              refine lv_iload_n hx hb dX6_told_99 rfl (lv_at hl 3 rfl) ?_
              refine lv_imul hx hb dX6_told_100 ?_
              rw [show (4 * (nI i)) = nI (4 * i) from pk_mul 4 i]
              refine lv_iload_n hx hb dX6_told_101 rfl (lv_at hl 2 rfl) ?_
              refine lv_iadd hx hb dX6_told_102 ?_
              rw [show ((nI (4 * i)) + (nI j)) = nI (4 * i + j) from nI_add _ _]
              refine lv_iconst (v := 4) hx hb dX6_told_103 (by decide) ?_
              refine lv_isub hx hb dX6_told_104 ?_
              rw [show ((nI (4 * i + j)) - 4) = nI (4 * i + j - 4) from pk_sub (b := 4) (by omega)]
              refine z_iald (k := 4 * i + j - 4) hx hb hK hP 0 rfl (by omega) (by decide) dX6_told_105 ?_
              refine lv_i2l (v := (M.2.1 (4 * i + j - 4)).toInt64) hx hb dX6_told_106 rfl ?_
              exact z_lret (v := (M.2.1 (4 * i + j - 4)).toInt64) hx hb hr hlocks hP hD hS none (Or.inl ⟨rfl, ar, by first | exact ((if_neg (by omega)).trans (if_pos h7)).symm | (simp only [zm_told]; rw [if_neg (by omega), if_neg h7, nI_clamp (by omega)])⟩) [2, 0, 1] rfl (by decide) (Nat.le_of_ble_eq_true rfl) (Nat.le_of_ble_eq_true rfl) dX6_told_107
            have h7 : j = 3 := (nI_eq (b := 3) (by omega) (by decide)).mp c7
            refine lv_aload_n hx hb dX6_told_84 rfl (lv_at hl 1 rfl) ?_
            refine va_get (D := D.1) (ci := 6) (v := .ref m2) (C := "ShopLedgerModel") (T := TX6) (N := 20) hx hb hZ inX6 hown hK hP 2 rfl rfl 3 (by decide) (hZ _ t_279) (fun _ h9 => h9) rfl dX6_told_85 ?_
            refine lv_iload_n hx hb dX6_told_88 rfl (lv_at hl 3 rfl) ?_
            refine va_iald hx hb hK hP 1 0 rfl rfl (z_vle (z_viN (by omega) ar6) hM) dX6_told_89 ?_
            refine lv_i2l (v := (M.2.2 p2.toNatClampNeg).toInt64) hx hb dX6_told_90 rfl ?_
            refine lv_goto (tgt := 107) hx hb dX6_told_91 (by decide) ?_
            exact z_lret (v := (M.2.2 p2.toNatClampNeg).toInt64) hx hb hr hlocks hP hD hS none (Or.inl ⟨rfl, ar, by first | exact ((if_neg (by omega)).trans (if_pos h7)).symm | (simp only [zm_told]; rw [if_neg (by omega), if_neg h7, nI_clamp (by omega)])⟩) [2, 0, 1] rfl (by decide) (Nat.le_of_ble_eq_true rfl) (Nat.le_of_ble_eq_true rfl) dX6_told_107
          have h6 := z_njl (k := 3) (by decide) (by omega) c6
          refine lv_aload_n hx hb dX6_told_72 rfl (lv_at hl 1 rfl) ?_
          refine lv_iload_n hx hb dX6_told_73 rfl (lv_at hl 2 rfl) ?_
          refine lv_iload_n hx hb dX6_told_74 rfl (lv_at hl 3 rfl) ?_
          have J := zJ.mk (wc := [(m0, .inr (6, [.int 0, .int (nI M.1), .ref m1, .ref m2, .int (nI bt), .ref m3, .int (nI ln), .ref m4, .ref m5, .int (nI cl), .ref m6, .ref m7, .ref m8, .ref m9, .ref m10, .ref m11, .ref m12, .int (nI pn), .ref m13, .ref m14])), (m1, .inl (D.2 0, 800, .inl M.2.1)), (m2, .inl (D.2 0, 200, .inl M.2.2))]) (wr := []) hA hB hK hP hD hS [2, 0, 1] [] rfl rfl (by decide)
          refine z_gol (z_runV (As := [.int (nI j), .int p2]) (rest := []) (b := m0) hF (d_balance D m0 m1 m2 m3 m4 m5 m6 m7 m8 m9 m10 m11 m12 m13 m14 M bt ln cl pn 0 j p2 H.size hM (by omega)) (cwV 2 hZ (z_gV t_309 t_310 t_311 t_272 t_308) rfl rfl rfl (by decide +kernel) ⟨Nat.le_of_ble_eq_true rfl, Nat.le_of_ble_eq_true rfl⟩) J 0 6 rfl rfl rfl rfl hl.1 (Nat.le_of_ble_eq_true rfl) dX6_told_75 ⟨Nat.le_of_ble_eq_true rfl, Nat.le_of_ble_eq_true rfl⟩) J (fun r4 _ H locs w4 hP hD hS => ?_)
          have hP : va_P D.1 vwCl [(m0, .inr (6, [.int 0, .int (nI M.1), .ref m1, .ref m2, .int (nI bt), .ref m3, .int (nI ln), .ref m4, .ref m5, .int (nI cl), .ref m6, .ref m7, .ref m8, .ref m9, .ref m10, .ref m11, .ref m12, .int (nI pn), .ref m13, .ref m14])), (m1, .inl (D.2 0, 800, .inl M.2.1)), (m2, .inl (D.2 0, 200, .inl M.2.2))] H := hP
          have hD : va_D A [(m0, .inr (6, [.int 0, .int (nI M.1), .ref m1, .ref m2, .int (nI bt), .ref m3, .int (nI ln), .ref m4, .ref m5, .int (nI cl), .ref m6, .ref m7, .ref m8, .ref m9, .ref m10, .ref m11, .ref m12, .int (nI pn), .ref m13, .ref m14])), (m1, .inl (D.2 0, 800, .inl M.2.1)), (m2, .inl (D.2 0, 200, .inl M.2.2))] := hD
          subst w4
          exact z_lret (v := zm_bal M.2.1 M.2.2 j p2 M.1) hx hb hr hlocks hP hD hS none (Or.inl ⟨rfl, ar, (if_pos h6).symm⟩) [0, 1, 2] rfl (by decide) (Nat.le_of_ble_eq_true rfl) (Nat.le_of_ble_eq_true rfl) dX6_told_78
        exfalso; exact absurd c5 (by decide)
      have ar := z_b0 f2 c4
      refine lv_iconst (v := 1) hx hb dX6_told_51 (by decide) ?_
      refine lv_goto (tgt := 56) hx hb dX6_told_52 (by decide) ?_
      refine lv_iconst (v := 0) hx hb dX6_told_56 (by decide) ?_
      refine lv_iconst (v := 0) hx hb dX6_told_57 (by decide) ?_
      refine lv_iconst (v := 0) hx hb dX6_told_58 (by decide) ?_
      have J := zJ.mk (wc := [(m0, .inr (6, [.int th, .int (nI M.1), .ref m1, .ref m2, .int (nI bt), .ref m3, .int (nI ln), .ref m4, .ref m5, .int (nI cl), .ref m6, .ref m7, .ref m8, .ref m9, .ref m10, .ref m11, .ref m12, .int (nI pn), .ref m13, .ref m14]))]) (wr := [(m1, .inl (D.2 0, 800, .inl M.2.1)), (m2, .inl (D.2 0, 200, .inl M.2.2))]) hA hB hK hP hD hS [0] [1, 2] rfl rfl (by decide)
      refine z_goi (z_runV (As := [.int 1, .int 0, .int 0, .int 0]) (rest := []) (b := m0) hF (d_throwing D m0 m1 m2 m3 m4 m5 m6 m7 m8 m9 m10 m11 m12 m13 m14 (M.1, fun _ => 0, fun _ => 0) bt ln cl pn th 1 0 0 0 H.size) (cwV 4 hZ (z_gV t_286 t_287 t_288 t_272 t_285) rfl rfl rfl (by decide +kernel) ⟨Nat.le_of_ble_eq_true rfl, Nat.le_of_ble_eq_true rfl⟩) J 0 6 rfl rfl rfl rfl hl.1 (Nat.le_of_ble_eq_true rfl) dX6_told_59 ⟨Nat.le_of_ble_eq_true rfl, Nat.le_of_ble_eq_true rfl⟩) J (fun r3 _ H locs w3 hP hD hS => ?_)
      have hP : va_P D.1 vwCl [(m1, .inl (D.2 0, 800, .inl M.2.1)), (m2, .inl (D.2 0, 200, .inl M.2.2)), (m0, .inr (6, [.int 1, .int (nI M.1), .ref m1, .ref m2, .int (nI bt), .ref m3, .int (nI ln), .ref m4, .ref m5, .int (nI cl), .ref m6, .ref m7, .ref m8, .ref m9, .ref m10, .ref m11, .ref m12, .int (nI pn), .ref m13, .ref m14]))] H := hP
      have hD : va_D A [(m1, .inl (D.2 0, 800, .inl M.2.1)), (m2, .inl (D.2 0, 200, .inl M.2.2)), (m0, .inr (6, [.int 1, .int (nI M.1), .ref m1, .ref m2, .int (nI bt), .ref m3, .int (nI ln), .ref m4, .ref m5, .int (nI cl), .ref m6, .ref m7, .ref m8, .ref m9, .ref m10, .ref m11, .ref m12, .int (nI pn), .ref m13, .ref m14]))] := hD
      have w3 : r3 = 1 := w3
      subst w3
      refine lv_if_eq (tgt := 67) hx hb dX6_told_62 (by decide) (fun c5 => ?_) (fun c5 => ?_)
      · skip
        exfalso; exact absurd c5 (by decide)
      refine lv_lconst (v := 0) hx hb dX6_told_65 (by decide) ?_
      exact z_lret (v := 0) hx hb hr hlocks hP hD hS (some 1) (Or.inr (⟨rfl, ar⟩)) [2, 0, 1] rfl (by decide) (Nat.le_of_ble_eq_true rfl) (Nat.le_of_ble_eq_true rfl) dX6_told_66
    have h3 : j = 2 := (nI_eq (b := 2) (by omega) (by decide)).mp c2
    have hz : zmost j M.1 = 12 := (if_neg (by omega)).trans (if_pos h3)
    refine lv_bipush (v := 11) hx hb dX6_told_15 (by decide) ?_
    refine lv_goto (tgt := 26) hx hb dX6_told_17 (by decide) ?_
    refine lv_istore_n (lv' := [(3, .int 11), (0, .ref m0), (1, .int (nI j)), (2, .int p2)]) hx hb dX6_told_26 rfl hl (by decide) rfl (fun ls hl => ?_)
    refine lv_aload_n hx hb dX6_told_27 rfl (lv_at hl 1 rfl) ?_
    refine lv_iload_n hx hb dX6_told_28 rfl (lv_at hl 2 rfl) ?_
    refine lv_i2l (v := (nI j).toInt64) hx hb dX6_told_29 rfl ?_
    refine lv_lconst (v := 0) hx hb dX6_told_30 (by decide) ?_
    refine lv_ldc2 (v := 7) hx hb hown (hZ _ t_270) dX6_told_31 ?_
    have J := zJ.mk (wc := []) (wr := [(m0, .inr (6, [.int th, .int (nI M.1), .ref m1, .ref m2, .int (nI bt), .ref m3, .int (nI ln), .ref m4, .ref m5, .int (nI cl), .ref m6, .ref m7, .ref m8, .ref m9, .ref m10, .ref m11, .ref m12, .int (nI pn), .ref m13, .ref m14])), (m1, .inl (D.2 0, 800, .inl M.2.1)), (m2, .inl (D.2 0, 200, .inl M.2.2))]) hA hB hK hP hD hS [] [0, 1, 2] rfl rfl (by decide)
    refine z_goi (z_runS (As := [.long ((nI j).toInt64), .long 0, .long 7]) (rest := [.ref m0]) hF (d_lies D (nI j).toInt64 0 7 s.heap.size) (va_cwS 3 hZ (z_gS t_273 t_274 t_272 t_271) rfl rfl rfl (by decide +kernel) ⟨Nat.le_of_ble_eq_true rfl, Nat.le_of_ble_eq_true rfl⟩) J rfl hl.1 (Nat.le_of_ble_eq_true rfl) dX6_told_34 ⟨Nat.le_of_ble_eq_true rfl, Nat.le_of_ble_eq_true rfl⟩) J (fun r1 _ H locs w1 hP hD hS => ?_)
    have hP : va_P D.1 vwCl [(m0, .inr (6, [.int th, .int (nI M.1), .ref m1, .ref m2, .int (nI bt), .ref m3, .int (nI ln), .ref m4, .ref m5, .int (nI cl), .ref m6, .ref m7, .ref m8, .ref m9, .ref m10, .ref m11, .ref m12, .int (nI pn), .ref m13, .ref m14])), (m1, .inl (D.2 0, 800, .inl M.2.1)), (m2, .inl (D.2 0, 200, .inl M.2.2))] H := hP
    have hD : va_D A [(m0, .inr (6, [.int th, .int (nI M.1), .ref m1, .ref m2, .int (nI bt), .ref m3, .int (nI ln), .ref m4, .ref m5, .int (nI cl), .ref m6, .ref m7, .ref m8, .ref m9, .ref m10, .ref m11, .ref m12, .int (nI pn), .ref m13, .ref m14])), (m1, .inl (D.2 0, 800, .inl M.2.1)), (m2, .inl (D.2 0, 200, .inl M.2.2))] := hD
    have f1 : (r1 = 1 ∧ zin (nI j) 8) ∨ (r1 = 0 ∧ ¬ zin (nI j) 8) := z_lz 7 (by decide) (by decide) w1
    refine lv_if_eq (tgt := 51) hx hb dX6_told_37 (by decide) (fun c3 => ?_) (fun c3 => ?_)
    · skip
      exfalso; exact z_b0 f1 c3 ⟨nI_pos (by omega), nI_ge hj (by decide)⟩
    have g1 := z_b1 f1 c3
    refine lv_iload_n hx hb dX6_told_40 rfl (lv_at hl 3 rfl) ?_
    refine lv_i2l (v := p2.toInt64) hx hb dX6_told_41 rfl ?_
    refine lv_lconst (v := 0) hx hb dX6_told_42 (by decide) ?_
    refine lv_iload_n hx hb dX6_told_43 rfl (lv_at hl 0 rfl) ?_
    refine lv_i2l (v := (11 : Int32).toInt64) hx hb dX6_told_44 rfl ?_
    have J := zJ.mk (wc := []) (wr := [(m0, .inr (6, [.int th, .int (nI M.1), .ref m1, .ref m2, .int (nI bt), .ref m3, .int (nI ln), .ref m4, .ref m5, .int (nI cl), .ref m6, .ref m7, .ref m8, .ref m9, .ref m10, .ref m11, .ref m12, .int (nI pn), .ref m13, .ref m14])), (m1, .inl (D.2 0, 800, .inl M.2.1)), (m2, .inl (D.2 0, 200, .inl M.2.2))]) hA hB hK hP hD hS [] [0, 1, 2] rfl rfl (by decide)
    refine z_goi (z_runS (As := [.long p2.toInt64, .long 0, .long ((11 : Int32).toInt64)]) (rest := [.ref m0]) hF (d_lies D p2.toInt64 0 (11 : Int32).toInt64 H.size) (va_cwS 3 hZ (z_gS t_273 t_274 t_272 t_271) rfl rfl rfl (by decide +kernel) ⟨Nat.le_of_ble_eq_true rfl, Nat.le_of_ble_eq_true rfl⟩) J rfl hl.1 (Nat.le_of_ble_eq_true rfl) dX6_told_45 ⟨Nat.le_of_ble_eq_true rfl, Nat.le_of_ble_eq_true rfl⟩) J (fun r2 _ H locs w2 hP hD hS => ?_)
    have hP : va_P D.1 vwCl [(m0, .inr (6, [.int th, .int (nI M.1), .ref m1, .ref m2, .int (nI bt), .ref m3, .int (nI ln), .ref m4, .ref m5, .int (nI cl), .ref m6, .ref m7, .ref m8, .ref m9, .ref m10, .ref m11, .ref m12, .int (nI pn), .ref m13, .ref m14])), (m1, .inl (D.2 0, 800, .inl M.2.1)), (m2, .inl (D.2 0, 200, .inl M.2.2))] H := hP
    have hD : va_D A [(m0, .inr (6, [.int th, .int (nI M.1), .ref m1, .ref m2, .int (nI bt), .ref m3, .int (nI ln), .ref m4, .ref m5, .int (nI cl), .ref m6, .ref m7, .ref m8, .ref m9, .ref m10, .ref m11, .ref m12, .int (nI pn), .ref m13, .ref m14])), (m1, .inl (D.2 0, 800, .inl M.2.1)), (m2, .inl (D.2 0, 200, .inl M.2.2))] := hD
    have f2 : (r2 = 1 ∧ zin p2 12) ∨ (r2 = 0 ∧ ¬ zin p2 12) := z_lz 11 (by decide) (by decide) w2
    have f2 : (r2 = 1 ∧ zin p2 (nI (zmost j M.1))) ∨ (r2 = 0 ∧ ¬ zin p2 (nI (zmost j M.1))) := by rw [hz]; exact f2
    refine lv_if_ne (tgt := 55) hx hb dX6_told_48 (by decide) (fun c4 => ?_) (fun c4 => ?_)
    · skip
      have ar := z_b1 f2 c4
      refine lv_iconst (v := 0) hx hb dX6_told_55 (by decide) ?_
      refine lv_iconst (v := 0) hx hb dX6_told_56 (by decide) ?_
      refine lv_iconst (v := 0) hx hb dX6_told_57 (by decide) ?_
      refine lv_iconst (v := 0) hx hb dX6_told_58 (by decide) ?_
      have J := zJ.mk (wc := [(m0, .inr (6, [.int th, .int (nI M.1), .ref m1, .ref m2, .int (nI bt), .ref m3, .int (nI ln), .ref m4, .ref m5, .int (nI cl), .ref m6, .ref m7, .ref m8, .ref m9, .ref m10, .ref m11, .ref m12, .int (nI pn), .ref m13, .ref m14]))]) (wr := [(m1, .inl (D.2 0, 800, .inl M.2.1)), (m2, .inl (D.2 0, 200, .inl M.2.2))]) hA hB hK hP hD hS [0] [1, 2] rfl rfl (by decide)
      refine z_goi (z_runV (As := [.int 0, .int 0, .int 0, .int 0]) (rest := []) (b := m0) hF (d_throwing D m0 m1 m2 m3 m4 m5 m6 m7 m8 m9 m10 m11 m12 m13 m14 (M.1, fun _ => 0, fun _ => 0) bt ln cl pn th 0 0 0 0 H.size) (cwV 4 hZ (z_gV t_286 t_287 t_288 t_272 t_285) rfl rfl rfl (by decide +kernel) ⟨Nat.le_of_ble_eq_true rfl, Nat.le_of_ble_eq_true rfl⟩) J 0 6 rfl rfl rfl rfl hl.1 (Nat.le_of_ble_eq_true rfl) dX6_told_59 ⟨Nat.le_of_ble_eq_true rfl, Nat.le_of_ble_eq_true rfl⟩) J (fun r3 _ H locs w3 hP hD hS => ?_)
      have hP : va_P D.1 vwCl [(m1, .inl (D.2 0, 800, .inl M.2.1)), (m2, .inl (D.2 0, 200, .inl M.2.2)), (m0, .inr (6, [.int 0, .int (nI M.1), .ref m1, .ref m2, .int (nI bt), .ref m3, .int (nI ln), .ref m4, .ref m5, .int (nI cl), .ref m6, .ref m7, .ref m8, .ref m9, .ref m10, .ref m11, .ref m12, .int (nI pn), .ref m13, .ref m14]))] H := hP
      have hD : va_D A [(m1, .inl (D.2 0, 800, .inl M.2.1)), (m2, .inl (D.2 0, 200, .inl M.2.2)), (m0, .inr (6, [.int 0, .int (nI M.1), .ref m1, .ref m2, .int (nI bt), .ref m3, .int (nI ln), .ref m4, .ref m5, .int (nI cl), .ref m6, .ref m7, .ref m8, .ref m9, .ref m10, .ref m11, .ref m12, .int (nI pn), .ref m13, .ref m14]))] := hD
      have w3 : r3 = 0 := w3
      subst w3
      refine lv_if_eq (tgt := 67) hx hb dX6_told_62 (by decide) (fun c5 => ?_) (fun c5 => ?_)
      · skip
        refine lv_iload_n hx hb dX6_told_67 rfl (lv_at hl 2 rfl) ?_
        refine lv_iconst (v := 3) hx hb dX6_told_68 (by decide) ?_
        refine lv_icmp_ge (tgt := 79) hx hb dX6_told_69 (by decide) (fun c6 => ?_) (fun c6 => ?_)
        · skip
          have h6 := z_jle (k := 3) (by decide) (by omega) c6
          have hz6 : zmost j M.1 = M.1 := (if_neg (by omega)).trans (if_neg (by omega))
          have ar6 := ar
          rw [hz6] at ar6
          refine lv_iload_n hx hb dX6_told_79 rfl (lv_at hl 2 rfl) ?_
          refine lv_iconst (v := 3) hx hb dX6_told_80 (by decide) ?_
          refine lv_icmp_ne (tgt := 94) hx hb dX6_told_81 (by decide) (fun c7 => ?_) (fun c7 => ?_)
          · skip
            have h7 : ¬ j = 3 := fun h => c7 (by rw [h]; rfl)
            obtain ⟨i, hi, e9⟩ := z_ix (by omega) ar6
            subst e9
            refine lv_aload_n hx hb dX6_told_94 rfl (lv_at hl 1 rfl) ?_
            refine va_get (D := D.1) (ci := 6) (v := .ref m1) (C := "ShopLedgerModel") (T := TX6) (N := 20) hx hb hZ inX6 hown hK hP 2 rfl rfl 2 (by decide) (hZ _ t_276) (fun _ h9 => h9) rfl dX6_told_95 ?_
            refine lv_iconst (v := 4) hx hb dX6_told_98 (by decide) ?_
            refine lv_iload_n hx hb dX6_told_99 rfl (lv_at hl 3 rfl) ?_
            refine lv_imul hx hb dX6_told_100 ?_
            rw [show (4 * (nI i)) = nI (4 * i) from pk_mul 4 i]
            refine lv_iload_n hx hb dX6_told_101 rfl (lv_at hl 2 rfl) ?_
            refine lv_iadd hx hb dX6_told_102 ?_
            rw [show ((nI (4 * i)) + (nI j)) = nI (4 * i + j) from nI_add _ _]
            refine lv_iconst (v := 4) hx hb dX6_told_103 (by decide) ?_
            refine lv_isub hx hb dX6_told_104 ?_
            rw [show ((nI (4 * i + j)) - 4) = nI (4 * i + j - 4) from pk_sub (b := 4) (by omega)]
            refine z_iald (k := 4 * i + j - 4) hx hb hK hP 0 rfl (by omega) (by decide) dX6_told_105 ?_
            refine lv_i2l (v := (M.2.1 (4 * i + j - 4)).toInt64) hx hb dX6_told_106 rfl ?_
            exact z_lret (v := (M.2.1 (4 * i + j - 4)).toInt64) hx hb hr hlocks hP hD hS none (Or.inl ⟨rfl, ar, by first | exact ((if_neg (by omega)).trans (if_pos h7)).symm | (simp only [zm_told]; rw [if_neg (by omega), if_neg h7, nI_clamp (by omega)])⟩) [2, 0, 1] rfl (by decide) (Nat.le_of_ble_eq_true rfl) (Nat.le_of_ble_eq_true rfl) dX6_told_107
          have h7 : j = 3 := (nI_eq (b := 3) (by omega) (by decide)).mp c7
          refine lv_aload_n hx hb dX6_told_84 rfl (lv_at hl 1 rfl) ?_
          refine va_get (D := D.1) (ci := 6) (v := .ref m2) (C := "ShopLedgerModel") (T := TX6) (N := 20) hx hb hZ inX6 hown hK hP 2 rfl rfl 3 (by decide) (hZ _ t_279) (fun _ h9 => h9) rfl dX6_told_85 ?_
          refine lv_iload_n hx hb dX6_told_88 rfl (lv_at hl 3 rfl) ?_
          refine va_iald hx hb hK hP 1 0 rfl rfl (z_vle (z_viN (by omega) ar6) hM) dX6_told_89 ?_
          refine lv_i2l (v := (M.2.2 p2.toNatClampNeg).toInt64) hx hb dX6_told_90 rfl ?_
          refine lv_goto (tgt := 107) hx hb dX6_told_91 (by decide) ?_
          exact z_lret (v := (M.2.2 p2.toNatClampNeg).toInt64) hx hb hr hlocks hP hD hS none (Or.inl ⟨rfl, ar, by first | exact ((if_neg (by omega)).trans (if_pos h7)).symm | (simp only [zm_told]; rw [if_neg (by omega), if_neg h7, nI_clamp (by omega)])⟩) [2, 0, 1] rfl (by decide) (Nat.le_of_ble_eq_true rfl) (Nat.le_of_ble_eq_true rfl) dX6_told_107
        have h6 := z_njl (k := 3) (by decide) (by omega) c6
        refine lv_aload_n hx hb dX6_told_72 rfl (lv_at hl 1 rfl) ?_
        refine lv_iload_n hx hb dX6_told_73 rfl (lv_at hl 2 rfl) ?_
        refine lv_iload_n hx hb dX6_told_74 rfl (lv_at hl 3 rfl) ?_
        have J := zJ.mk (wc := [(m0, .inr (6, [.int 0, .int (nI M.1), .ref m1, .ref m2, .int (nI bt), .ref m3, .int (nI ln), .ref m4, .ref m5, .int (nI cl), .ref m6, .ref m7, .ref m8, .ref m9, .ref m10, .ref m11, .ref m12, .int (nI pn), .ref m13, .ref m14])), (m1, .inl (D.2 0, 800, .inl M.2.1)), (m2, .inl (D.2 0, 200, .inl M.2.2))]) (wr := []) hA hB hK hP hD hS [2, 0, 1] [] rfl rfl (by decide)
        refine z_gol (z_runV (As := [.int (nI j), .int p2]) (rest := []) (b := m0) hF (d_balance D m0 m1 m2 m3 m4 m5 m6 m7 m8 m9 m10 m11 m12 m13 m14 M bt ln cl pn 0 j p2 H.size hM (by omega)) (cwV 2 hZ (z_gV t_309 t_310 t_311 t_272 t_308) rfl rfl rfl (by decide +kernel) ⟨Nat.le_of_ble_eq_true rfl, Nat.le_of_ble_eq_true rfl⟩) J 0 6 rfl rfl rfl rfl hl.1 (Nat.le_of_ble_eq_true rfl) dX6_told_75 ⟨Nat.le_of_ble_eq_true rfl, Nat.le_of_ble_eq_true rfl⟩) J (fun r4 _ H locs w4 hP hD hS => ?_)
        have hP : va_P D.1 vwCl [(m0, .inr (6, [.int 0, .int (nI M.1), .ref m1, .ref m2, .int (nI bt), .ref m3, .int (nI ln), .ref m4, .ref m5, .int (nI cl), .ref m6, .ref m7, .ref m8, .ref m9, .ref m10, .ref m11, .ref m12, .int (nI pn), .ref m13, .ref m14])), (m1, .inl (D.2 0, 800, .inl M.2.1)), (m2, .inl (D.2 0, 200, .inl M.2.2))] H := hP
        have hD : va_D A [(m0, .inr (6, [.int 0, .int (nI M.1), .ref m1, .ref m2, .int (nI bt), .ref m3, .int (nI ln), .ref m4, .ref m5, .int (nI cl), .ref m6, .ref m7, .ref m8, .ref m9, .ref m10, .ref m11, .ref m12, .int (nI pn), .ref m13, .ref m14])), (m1, .inl (D.2 0, 800, .inl M.2.1)), (m2, .inl (D.2 0, 200, .inl M.2.2))] := hD
        subst w4
        exact z_lret (v := zm_bal M.2.1 M.2.2 j p2 M.1) hx hb hr hlocks hP hD hS none (Or.inl ⟨rfl, ar, (if_pos h6).symm⟩) [0, 1, 2] rfl (by decide) (Nat.le_of_ble_eq_true rfl) (Nat.le_of_ble_eq_true rfl) dX6_told_78
      exfalso; exact absurd c5 (by decide)
    have ar := z_b0 f2 c4
    refine lv_iconst (v := 1) hx hb dX6_told_51 (by decide) ?_
    refine lv_goto (tgt := 56) hx hb dX6_told_52 (by decide) ?_
    refine lv_iconst (v := 0) hx hb dX6_told_56 (by decide) ?_
    refine lv_iconst (v := 0) hx hb dX6_told_57 (by decide) ?_
    refine lv_iconst (v := 0) hx hb dX6_told_58 (by decide) ?_
    have J := zJ.mk (wc := [(m0, .inr (6, [.int th, .int (nI M.1), .ref m1, .ref m2, .int (nI bt), .ref m3, .int (nI ln), .ref m4, .ref m5, .int (nI cl), .ref m6, .ref m7, .ref m8, .ref m9, .ref m10, .ref m11, .ref m12, .int (nI pn), .ref m13, .ref m14]))]) (wr := [(m1, .inl (D.2 0, 800, .inl M.2.1)), (m2, .inl (D.2 0, 200, .inl M.2.2))]) hA hB hK hP hD hS [0] [1, 2] rfl rfl (by decide)
    refine z_goi (z_runV (As := [.int 1, .int 0, .int 0, .int 0]) (rest := []) (b := m0) hF (d_throwing D m0 m1 m2 m3 m4 m5 m6 m7 m8 m9 m10 m11 m12 m13 m14 (M.1, fun _ => 0, fun _ => 0) bt ln cl pn th 1 0 0 0 H.size) (cwV 4 hZ (z_gV t_286 t_287 t_288 t_272 t_285) rfl rfl rfl (by decide +kernel) ⟨Nat.le_of_ble_eq_true rfl, Nat.le_of_ble_eq_true rfl⟩) J 0 6 rfl rfl rfl rfl hl.1 (Nat.le_of_ble_eq_true rfl) dX6_told_59 ⟨Nat.le_of_ble_eq_true rfl, Nat.le_of_ble_eq_true rfl⟩) J (fun r3 _ H locs w3 hP hD hS => ?_)
    have hP : va_P D.1 vwCl [(m1, .inl (D.2 0, 800, .inl M.2.1)), (m2, .inl (D.2 0, 200, .inl M.2.2)), (m0, .inr (6, [.int 1, .int (nI M.1), .ref m1, .ref m2, .int (nI bt), .ref m3, .int (nI ln), .ref m4, .ref m5, .int (nI cl), .ref m6, .ref m7, .ref m8, .ref m9, .ref m10, .ref m11, .ref m12, .int (nI pn), .ref m13, .ref m14]))] H := hP
    have hD : va_D A [(m1, .inl (D.2 0, 800, .inl M.2.1)), (m2, .inl (D.2 0, 200, .inl M.2.2)), (m0, .inr (6, [.int 1, .int (nI M.1), .ref m1, .ref m2, .int (nI bt), .ref m3, .int (nI ln), .ref m4, .ref m5, .int (nI cl), .ref m6, .ref m7, .ref m8, .ref m9, .ref m10, .ref m11, .ref m12, .int (nI pn), .ref m13, .ref m14]))] := hD
    have w3 : r3 = 1 := w3
    subst w3
    refine lv_if_eq (tgt := 67) hx hb dX6_told_62 (by decide) (fun c5 => ?_) (fun c5 => ?_)
    · skip
      exfalso; exact absurd c5 (by decide)
    refine lv_lconst (v := 0) hx hb dX6_told_65 (by decide) ?_
    exact z_lret (v := 0) hx hb hr hlocks hP hD hS (some 1) (Or.inr (⟨rfl, ar⟩)) [2, 0, 1] rfl (by decide) (Nat.le_of_ble_eq_true rfl) (Nat.le_of_ble_eq_true rfl) dX6_told_66
  have hz : zmost j M.1 = 8 := if_pos (z_njl (k := 2) (by decide) (by omega) c1)
  refine lv_bipush (v := 7) hx hb dX6_told_5 (by decide) ?_
  refine lv_goto (tgt := 26) hx hb dX6_told_7 (by decide) ?_
  refine lv_istore_n (lv' := [(3, .int 7), (0, .ref m0), (1, .int (nI j)), (2, .int p2)]) hx hb dX6_told_26 rfl hl (by decide) rfl (fun ls hl => ?_)
  refine lv_aload_n hx hb dX6_told_27 rfl (lv_at hl 1 rfl) ?_
  refine lv_iload_n hx hb dX6_told_28 rfl (lv_at hl 2 rfl) ?_
  refine lv_i2l (v := (nI j).toInt64) hx hb dX6_told_29 rfl ?_
  refine lv_lconst (v := 0) hx hb dX6_told_30 (by decide) ?_
  refine lv_ldc2 (v := 7) hx hb hown (hZ _ t_270) dX6_told_31 ?_
  have J := zJ.mk (wc := []) (wr := [(m0, .inr (6, [.int th, .int (nI M.1), .ref m1, .ref m2, .int (nI bt), .ref m3, .int (nI ln), .ref m4, .ref m5, .int (nI cl), .ref m6, .ref m7, .ref m8, .ref m9, .ref m10, .ref m11, .ref m12, .int (nI pn), .ref m13, .ref m14])), (m1, .inl (D.2 0, 800, .inl M.2.1)), (m2, .inl (D.2 0, 200, .inl M.2.2))]) hA hB hK hP hD hS [] [0, 1, 2] rfl rfl (by decide)
  refine z_goi (z_runS (As := [.long ((nI j).toInt64), .long 0, .long 7]) (rest := [.ref m0]) hF (d_lies D (nI j).toInt64 0 7 s.heap.size) (va_cwS 3 hZ (z_gS t_273 t_274 t_272 t_271) rfl rfl rfl (by decide +kernel) ⟨Nat.le_of_ble_eq_true rfl, Nat.le_of_ble_eq_true rfl⟩) J rfl hl.1 (Nat.le_of_ble_eq_true rfl) dX6_told_34 ⟨Nat.le_of_ble_eq_true rfl, Nat.le_of_ble_eq_true rfl⟩) J (fun r1 _ H locs w1 hP hD hS => ?_)
  have hP : va_P D.1 vwCl [(m0, .inr (6, [.int th, .int (nI M.1), .ref m1, .ref m2, .int (nI bt), .ref m3, .int (nI ln), .ref m4, .ref m5, .int (nI cl), .ref m6, .ref m7, .ref m8, .ref m9, .ref m10, .ref m11, .ref m12, .int (nI pn), .ref m13, .ref m14])), (m1, .inl (D.2 0, 800, .inl M.2.1)), (m2, .inl (D.2 0, 200, .inl M.2.2))] H := hP
  have hD : va_D A [(m0, .inr (6, [.int th, .int (nI M.1), .ref m1, .ref m2, .int (nI bt), .ref m3, .int (nI ln), .ref m4, .ref m5, .int (nI cl), .ref m6, .ref m7, .ref m8, .ref m9, .ref m10, .ref m11, .ref m12, .int (nI pn), .ref m13, .ref m14])), (m1, .inl (D.2 0, 800, .inl M.2.1)), (m2, .inl (D.2 0, 200, .inl M.2.2))] := hD
  have f1 : (r1 = 1 ∧ zin (nI j) 8) ∨ (r1 = 0 ∧ ¬ zin (nI j) 8) := z_lz 7 (by decide) (by decide) w1
  refine lv_if_eq (tgt := 51) hx hb dX6_told_37 (by decide) (fun c3 => ?_) (fun c3 => ?_)
  · skip
    exfalso; exact z_b0 f1 c3 ⟨nI_pos (by omega), nI_ge hj (by decide)⟩
  have g1 := z_b1 f1 c3
  refine lv_iload_n hx hb dX6_told_40 rfl (lv_at hl 3 rfl) ?_
  refine lv_i2l (v := p2.toInt64) hx hb dX6_told_41 rfl ?_
  refine lv_lconst (v := 0) hx hb dX6_told_42 (by decide) ?_
  refine lv_iload_n hx hb dX6_told_43 rfl (lv_at hl 0 rfl) ?_
  refine lv_i2l (v := (7 : Int32).toInt64) hx hb dX6_told_44 rfl ?_
  have J := zJ.mk (wc := []) (wr := [(m0, .inr (6, [.int th, .int (nI M.1), .ref m1, .ref m2, .int (nI bt), .ref m3, .int (nI ln), .ref m4, .ref m5, .int (nI cl), .ref m6, .ref m7, .ref m8, .ref m9, .ref m10, .ref m11, .ref m12, .int (nI pn), .ref m13, .ref m14])), (m1, .inl (D.2 0, 800, .inl M.2.1)), (m2, .inl (D.2 0, 200, .inl M.2.2))]) hA hB hK hP hD hS [] [0, 1, 2] rfl rfl (by decide)
  refine z_goi (z_runS (As := [.long p2.toInt64, .long 0, .long ((7 : Int32).toInt64)]) (rest := [.ref m0]) hF (d_lies D p2.toInt64 0 (7 : Int32).toInt64 H.size) (va_cwS 3 hZ (z_gS t_273 t_274 t_272 t_271) rfl rfl rfl (by decide +kernel) ⟨Nat.le_of_ble_eq_true rfl, Nat.le_of_ble_eq_true rfl⟩) J rfl hl.1 (Nat.le_of_ble_eq_true rfl) dX6_told_45 ⟨Nat.le_of_ble_eq_true rfl, Nat.le_of_ble_eq_true rfl⟩) J (fun r2 _ H locs w2 hP hD hS => ?_)
  have hP : va_P D.1 vwCl [(m0, .inr (6, [.int th, .int (nI M.1), .ref m1, .ref m2, .int (nI bt), .ref m3, .int (nI ln), .ref m4, .ref m5, .int (nI cl), .ref m6, .ref m7, .ref m8, .ref m9, .ref m10, .ref m11, .ref m12, .int (nI pn), .ref m13, .ref m14])), (m1, .inl (D.2 0, 800, .inl M.2.1)), (m2, .inl (D.2 0, 200, .inl M.2.2))] H := hP
  have hD : va_D A [(m0, .inr (6, [.int th, .int (nI M.1), .ref m1, .ref m2, .int (nI bt), .ref m3, .int (nI ln), .ref m4, .ref m5, .int (nI cl), .ref m6, .ref m7, .ref m8, .ref m9, .ref m10, .ref m11, .ref m12, .int (nI pn), .ref m13, .ref m14])), (m1, .inl (D.2 0, 800, .inl M.2.1)), (m2, .inl (D.2 0, 200, .inl M.2.2))] := hD
  have f2 : (r2 = 1 ∧ zin p2 8) ∨ (r2 = 0 ∧ ¬ zin p2 8) := z_lz 7 (by decide) (by decide) w2
  have f2 : (r2 = 1 ∧ zin p2 (nI (zmost j M.1))) ∨ (r2 = 0 ∧ ¬ zin p2 (nI (zmost j M.1))) := by rw [hz]; exact f2
  refine lv_if_ne (tgt := 55) hx hb dX6_told_48 (by decide) (fun c4 => ?_) (fun c4 => ?_)
  · skip
    have ar := z_b1 f2 c4
    refine lv_iconst (v := 0) hx hb dX6_told_55 (by decide) ?_
    refine lv_iconst (v := 0) hx hb dX6_told_56 (by decide) ?_
    refine lv_iconst (v := 0) hx hb dX6_told_57 (by decide) ?_
    refine lv_iconst (v := 0) hx hb dX6_told_58 (by decide) ?_
    have J := zJ.mk (wc := [(m0, .inr (6, [.int th, .int (nI M.1), .ref m1, .ref m2, .int (nI bt), .ref m3, .int (nI ln), .ref m4, .ref m5, .int (nI cl), .ref m6, .ref m7, .ref m8, .ref m9, .ref m10, .ref m11, .ref m12, .int (nI pn), .ref m13, .ref m14]))]) (wr := [(m1, .inl (D.2 0, 800, .inl M.2.1)), (m2, .inl (D.2 0, 200, .inl M.2.2))]) hA hB hK hP hD hS [0] [1, 2] rfl rfl (by decide)
    refine z_goi (z_runV (As := [.int 0, .int 0, .int 0, .int 0]) (rest := []) (b := m0) hF (d_throwing D m0 m1 m2 m3 m4 m5 m6 m7 m8 m9 m10 m11 m12 m13 m14 (M.1, fun _ => 0, fun _ => 0) bt ln cl pn th 0 0 0 0 H.size) (cwV 4 hZ (z_gV t_286 t_287 t_288 t_272 t_285) rfl rfl rfl (by decide +kernel) ⟨Nat.le_of_ble_eq_true rfl, Nat.le_of_ble_eq_true rfl⟩) J 0 6 rfl rfl rfl rfl hl.1 (Nat.le_of_ble_eq_true rfl) dX6_told_59 ⟨Nat.le_of_ble_eq_true rfl, Nat.le_of_ble_eq_true rfl⟩) J (fun r3 _ H locs w3 hP hD hS => ?_)
    have hP : va_P D.1 vwCl [(m1, .inl (D.2 0, 800, .inl M.2.1)), (m2, .inl (D.2 0, 200, .inl M.2.2)), (m0, .inr (6, [.int 0, .int (nI M.1), .ref m1, .ref m2, .int (nI bt), .ref m3, .int (nI ln), .ref m4, .ref m5, .int (nI cl), .ref m6, .ref m7, .ref m8, .ref m9, .ref m10, .ref m11, .ref m12, .int (nI pn), .ref m13, .ref m14]))] H := hP
    have hD : va_D A [(m1, .inl (D.2 0, 800, .inl M.2.1)), (m2, .inl (D.2 0, 200, .inl M.2.2)), (m0, .inr (6, [.int 0, .int (nI M.1), .ref m1, .ref m2, .int (nI bt), .ref m3, .int (nI ln), .ref m4, .ref m5, .int (nI cl), .ref m6, .ref m7, .ref m8, .ref m9, .ref m10, .ref m11, .ref m12, .int (nI pn), .ref m13, .ref m14]))] := hD
    have w3 : r3 = 0 := w3
    subst w3
    refine lv_if_eq (tgt := 67) hx hb dX6_told_62 (by decide) (fun c5 => ?_) (fun c5 => ?_)
    · skip
      refine lv_iload_n hx hb dX6_told_67 rfl (lv_at hl 2 rfl) ?_
      refine lv_iconst (v := 3) hx hb dX6_told_68 (by decide) ?_
      refine lv_icmp_ge (tgt := 79) hx hb dX6_told_69 (by decide) (fun c6 => ?_) (fun c6 => ?_)
      · skip
        have h6 := z_jle (k := 3) (by decide) (by omega) c6
        have hz6 : zmost j M.1 = M.1 := (if_neg (by omega)).trans (if_neg (by omega))
        have ar6 := ar
        rw [hz6] at ar6
        refine lv_iload_n hx hb dX6_told_79 rfl (lv_at hl 2 rfl) ?_
        refine lv_iconst (v := 3) hx hb dX6_told_80 (by decide) ?_
        refine lv_icmp_ne (tgt := 94) hx hb dX6_told_81 (by decide) (fun c7 => ?_) (fun c7 => ?_)
        · skip
          have h7 : ¬ j = 3 := fun h => c7 (by rw [h]; rfl)
          obtain ⟨i, hi, e9⟩ := z_ix (by omega) ar6
          subst e9
          refine lv_aload_n hx hb dX6_told_94 rfl (lv_at hl 1 rfl) ?_
          refine va_get (D := D.1) (ci := 6) (v := .ref m1) (C := "ShopLedgerModel") (T := TX6) (N := 20) hx hb hZ inX6 hown hK hP 2 rfl rfl 2 (by decide) (hZ _ t_276) (fun _ h9 => h9) rfl dX6_told_95 ?_
          refine lv_iconst (v := 4) hx hb dX6_told_98 (by decide) ?_
          refine lv_iload_n hx hb dX6_told_99 rfl (lv_at hl 3 rfl) ?_
          refine lv_imul hx hb dX6_told_100 ?_
          rw [show (4 * (nI i)) = nI (4 * i) from pk_mul 4 i]
          refine lv_iload_n hx hb dX6_told_101 rfl (lv_at hl 2 rfl) ?_
          refine lv_iadd hx hb dX6_told_102 ?_
          rw [show ((nI (4 * i)) + (nI j)) = nI (4 * i + j) from nI_add _ _]
          refine lv_iconst (v := 4) hx hb dX6_told_103 (by decide) ?_
          refine lv_isub hx hb dX6_told_104 ?_
          rw [show ((nI (4 * i + j)) - 4) = nI (4 * i + j - 4) from pk_sub (b := 4) (by omega)]
          refine z_iald (k := 4 * i + j - 4) hx hb hK hP 0 rfl (by omega) (by decide) dX6_told_105 ?_
          refine lv_i2l (v := (M.2.1 (4 * i + j - 4)).toInt64) hx hb dX6_told_106 rfl ?_
          exact z_lret (v := (M.2.1 (4 * i + j - 4)).toInt64) hx hb hr hlocks hP hD hS none (Or.inl ⟨rfl, ar, by first | exact ((if_neg (by omega)).trans (if_pos h7)).symm | (simp only [zm_told]; rw [if_neg (by omega), if_neg h7, nI_clamp (by omega)])⟩) [2, 0, 1] rfl (by decide) (Nat.le_of_ble_eq_true rfl) (Nat.le_of_ble_eq_true rfl) dX6_told_107
        have h7 : j = 3 := (nI_eq (b := 3) (by omega) (by decide)).mp c7
        refine lv_aload_n hx hb dX6_told_84 rfl (lv_at hl 1 rfl) ?_
        refine va_get (D := D.1) (ci := 6) (v := .ref m2) (C := "ShopLedgerModel") (T := TX6) (N := 20) hx hb hZ inX6 hown hK hP 2 rfl rfl 3 (by decide) (hZ _ t_279) (fun _ h9 => h9) rfl dX6_told_85 ?_
        refine lv_iload_n hx hb dX6_told_88 rfl (lv_at hl 3 rfl) ?_
        refine va_iald hx hb hK hP 1 0 rfl rfl (z_vle (z_viN (by omega) ar6) hM) dX6_told_89 ?_
        refine lv_i2l (v := (M.2.2 p2.toNatClampNeg).toInt64) hx hb dX6_told_90 rfl ?_
        refine lv_goto (tgt := 107) hx hb dX6_told_91 (by decide) ?_
        exact z_lret (v := (M.2.2 p2.toNatClampNeg).toInt64) hx hb hr hlocks hP hD hS none (Or.inl ⟨rfl, ar, by first | exact ((if_neg (by omega)).trans (if_pos h7)).symm | (simp only [zm_told]; rw [if_neg (by omega), if_neg h7, nI_clamp (by omega)])⟩) [2, 0, 1] rfl (by decide) (Nat.le_of_ble_eq_true rfl) (Nat.le_of_ble_eq_true rfl) dX6_told_107
      have h6 := z_njl (k := 3) (by decide) (by omega) c6
      refine lv_aload_n hx hb dX6_told_72 rfl (lv_at hl 1 rfl) ?_
      refine lv_iload_n hx hb dX6_told_73 rfl (lv_at hl 2 rfl) ?_
      refine lv_iload_n hx hb dX6_told_74 rfl (lv_at hl 3 rfl) ?_
      have J := zJ.mk (wc := [(m0, .inr (6, [.int 0, .int (nI M.1), .ref m1, .ref m2, .int (nI bt), .ref m3, .int (nI ln), .ref m4, .ref m5, .int (nI cl), .ref m6, .ref m7, .ref m8, .ref m9, .ref m10, .ref m11, .ref m12, .int (nI pn), .ref m13, .ref m14])), (m1, .inl (D.2 0, 800, .inl M.2.1)), (m2, .inl (D.2 0, 200, .inl M.2.2))]) (wr := []) hA hB hK hP hD hS [2, 0, 1] [] rfl rfl (by decide)
      refine z_gol (z_runV (As := [.int (nI j), .int p2]) (rest := []) (b := m0) hF (d_balance D m0 m1 m2 m3 m4 m5 m6 m7 m8 m9 m10 m11 m12 m13 m14 M bt ln cl pn 0 j p2 H.size hM (by omega)) (cwV 2 hZ (z_gV t_309 t_310 t_311 t_272 t_308) rfl rfl rfl (by decide +kernel) ⟨Nat.le_of_ble_eq_true rfl, Nat.le_of_ble_eq_true rfl⟩) J 0 6 rfl rfl rfl rfl hl.1 (Nat.le_of_ble_eq_true rfl) dX6_told_75 ⟨Nat.le_of_ble_eq_true rfl, Nat.le_of_ble_eq_true rfl⟩) J (fun r4 _ H locs w4 hP hD hS => ?_)
      have hP : va_P D.1 vwCl [(m0, .inr (6, [.int 0, .int (nI M.1), .ref m1, .ref m2, .int (nI bt), .ref m3, .int (nI ln), .ref m4, .ref m5, .int (nI cl), .ref m6, .ref m7, .ref m8, .ref m9, .ref m10, .ref m11, .ref m12, .int (nI pn), .ref m13, .ref m14])), (m1, .inl (D.2 0, 800, .inl M.2.1)), (m2, .inl (D.2 0, 200, .inl M.2.2))] H := hP
      have hD : va_D A [(m0, .inr (6, [.int 0, .int (nI M.1), .ref m1, .ref m2, .int (nI bt), .ref m3, .int (nI ln), .ref m4, .ref m5, .int (nI cl), .ref m6, .ref m7, .ref m8, .ref m9, .ref m10, .ref m11, .ref m12, .int (nI pn), .ref m13, .ref m14])), (m1, .inl (D.2 0, 800, .inl M.2.1)), (m2, .inl (D.2 0, 200, .inl M.2.2))] := hD
      subst w4
      exact z_lret (v := zm_bal M.2.1 M.2.2 j p2 M.1) hx hb hr hlocks hP hD hS none (Or.inl ⟨rfl, ar, (if_pos h6).symm⟩) [0, 1, 2] rfl (by decide) (Nat.le_of_ble_eq_true rfl) (Nat.le_of_ble_eq_true rfl) dX6_told_78
    exfalso; exact absurd c5 (by decide)
  have ar := z_b0 f2 c4
  refine lv_iconst (v := 1) hx hb dX6_told_51 (by decide) ?_
  refine lv_goto (tgt := 56) hx hb dX6_told_52 (by decide) ?_
  refine lv_iconst (v := 0) hx hb dX6_told_56 (by decide) ?_
  refine lv_iconst (v := 0) hx hb dX6_told_57 (by decide) ?_
  refine lv_iconst (v := 0) hx hb dX6_told_58 (by decide) ?_
  have J := zJ.mk (wc := [(m0, .inr (6, [.int th, .int (nI M.1), .ref m1, .ref m2, .int (nI bt), .ref m3, .int (nI ln), .ref m4, .ref m5, .int (nI cl), .ref m6, .ref m7, .ref m8, .ref m9, .ref m10, .ref m11, .ref m12, .int (nI pn), .ref m13, .ref m14]))]) (wr := [(m1, .inl (D.2 0, 800, .inl M.2.1)), (m2, .inl (D.2 0, 200, .inl M.2.2))]) hA hB hK hP hD hS [0] [1, 2] rfl rfl (by decide)
  refine z_goi (z_runV (As := [.int 1, .int 0, .int 0, .int 0]) (rest := []) (b := m0) hF (d_throwing D m0 m1 m2 m3 m4 m5 m6 m7 m8 m9 m10 m11 m12 m13 m14 (M.1, fun _ => 0, fun _ => 0) bt ln cl pn th 1 0 0 0 H.size) (cwV 4 hZ (z_gV t_286 t_287 t_288 t_272 t_285) rfl rfl rfl (by decide +kernel) ⟨Nat.le_of_ble_eq_true rfl, Nat.le_of_ble_eq_true rfl⟩) J 0 6 rfl rfl rfl rfl hl.1 (Nat.le_of_ble_eq_true rfl) dX6_told_59 ⟨Nat.le_of_ble_eq_true rfl, Nat.le_of_ble_eq_true rfl⟩) J (fun r3 _ H locs w3 hP hD hS => ?_)
  have hP : va_P D.1 vwCl [(m1, .inl (D.2 0, 800, .inl M.2.1)), (m2, .inl (D.2 0, 200, .inl M.2.2)), (m0, .inr (6, [.int 1, .int (nI M.1), .ref m1, .ref m2, .int (nI bt), .ref m3, .int (nI ln), .ref m4, .ref m5, .int (nI cl), .ref m6, .ref m7, .ref m8, .ref m9, .ref m10, .ref m11, .ref m12, .int (nI pn), .ref m13, .ref m14]))] H := hP
  have hD : va_D A [(m1, .inl (D.2 0, 800, .inl M.2.1)), (m2, .inl (D.2 0, 200, .inl M.2.2)), (m0, .inr (6, [.int 1, .int (nI M.1), .ref m1, .ref m2, .int (nI bt), .ref m3, .int (nI ln), .ref m4, .ref m5, .int (nI cl), .ref m6, .ref m7, .ref m8, .ref m9, .ref m10, .ref m11, .ref m12, .int (nI pn), .ref m13, .ref m14]))] := hD
  have w3 : r3 = 1 := w3
  subst w3
  refine lv_if_eq (tgt := 67) hx hb dX6_told_62 (by decide) (fun c5 => ?_) (fun c5 => ?_)
  · skip
    exfalso; exact absurd c5 (by decide)
  refine lv_lconst (v := 0) hx hb dX6_told_65 (by decide) ?_
  exact z_lret (v := 0) hx hb hr hlocks hP hD hS (some 1) (Or.inr (⟨rfl, ar⟩)) [2, 0, 1] rfl (by decide) (Nat.le_of_ble_eq_true rfl) (Nat.le_of_ble_eq_true rfl) dX6_told_66
set_option maxHeartbeats 4000000 in
set_option maxRecDepth 100000 in
/-- the reference: told -/
theorem d_toldX {l : Launch} (D : zD) (m0 m1 m2 m3 m4 m5 m6 m7 m8 m9 m10 m11 m12 m13 m14 : Nat) (M : zM) (bt ln cl pn : Nat) (th : Int32) (p1 p2 : Int32) (sz : Nat) (hp : ¬ zin p1 8) : Met l yX6_told wsX6_told ({ frames := 1, cells := 0, slots := 0, locals := 25 }) (va_Pc [.ref m0, .int p1, .int p2] (zp D sz [(m0, .inr (6, [.int th, .int (nI M.1), .ref m1, .ref m2, .int (nI bt), .ref m3, .int (nI ln), .ref m4, .ref m5, .int (nI cl), .ref m6, .ref m7, .ref m8, .ref m9, .ref m10, .ref m11, .ref m12, .int (nI pn), .ref m13, .ref m14])), (m1, .inl (D.2 0, 800, .inl M.2.1)), (m2, .inl (D.2 0, 200, .inl M.2.2))])) (va_Ql (fun r (u : Option Int32) => (u = none ∧ (zin p1 8) ∧ r = 0) ∨ (u = some 1 ∧ ¬ (zin p1 8))) (zq D (va_A [(m0, .inr (6, [.int th, .int (nI M.1), .ref m1, .ref m2, .int (nI bt), .ref m3, .int (nI ln), .ref m4, .ref m5, .int (nI cl), .ref m6, .ref m7, .ref m8, .ref m9, .ref m10, .ref m11, .ref m12, .int (nI pn), .ref m13, .ref m14])), (m1, .inl (D.2 0, 800, .inl M.2.1)), (m2, .inl (D.2 0, 200, .inl M.2.2))] sz) (fun (u : Option Int32) => (u.elim [(m0, .inr (6, [.int 0, .int (nI M.1), .ref m1, .ref m2, .int (nI bt), .ref m3, .int (nI ln), .ref m4, .ref m5, .int (nI cl), .ref m6, .ref m7, .ref m8, .ref m9, .ref m10, .ref m11, .ref m12, .int (nI pn), .ref m13, .ref m14])), (m1, .inl (D.2 0, 800, .inl M.2.1)), (m2, .inl (D.2 0, 200, .inl M.2.2))] (fun t => [(m0, .inr (6, [.int t, .int (nI M.1), .ref m1, .ref m2, .int (nI bt), .ref m3, .int (nI ln), .ref m4, .ref m5, .int (nI cl), .ref m6, .ref m7, .ref m8, .ref m9, .ref m10, .ref m11, .ref m12, .int (nI pn), .ref m13, .ref m14])), (m1, .inl (D.2 0, 800, .inl M.2.1)), (m2, .inl (D.2 0, 200, .inl M.2.2))]) : va_W))) (va_A [(m0, .inr (6, [.int th, .int (nI M.1), .ref m1, .ref m2, .int (nI bt), .ref m3, .int (nI ln), .ref m4, .ref m5, .int (nI cl), .ref m6, .ref m7, .ref m8, .ref m9, .ref m10, .ref m11, .ref m12, .int (nI pn), .ref m13, .ref m14])), (m1, .inl (D.2 0, 800, .inl M.2.1)), (m2, .inl (D.2 0, 200, .inl M.2.2))] sz)) 0 0 (va_A [(m0, .inr (6, [.int th, .int (nI M.1), .ref m1, .ref m2, .int (nI bt), .ref m3, .int (nI ln), .ref m4, .ref m5, .int (nI cl), .ref m6, .ref m7, .ref m8, .ref m9, .ref m10, .ref m11, .ref m12, .int (nI pn), .ref m13, .ref m14])), (m1, .inl (D.2 0, 800, .inl M.2.1)), (m2, .inl (D.2 0, 200, .inl M.2.2))] sz) := by
  refine Met.ofW (cc := cX6_told) (maxL := 4) (ret := (some .long)) (by decide) rfl ?_
  intro p e s m args below meth c s₁ B hml hv
  obtain ⟨rfl, hsz, hP, hK, hD0, hB⟩ := hv
  have hx := B.exec
  have hb := B.bytes
  have hr := B.returns
  have hts := atoms_spec (ws := wsX6_told) B.pre
  have hown : s.vm.findClass "ShopLedgerModel" = some m.cls := findClass_of_methodNamed B.named
  have hlocks := B.notSynchronized
  subst hsz
  have hD := hD0.self (sz := s.heap.size)
  generalize hAe : va_A [(m0, .inr (6, [.int th, .int (nI M.1), .ref m1, .ref m2, .int (nI bt), .ref m3, .int (nI ln), .ref m4, .ref m5, .int (nI cl), .ref m6, .ref m7, .ref m8, .ref m9, .ref m10, .ref m11, .ref m12, .int (nI pn), .ref m13, .ref m14])), (m1, .inl (D.2 0, 800, .inl M.2.1)), (m2, .inl (D.2 0, 200, .inl M.2.2))] s.heap.size = A at hD hB ⊢
  have hA : ∀ q : Nat, s.heap.size ≤ q → A q := fun q h => by rw [← hAe]; exact Or.inr h
  have hS : va_S A s.heap s.heap [] := va_S.rf
  have hZ : ∀ w ∈ zALL, w.before _ s = true := fun w h => hts w (List.mem_cons_of_mem _ h)
  have hF : CallFix p m c cX6_told 4 s _ zALL "ShopLedgerModel" := ⟨hx, hb, hml, hown, hZ⟩
  have hl := lv_entry ([.ref m0, .int p1, .int p2]) (n := 4) (Nat.le_of_ble_eq_true rfl)
  rw [lg_entry_eq]
  generalize (lg_sl ([.ref m0, .int p1, .int p2]) ++ List.replicate (4 - (lg_sl ([.ref m0, .int p1, .int p2])).length) Slot.unset).toArray = ls at hl ⊢
  have hl : lv_has ls 4 [(0, .ref m0), (1, .int p1), (2, .int p2)] := hl
  refine lv_iload_n hx hb dX6_told_0 rfl (lv_at hl 1 rfl) ?_
  refine lv_iconst (v := 2) hx hb dX6_told_1 (by decide) ?_
  refine lv_icmp_ge (tgt := 10) hx hb dX6_told_2 (by decide) (fun c1 => ?_) (fun c1 => ?_)
  · skip
    refine lv_iload_n hx hb dX6_told_10 rfl (lv_at hl 1 rfl) ?_
    refine lv_iconst (v := 2) hx hb dX6_told_11 (by decide) ?_
    refine lv_icmp_ne (tgt := 20) hx hb dX6_told_12 (by decide) (fun c2 => ?_) (fun c2 => ?_)
    · skip
      refine lv_aload_n hx hb dX6_told_20 rfl (lv_at hl 0 rfl) ?_
      refine va_get (D := D.1) (ci := 6) (v := .int (nI M.1)) (C := "ShopLedgerModel") (T := TX6) (N := 20) hx hb hZ inX6 hown hK hP 0 rfl rfl 1 (by decide) (hZ _ t_277) (fun _ h9 => h9) rfl dX6_told_21 ?_
      refine lv_iconst (v := 1) hx hb dX6_told_24 (by decide) ?_
      refine lv_isub hx hb dX6_told_25 ?_
      refine lv_istore_n (lv' := [(3, .int ((nI M.1) - 1)), (0, .ref m0), (1, .int p1), (2, .int p2)]) hx hb dX6_told_26 rfl hl (by decide) rfl (fun ls hl => ?_)
      refine lv_aload_n hx hb dX6_told_27 rfl (lv_at hl 1 rfl) ?_
      refine lv_iload_n hx hb dX6_told_28 rfl (lv_at hl 2 rfl) ?_
      refine lv_i2l (v := p1.toInt64) hx hb dX6_told_29 rfl ?_
      refine lv_lconst (v := 0) hx hb dX6_told_30 (by decide) ?_
      refine lv_ldc2 (v := 7) hx hb hown (hZ _ t_270) dX6_told_31 ?_
      have J := zJ.mk (wc := []) (wr := [(m0, .inr (6, [.int th, .int (nI M.1), .ref m1, .ref m2, .int (nI bt), .ref m3, .int (nI ln), .ref m4, .ref m5, .int (nI cl), .ref m6, .ref m7, .ref m8, .ref m9, .ref m10, .ref m11, .ref m12, .int (nI pn), .ref m13, .ref m14])), (m1, .inl (D.2 0, 800, .inl M.2.1)), (m2, .inl (D.2 0, 200, .inl M.2.2))]) hA hB hK hP hD hS [] [0, 1, 2] rfl rfl (by decide)
      refine z_goi (z_runS (As := [.long p1.toInt64, .long 0, .long 7]) (rest := [.ref m0]) hF (d_lies D p1.toInt64 0 7 s.heap.size) (va_cwS 3 hZ (z_gS t_273 t_274 t_272 t_271) rfl rfl rfl (by decide +kernel) ⟨Nat.le_of_ble_eq_true rfl, Nat.le_of_ble_eq_true rfl⟩) J rfl hl.1 (Nat.le_of_ble_eq_true rfl) dX6_told_34 ⟨Nat.le_of_ble_eq_true rfl, Nat.le_of_ble_eq_true rfl⟩) J (fun r1 _ H locs w1 hP hD hS => ?_)
      have hP : va_P D.1 vwCl [(m0, .inr (6, [.int th, .int (nI M.1), .ref m1, .ref m2, .int (nI bt), .ref m3, .int (nI ln), .ref m4, .ref m5, .int (nI cl), .ref m6, .ref m7, .ref m8, .ref m9, .ref m10, .ref m11, .ref m12, .int (nI pn), .ref m13, .ref m14])), (m1, .inl (D.2 0, 800, .inl M.2.1)), (m2, .inl (D.2 0, 200, .inl M.2.2))] H := hP
      have hD : va_D A [(m0, .inr (6, [.int th, .int (nI M.1), .ref m1, .ref m2, .int (nI bt), .ref m3, .int (nI ln), .ref m4, .ref m5, .int (nI cl), .ref m6, .ref m7, .ref m8, .ref m9, .ref m10, .ref m11, .ref m12, .int (nI pn), .ref m13, .ref m14])), (m1, .inl (D.2 0, 800, .inl M.2.1)), (m2, .inl (D.2 0, 200, .inl M.2.2))] := hD
      have f1 : (r1 = 1 ∧ zin p1 8) ∨ (r1 = 0 ∧ ¬ zin p1 8) := z_lz 7 (by decide) (by decide) w1
      refine lv_if_eq (tgt := 51) hx hb dX6_told_37 (by decide) (fun c3 => ?_) (fun c3 => ?_)
      · skip
        refine lv_iconst (v := 1) hx hb dX6_told_51 (by decide) ?_
        refine lv_goto (tgt := 56) hx hb dX6_told_52 (by decide) ?_
        refine lv_iconst (v := 0) hx hb dX6_told_56 (by decide) ?_
        refine lv_iconst (v := 0) hx hb dX6_told_57 (by decide) ?_
        refine lv_iconst (v := 0) hx hb dX6_told_58 (by decide) ?_
        have J := zJ.mk (wc := [(m0, .inr (6, [.int th, .int (nI M.1), .ref m1, .ref m2, .int (nI bt), .ref m3, .int (nI ln), .ref m4, .ref m5, .int (nI cl), .ref m6, .ref m7, .ref m8, .ref m9, .ref m10, .ref m11, .ref m12, .int (nI pn), .ref m13, .ref m14]))]) (wr := [(m1, .inl (D.2 0, 800, .inl M.2.1)), (m2, .inl (D.2 0, 200, .inl M.2.2))]) hA hB hK hP hD hS [0] [1, 2] rfl rfl (by decide)
        refine z_goi (z_runV (As := [.int 1, .int 0, .int 0, .int 0]) (rest := []) (b := m0) hF (d_throwing D m0 m1 m2 m3 m4 m5 m6 m7 m8 m9 m10 m11 m12 m13 m14 (M.1, fun _ => 0, fun _ => 0) bt ln cl pn th 1 0 0 0 H.size) (cwV 4 hZ (z_gV t_286 t_287 t_288 t_272 t_285) rfl rfl rfl (by decide +kernel) ⟨Nat.le_of_ble_eq_true rfl, Nat.le_of_ble_eq_true rfl⟩) J 0 6 rfl rfl rfl rfl hl.1 (Nat.le_of_ble_eq_true rfl) dX6_told_59 ⟨Nat.le_of_ble_eq_true rfl, Nat.le_of_ble_eq_true rfl⟩) J (fun r3 _ H locs w3 hP hD hS => ?_)
        have hP : va_P D.1 vwCl [(m1, .inl (D.2 0, 800, .inl M.2.1)), (m2, .inl (D.2 0, 200, .inl M.2.2)), (m0, .inr (6, [.int 1, .int (nI M.1), .ref m1, .ref m2, .int (nI bt), .ref m3, .int (nI ln), .ref m4, .ref m5, .int (nI cl), .ref m6, .ref m7, .ref m8, .ref m9, .ref m10, .ref m11, .ref m12, .int (nI pn), .ref m13, .ref m14]))] H := hP
        have hD : va_D A [(m1, .inl (D.2 0, 800, .inl M.2.1)), (m2, .inl (D.2 0, 200, .inl M.2.2)), (m0, .inr (6, [.int 1, .int (nI M.1), .ref m1, .ref m2, .int (nI bt), .ref m3, .int (nI ln), .ref m4, .ref m5, .int (nI cl), .ref m6, .ref m7, .ref m8, .ref m9, .ref m10, .ref m11, .ref m12, .int (nI pn), .ref m13, .ref m14]))] := hD
        have w3 : r3 = 1 := w3
        subst w3
        refine lv_if_eq (tgt := 67) hx hb dX6_told_62 (by decide) (fun c5 => ?_) (fun c5 => ?_)
        · skip
          exfalso; exact absurd c5 (by decide)
        refine lv_lconst (v := 0) hx hb dX6_told_65 (by decide) ?_
        exact z_lret (v := 0) hx hb hr hlocks hP hD hS (some 1) (Or.inr (⟨rfl, hp⟩)) [2, 0, 1] rfl (by decide) (Nat.le_of_ble_eq_true rfl) (Nat.le_of_ble_eq_true rfl) dX6_told_66
      exfalso; exact hp (z_b1 f1 c3)
    refine lv_bipush (v := 11) hx hb dX6_told_15 (by decide) ?_
    refine lv_goto (tgt := 26) hx hb dX6_told_17 (by decide) ?_
    refine lv_istore_n (lv' := [(3, .int 11), (0, .ref m0), (1, .int p1), (2, .int p2)]) hx hb dX6_told_26 rfl hl (by decide) rfl (fun ls hl => ?_)
    refine lv_aload_n hx hb dX6_told_27 rfl (lv_at hl 1 rfl) ?_
    refine lv_iload_n hx hb dX6_told_28 rfl (lv_at hl 2 rfl) ?_
    refine lv_i2l (v := p1.toInt64) hx hb dX6_told_29 rfl ?_
    refine lv_lconst (v := 0) hx hb dX6_told_30 (by decide) ?_
    refine lv_ldc2 (v := 7) hx hb hown (hZ _ t_270) dX6_told_31 ?_
    have J := zJ.mk (wc := []) (wr := [(m0, .inr (6, [.int th, .int (nI M.1), .ref m1, .ref m2, .int (nI bt), .ref m3, .int (nI ln), .ref m4, .ref m5, .int (nI cl), .ref m6, .ref m7, .ref m8, .ref m9, .ref m10, .ref m11, .ref m12, .int (nI pn), .ref m13, .ref m14])), (m1, .inl (D.2 0, 800, .inl M.2.1)), (m2, .inl (D.2 0, 200, .inl M.2.2))]) hA hB hK hP hD hS [] [0, 1, 2] rfl rfl (by decide)
    refine z_goi (z_runS (As := [.long p1.toInt64, .long 0, .long 7]) (rest := [.ref m0]) hF (d_lies D p1.toInt64 0 7 s.heap.size) (va_cwS 3 hZ (z_gS t_273 t_274 t_272 t_271) rfl rfl rfl (by decide +kernel) ⟨Nat.le_of_ble_eq_true rfl, Nat.le_of_ble_eq_true rfl⟩) J rfl hl.1 (Nat.le_of_ble_eq_true rfl) dX6_told_34 ⟨Nat.le_of_ble_eq_true rfl, Nat.le_of_ble_eq_true rfl⟩) J (fun r1 _ H locs w1 hP hD hS => ?_)
    have hP : va_P D.1 vwCl [(m0, .inr (6, [.int th, .int (nI M.1), .ref m1, .ref m2, .int (nI bt), .ref m3, .int (nI ln), .ref m4, .ref m5, .int (nI cl), .ref m6, .ref m7, .ref m8, .ref m9, .ref m10, .ref m11, .ref m12, .int (nI pn), .ref m13, .ref m14])), (m1, .inl (D.2 0, 800, .inl M.2.1)), (m2, .inl (D.2 0, 200, .inl M.2.2))] H := hP
    have hD : va_D A [(m0, .inr (6, [.int th, .int (nI M.1), .ref m1, .ref m2, .int (nI bt), .ref m3, .int (nI ln), .ref m4, .ref m5, .int (nI cl), .ref m6, .ref m7, .ref m8, .ref m9, .ref m10, .ref m11, .ref m12, .int (nI pn), .ref m13, .ref m14])), (m1, .inl (D.2 0, 800, .inl M.2.1)), (m2, .inl (D.2 0, 200, .inl M.2.2))] := hD
    have f1 : (r1 = 1 ∧ zin p1 8) ∨ (r1 = 0 ∧ ¬ zin p1 8) := z_lz 7 (by decide) (by decide) w1
    refine lv_if_eq (tgt := 51) hx hb dX6_told_37 (by decide) (fun c3 => ?_) (fun c3 => ?_)
    · skip
      refine lv_iconst (v := 1) hx hb dX6_told_51 (by decide) ?_
      refine lv_goto (tgt := 56) hx hb dX6_told_52 (by decide) ?_
      refine lv_iconst (v := 0) hx hb dX6_told_56 (by decide) ?_
      refine lv_iconst (v := 0) hx hb dX6_told_57 (by decide) ?_
      refine lv_iconst (v := 0) hx hb dX6_told_58 (by decide) ?_
      have J := zJ.mk (wc := [(m0, .inr (6, [.int th, .int (nI M.1), .ref m1, .ref m2, .int (nI bt), .ref m3, .int (nI ln), .ref m4, .ref m5, .int (nI cl), .ref m6, .ref m7, .ref m8, .ref m9, .ref m10, .ref m11, .ref m12, .int (nI pn), .ref m13, .ref m14]))]) (wr := [(m1, .inl (D.2 0, 800, .inl M.2.1)), (m2, .inl (D.2 0, 200, .inl M.2.2))]) hA hB hK hP hD hS [0] [1, 2] rfl rfl (by decide)
      refine z_goi (z_runV (As := [.int 1, .int 0, .int 0, .int 0]) (rest := []) (b := m0) hF (d_throwing D m0 m1 m2 m3 m4 m5 m6 m7 m8 m9 m10 m11 m12 m13 m14 (M.1, fun _ => 0, fun _ => 0) bt ln cl pn th 1 0 0 0 H.size) (cwV 4 hZ (z_gV t_286 t_287 t_288 t_272 t_285) rfl rfl rfl (by decide +kernel) ⟨Nat.le_of_ble_eq_true rfl, Nat.le_of_ble_eq_true rfl⟩) J 0 6 rfl rfl rfl rfl hl.1 (Nat.le_of_ble_eq_true rfl) dX6_told_59 ⟨Nat.le_of_ble_eq_true rfl, Nat.le_of_ble_eq_true rfl⟩) J (fun r3 _ H locs w3 hP hD hS => ?_)
      have hP : va_P D.1 vwCl [(m1, .inl (D.2 0, 800, .inl M.2.1)), (m2, .inl (D.2 0, 200, .inl M.2.2)), (m0, .inr (6, [.int 1, .int (nI M.1), .ref m1, .ref m2, .int (nI bt), .ref m3, .int (nI ln), .ref m4, .ref m5, .int (nI cl), .ref m6, .ref m7, .ref m8, .ref m9, .ref m10, .ref m11, .ref m12, .int (nI pn), .ref m13, .ref m14]))] H := hP
      have hD : va_D A [(m1, .inl (D.2 0, 800, .inl M.2.1)), (m2, .inl (D.2 0, 200, .inl M.2.2)), (m0, .inr (6, [.int 1, .int (nI M.1), .ref m1, .ref m2, .int (nI bt), .ref m3, .int (nI ln), .ref m4, .ref m5, .int (nI cl), .ref m6, .ref m7, .ref m8, .ref m9, .ref m10, .ref m11, .ref m12, .int (nI pn), .ref m13, .ref m14]))] := hD
      have w3 : r3 = 1 := w3
      subst w3
      refine lv_if_eq (tgt := 67) hx hb dX6_told_62 (by decide) (fun c5 => ?_) (fun c5 => ?_)
      · skip
        exfalso; exact absurd c5 (by decide)
      refine lv_lconst (v := 0) hx hb dX6_told_65 (by decide) ?_
      exact z_lret (v := 0) hx hb hr hlocks hP hD hS (some 1) (Or.inr (⟨rfl, hp⟩)) [2, 0, 1] rfl (by decide) (Nat.le_of_ble_eq_true rfl) (Nat.le_of_ble_eq_true rfl) dX6_told_66
    exfalso; exact hp (z_b1 f1 c3)
  refine lv_bipush (v := 7) hx hb dX6_told_5 (by decide) ?_
  refine lv_goto (tgt := 26) hx hb dX6_told_7 (by decide) ?_
  refine lv_istore_n (lv' := [(3, .int 7), (0, .ref m0), (1, .int p1), (2, .int p2)]) hx hb dX6_told_26 rfl hl (by decide) rfl (fun ls hl => ?_)
  refine lv_aload_n hx hb dX6_told_27 rfl (lv_at hl 1 rfl) ?_
  refine lv_iload_n hx hb dX6_told_28 rfl (lv_at hl 2 rfl) ?_
  refine lv_i2l (v := p1.toInt64) hx hb dX6_told_29 rfl ?_
  refine lv_lconst (v := 0) hx hb dX6_told_30 (by decide) ?_
  refine lv_ldc2 (v := 7) hx hb hown (hZ _ t_270) dX6_told_31 ?_
  have J := zJ.mk (wc := []) (wr := [(m0, .inr (6, [.int th, .int (nI M.1), .ref m1, .ref m2, .int (nI bt), .ref m3, .int (nI ln), .ref m4, .ref m5, .int (nI cl), .ref m6, .ref m7, .ref m8, .ref m9, .ref m10, .ref m11, .ref m12, .int (nI pn), .ref m13, .ref m14])), (m1, .inl (D.2 0, 800, .inl M.2.1)), (m2, .inl (D.2 0, 200, .inl M.2.2))]) hA hB hK hP hD hS [] [0, 1, 2] rfl rfl (by decide)
  refine z_goi (z_runS (As := [.long p1.toInt64, .long 0, .long 7]) (rest := [.ref m0]) hF (d_lies D p1.toInt64 0 7 s.heap.size) (va_cwS 3 hZ (z_gS t_273 t_274 t_272 t_271) rfl rfl rfl (by decide +kernel) ⟨Nat.le_of_ble_eq_true rfl, Nat.le_of_ble_eq_true rfl⟩) J rfl hl.1 (Nat.le_of_ble_eq_true rfl) dX6_told_34 ⟨Nat.le_of_ble_eq_true rfl, Nat.le_of_ble_eq_true rfl⟩) J (fun r1 _ H locs w1 hP hD hS => ?_)
  have hP : va_P D.1 vwCl [(m0, .inr (6, [.int th, .int (nI M.1), .ref m1, .ref m2, .int (nI bt), .ref m3, .int (nI ln), .ref m4, .ref m5, .int (nI cl), .ref m6, .ref m7, .ref m8, .ref m9, .ref m10, .ref m11, .ref m12, .int (nI pn), .ref m13, .ref m14])), (m1, .inl (D.2 0, 800, .inl M.2.1)), (m2, .inl (D.2 0, 200, .inl M.2.2))] H := hP
  have hD : va_D A [(m0, .inr (6, [.int th, .int (nI M.1), .ref m1, .ref m2, .int (nI bt), .ref m3, .int (nI ln), .ref m4, .ref m5, .int (nI cl), .ref m6, .ref m7, .ref m8, .ref m9, .ref m10, .ref m11, .ref m12, .int (nI pn), .ref m13, .ref m14])), (m1, .inl (D.2 0, 800, .inl M.2.1)), (m2, .inl (D.2 0, 200, .inl M.2.2))] := hD
  have f1 : (r1 = 1 ∧ zin p1 8) ∨ (r1 = 0 ∧ ¬ zin p1 8) := z_lz 7 (by decide) (by decide) w1
  refine lv_if_eq (tgt := 51) hx hb dX6_told_37 (by decide) (fun c3 => ?_) (fun c3 => ?_)
  · skip
    refine lv_iconst (v := 1) hx hb dX6_told_51 (by decide) ?_
    refine lv_goto (tgt := 56) hx hb dX6_told_52 (by decide) ?_
    refine lv_iconst (v := 0) hx hb dX6_told_56 (by decide) ?_
    refine lv_iconst (v := 0) hx hb dX6_told_57 (by decide) ?_
    refine lv_iconst (v := 0) hx hb dX6_told_58 (by decide) ?_
    have J := zJ.mk (wc := [(m0, .inr (6, [.int th, .int (nI M.1), .ref m1, .ref m2, .int (nI bt), .ref m3, .int (nI ln), .ref m4, .ref m5, .int (nI cl), .ref m6, .ref m7, .ref m8, .ref m9, .ref m10, .ref m11, .ref m12, .int (nI pn), .ref m13, .ref m14]))]) (wr := [(m1, .inl (D.2 0, 800, .inl M.2.1)), (m2, .inl (D.2 0, 200, .inl M.2.2))]) hA hB hK hP hD hS [0] [1, 2] rfl rfl (by decide)
    refine z_goi (z_runV (As := [.int 1, .int 0, .int 0, .int 0]) (rest := []) (b := m0) hF (d_throwing D m0 m1 m2 m3 m4 m5 m6 m7 m8 m9 m10 m11 m12 m13 m14 (M.1, fun _ => 0, fun _ => 0) bt ln cl pn th 1 0 0 0 H.size) (cwV 4 hZ (z_gV t_286 t_287 t_288 t_272 t_285) rfl rfl rfl (by decide +kernel) ⟨Nat.le_of_ble_eq_true rfl, Nat.le_of_ble_eq_true rfl⟩) J 0 6 rfl rfl rfl rfl hl.1 (Nat.le_of_ble_eq_true rfl) dX6_told_59 ⟨Nat.le_of_ble_eq_true rfl, Nat.le_of_ble_eq_true rfl⟩) J (fun r3 _ H locs w3 hP hD hS => ?_)
    have hP : va_P D.1 vwCl [(m1, .inl (D.2 0, 800, .inl M.2.1)), (m2, .inl (D.2 0, 200, .inl M.2.2)), (m0, .inr (6, [.int 1, .int (nI M.1), .ref m1, .ref m2, .int (nI bt), .ref m3, .int (nI ln), .ref m4, .ref m5, .int (nI cl), .ref m6, .ref m7, .ref m8, .ref m9, .ref m10, .ref m11, .ref m12, .int (nI pn), .ref m13, .ref m14]))] H := hP
    have hD : va_D A [(m1, .inl (D.2 0, 800, .inl M.2.1)), (m2, .inl (D.2 0, 200, .inl M.2.2)), (m0, .inr (6, [.int 1, .int (nI M.1), .ref m1, .ref m2, .int (nI bt), .ref m3, .int (nI ln), .ref m4, .ref m5, .int (nI cl), .ref m6, .ref m7, .ref m8, .ref m9, .ref m10, .ref m11, .ref m12, .int (nI pn), .ref m13, .ref m14]))] := hD
    have w3 : r3 = 1 := w3
    subst w3
    refine lv_if_eq (tgt := 67) hx hb dX6_told_62 (by decide) (fun c5 => ?_) (fun c5 => ?_)
    · skip
      exfalso; exact absurd c5 (by decide)
    refine lv_lconst (v := 0) hx hb dX6_told_65 (by decide) ?_
    exact z_lret (v := 0) hx hb hr hlocks hP hD hS (some 1) (Or.inr (⟨rfl, hp⟩)) [2, 0, 1] rfl (by decide) (Nat.le_of_ble_eq_true rfl) (Nat.le_of_ble_eq_true rfl) dX6_told_66
  exfalso; exact hp (z_b1 f1 c3)
set_option maxHeartbeats 4000000 in
set_option maxRecDepth 100000 in
/-- the reference: share -/
theorem d_share {l : Launch} (D : zD) (m0 m1 m2 m3 m4 m5 m6 m7 m8 m9 m10 m11 m12 m13 m14 : Nat) (M : zM) (bt ln cl pn : Nat) (th : Int32) (wt : Nat → Int32) (p1 p2 : Int32) (sz : Nat) : Met l yX6_share wsX6_share ({ frames := 1, cells := 0, slots := 0, locals := 25 }) (va_Pc [.ref m0, .int p1, .int p2] (zp D sz [(m0, .inr (6, [.int th, .int (nI M.1), .ref m1, .ref m2, .int (nI bt), .ref m3, .int (nI ln), .ref m4, .ref m5, .int (nI cl), .ref m6, .ref m7, .ref m8, .ref m9, .ref m10, .ref m11, .ref m12, .int (nI pn), .ref m13, .ref m14])), (m6, .inl (D.2 0, 8, .inl wt))])) (va_Ql (fun r (u : Option Int32) => (u = none ∧ (zin p1 8) ∧ (¬ p2 < 0 ∧ p2 ≤ 1000000000) ∧ (¬ zs_lsum wt 8 = 0) ∧ r = zm_share wt p1 p2) ∨ (u = some 1 ∧ ¬ (zin p1 8)) ∨ (u = some 2 ∧ (zin p1 8) ∧ ¬ (¬ p2 < 0 ∧ p2 ≤ 1000000000)) ∨ (u = some 3 ∧ (zin p1 8) ∧ (¬ p2 < 0 ∧ p2 ≤ 1000000000) ∧ ¬ (¬ zs_lsum wt 8 = 0))) (zq D (va_A [(m0, .inr (6, [.int th, .int (nI M.1), .ref m1, .ref m2, .int (nI bt), .ref m3, .int (nI ln), .ref m4, .ref m5, .int (nI cl), .ref m6, .ref m7, .ref m8, .ref m9, .ref m10, .ref m11, .ref m12, .int (nI pn), .ref m13, .ref m14])), (m6, .inl (D.2 0, 8, .inl wt))] sz) (fun (u : Option Int32) => (u.elim [(m0, .inr (6, [.int 0, .int (nI M.1), .ref m1, .ref m2, .int (nI bt), .ref m3, .int (nI ln), .ref m4, .ref m5, .int (nI cl), .ref m6, .ref m7, .ref m8, .ref m9, .ref m10, .ref m11, .ref m12, .int (nI pn), .ref m13, .ref m14])), (m6, .inl (D.2 0, 8, .inl wt))] (fun t => [(m0, .inr (6, [.int t, .int (nI M.1), .ref m1, .ref m2, .int (nI bt), .ref m3, .int (nI ln), .ref m4, .ref m5, .int (nI cl), .ref m6, .ref m7, .ref m8, .ref m9, .ref m10, .ref m11, .ref m12, .int (nI pn), .ref m13, .ref m14])), (m6, .inl (D.2 0, 8, .inl wt))]) : va_W))) (va_A [(m0, .inr (6, [.int th, .int (nI M.1), .ref m1, .ref m2, .int (nI bt), .ref m3, .int (nI ln), .ref m4, .ref m5, .int (nI cl), .ref m6, .ref m7, .ref m8, .ref m9, .ref m10, .ref m11, .ref m12, .int (nI pn), .ref m13, .ref m14])), (m6, .inl (D.2 0, 8, .inl wt))] sz)) 0 0 (va_A [(m0, .inr (6, [.int th, .int (nI M.1), .ref m1, .ref m2, .int (nI bt), .ref m3, .int (nI ln), .ref m4, .ref m5, .int (nI cl), .ref m6, .ref m7, .ref m8, .ref m9, .ref m10, .ref m11, .ref m12, .int (nI pn), .ref m13, .ref m14])), (m6, .inl (D.2 0, 8, .inl wt))] sz) := by
  refine Met.ofW (cc := cX6_share) (maxL := 8) (ret := (some .long)) (by decide) rfl ?_
  intro p e s m args below meth c s₁ B hml hv
  obtain ⟨rfl, hsz, hP, hK, hD0, hB⟩ := hv
  have hx := B.exec
  have hb := B.bytes
  have hr := B.returns
  have hts := atoms_spec (ws := wsX6_share) B.pre
  have hown : s.vm.findClass "ShopLedgerModel" = some m.cls := findClass_of_methodNamed B.named
  have hlocks := B.notSynchronized
  subst hsz
  have hD := hD0.self (sz := s.heap.size)
  generalize hAe : va_A [(m0, .inr (6, [.int th, .int (nI M.1), .ref m1, .ref m2, .int (nI bt), .ref m3, .int (nI ln), .ref m4, .ref m5, .int (nI cl), .ref m6, .ref m7, .ref m8, .ref m9, .ref m10, .ref m11, .ref m12, .int (nI pn), .ref m13, .ref m14])), (m6, .inl (D.2 0, 8, .inl wt))] s.heap.size = A at hD hB ⊢
  have hA : ∀ q : Nat, s.heap.size ≤ q → A q := fun q h => by rw [← hAe]; exact Or.inr h
  have hS : va_S A s.heap s.heap [] := va_S.rf
  have hZ : ∀ w ∈ zALL, w.before _ s = true := fun w h => hts w (List.mem_cons_of_mem _ h)
  have hF : CallFix p m c cX6_share 8 s _ zALL "ShopLedgerModel" := ⟨hx, hb, hml, hown, hZ⟩
  have hl := lv_entry ([.ref m0, .int p1, .int p2]) (n := 8) (Nat.le_of_ble_eq_true rfl)
  rw [lg_entry_eq]
  generalize (lg_sl ([.ref m0, .int p1, .int p2]) ++ List.replicate (8 - (lg_sl ([.ref m0, .int p1, .int p2])).length) Slot.unset).toArray = ls at hl ⊢
  have hl : lv_has ls 8 [(0, .ref m0), (1, .int p1), (2, .int p2)] := hl
  refine lv_lconst (v := 0) hx hb dX6_share_0 (by decide) ?_
  refine lv_lstore_n (lv' := [(3, .long 0), (0, .ref m0), (1, .int p1), (2, .int p2)]) hx hb dX6_share_1 rfl hl (by decide) rfl (fun ls hl => ?_)
  refine lv_lconst (v := 0) hx hb dX6_share_2 (by decide) ?_
  refine lv_lstore (lv' := [(5, .long 0), (3, .long 0), (0, .ref m0), (1, .int p1), (2, .int p2)]) hx hb dX6_share_3 hl (by decide) rfl (fun ls hl => ?_)
  refine lv_iconst (v := 0) hx hb dX6_share_5 (by decide) ?_
  refine lv_istore (lv' := [(7, .int 0), (5, .long 0), (3, .long 0), (0, .ref m0), (1, .int p1), (2, .int p2)]) hx hb dX6_share_6 hl (by decide) rfl (fun ls hl => ?_)
  have lo1 : ∀ (nn : Nat) (k : Nat), k ≤ 8 → 8 + 1 ≤ k + nn → ∀ (H : Heap) (locs : List Loc), va_P D.1 vwCl [(m0, .inr (6, [.int th, .int (nI M.1), .ref m1, .ref m2, .int (nI bt), .ref m3, .int (nI ln), .ref m4, .ref m5, .int (nI cl), .ref m6, .ref m7, .ref m8, .ref m9, .ref m10, .ref m11, .ref m12, .int (nI pn), .ref m13, .ref m14])), (m6, .inl (D.2 0, 8, .inl wt))] H → va_D A [(m0, .inr (6, [.int th, .int (nI M.1), .ref m1, .ref m2, .int (nI bt), .ref m3, .int (nI ln), .ref m4, .ref m5, .int (nI cl), .ref m6, .ref m7, .ref m8, .ref m9, .ref m10, .ref m11, .ref m12, .int (nI pn), .ref m13, .ref m14])), (m6, .inl (D.2 0, 8, .inl wt))] → va_S A s.heap H locs → ∀ (ls : Array Slot), lv_has ls 8 [(0, .ref m0), (1, .int p1), (2, .int p2), (3, .long (zs_lsum wt k)), (5, .long (zm_to wt p1 k)), (7, .int (nI k))] → W p l e (headSpec wsX6_share ({ frames := 1, cells := 0, slots := 0, locals := 25 })).room s m [.ref m0, .int p1, .int p2].toArray below meth c H locs 0 0 (MQ below (va_Ql (fun r (u : Option Int32) => (u = none ∧ (zin p1 8) ∧ (¬ p2 < 0 ∧ p2 ≤ 1000000000) ∧ (¬ zs_lsum wt 8 = 0) ∧ r = zm_share wt p1 p2) ∨ (u = some 1 ∧ ¬ (zin p1 8)) ∨ (u = some 2 ∧ (zin p1 8) ∧ ¬ (¬ p2 < 0 ∧ p2 ≤ 1000000000)) ∨ (u = some 3 ∧ (zin p1 8) ∧ (¬ p2 < 0 ∧ p2 ≤ 1000000000) ∧ ¬ (¬ zs_lsum wt 8 = 0))) (zq D A (fun (u : Option Int32) => (u.elim [(m0, .inr (6, [.int 0, .int (nI M.1), .ref m1, .ref m2, .int (nI bt), .ref m3, .int (nI ln), .ref m4, .ref m5, .int (nI cl), .ref m6, .ref m7, .ref m8, .ref m9, .ref m10, .ref m11, .ref m12, .int (nI pn), .ref m13, .ref m14])), (m6, .inl (D.2 0, 8, .inl wt))] (fun t => [(m0, .inr (6, [.int t, .int (nI M.1), .ref m1, .ref m2, .int (nI bt), .ref m3, .int (nI ln), .ref m4, .ref m5, .int (nI cl), .ref m6, .ref m7, .ref m8, .ref m9, .ref m10, .ref m11, .ref m12, .int (nI pn), .ref m13, .ref m14])), (m6, .inl (D.2 0, 8, .inl wt))]) : va_W))) A) [.ref m0, .int p1, .int p2].toArray s 0 0 A) (F0 m 8 ls []) := by
    intro nn
    induction nn with
    | zero =>
      intro k q1 q2
      exfalso
      omega
    | succ nn ih_lo1 =>
      intro k q1 q2 H locs hP hD hS ls hl
      refine lv_iload hx hb dX6_share_8 (lv_at hl 5 rfl) ?_
      refine lv_bipush (v := 8) hx hb dX6_share_10 (by decide) ?_
      refine lv_icmp_ge (tgt := 55) hx hb dX6_share_12 (by decide) (fun c1 => ?_) (fun c1 => ?_)
      · skip
        have e9 : 8 = k := (z_ge q1 (by decide) c1).symm
        subst e9
        refine lv_aload_n hx hb dX6_share_55 rfl (lv_at hl 0 rfl) ?_
        refine lv_iload_n hx hb dX6_share_56 rfl (lv_at hl 1 rfl) ?_
        refine lv_i2l (v := p1.toInt64) hx hb dX6_share_57 rfl ?_
        refine lv_lconst (v := 0) hx hb dX6_share_58 (by decide) ?_
        refine lv_ldc2 (v := 7) hx hb hown (hZ _ t_270) dX6_share_59 ?_
        have J := zJ.mk (wc := []) (wr := [(m0, .inr (6, [.int th, .int (nI M.1), .ref m1, .ref m2, .int (nI bt), .ref m3, .int (nI ln), .ref m4, .ref m5, .int (nI cl), .ref m6, .ref m7, .ref m8, .ref m9, .ref m10, .ref m11, .ref m12, .int (nI pn), .ref m13, .ref m14])), (m6, .inl (D.2 0, 8, .inl wt))]) hA hB hK hP hD hS [] [0, 1] rfl rfl (by decide)
        refine z_goi (z_runS (As := [.long p1.toInt64, .long 0, .long 7]) (rest := [.ref m0]) hF (d_lies D p1.toInt64 0 7 H.size) (va_cwS 3 hZ (z_gS t_273 t_274 t_272 t_271) rfl rfl rfl (by decide +kernel) ⟨Nat.le_of_ble_eq_true rfl, Nat.le_of_ble_eq_true rfl⟩) J rfl hl.1 (Nat.le_of_ble_eq_true rfl) dX6_share_62 ⟨Nat.le_of_ble_eq_true rfl, Nat.le_of_ble_eq_true rfl⟩) J (fun r1 _ H locs w1 hP hD hS => ?_)
        have hP : va_P D.1 vwCl [(m0, .inr (6, [.int th, .int (nI M.1), .ref m1, .ref m2, .int (nI bt), .ref m3, .int (nI ln), .ref m4, .ref m5, .int (nI cl), .ref m6, .ref m7, .ref m8, .ref m9, .ref m10, .ref m11, .ref m12, .int (nI pn), .ref m13, .ref m14])), (m6, .inl (D.2 0, 8, .inl wt))] H := hP
        have hD : va_D A [(m0, .inr (6, [.int th, .int (nI M.1), .ref m1, .ref m2, .int (nI bt), .ref m3, .int (nI ln), .ref m4, .ref m5, .int (nI cl), .ref m6, .ref m7, .ref m8, .ref m9, .ref m10, .ref m11, .ref m12, .int (nI pn), .ref m13, .ref m14])), (m6, .inl (D.2 0, 8, .inl wt))] := hD
        have f1 : (r1 = 1 ∧ zin p1 8) ∨ (r1 = 0 ∧ ¬ zin p1 8) := z_lz 7 (by decide) (by decide) w1
        refine lv_if_ne (tgt := 72) hx hb dX6_share_65 (by decide) (fun c3 => ?_) (fun c3 => ?_)
        · skip
          have ar := z_b1 f1 c3
          refine lv_iconst (v := 0) hx hb dX6_share_72 (by decide) ?_
          refine lv_iload_n hx hb dX6_share_73 rfl (lv_at hl 2 rfl) ?_
          refine lv_i2l (v := p2.toInt64) hx hb dX6_share_74 rfl ?_
          refine lv_lconst (v := 0) hx hb dX6_share_75 (by decide) ?_
          refine lv_ldc2 (v := 1000000000) hx hb hown (hZ _ t_290) dX6_share_76 ?_
          have J := zJ.mk (wc := []) (wr := [(m0, .inr (6, [.int th, .int (nI M.1), .ref m1, .ref m2, .int (nI bt), .ref m3, .int (nI ln), .ref m4, .ref m5, .int (nI cl), .ref m6, .ref m7, .ref m8, .ref m9, .ref m10, .ref m11, .ref m12, .int (nI pn), .ref m13, .ref m14])), (m6, .inl (D.2 0, 8, .inl wt))]) hA hB hK hP hD hS [] [0, 1] rfl rfl (by decide)
          refine z_goi (z_runS (As := [.long p2.toInt64, .long 0, .long 1000000000]) (rest := [.int 0, .ref m0]) hF (d_lies D p2.toInt64 0 1000000000 H.size) (va_cwS 3 hZ (z_gS t_273 t_274 t_272 t_271) rfl rfl rfl (by decide +kernel) ⟨Nat.le_of_ble_eq_true rfl, Nat.le_of_ble_eq_true rfl⟩) J rfl hl.1 (Nat.le_of_ble_eq_true rfl) dX6_share_79 ⟨Nat.le_of_ble_eq_true rfl, Nat.le_of_ble_eq_true rfl⟩) J (fun r2 _ H locs w2 hP hD hS => ?_)
          have hP : va_P D.1 vwCl [(m0, .inr (6, [.int th, .int (nI M.1), .ref m1, .ref m2, .int (nI bt), .ref m3, .int (nI ln), .ref m4, .ref m5, .int (nI cl), .ref m6, .ref m7, .ref m8, .ref m9, .ref m10, .ref m11, .ref m12, .int (nI pn), .ref m13, .ref m14])), (m6, .inl (D.2 0, 8, .inl wt))] H := hP
          have hD : va_D A [(m0, .inr (6, [.int th, .int (nI M.1), .ref m1, .ref m2, .int (nI bt), .ref m3, .int (nI ln), .ref m4, .ref m5, .int (nI cl), .ref m6, .ref m7, .ref m8, .ref m9, .ref m10, .ref m11, .ref m12, .int (nI pn), .ref m13, .ref m14])), (m6, .inl (D.2 0, 8, .inl wt))] := hD
          have f2 : (r2 = 1 ∧ ¬ p2 < 0 ∧ p2 ≤ 1000000000) ∨ (r2 = 0 ∧ ¬ (¬ p2 < 0 ∧ p2 ≤ 1000000000)) := z_li (a := 0) (b := 1000000000) (by decide) (by decide) w2
          refine lv_if_ne (tgt := 89) hx hb dX6_share_82 (by decide) (fun c4 => ?_) (fun c4 => ?_)
          · skip
            have rg := z_b1 f2 c4
            refine lv_iconst (v := 0) hx hb dX6_share_89 (by decide) ?_
            refine lv_lload_n hx hb dX6_share_90 rfl (lv_at hl 3 rfl) ?_
            refine lv_lconst (v := 0) hx hb dX6_share_91 (by decide) ?_
            refine W.lcmp hx hb dX6_share_92 ?_
            refine lv_if_ne (tgt := 100) hx hb dX6_share_93 (by decide) (fun c5 => ?_) (fun c5 => ?_)
            · skip
              have me : ¬ zs_lsum wt 8 = 0 := fun h => c5 (z_cmp0.mpr h)
              refine lv_iconst (v := 0) hx hb dX6_share_100 (by decide) ?_
              refine lv_iconst (v := 0) hx hb dX6_share_101 (by decide) ?_
              have J := zJ.mk (wc := [(m0, .inr (6, [.int th, .int (nI M.1), .ref m1, .ref m2, .int (nI bt), .ref m3, .int (nI ln), .ref m4, .ref m5, .int (nI cl), .ref m6, .ref m7, .ref m8, .ref m9, .ref m10, .ref m11, .ref m12, .int (nI pn), .ref m13, .ref m14]))]) (wr := [(m6, .inl (D.2 0, 8, .inl wt))]) hA hB hK hP hD hS [0] [1] rfl rfl (by decide)
              refine z_goi (z_runV (As := [.int 0, .int 0, .int 0, .int 0]) (rest := []) (b := m0) hF (d_throwing D m0 m1 m2 m3 m4 m5 m6 m7 m8 m9 m10 m11 m12 m13 m14 (M.1, fun _ => 0, fun _ => 0) bt ln cl pn th 0 0 0 0 H.size) (cwV 4 hZ (z_gV t_286 t_287 t_288 t_272 t_285) rfl rfl rfl (by decide +kernel) ⟨Nat.le_of_ble_eq_true rfl, Nat.le_of_ble_eq_true rfl⟩) J 0 6 rfl rfl rfl rfl hl.1 (Nat.le_of_ble_eq_true rfl) dX6_share_102 ⟨Nat.le_of_ble_eq_true rfl, Nat.le_of_ble_eq_true rfl⟩) J (fun r3 _ H locs w3 hP hD hS => ?_)
              have hP : va_P D.1 vwCl [(m6, .inl (D.2 0, 8, .inl wt)), (m0, .inr (6, [.int 0, .int (nI M.1), .ref m1, .ref m2, .int (nI bt), .ref m3, .int (nI ln), .ref m4, .ref m5, .int (nI cl), .ref m6, .ref m7, .ref m8, .ref m9, .ref m10, .ref m11, .ref m12, .int (nI pn), .ref m13, .ref m14]))] H := hP
              have hD : va_D A [(m6, .inl (D.2 0, 8, .inl wt)), (m0, .inr (6, [.int 0, .int (nI M.1), .ref m1, .ref m2, .int (nI bt), .ref m3, .int (nI ln), .ref m4, .ref m5, .int (nI cl), .ref m6, .ref m7, .ref m8, .ref m9, .ref m10, .ref m11, .ref m12, .int (nI pn), .ref m13, .ref m14]))] := hD
              have w3 : r3 = 0 := w3
              subst w3
              refine lv_if_eq (tgt := 110) hx hb dX6_share_105 (by decide) (fun c6 => ?_) (fun c6 => ?_)
              · skip
                refine lv_iload_n hx hb dX6_share_110 rfl (lv_at hl 2 rfl) ?_
                refine lv_i2l (v := p2.toInt64) hx hb dX6_share_111 rfl ?_
                refine lv_lload hx hb dX6_share_112 (lv_at hl 4 rfl) ?_
                refine lv_lmul hx hb dX6_share_114 ?_
                refine lv_lload_n hx hb dX6_share_115 rfl (lv_at hl 3 rfl) ?_
                refine lv_ldiv hx hb dX6_share_116 (me) ?_
                refine lv_iload_n hx hb dX6_share_117 rfl (lv_at hl 2 rfl) ?_
                refine lv_i2l (v := p2.toInt64) hx hb dX6_share_118 rfl ?_
                refine lv_lload hx hb dX6_share_119 (lv_at hl 4 rfl) ?_
                refine lv_aload_n hx hb dX6_share_121 rfl (lv_at hl 0 rfl) ?_
                refine va_get (D := D.1) (ci := 6) (v := .ref m6) (C := "ShopLedgerModel") (T := TX6) (N := 20) hx hb hZ inX6 hown hK hP 1 rfl rfl 10 (by decide) (hZ _ t_297) (fun _ h9 => h9) rfl dX6_share_122 ?_
                refine lv_iload_n hx hb dX6_share_125 rfl (lv_at hl 1 rfl) ?_
                refine va_iald hx hb hK hP 0 0 rfl rfl (z_vi ar) dX6_share_126 ?_
                refine lv_i2l (v := (wt p1.toNatClampNeg).toInt64) hx hb dX6_share_127 rfl ?_
                refine lv_lsub hx hb dX6_share_128 ?_
                refine lv_lmul hx hb dX6_share_129 ?_
                refine lv_lload_n hx hb dX6_share_130 rfl (lv_at hl 3 rfl) ?_
                refine lv_ldiv hx hb dX6_share_131 (me) ?_
                refine lv_lsub hx hb dX6_share_132 ?_
                exact z_lret (v := ((p2.toInt64 * (zm_to wt p1 8)) / (zs_lsum wt 8)) - ((p2.toInt64 * ((zm_to wt p1 8) - ((wt p1.toNatClampNeg).toInt64))) / (zs_lsum wt 8))) hx hb hr hlocks hP hD hS none (Or.inl ⟨rfl, ar, rg, me, rfl⟩) [1, 0] rfl (by decide) (Nat.le_of_ble_eq_true rfl) (Nat.le_of_ble_eq_true rfl) dX6_share_133
              exfalso; exact absurd c6 (by decide)
            have me : ¬ (¬ zs_lsum wt 8 = 0) := fun h => h (z_cmp0.mp c5)
            refine lv_iconst (v := 1) hx hb dX6_share_96 (by decide) ?_
            refine lv_goto (tgt := 101) hx hb dX6_share_97 (by decide) ?_
            refine lv_iconst (v := 0) hx hb dX6_share_101 (by decide) ?_
            have J := zJ.mk (wc := [(m0, .inr (6, [.int th, .int (nI M.1), .ref m1, .ref m2, .int (nI bt), .ref m3, .int (nI ln), .ref m4, .ref m5, .int (nI cl), .ref m6, .ref m7, .ref m8, .ref m9, .ref m10, .ref m11, .ref m12, .int (nI pn), .ref m13, .ref m14]))]) (wr := [(m6, .inl (D.2 0, 8, .inl wt))]) hA hB hK hP hD hS [0] [1] rfl rfl (by decide)
            refine z_goi (z_runV (As := [.int 0, .int 0, .int 1, .int 0]) (rest := []) (b := m0) hF (d_throwing D m0 m1 m2 m3 m4 m5 m6 m7 m8 m9 m10 m11 m12 m13 m14 (M.1, fun _ => 0, fun _ => 0) bt ln cl pn th 0 0 1 0 H.size) (cwV 4 hZ (z_gV t_286 t_287 t_288 t_272 t_285) rfl rfl rfl (by decide +kernel) ⟨Nat.le_of_ble_eq_true rfl, Nat.le_of_ble_eq_true rfl⟩) J 0 6 rfl rfl rfl rfl hl.1 (Nat.le_of_ble_eq_true rfl) dX6_share_102 ⟨Nat.le_of_ble_eq_true rfl, Nat.le_of_ble_eq_true rfl⟩) J (fun r3 _ H locs w3 hP hD hS => ?_)
            have hP : va_P D.1 vwCl [(m6, .inl (D.2 0, 8, .inl wt)), (m0, .inr (6, [.int 3, .int (nI M.1), .ref m1, .ref m2, .int (nI bt), .ref m3, .int (nI ln), .ref m4, .ref m5, .int (nI cl), .ref m6, .ref m7, .ref m8, .ref m9, .ref m10, .ref m11, .ref m12, .int (nI pn), .ref m13, .ref m14]))] H := hP
            have hD : va_D A [(m6, .inl (D.2 0, 8, .inl wt)), (m0, .inr (6, [.int 3, .int (nI M.1), .ref m1, .ref m2, .int (nI bt), .ref m3, .int (nI ln), .ref m4, .ref m5, .int (nI cl), .ref m6, .ref m7, .ref m8, .ref m9, .ref m10, .ref m11, .ref m12, .int (nI pn), .ref m13, .ref m14]))] := hD
            have w3 : r3 = 1 := w3
            subst w3
            refine lv_if_eq (tgt := 110) hx hb dX6_share_105 (by decide) (fun c6 => ?_) (fun c6 => ?_)
            · skip
              exfalso; exact absurd c6 (by decide)
            refine lv_lconst (v := 0) hx hb dX6_share_108 (by decide) ?_
            exact z_lret (v := 0) hx hb hr hlocks hP hD hS (some 3) (Or.inr (Or.inr (Or.inr (⟨rfl, ar, rg, me⟩)))) [1, 0] rfl (by decide) (Nat.le_of_ble_eq_true rfl) (Nat.le_of_ble_eq_true rfl) dX6_share_109
          have rg := z_b0 f2 c4
          refine lv_iconst (v := 1) hx hb dX6_share_85 (by decide) ?_
          refine lv_goto (tgt := 90) hx hb dX6_share_86 (by decide) ?_
          refine lv_lload_n hx hb dX6_share_90 rfl (lv_at hl 3 rfl) ?_
          refine lv_lconst (v := 0) hx hb dX6_share_91 (by decide) ?_
          refine W.lcmp hx hb dX6_share_92 ?_
          refine lv_if_ne (tgt := 100) hx hb dX6_share_93 (by decide) (fun c5 => ?_) (fun c5 => ?_)
          · skip
            have me : ¬ zs_lsum wt 8 = 0 := fun h => c5 (z_cmp0.mpr h)
            refine lv_iconst (v := 0) hx hb dX6_share_100 (by decide) ?_
            refine lv_iconst (v := 0) hx hb dX6_share_101 (by decide) ?_
            have J := zJ.mk (wc := [(m0, .inr (6, [.int th, .int (nI M.1), .ref m1, .ref m2, .int (nI bt), .ref m3, .int (nI ln), .ref m4, .ref m5, .int (nI cl), .ref m6, .ref m7, .ref m8, .ref m9, .ref m10, .ref m11, .ref m12, .int (nI pn), .ref m13, .ref m14]))]) (wr := [(m6, .inl (D.2 0, 8, .inl wt))]) hA hB hK hP hD hS [0] [1] rfl rfl (by decide)
            refine z_goi (z_runV (As := [.int 0, .int 1, .int 0, .int 0]) (rest := []) (b := m0) hF (d_throwing D m0 m1 m2 m3 m4 m5 m6 m7 m8 m9 m10 m11 m12 m13 m14 (M.1, fun _ => 0, fun _ => 0) bt ln cl pn th 0 1 0 0 H.size) (cwV 4 hZ (z_gV t_286 t_287 t_288 t_272 t_285) rfl rfl rfl (by decide +kernel) ⟨Nat.le_of_ble_eq_true rfl, Nat.le_of_ble_eq_true rfl⟩) J 0 6 rfl rfl rfl rfl hl.1 (Nat.le_of_ble_eq_true rfl) dX6_share_102 ⟨Nat.le_of_ble_eq_true rfl, Nat.le_of_ble_eq_true rfl⟩) J (fun r3 _ H locs w3 hP hD hS => ?_)
            have hP : va_P D.1 vwCl [(m6, .inl (D.2 0, 8, .inl wt)), (m0, .inr (6, [.int 2, .int (nI M.1), .ref m1, .ref m2, .int (nI bt), .ref m3, .int (nI ln), .ref m4, .ref m5, .int (nI cl), .ref m6, .ref m7, .ref m8, .ref m9, .ref m10, .ref m11, .ref m12, .int (nI pn), .ref m13, .ref m14]))] H := hP
            have hD : va_D A [(m6, .inl (D.2 0, 8, .inl wt)), (m0, .inr (6, [.int 2, .int (nI M.1), .ref m1, .ref m2, .int (nI bt), .ref m3, .int (nI ln), .ref m4, .ref m5, .int (nI cl), .ref m6, .ref m7, .ref m8, .ref m9, .ref m10, .ref m11, .ref m12, .int (nI pn), .ref m13, .ref m14]))] := hD
            have w3 : r3 = 1 := w3
            subst w3
            refine lv_if_eq (tgt := 110) hx hb dX6_share_105 (by decide) (fun c6 => ?_) (fun c6 => ?_)
            · skip
              exfalso; exact absurd c6 (by decide)
            refine lv_lconst (v := 0) hx hb dX6_share_108 (by decide) ?_
            exact z_lret (v := 0) hx hb hr hlocks hP hD hS (some 2) (Or.inr (Or.inr (Or.inl ⟨rfl, ar, rg⟩))) [1, 0] rfl (by decide) (Nat.le_of_ble_eq_true rfl) (Nat.le_of_ble_eq_true rfl) dX6_share_109
          have me : ¬ (¬ zs_lsum wt 8 = 0) := fun h => h (z_cmp0.mp c5)
          refine lv_iconst (v := 1) hx hb dX6_share_96 (by decide) ?_
          refine lv_goto (tgt := 101) hx hb dX6_share_97 (by decide) ?_
          refine lv_iconst (v := 0) hx hb dX6_share_101 (by decide) ?_
          have J := zJ.mk (wc := [(m0, .inr (6, [.int th, .int (nI M.1), .ref m1, .ref m2, .int (nI bt), .ref m3, .int (nI ln), .ref m4, .ref m5, .int (nI cl), .ref m6, .ref m7, .ref m8, .ref m9, .ref m10, .ref m11, .ref m12, .int (nI pn), .ref m13, .ref m14]))]) (wr := [(m6, .inl (D.2 0, 8, .inl wt))]) hA hB hK hP hD hS [0] [1] rfl rfl (by decide)
          refine z_goi (z_runV (As := [.int 0, .int 1, .int 1, .int 0]) (rest := []) (b := m0) hF (d_throwing D m0 m1 m2 m3 m4 m5 m6 m7 m8 m9 m10 m11 m12 m13 m14 (M.1, fun _ => 0, fun _ => 0) bt ln cl pn th 0 1 1 0 H.size) (cwV 4 hZ (z_gV t_286 t_287 t_288 t_272 t_285) rfl rfl rfl (by decide +kernel) ⟨Nat.le_of_ble_eq_true rfl, Nat.le_of_ble_eq_true rfl⟩) J 0 6 rfl rfl rfl rfl hl.1 (Nat.le_of_ble_eq_true rfl) dX6_share_102 ⟨Nat.le_of_ble_eq_true rfl, Nat.le_of_ble_eq_true rfl⟩) J (fun r3 _ H locs w3 hP hD hS => ?_)
          have hP : va_P D.1 vwCl [(m6, .inl (D.2 0, 8, .inl wt)), (m0, .inr (6, [.int 2, .int (nI M.1), .ref m1, .ref m2, .int (nI bt), .ref m3, .int (nI ln), .ref m4, .ref m5, .int (nI cl), .ref m6, .ref m7, .ref m8, .ref m9, .ref m10, .ref m11, .ref m12, .int (nI pn), .ref m13, .ref m14]))] H := hP
          have hD : va_D A [(m6, .inl (D.2 0, 8, .inl wt)), (m0, .inr (6, [.int 2, .int (nI M.1), .ref m1, .ref m2, .int (nI bt), .ref m3, .int (nI ln), .ref m4, .ref m5, .int (nI cl), .ref m6, .ref m7, .ref m8, .ref m9, .ref m10, .ref m11, .ref m12, .int (nI pn), .ref m13, .ref m14]))] := hD
          have w3 : r3 = 1 := w3
          subst w3
          refine lv_if_eq (tgt := 110) hx hb dX6_share_105 (by decide) (fun c6 => ?_) (fun c6 => ?_)
          · skip
            exfalso; exact absurd c6 (by decide)
          refine lv_lconst (v := 0) hx hb dX6_share_108 (by decide) ?_
          exact z_lret (v := 0) hx hb hr hlocks hP hD hS (some 2) (Or.inr (Or.inr (Or.inl ⟨rfl, ar, rg⟩))) [1, 0] rfl (by decide) (Nat.le_of_ble_eq_true rfl) (Nat.le_of_ble_eq_true rfl) dX6_share_109
        have ar := z_b0 f1 c3
        refine lv_iconst (v := 1) hx hb dX6_share_68 (by decide) ?_
        refine lv_goto (tgt := 73) hx hb dX6_share_69 (by decide) ?_
        refine lv_iload_n hx hb dX6_share_73 rfl (lv_at hl 2 rfl) ?_
        refine lv_i2l (v := p2.toInt64) hx hb dX6_share_74 rfl ?_
        refine lv_lconst (v := 0) hx hb dX6_share_75 (by decide) ?_
        refine lv_ldc2 (v := 1000000000) hx hb hown (hZ _ t_290) dX6_share_76 ?_
        have J := zJ.mk (wc := []) (wr := [(m0, .inr (6, [.int th, .int (nI M.1), .ref m1, .ref m2, .int (nI bt), .ref m3, .int (nI ln), .ref m4, .ref m5, .int (nI cl), .ref m6, .ref m7, .ref m8, .ref m9, .ref m10, .ref m11, .ref m12, .int (nI pn), .ref m13, .ref m14])), (m6, .inl (D.2 0, 8, .inl wt))]) hA hB hK hP hD hS [] [0, 1] rfl rfl (by decide)
        refine z_goi (z_runS (As := [.long p2.toInt64, .long 0, .long 1000000000]) (rest := [.int 1, .ref m0]) hF (d_lies D p2.toInt64 0 1000000000 H.size) (va_cwS 3 hZ (z_gS t_273 t_274 t_272 t_271) rfl rfl rfl (by decide +kernel) ⟨Nat.le_of_ble_eq_true rfl, Nat.le_of_ble_eq_true rfl⟩) J rfl hl.1 (Nat.le_of_ble_eq_true rfl) dX6_share_79 ⟨Nat.le_of_ble_eq_true rfl, Nat.le_of_ble_eq_true rfl⟩) J (fun r2 _ H locs w2 hP hD hS => ?_)
        have hP : va_P D.1 vwCl [(m0, .inr (6, [.int th, .int (nI M.1), .ref m1, .ref m2, .int (nI bt), .ref m3, .int (nI ln), .ref m4, .ref m5, .int (nI cl), .ref m6, .ref m7, .ref m8, .ref m9, .ref m10, .ref m11, .ref m12, .int (nI pn), .ref m13, .ref m14])), (m6, .inl (D.2 0, 8, .inl wt))] H := hP
        have hD : va_D A [(m0, .inr (6, [.int th, .int (nI M.1), .ref m1, .ref m2, .int (nI bt), .ref m3, .int (nI ln), .ref m4, .ref m5, .int (nI cl), .ref m6, .ref m7, .ref m8, .ref m9, .ref m10, .ref m11, .ref m12, .int (nI pn), .ref m13, .ref m14])), (m6, .inl (D.2 0, 8, .inl wt))] := hD
        have f2 : (r2 = 1 ∧ ¬ p2 < 0 ∧ p2 ≤ 1000000000) ∨ (r2 = 0 ∧ ¬ (¬ p2 < 0 ∧ p2 ≤ 1000000000)) := z_li (a := 0) (b := 1000000000) (by decide) (by decide) w2
        refine lv_if_ne (tgt := 89) hx hb dX6_share_82 (by decide) (fun c4 => ?_) (fun c4 => ?_)
        · skip
          have rg := z_b1 f2 c4
          refine lv_iconst (v := 0) hx hb dX6_share_89 (by decide) ?_
          refine lv_lload_n hx hb dX6_share_90 rfl (lv_at hl 3 rfl) ?_
          refine lv_lconst (v := 0) hx hb dX6_share_91 (by decide) ?_
          refine W.lcmp hx hb dX6_share_92 ?_
          refine lv_if_ne (tgt := 100) hx hb dX6_share_93 (by decide) (fun c5 => ?_) (fun c5 => ?_)
          · skip
            have me : ¬ zs_lsum wt 8 = 0 := fun h => c5 (z_cmp0.mpr h)
            refine lv_iconst (v := 0) hx hb dX6_share_100 (by decide) ?_
            refine lv_iconst (v := 0) hx hb dX6_share_101 (by decide) ?_
            have J := zJ.mk (wc := [(m0, .inr (6, [.int th, .int (nI M.1), .ref m1, .ref m2, .int (nI bt), .ref m3, .int (nI ln), .ref m4, .ref m5, .int (nI cl), .ref m6, .ref m7, .ref m8, .ref m9, .ref m10, .ref m11, .ref m12, .int (nI pn), .ref m13, .ref m14]))]) (wr := [(m6, .inl (D.2 0, 8, .inl wt))]) hA hB hK hP hD hS [0] [1] rfl rfl (by decide)
            refine z_goi (z_runV (As := [.int 1, .int 0, .int 0, .int 0]) (rest := []) (b := m0) hF (d_throwing D m0 m1 m2 m3 m4 m5 m6 m7 m8 m9 m10 m11 m12 m13 m14 (M.1, fun _ => 0, fun _ => 0) bt ln cl pn th 1 0 0 0 H.size) (cwV 4 hZ (z_gV t_286 t_287 t_288 t_272 t_285) rfl rfl rfl (by decide +kernel) ⟨Nat.le_of_ble_eq_true rfl, Nat.le_of_ble_eq_true rfl⟩) J 0 6 rfl rfl rfl rfl hl.1 (Nat.le_of_ble_eq_true rfl) dX6_share_102 ⟨Nat.le_of_ble_eq_true rfl, Nat.le_of_ble_eq_true rfl⟩) J (fun r3 _ H locs w3 hP hD hS => ?_)
            have hP : va_P D.1 vwCl [(m6, .inl (D.2 0, 8, .inl wt)), (m0, .inr (6, [.int 1, .int (nI M.1), .ref m1, .ref m2, .int (nI bt), .ref m3, .int (nI ln), .ref m4, .ref m5, .int (nI cl), .ref m6, .ref m7, .ref m8, .ref m9, .ref m10, .ref m11, .ref m12, .int (nI pn), .ref m13, .ref m14]))] H := hP
            have hD : va_D A [(m6, .inl (D.2 0, 8, .inl wt)), (m0, .inr (6, [.int 1, .int (nI M.1), .ref m1, .ref m2, .int (nI bt), .ref m3, .int (nI ln), .ref m4, .ref m5, .int (nI cl), .ref m6, .ref m7, .ref m8, .ref m9, .ref m10, .ref m11, .ref m12, .int (nI pn), .ref m13, .ref m14]))] := hD
            have w3 : r3 = 1 := w3
            subst w3
            refine lv_if_eq (tgt := 110) hx hb dX6_share_105 (by decide) (fun c6 => ?_) (fun c6 => ?_)
            · skip
              exfalso; exact absurd c6 (by decide)
            refine lv_lconst (v := 0) hx hb dX6_share_108 (by decide) ?_
            exact z_lret (v := 0) hx hb hr hlocks hP hD hS (some 1) (Or.inr (Or.inl ⟨rfl, ar⟩)) [1, 0] rfl (by decide) (Nat.le_of_ble_eq_true rfl) (Nat.le_of_ble_eq_true rfl) dX6_share_109
          have me : ¬ (¬ zs_lsum wt 8 = 0) := fun h => h (z_cmp0.mp c5)
          refine lv_iconst (v := 1) hx hb dX6_share_96 (by decide) ?_
          refine lv_goto (tgt := 101) hx hb dX6_share_97 (by decide) ?_
          refine lv_iconst (v := 0) hx hb dX6_share_101 (by decide) ?_
          have J := zJ.mk (wc := [(m0, .inr (6, [.int th, .int (nI M.1), .ref m1, .ref m2, .int (nI bt), .ref m3, .int (nI ln), .ref m4, .ref m5, .int (nI cl), .ref m6, .ref m7, .ref m8, .ref m9, .ref m10, .ref m11, .ref m12, .int (nI pn), .ref m13, .ref m14]))]) (wr := [(m6, .inl (D.2 0, 8, .inl wt))]) hA hB hK hP hD hS [0] [1] rfl rfl (by decide)
          refine z_goi (z_runV (As := [.int 1, .int 0, .int 1, .int 0]) (rest := []) (b := m0) hF (d_throwing D m0 m1 m2 m3 m4 m5 m6 m7 m8 m9 m10 m11 m12 m13 m14 (M.1, fun _ => 0, fun _ => 0) bt ln cl pn th 1 0 1 0 H.size) (cwV 4 hZ (z_gV t_286 t_287 t_288 t_272 t_285) rfl rfl rfl (by decide +kernel) ⟨Nat.le_of_ble_eq_true rfl, Nat.le_of_ble_eq_true rfl⟩) J 0 6 rfl rfl rfl rfl hl.1 (Nat.le_of_ble_eq_true rfl) dX6_share_102 ⟨Nat.le_of_ble_eq_true rfl, Nat.le_of_ble_eq_true rfl⟩) J (fun r3 _ H locs w3 hP hD hS => ?_)
          have hP : va_P D.1 vwCl [(m6, .inl (D.2 0, 8, .inl wt)), (m0, .inr (6, [.int 1, .int (nI M.1), .ref m1, .ref m2, .int (nI bt), .ref m3, .int (nI ln), .ref m4, .ref m5, .int (nI cl), .ref m6, .ref m7, .ref m8, .ref m9, .ref m10, .ref m11, .ref m12, .int (nI pn), .ref m13, .ref m14]))] H := hP
          have hD : va_D A [(m6, .inl (D.2 0, 8, .inl wt)), (m0, .inr (6, [.int 1, .int (nI M.1), .ref m1, .ref m2, .int (nI bt), .ref m3, .int (nI ln), .ref m4, .ref m5, .int (nI cl), .ref m6, .ref m7, .ref m8, .ref m9, .ref m10, .ref m11, .ref m12, .int (nI pn), .ref m13, .ref m14]))] := hD
          have w3 : r3 = 1 := w3
          subst w3
          refine lv_if_eq (tgt := 110) hx hb dX6_share_105 (by decide) (fun c6 => ?_) (fun c6 => ?_)
          · skip
            exfalso; exact absurd c6 (by decide)
          refine lv_lconst (v := 0) hx hb dX6_share_108 (by decide) ?_
          exact z_lret (v := 0) hx hb hr hlocks hP hD hS (some 1) (Or.inr (Or.inl ⟨rfl, ar⟩)) [1, 0] rfl (by decide) (Nat.le_of_ble_eq_true rfl) (Nat.le_of_ble_eq_true rfl) dX6_share_109
        have rg := z_b0 f2 c4
        refine lv_iconst (v := 1) hx hb dX6_share_85 (by decide) ?_
        refine lv_goto (tgt := 90) hx hb dX6_share_86 (by decide) ?_
        refine lv_lload_n hx hb dX6_share_90 rfl (lv_at hl 3 rfl) ?_
        refine lv_lconst (v := 0) hx hb dX6_share_91 (by decide) ?_
        refine W.lcmp hx hb dX6_share_92 ?_
        refine lv_if_ne (tgt := 100) hx hb dX6_share_93 (by decide) (fun c5 => ?_) (fun c5 => ?_)
        · skip
          have me : ¬ zs_lsum wt 8 = 0 := fun h => c5 (z_cmp0.mpr h)
          refine lv_iconst (v := 0) hx hb dX6_share_100 (by decide) ?_
          refine lv_iconst (v := 0) hx hb dX6_share_101 (by decide) ?_
          have J := zJ.mk (wc := [(m0, .inr (6, [.int th, .int (nI M.1), .ref m1, .ref m2, .int (nI bt), .ref m3, .int (nI ln), .ref m4, .ref m5, .int (nI cl), .ref m6, .ref m7, .ref m8, .ref m9, .ref m10, .ref m11, .ref m12, .int (nI pn), .ref m13, .ref m14]))]) (wr := [(m6, .inl (D.2 0, 8, .inl wt))]) hA hB hK hP hD hS [0] [1] rfl rfl (by decide)
          refine z_goi (z_runV (As := [.int 1, .int 1, .int 0, .int 0]) (rest := []) (b := m0) hF (d_throwing D m0 m1 m2 m3 m4 m5 m6 m7 m8 m9 m10 m11 m12 m13 m14 (M.1, fun _ => 0, fun _ => 0) bt ln cl pn th 1 1 0 0 H.size) (cwV 4 hZ (z_gV t_286 t_287 t_288 t_272 t_285) rfl rfl rfl (by decide +kernel) ⟨Nat.le_of_ble_eq_true rfl, Nat.le_of_ble_eq_true rfl⟩) J 0 6 rfl rfl rfl rfl hl.1 (Nat.le_of_ble_eq_true rfl) dX6_share_102 ⟨Nat.le_of_ble_eq_true rfl, Nat.le_of_ble_eq_true rfl⟩) J (fun r3 _ H locs w3 hP hD hS => ?_)
          have hP : va_P D.1 vwCl [(m6, .inl (D.2 0, 8, .inl wt)), (m0, .inr (6, [.int 1, .int (nI M.1), .ref m1, .ref m2, .int (nI bt), .ref m3, .int (nI ln), .ref m4, .ref m5, .int (nI cl), .ref m6, .ref m7, .ref m8, .ref m9, .ref m10, .ref m11, .ref m12, .int (nI pn), .ref m13, .ref m14]))] H := hP
          have hD : va_D A [(m6, .inl (D.2 0, 8, .inl wt)), (m0, .inr (6, [.int 1, .int (nI M.1), .ref m1, .ref m2, .int (nI bt), .ref m3, .int (nI ln), .ref m4, .ref m5, .int (nI cl), .ref m6, .ref m7, .ref m8, .ref m9, .ref m10, .ref m11, .ref m12, .int (nI pn), .ref m13, .ref m14]))] := hD
          have w3 : r3 = 1 := w3
          subst w3
          refine lv_if_eq (tgt := 110) hx hb dX6_share_105 (by decide) (fun c6 => ?_) (fun c6 => ?_)
          · skip
            exfalso; exact absurd c6 (by decide)
          refine lv_lconst (v := 0) hx hb dX6_share_108 (by decide) ?_
          exact z_lret (v := 0) hx hb hr hlocks hP hD hS (some 1) (Or.inr (Or.inl ⟨rfl, ar⟩)) [1, 0] rfl (by decide) (Nat.le_of_ble_eq_true rfl) (Nat.le_of_ble_eq_true rfl) dX6_share_109
        have me : ¬ (¬ zs_lsum wt 8 = 0) := fun h => h (z_cmp0.mp c5)
        refine lv_iconst (v := 1) hx hb dX6_share_96 (by decide) ?_
        refine lv_goto (tgt := 101) hx hb dX6_share_97 (by decide) ?_
        refine lv_iconst (v := 0) hx hb dX6_share_101 (by decide) ?_
        have J := zJ.mk (wc := [(m0, .inr (6, [.int th, .int (nI M.1), .ref m1, .ref m2, .int (nI bt), .ref m3, .int (nI ln), .ref m4, .ref m5, .int (nI cl), .ref m6, .ref m7, .ref m8, .ref m9, .ref m10, .ref m11, .ref m12, .int (nI pn), .ref m13, .ref m14]))]) (wr := [(m6, .inl (D.2 0, 8, .inl wt))]) hA hB hK hP hD hS [0] [1] rfl rfl (by decide)
        refine z_goi (z_runV (As := [.int 1, .int 1, .int 1, .int 0]) (rest := []) (b := m0) hF (d_throwing D m0 m1 m2 m3 m4 m5 m6 m7 m8 m9 m10 m11 m12 m13 m14 (M.1, fun _ => 0, fun _ => 0) bt ln cl pn th 1 1 1 0 H.size) (cwV 4 hZ (z_gV t_286 t_287 t_288 t_272 t_285) rfl rfl rfl (by decide +kernel) ⟨Nat.le_of_ble_eq_true rfl, Nat.le_of_ble_eq_true rfl⟩) J 0 6 rfl rfl rfl rfl hl.1 (Nat.le_of_ble_eq_true rfl) dX6_share_102 ⟨Nat.le_of_ble_eq_true rfl, Nat.le_of_ble_eq_true rfl⟩) J (fun r3 _ H locs w3 hP hD hS => ?_)
        have hP : va_P D.1 vwCl [(m6, .inl (D.2 0, 8, .inl wt)), (m0, .inr (6, [.int 1, .int (nI M.1), .ref m1, .ref m2, .int (nI bt), .ref m3, .int (nI ln), .ref m4, .ref m5, .int (nI cl), .ref m6, .ref m7, .ref m8, .ref m9, .ref m10, .ref m11, .ref m12, .int (nI pn), .ref m13, .ref m14]))] H := hP
        have hD : va_D A [(m6, .inl (D.2 0, 8, .inl wt)), (m0, .inr (6, [.int 1, .int (nI M.1), .ref m1, .ref m2, .int (nI bt), .ref m3, .int (nI ln), .ref m4, .ref m5, .int (nI cl), .ref m6, .ref m7, .ref m8, .ref m9, .ref m10, .ref m11, .ref m12, .int (nI pn), .ref m13, .ref m14]))] := hD
        have w3 : r3 = 1 := w3
        subst w3
        refine lv_if_eq (tgt := 110) hx hb dX6_share_105 (by decide) (fun c6 => ?_) (fun c6 => ?_)
        · skip
          exfalso; exact absurd c6 (by decide)
        refine lv_lconst (v := 0) hx hb dX6_share_108 (by decide) ?_
        exact z_lret (v := 0) hx hb hr hlocks hP hD hS (some 1) (Or.inr (Or.inl ⟨rfl, ar⟩)) [1, 0] rfl (by decide) (Nat.le_of_ble_eq_true rfl) (Nat.le_of_ble_eq_true rfl) dX6_share_109
      have hk : k < 8 := z_lt q1 (by decide) c1
      refine lv_lload_n hx hb dX6_share_15 rfl (lv_at hl 3 rfl) ?_
      refine lv_aload_n hx hb dX6_share_16 rfl (lv_at hl 0 rfl) ?_
      refine va_get (D := D.1) (ci := 6) (v := .ref m6) (C := "ShopLedgerModel") (T := TX6) (N := 20) hx hb hZ inX6 hown hK hP 0 rfl rfl 10 (by decide) (hZ _ t_297) (fun _ h9 => h9) rfl dX6_share_17 ?_
      refine lv_iload hx hb dX6_share_20 (lv_at hl 5 rfl) ?_
      refine z_iald (k := k) hx hb hK hP 1 rfl (hk) (by decide) dX6_share_22 ?_
      refine lv_i2l (v := (wt k).toInt64) hx hb dX6_share_23 rfl ?_
      refine lv_ladd hx hb dX6_share_24 ?_
      rw [show ((zs_lsum wt k) + ((wt k).toInt64)) = zs_lsum wt (k + 1) from rfl]
      refine lv_lstore_n (lv' := [(3, .long (zs_lsum wt (k + 1))), (0, .ref m0), (1, .int p1), (2, .int p2), (5, .long (zm_to wt p1 k)), (7, .int (nI k))]) hx hb dX6_share_25 rfl hl (by decide) rfl (fun ls hl => ?_)
      refine lv_lload hx hb dX6_share_26 (lv_at hl 4 rfl) ?_
      refine lv_iload hx hb dX6_share_28 (lv_at hl 5 rfl) ?_
      refine lv_iload_n hx hb dX6_share_30 rfl (lv_at hl 2 rfl) ?_
      refine lv_icmp_gt (tgt := 45) hx hb dX6_share_31 (by decide) (fun c2 => ?_) (fun c2 => ?_)
      · skip
        refine lv_lconst (v := 0) hx hb dX6_share_45 (by decide) ?_
        refine lv_ladd hx hb dX6_share_46 ?_
        rw [show ((zm_to wt p1 k) + 0) = zm_to wt p1 (k + 1) from by simp only [zm_to]; rw [if_neg (Int32.not_le.mpr c2)]]
        refine lv_lstore (lv' := [(5, .long (zm_to wt p1 (k + 1))), (3, .long (zs_lsum wt (k + 1))), (0, .ref m0), (1, .int p1), (2, .int p2), (7, .int (nI k))]) hx hb dX6_share_47 hl (by decide) rfl (fun ls hl => ?_)
        refine lv_iinc (v := nI (k + 1)) (lv' := [(7, .int (nI (k + 1))), (5, .long (zm_to wt p1 (k + 1))), (3, .long (zs_lsum wt (k + 1))), (0, .ref m0), (1, .int p1), (2, .int p2)]) hx hb dX6_share_49 hl (k := 5) rfl (nI_1 k) (by decide) rfl (fun ls hl => ?_)
        refine lv_goto (tgt := 8) hx hb dX6_share_52 (by decide) ?_
        exact ih_lo1 (k + 1) (Nat.succ_le_of_lt hk) (by omega)  _ _ (hP.sub [0, 1] rfl) (hD.sub [0, 1] (by decide) rfl) hS ls (lv_sub hl [3, 4, 5, 2, 1, 0] rfl)
      refine lv_aload_n hx hb dX6_share_34 rfl (lv_at hl 1 rfl) ?_
      refine va_get (D := D.1) (ci := 6) (v := .ref m6) (C := "ShopLedgerModel") (T := TX6) (N := 20) hx hb hZ inX6 hown hK hP 0 rfl rfl 10 (by decide) (hZ _ t_297) (fun _ h9 => h9) rfl dX6_share_35 ?_
      refine lv_iload hx hb dX6_share_38 (lv_at hl 5 rfl) ?_
      refine z_iald (k := k) hx hb hK hP 1 rfl (hk) (by decide) dX6_share_40 ?_
      refine lv_i2l (v := (wt k).toInt64) hx hb dX6_share_41 rfl ?_
      refine lv_goto (tgt := 46) hx hb dX6_share_42 (by decide) ?_
      refine lv_ladd hx hb dX6_share_46 ?_
      rw [show ((zm_to wt p1 k) + ((wt k).toInt64)) = zm_to wt p1 (k + 1) from by simp only [zm_to]; rw [if_pos (Int32.not_lt.mp c2)]]
      refine lv_lstore (lv' := [(5, .long (zm_to wt p1 (k + 1))), (3, .long (zs_lsum wt (k + 1))), (0, .ref m0), (1, .int p1), (2, .int p2), (7, .int (nI k))]) hx hb dX6_share_47 hl (by decide) rfl (fun ls hl => ?_)
      refine lv_iinc (v := nI (k + 1)) (lv' := [(7, .int (nI (k + 1))), (5, .long (zm_to wt p1 (k + 1))), (3, .long (zs_lsum wt (k + 1))), (0, .ref m0), (1, .int p1), (2, .int p2)]) hx hb dX6_share_49 hl (k := 5) rfl (nI_1 k) (by decide) rfl (fun ls hl => ?_)
      refine lv_goto (tgt := 8) hx hb dX6_share_52 (by decide) ?_
      exact ih_lo1 (k + 1) (Nat.succ_le_of_lt hk) (by omega)  _ _ (hP.sub [0, 1] rfl) (hD.sub [0, 1] (by decide) rfl) hS ls (lv_sub hl [3, 4, 5, 2, 1, 0] rfl)
  exact lo1 (8 + 1) 0 (Nat.zero_le _) (by omega)  _ _ (hP.sub [0, 1] rfl) (hD.sub [0, 1] (by decide) rfl) hS ls (lv_sub hl [3, 4, 5, 2, 1, 0] rfl)
set_option maxHeartbeats 4000000 in
set_option maxRecDepth 100000 in
/-- the reference: stocked -/
theorem d_stocked {l : Launch} (D : zD) (m0 m1 m2 m3 m4 m5 m6 m7 m8 m9 m10 m11 m12 m13 m14 : Nat) (M : zM) (bt ln cl pn : Nat) (th : Int32) (ly : Nat → Nat) (lp lq : Nat → Int32) (j : Nat) (sz : Nat) (hj : j < 4) (hy : ly j ≤ 12) : Met l yX6_stocked wsX6_stocked ({ frames := 0, cells := 0, slots := 0, locals := 0 }) (va_Pc [.ref m0, .int (nI j)] (zp D sz [(m0, .inr (6, [.int th, .int (nI M.1), .ref m1, .ref m2, .int (nI bt), .ref m3, .int (nI ln), .ref m4, .ref m5, .int (nI cl), .ref m6, .ref m7, .ref m8, .ref m9, .ref m10, .ref m11, .ref m12, .int (nI pn), .ref m13, .ref m14])), (m7, .inl (D.2 0, 4, .inl (fun i => nI (ly i)))), (m8, .inl (D.2 0, 48, .inl lp))])) (va_Ql (fun r (_ : Unit) => r = zm_lsum lp (12 * j) (ly j)) (zq D (va_A [(m0, .inr (6, [.int th, .int (nI M.1), .ref m1, .ref m2, .int (nI bt), .ref m3, .int (nI ln), .ref m4, .ref m5, .int (nI cl), .ref m6, .ref m7, .ref m8, .ref m9, .ref m10, .ref m11, .ref m12, .int (nI pn), .ref m13, .ref m14])), (m7, .inl (D.2 0, 4, .inl (fun i => nI (ly i)))), (m8, .inl (D.2 0, 48, .inl lp))] sz) (fun (_ : Unit) => ([(m0, .inr (6, [.int th, .int (nI M.1), .ref m1, .ref m2, .int (nI bt), .ref m3, .int (nI ln), .ref m4, .ref m5, .int (nI cl), .ref m6, .ref m7, .ref m8, .ref m9, .ref m10, .ref m11, .ref m12, .int (nI pn), .ref m13, .ref m14])), (m7, .inl (D.2 0, 4, .inl (fun i => nI (ly i)))), (m8, .inl (D.2 0, 48, .inl lp))] : va_W))) (va_A [(m0, .inr (6, [.int th, .int (nI M.1), .ref m1, .ref m2, .int (nI bt), .ref m3, .int (nI ln), .ref m4, .ref m5, .int (nI cl), .ref m6, .ref m7, .ref m8, .ref m9, .ref m10, .ref m11, .ref m12, .int (nI pn), .ref m13, .ref m14])), (m7, .inl (D.2 0, 4, .inl (fun i => nI (ly i)))), (m8, .inl (D.2 0, 48, .inl lp))] sz)) 0 0 (va_A [(m0, .inr (6, [.int th, .int (nI M.1), .ref m1, .ref m2, .int (nI bt), .ref m3, .int (nI ln), .ref m4, .ref m5, .int (nI cl), .ref m6, .ref m7, .ref m8, .ref m9, .ref m10, .ref m11, .ref m12, .int (nI pn), .ref m13, .ref m14])), (m7, .inl (D.2 0, 4, .inl (fun i => nI (ly i)))), (m8, .inl (D.2 0, 48, .inl lp))] sz) := by
  refine Met.ofW (cc := cX6_stocked) (maxL := 5) (ret := (some .long)) (by decide) rfl ?_
  intro p e s m args below meth c s₁ B hml hv
  obtain ⟨rfl, hsz, hP, hK, hD0, hB⟩ := hv
  have hx := B.exec
  have hb := B.bytes
  have hr := B.returns
  have hts := atoms_spec (ws := wsX6_stocked) B.pre
  have hown : s.vm.findClass "ShopLedgerModel" = some m.cls := findClass_of_methodNamed B.named
  have hlocks := B.notSynchronized
  subst hsz
  have hD := hD0.self (sz := s.heap.size)
  generalize hAe : va_A [(m0, .inr (6, [.int th, .int (nI M.1), .ref m1, .ref m2, .int (nI bt), .ref m3, .int (nI ln), .ref m4, .ref m5, .int (nI cl), .ref m6, .ref m7, .ref m8, .ref m9, .ref m10, .ref m11, .ref m12, .int (nI pn), .ref m13, .ref m14])), (m7, .inl (D.2 0, 4, .inl (fun i => nI (ly i)))), (m8, .inl (D.2 0, 48, .inl lp))] s.heap.size = A at hD hB ⊢
  have hA : ∀ q : Nat, s.heap.size ≤ q → A q := fun q h => by rw [← hAe]; exact Or.inr h
  have hS : va_S A s.heap s.heap [] := va_S.rf
  have hZ : ∀ w ∈ zALL, w.before _ s = true := fun w h => hts w (List.mem_cons_of_mem _ h)
  have hF : CallFix p m c cX6_stocked 5 s _ zALL "ShopLedgerModel" := ⟨hx, hb, hml, hown, hZ⟩
  have hl := lv_entry ([.ref m0, .int (nI j)]) (n := 5) (Nat.le_of_ble_eq_true rfl)
  rw [lg_entry_eq]
  generalize (lg_sl ([.ref m0, .int (nI j)]) ++ List.replicate (5 - (lg_sl ([.ref m0, .int (nI j)])).length) Slot.unset).toArray = ls at hl ⊢
  have hl : lv_has ls 5 [(0, .ref m0), (1, .int (nI j))] := hl
  refine lv_lconst (v := 0) hx hb dX6_stocked_0 (by decide) ?_
  refine lv_lstore_n (lv' := [(2, .long 0), (0, .ref m0), (1, .int (nI j))]) hx hb dX6_stocked_1 rfl hl (by decide) rfl (fun ls hl => ?_)
  refine lv_iconst (v := 0) hx hb dX6_stocked_2 (by decide) ?_
  refine lv_istore (lv' := [(4, .int 0), (2, .long 0), (0, .ref m0), (1, .int (nI j))]) hx hb dX6_stocked_3 hl (by decide) rfl (fun ls hl => ?_)
  have lo1 : ∀ (nn : Nat) (k : Nat), k ≤ (ly j) → (ly j) + 1 ≤ k + nn → ∀ (H : Heap) (locs : List Loc), va_P D.1 vwCl [(m0, .inr (6, [.int th, .int (nI M.1), .ref m1, .ref m2, .int (nI bt), .ref m3, .int (nI ln), .ref m4, .ref m5, .int (nI cl), .ref m6, .ref m7, .ref m8, .ref m9, .ref m10, .ref m11, .ref m12, .int (nI pn), .ref m13, .ref m14])), (m7, .inl (D.2 0, 4, .inl (fun i => nI (ly i)))), (m8, .inl (D.2 0, 48, .inl lp))] H → va_D A [(m0, .inr (6, [.int th, .int (nI M.1), .ref m1, .ref m2, .int (nI bt), .ref m3, .int (nI ln), .ref m4, .ref m5, .int (nI cl), .ref m6, .ref m7, .ref m8, .ref m9, .ref m10, .ref m11, .ref m12, .int (nI pn), .ref m13, .ref m14])), (m7, .inl (D.2 0, 4, .inl (fun i => nI (ly i)))), (m8, .inl (D.2 0, 48, .inl lp))] → va_S A s.heap H locs → ∀ (ls : Array Slot), lv_has ls 5 [(0, .ref m0), (1, .int (nI j)), (2, .long (zm_lsum lp (12 * j) k)), (4, .int (nI k))] → W p l e (headSpec wsX6_stocked ({ frames := 0, cells := 0, slots := 0, locals := 0 })).room s m [.ref m0, .int (nI j)].toArray below meth c H locs 0 0 (MQ below (va_Ql (fun r (_ : Unit) => r = zm_lsum lp (12 * j) (ly j)) (zq D A (fun (_ : Unit) => ([(m0, .inr (6, [.int th, .int (nI M.1), .ref m1, .ref m2, .int (nI bt), .ref m3, .int (nI ln), .ref m4, .ref m5, .int (nI cl), .ref m6, .ref m7, .ref m8, .ref m9, .ref m10, .ref m11, .ref m12, .int (nI pn), .ref m13, .ref m14])), (m7, .inl (D.2 0, 4, .inl (fun i => nI (ly i)))), (m8, .inl (D.2 0, 48, .inl lp))] : va_W))) A) [.ref m0, .int (nI j)].toArray s 0 0 A) (F0 m 5 ls []) := by
    intro nn
    induction nn with
    | zero =>
      intro k q1 q2
      exfalso
      omega
    | succ nn ih_lo1 =>
      intro k q1 q2 H locs hP hD hS ls hl
      refine lv_iload hx hb dX6_stocked_5 (lv_at hl 3 rfl) ?_
      refine lv_aload_n hx hb dX6_stocked_7 rfl (lv_at hl 0 rfl) ?_
      refine va_get (D := D.1) (ci := 6) (v := .ref m7) (C := "ShopLedgerModel") (T := TX6) (N := 20) hx hb hZ inX6 hown hK hP 0 rfl rfl 11 (by decide) (hZ _ t_312) (fun _ h9 => h9) rfl dX6_stocked_8 ?_
      refine lv_iload_n hx hb dX6_stocked_11 rfl (lv_at hl 1 rfl) ?_
      refine z_iald (k := j) hx hb hK hP 1 rfl (hj) (by decide) dX6_stocked_12 ?_
      refine lv_icmp_ge (tgt := 38) hx hb dX6_stocked_13 (by decide) (fun c1 => ?_) (fun c1 => ?_)
      · skip
        have e9 : ly j = k := (z_ge q1 (by omega) c1).symm
        subst e9
        refine lv_lload_n hx hb dX6_stocked_38 rfl (lv_at hl 2 rfl) ?_
        exact z_lret (v := zm_lsum lp (12 * j) (ly j)) hx hb hr hlocks hP hD hS () (rfl) [0, 1, 2] rfl (by decide) (Nat.le_of_ble_eq_true rfl) (Nat.le_of_ble_eq_true rfl) dX6_stocked_39
      have hk : k < ly j := z_lt q1 (by omega) c1
      refine lv_lload_n hx hb dX6_stocked_16 rfl (lv_at hl 2 rfl) ?_
      refine lv_aload_n hx hb dX6_stocked_17 rfl (lv_at hl 0 rfl) ?_
      refine va_get (D := D.1) (ci := 6) (v := .ref m8) (C := "ShopLedgerModel") (T := TX6) (N := 20) hx hb hZ inX6 hown hK hP 0 rfl rfl 12 (by decide) (hZ _ t_313) (fun _ h9 => h9) rfl dX6_stocked_18 ?_
      refine lv_bipush (v := 12) hx hb dX6_stocked_21 (by decide) ?_
      refine lv_iload_n hx hb dX6_stocked_23 rfl (lv_at hl 1 rfl) ?_
      refine lv_imul hx hb dX6_stocked_24 ?_
      rw [show (12 * (nI j)) = nI (12 * j) from pk_mul 12 j]
      refine lv_iload hx hb dX6_stocked_25 (lv_at hl 3 rfl) ?_
      refine lv_iadd hx hb dX6_stocked_27 ?_
      rw [show ((nI (12 * j)) + (nI k)) = nI (12 * j + k) from nI_add _ _]
      refine z_iald (k := 12 * j + k) hx hb hK hP 2 rfl (by omega) (by decide) dX6_stocked_28 ?_
      refine lv_i2l (v := (lp (12 * j + k)).toInt64) hx hb dX6_stocked_29 rfl ?_
      refine lv_ladd hx hb dX6_stocked_30 ?_
      rw [show ((zm_lsum lp (12 * j) k) + ((lp (12 * j + k)).toInt64)) = zm_lsum lp (12 * j) (k + 1) from rfl]
      refine lv_lstore_n (lv' := [(2, .long (zm_lsum lp (12 * j) (k + 1))), (0, .ref m0), (1, .int (nI j)), (4, .int (nI k))]) hx hb dX6_stocked_31 rfl hl (by decide) rfl (fun ls hl => ?_)
      refine lv_iinc (v := nI (k + 1)) (lv' := [(4, .int (nI (k + 1))), (2, .long (zm_lsum lp (12 * j) (k + 1))), (0, .ref m0), (1, .int (nI j))]) hx hb dX6_stocked_32 hl (k := 3) rfl (nI_1 k) (by decide) rfl (fun ls hl => ?_)
      refine lv_goto (tgt := 5) hx hb dX6_stocked_35 (by decide) ?_
      exact ih_lo1 (k + 1) (Nat.succ_le_of_lt hk) (by omega)  _ _ (hP.sub [0, 1, 2] rfl) (hD.sub [0, 1, 2] (by decide) rfl) hS ls (lv_sub hl [2, 3, 1, 0] rfl)
  exact lo1 ((ly j) + 1) 0 (Nat.zero_le _) (by omega)  _ _ (hP.sub [0, 1, 2] rfl) (hD.sub [0, 1, 2] (by decide) rfl) hS ls (lv_sub hl [2, 3, 1, 0] rfl)
set_option maxHeartbeats 4000000 in
set_option maxRecDepth 100000 in
/-- the reference: stock -/
theorem d_stock {l : Launch} (D : zD) (m0 m1 m2 m3 m4 m5 m6 m7 m8 m9 m10 m11 m12 m13 m14 : Nat) (M : zM) (bt ln cl pn : Nat) (th : Int32) (ly : Nat → Nat) (lp lq : Nat → Int32) (j : Nat) (p2 p3 : Int32) (sz : Nat) (hj : j < 4) (hy : ly j ≤ 12) : Met l yX6_stock wsX6_stock ({ frames := 1, cells := 0, slots := 0, locals := 25 }) (va_Pc [.ref m0, .int (nI j), .int p2, .int p3] (zp D sz [(m0, .inr (6, [.int th, .int (nI M.1), .ref m1, .ref m2, .int (nI bt), .ref m3, .int (nI ln), .ref m4, .ref m5, .int (nI cl), .ref m6, .ref m7, .ref m8, .ref m9, .ref m10, .ref m11, .ref m12, .int (nI pn), .ref m13, .ref m14])), (m7, .inl (D.2 0, 4, .inl (fun i => nI (ly i)))), (m8, .inl (D.2 0, 48, .inl lp)), (m9, .inl (D.2 0, 48, .inl lq))])) (va_Qi (fun r (u : Option Int32) => (u = none ∧ (True) ∧ (¬ 12 ≤ nI (ly j)) ∧ (¬ p2 < 1 ∧ p2 ≤ 1000000 ∧ ¬ p3 < 0 ∧ p3 ≤ 1000000) ∧ r = nI (ly j + 1)) ∨ (u = some 1 ∧ ¬ (True)) ∨ (u = some 2 ∧ (True) ∧ ¬ (¬ 12 ≤ nI (ly j))) ∨ (u = some 3 ∧ (True) ∧ (¬ 12 ≤ nI (ly j)) ∧ ¬ (¬ p2 < 1 ∧ p2 ≤ 1000000 ∧ ¬ p3 < 0 ∧ p3 ≤ 1000000))) (zq D (va_A [(m0, .inr (6, [.int th, .int (nI M.1), .ref m1, .ref m2, .int (nI bt), .ref m3, .int (nI ln), .ref m4, .ref m5, .int (nI cl), .ref m6, .ref m7, .ref m8, .ref m9, .ref m10, .ref m11, .ref m12, .int (nI pn), .ref m13, .ref m14])), (m7, .inl (D.2 0, 4, .inl (fun i => nI (ly i)))), (m8, .inl (D.2 0, 48, .inl lp)), (m9, .inl (D.2 0, 48, .inl lq))] sz) (fun (u : Option Int32) => (u.elim [(m0, .inr (6, [.int 0, .int (nI M.1), .ref m1, .ref m2, .int (nI bt), .ref m3, .int (nI ln), .ref m4, .ref m5, .int (nI cl), .ref m6, .ref m7, .ref m8, .ref m9, .ref m10, .ref m11, .ref m12, .int (nI pn), .ref m13, .ref m14])), (m7, .inl (D.2 0, 4, .inl (fun i => nI (va_up ly j (ly j + 1) i)))), (m8, .inl (D.2 0, 48, .inl (upd lp (12 * j + ly j) p2))), (m9, .inl (D.2 0, 48, .inl (upd lq (12 * j + ly j) p3)))] (fun t => [(m0, .inr (6, [.int t, .int (nI M.1), .ref m1, .ref m2, .int (nI bt), .ref m3, .int (nI ln), .ref m4, .ref m5, .int (nI cl), .ref m6, .ref m7, .ref m8, .ref m9, .ref m10, .ref m11, .ref m12, .int (nI pn), .ref m13, .ref m14])), (m7, .inl (D.2 0, 4, .inl (fun i => nI (ly i)))), (m8, .inl (D.2 0, 48, .inl lp)), (m9, .inl (D.2 0, 48, .inl lq))]) : va_W))) (va_A [(m0, .inr (6, [.int th, .int (nI M.1), .ref m1, .ref m2, .int (nI bt), .ref m3, .int (nI ln), .ref m4, .ref m5, .int (nI cl), .ref m6, .ref m7, .ref m8, .ref m9, .ref m10, .ref m11, .ref m12, .int (nI pn), .ref m13, .ref m14])), (m7, .inl (D.2 0, 4, .inl (fun i => nI (ly i)))), (m8, .inl (D.2 0, 48, .inl lp)), (m9, .inl (D.2 0, 48, .inl lq))] sz)) 0 0 (va_A [(m0, .inr (6, [.int th, .int (nI M.1), .ref m1, .ref m2, .int (nI bt), .ref m3, .int (nI ln), .ref m4, .ref m5, .int (nI cl), .ref m6, .ref m7, .ref m8, .ref m9, .ref m10, .ref m11, .ref m12, .int (nI pn), .ref m13, .ref m14])), (m7, .inl (D.2 0, 4, .inl (fun i => nI (ly i)))), (m8, .inl (D.2 0, 48, .inl lp)), (m9, .inl (D.2 0, 48, .inl lq))] sz) := by
  refine Met.ofW (cc := cX6_stock) (maxL := 6) (ret := (some .int)) (by decide) rfl ?_
  intro p e s m args below meth c s₁ B hml hv
  obtain ⟨rfl, hsz, hP, hK, hD0, hB⟩ := hv
  have hx := B.exec
  have hb := B.bytes
  have hr := B.returns
  have hts := atoms_spec (ws := wsX6_stock) B.pre
  have hown : s.vm.findClass "ShopLedgerModel" = some m.cls := findClass_of_methodNamed B.named
  have hlocks := B.notSynchronized
  subst hsz
  have hD := hD0.self (sz := s.heap.size)
  generalize hAe : va_A [(m0, .inr (6, [.int th, .int (nI M.1), .ref m1, .ref m2, .int (nI bt), .ref m3, .int (nI ln), .ref m4, .ref m5, .int (nI cl), .ref m6, .ref m7, .ref m8, .ref m9, .ref m10, .ref m11, .ref m12, .int (nI pn), .ref m13, .ref m14])), (m7, .inl (D.2 0, 4, .inl (fun i => nI (ly i)))), (m8, .inl (D.2 0, 48, .inl lp)), (m9, .inl (D.2 0, 48, .inl lq))] s.heap.size = A at hD hB ⊢
  have hA : ∀ q : Nat, s.heap.size ≤ q → A q := fun q h => by rw [← hAe]; exact Or.inr h
  have hS : va_S A s.heap s.heap [] := va_S.rf
  have hZ : ∀ w ∈ zALL, w.before _ s = true := fun w h => hts w (List.mem_cons_of_mem _ h)
  have hF : CallFix p m c cX6_stock 6 s _ zALL "ShopLedgerModel" := ⟨hx, hb, hml, hown, hZ⟩
  have hl := lv_entry ([.ref m0, .int (nI j), .int p2, .int p3]) (n := 6) (Nat.le_of_ble_eq_true rfl)
  rw [lg_entry_eq]
  generalize (lg_sl ([.ref m0, .int (nI j), .int p2, .int p3]) ++ List.replicate (6 - (lg_sl ([.ref m0, .int (nI j), .int p2, .int p3])).length) Slot.unset).toArray = ls at hl ⊢
  have hl : lv_has ls 6 [(0, .ref m0), (1, .int (nI j)), (2, .int p2), (3, .int p3)] := hl
  refine lv_iload_n hx hb dX6_stock_0 rfl (lv_at hl 1 rfl) ?_
  refine lv_i2l (v := (nI j).toInt64) hx hb dX6_stock_1 rfl ?_
  refine lv_lconst (v := 0) hx hb dX6_stock_2 (by decide) ?_
  refine lv_ldc2 (v := 3) hx hb hown (hZ _ t_314) dX6_stock_3 ?_
  have J := zJ.mk (wc := []) (wr := [(m0, .inr (6, [.int th, .int (nI M.1), .ref m1, .ref m2, .int (nI bt), .ref m3, .int (nI ln), .ref m4, .ref m5, .int (nI cl), .ref m6, .ref m7, .ref m8, .ref m9, .ref m10, .ref m11, .ref m12, .int (nI pn), .ref m13, .ref m14])), (m7, .inl (D.2 0, 4, .inl (fun i => nI (ly i)))), (m8, .inl (D.2 0, 48, .inl lp)), (m9, .inl (D.2 0, 48, .inl lq))]) hA hB hK hP hD hS [] [0, 1, 2, 3] rfl rfl (by decide)
  refine z_goi (z_runS (As := [.long ((nI j).toInt64), .long 0, .long 3]) (rest := []) hF (d_lies D (nI j).toInt64 0 3 s.heap.size) (va_cwS 3 hZ (z_gS t_273 t_274 t_272 t_271) rfl rfl rfl (by decide +kernel) ⟨Nat.le_of_ble_eq_true rfl, Nat.le_of_ble_eq_true rfl⟩) J rfl hl.1 (Nat.le_of_ble_eq_true rfl) dX6_stock_6 ⟨Nat.le_of_ble_eq_true rfl, Nat.le_of_ble_eq_true rfl⟩) J (fun r1 _ H locs w1 hP hD hS => ?_)
  have hP : va_P D.1 vwCl [(m0, .inr (6, [.int th, .int (nI M.1), .ref m1, .ref m2, .int (nI bt), .ref m3, .int (nI ln), .ref m4, .ref m5, .int (nI cl), .ref m6, .ref m7, .ref m8, .ref m9, .ref m10, .ref m11, .ref m12, .int (nI pn), .ref m13, .ref m14])), (m7, .inl (D.2 0, 4, .inl (fun i => nI (ly i)))), (m8, .inl (D.2 0, 48, .inl lp)), (m9, .inl (D.2 0, 48, .inl lq))] H := hP
  have hD : va_D A [(m0, .inr (6, [.int th, .int (nI M.1), .ref m1, .ref m2, .int (nI bt), .ref m3, .int (nI ln), .ref m4, .ref m5, .int (nI cl), .ref m6, .ref m7, .ref m8, .ref m9, .ref m10, .ref m11, .ref m12, .int (nI pn), .ref m13, .ref m14])), (m7, .inl (D.2 0, 4, .inl (fun i => nI (ly i)))), (m8, .inl (D.2 0, 48, .inl lp)), (m9, .inl (D.2 0, 48, .inl lq))] := hD
  have f1 : (r1 = 1 ∧ zin (nI j) 4) ∨ (r1 = 0 ∧ ¬ zin (nI j) 4) := z_lz 3 (by decide) (by decide) w1
  refine lv_if_ne (tgt := 16) hx hb dX6_stock_9 (by decide) (fun c1 => ?_) (fun c1 => ?_)
  · skip
    refine lv_iconst (v := 0) hx hb dX6_stock_16 (by decide) ?_
    refine lv_istore (lv' := [(4, .int 0), (0, .ref m0), (1, .int (nI j)), (2, .int p2), (3, .int p3)]) hx hb dX6_stock_17 hl (by decide) rfl (fun ls hl => ?_)
    refine lv_iload_n hx hb dX6_stock_19 rfl (lv_at hl 3 rfl) ?_
    refine lv_i2l (v := p2.toInt64) hx hb dX6_stock_20 rfl ?_
    refine lv_lconst (v := 1) hx hb dX6_stock_21 (by decide) ?_
    refine lv_ldc2 (v := 1000000) hx hb hown (hZ _ t_296) dX6_stock_22 ?_
    have J := zJ.mk (wc := []) (wr := [(m0, .inr (6, [.int th, .int (nI M.1), .ref m1, .ref m2, .int (nI bt), .ref m3, .int (nI ln), .ref m4, .ref m5, .int (nI cl), .ref m6, .ref m7, .ref m8, .ref m9, .ref m10, .ref m11, .ref m12, .int (nI pn), .ref m13, .ref m14])), (m7, .inl (D.2 0, 4, .inl (fun i => nI (ly i)))), (m8, .inl (D.2 0, 48, .inl lp)), (m9, .inl (D.2 0, 48, .inl lq))]) hA hB hK hP hD hS [] [0, 1, 2, 3] rfl rfl (by decide)
    refine z_goi (z_runS (As := [.long p2.toInt64, .long 1, .long 1000000]) (rest := []) hF (d_lies D p2.toInt64 1 1000000 H.size) (va_cwS 3 hZ (z_gS t_273 t_274 t_272 t_271) rfl rfl rfl (by decide +kernel) ⟨Nat.le_of_ble_eq_true rfl, Nat.le_of_ble_eq_true rfl⟩) J rfl hl.1 (Nat.le_of_ble_eq_true rfl) dX6_stock_25 ⟨Nat.le_of_ble_eq_true rfl, Nat.le_of_ble_eq_true rfl⟩) J (fun r2 _ H locs w2 hP hD hS => ?_)
    have hP : va_P D.1 vwCl [(m0, .inr (6, [.int th, .int (nI M.1), .ref m1, .ref m2, .int (nI bt), .ref m3, .int (nI ln), .ref m4, .ref m5, .int (nI cl), .ref m6, .ref m7, .ref m8, .ref m9, .ref m10, .ref m11, .ref m12, .int (nI pn), .ref m13, .ref m14])), (m7, .inl (D.2 0, 4, .inl (fun i => nI (ly i)))), (m8, .inl (D.2 0, 48, .inl lp)), (m9, .inl (D.2 0, 48, .inl lq))] H := hP
    have hD : va_D A [(m0, .inr (6, [.int th, .int (nI M.1), .ref m1, .ref m2, .int (nI bt), .ref m3, .int (nI ln), .ref m4, .ref m5, .int (nI cl), .ref m6, .ref m7, .ref m8, .ref m9, .ref m10, .ref m11, .ref m12, .int (nI pn), .ref m13, .ref m14])), (m7, .inl (D.2 0, 4, .inl (fun i => nI (ly i)))), (m8, .inl (D.2 0, 48, .inl lp)), (m9, .inl (D.2 0, 48, .inl lq))] := hD
    have f2 : (r2 = 1 ∧ ¬ p2 < 1 ∧ p2 ≤ 1000000) ∨ (r2 = 0 ∧ ¬ (¬ p2 < 1 ∧ p2 ≤ 1000000)) := z_li (a := 1) (b := 1000000) (by decide) (by decide) w2
    refine lv_if_eq (tgt := 43) hx hb dX6_stock_28 (by decide) (fun c2 => ?_) (fun c2 => ?_)
    · skip
      have g2 := z_b0 f2 c2
      have rg : ¬ (¬ p2 < 1 ∧ p2 ≤ 1000000 ∧ ¬ p3 < 0 ∧ p3 ≤ 1000000) := fun h => g2 ⟨h.1, h.2.1⟩
      refine lv_iconst (v := 1) hx hb dX6_stock_43 (by decide) ?_
      refine lv_goto (tgt := 48) hx hb dX6_stock_44 (by decide) ?_
      refine lv_istore (lv' := [(5, .int 1), (4, .int 0), (0, .ref m0), (1, .int (nI j)), (2, .int p2), (3, .int p3)]) hx hb dX6_stock_48 hl (by decide) rfl (fun ls hl => ?_)
      refine lv_aload_n hx hb dX6_stock_50 rfl (lv_at hl 2 rfl) ?_
      refine lv_iload hx hb dX6_stock_51 (lv_at hl 1 rfl) ?_
      refine lv_iload hx hb dX6_stock_53 (lv_at hl 1 rfl) ?_
      refine lv_if_ne (tgt := 82) hx hb dX6_stock_55 (by decide) (fun c4 => ?_) (fun c4 => ?_)
      · skip
        exfalso; exact absurd c4 (by decide)
      refine lv_aload_n hx hb dX6_stock_58 rfl (lv_at hl 2 rfl) ?_
      refine va_get (D := D.1) (ci := 6) (v := .ref m7) (C := "ShopLedgerModel") (T := TX6) (N := 20) hx hb hZ inX6 hown hK hP 0 rfl rfl 11 (by decide) (hZ _ t_312) (fun _ h9 => h9) rfl dX6_stock_59 ?_
      refine lv_iload hx hb dX6_stock_62 (lv_at hl 1 rfl) ?_
      refine lv_if_eq (tgt := 71) hx hb dX6_stock_64 (by decide) (fun c5 => ?_) (fun c5 => ?_)
      · skip
        refine lv_iload_n hx hb dX6_stock_71 rfl (lv_at hl 3 rfl) ?_
        refine z_iald (k := j) hx hb hK hP 1 rfl (hj) (by decide) dX6_stock_72 ?_
        refine lv_bipush (v := 12) hx hb dX6_stock_73 (by decide) ?_
        refine lv_icmp_ne (tgt := 82) hx hb dX6_stock_75 (by decide) (fun c6 => ?_) (fun c6 => ?_)
        · skip
          have tu : ¬ 12 ≤ nI (ly j) := fun h => c6 (z_full (t := 12) hy (by decide) h)
          refine lv_iconst (v := 0) hx hb dX6_stock_82 (by decide) ?_
          refine lv_iload hx hb dX6_stock_83 (lv_at hl 0 rfl) ?_
          refine lv_iconst (v := 0) hx hb dX6_stock_85 (by decide) ?_
          have J := zJ.mk (wc := [(m0, .inr (6, [.int th, .int (nI M.1), .ref m1, .ref m2, .int (nI bt), .ref m3, .int (nI ln), .ref m4, .ref m5, .int (nI cl), .ref m6, .ref m7, .ref m8, .ref m9, .ref m10, .ref m11, .ref m12, .int (nI pn), .ref m13, .ref m14]))]) (wr := [(m7, .inl (D.2 0, 4, .inl (fun i => nI (ly i)))), (m8, .inl (D.2 0, 48, .inl lp)), (m9, .inl (D.2 0, 48, .inl lq))]) hA hB hK hP hD hS [0] [1, 2, 3] rfl rfl (by decide)
          refine z_goi (z_runV (As := [.int 0, .int 0, .int 1, .int 0]) (rest := []) (b := m0) hF (d_throwing D m0 m1 m2 m3 m4 m5 m6 m7 m8 m9 m10 m11 m12 m13 m14 (M.1, fun _ => 0, fun _ => 0) bt ln cl pn th 0 0 1 0 H.size) (cwV 4 hZ (z_gV t_286 t_287 t_288 t_272 t_285) rfl rfl rfl (by decide +kernel) ⟨Nat.le_of_ble_eq_true rfl, Nat.le_of_ble_eq_true rfl⟩) J 0 6 rfl rfl rfl rfl hl.1 (Nat.le_of_ble_eq_true rfl) dX6_stock_86 ⟨Nat.le_of_ble_eq_true rfl, Nat.le_of_ble_eq_true rfl⟩) J (fun r4 _ H locs w4 hP hD hS => ?_)
          have hP : va_P D.1 vwCl [(m7, .inl (D.2 0, 4, .inl (fun i => nI (ly i)))), (m8, .inl (D.2 0, 48, .inl lp)), (m9, .inl (D.2 0, 48, .inl lq)), (m0, .inr (6, [.int 3, .int (nI M.1), .ref m1, .ref m2, .int (nI bt), .ref m3, .int (nI ln), .ref m4, .ref m5, .int (nI cl), .ref m6, .ref m7, .ref m8, .ref m9, .ref m10, .ref m11, .ref m12, .int (nI pn), .ref m13, .ref m14]))] H := hP
          have hD : va_D A [(m7, .inl (D.2 0, 4, .inl (fun i => nI (ly i)))), (m8, .inl (D.2 0, 48, .inl lp)), (m9, .inl (D.2 0, 48, .inl lq)), (m0, .inr (6, [.int 3, .int (nI M.1), .ref m1, .ref m2, .int (nI bt), .ref m3, .int (nI ln), .ref m4, .ref m5, .int (nI cl), .ref m6, .ref m7, .ref m8, .ref m9, .ref m10, .ref m11, .ref m12, .int (nI pn), .ref m13, .ref m14]))] := hD
          have w4 : r4 = 1 := w4
          subst w4
          refine lv_if_eq (tgt := 94) hx hb dX6_stock_89 (by decide) (fun c7 => ?_) (fun c7 => ?_)
          · skip
            exfalso; exact absurd c7 (by decide)
          refine lv_iconst (v := 0) hx hb dX6_stock_92 (by decide) ?_
          exact z_iret (v := 0) hx hb hr hlocks hP hD hS (some 3) (Or.inr (Or.inr (Or.inr (⟨rfl, trivial, tu, rg⟩)))) [3, 0, 1, 2] rfl (by decide) (Nat.le_of_ble_eq_true rfl) (Nat.le_of_ble_eq_true rfl) dX6_stock_93
        have tu : ¬ (¬ 12 ≤ nI (ly j)) := fun h => h (by rw [c6]; decide)
        refine lv_iconst (v := 1) hx hb dX6_stock_78 (by decide) ?_
        refine lv_goto (tgt := 83) hx hb dX6_stock_79 (by decide) ?_
        refine lv_iload hx hb dX6_stock_83 (lv_at hl 0 rfl) ?_
        refine lv_iconst (v := 0) hx hb dX6_stock_85 (by decide) ?_
        have J := zJ.mk (wc := [(m0, .inr (6, [.int th, .int (nI M.1), .ref m1, .ref m2, .int (nI bt), .ref m3, .int (nI ln), .ref m4, .ref m5, .int (nI cl), .ref m6, .ref m7, .ref m8, .ref m9, .ref m10, .ref m11, .ref m12, .int (nI pn), .ref m13, .ref m14]))]) (wr := [(m7, .inl (D.2 0, 4, .inl (fun i => nI (ly i)))), (m8, .inl (D.2 0, 48, .inl lp)), (m9, .inl (D.2 0, 48, .inl lq))]) hA hB hK hP hD hS [0] [1, 2, 3] rfl rfl (by decide)
        refine z_goi (z_runV (As := [.int 0, .int 1, .int 1, .int 0]) (rest := []) (b := m0) hF (d_throwing D m0 m1 m2 m3 m4 m5 m6 m7 m8 m9 m10 m11 m12 m13 m14 (M.1, fun _ => 0, fun _ => 0) bt ln cl pn th 0 1 1 0 H.size) (cwV 4 hZ (z_gV t_286 t_287 t_288 t_272 t_285) rfl rfl rfl (by decide +kernel) ⟨Nat.le_of_ble_eq_true rfl, Nat.le_of_ble_eq_true rfl⟩) J 0 6 rfl rfl rfl rfl hl.1 (Nat.le_of_ble_eq_true rfl) dX6_stock_86 ⟨Nat.le_of_ble_eq_true rfl, Nat.le_of_ble_eq_true rfl⟩) J (fun r4 _ H locs w4 hP hD hS => ?_)
        have hP : va_P D.1 vwCl [(m7, .inl (D.2 0, 4, .inl (fun i => nI (ly i)))), (m8, .inl (D.2 0, 48, .inl lp)), (m9, .inl (D.2 0, 48, .inl lq)), (m0, .inr (6, [.int 2, .int (nI M.1), .ref m1, .ref m2, .int (nI bt), .ref m3, .int (nI ln), .ref m4, .ref m5, .int (nI cl), .ref m6, .ref m7, .ref m8, .ref m9, .ref m10, .ref m11, .ref m12, .int (nI pn), .ref m13, .ref m14]))] H := hP
        have hD : va_D A [(m7, .inl (D.2 0, 4, .inl (fun i => nI (ly i)))), (m8, .inl (D.2 0, 48, .inl lp)), (m9, .inl (D.2 0, 48, .inl lq)), (m0, .inr (6, [.int 2, .int (nI M.1), .ref m1, .ref m2, .int (nI bt), .ref m3, .int (nI ln), .ref m4, .ref m5, .int (nI cl), .ref m6, .ref m7, .ref m8, .ref m9, .ref m10, .ref m11, .ref m12, .int (nI pn), .ref m13, .ref m14]))] := hD
        have w4 : r4 = 1 := w4
        subst w4
        refine lv_if_eq (tgt := 94) hx hb dX6_stock_89 (by decide) (fun c7 => ?_) (fun c7 => ?_)
        · skip
          exfalso; exact absurd c7 (by decide)
        refine lv_iconst (v := 0) hx hb dX6_stock_92 (by decide) ?_
        exact z_iret (v := 0) hx hb hr hlocks hP hD hS (some 2) (Or.inr (Or.inr (Or.inl ⟨rfl, trivial, tu⟩))) [3, 0, 1, 2] rfl (by decide) (Nat.le_of_ble_eq_true rfl) (Nat.le_of_ble_eq_true rfl) dX6_stock_93
      exfalso; exact absurd c5 (by decide)
    have g2 := z_b1 f2 c2
    refine lv_iload_n hx hb dX6_stock_31 rfl (lv_at hl 4 rfl) ?_
    refine lv_i2l (v := p3.toInt64) hx hb dX6_stock_32 rfl ?_
    refine lv_lconst (v := 0) hx hb dX6_stock_33 (by decide) ?_
    refine lv_ldc2 (v := 1000000) hx hb hown (hZ _ t_296) dX6_stock_34 ?_
    have J := zJ.mk (wc := []) (wr := [(m0, .inr (6, [.int th, .int (nI M.1), .ref m1, .ref m2, .int (nI bt), .ref m3, .int (nI ln), .ref m4, .ref m5, .int (nI cl), .ref m6, .ref m7, .ref m8, .ref m9, .ref m10, .ref m11, .ref m12, .int (nI pn), .ref m13, .ref m14])), (m7, .inl (D.2 0, 4, .inl (fun i => nI (ly i)))), (m8, .inl (D.2 0, 48, .inl lp)), (m9, .inl (D.2 0, 48, .inl lq))]) hA hB hK hP hD hS [] [0, 1, 2, 3] rfl rfl (by decide)
    refine z_goi (z_runS (As := [.long p3.toInt64, .long 0, .long 1000000]) (rest := []) hF (d_lies D p3.toInt64 0 1000000 H.size) (va_cwS 3 hZ (z_gS t_273 t_274 t_272 t_271) rfl rfl rfl (by decide +kernel) ⟨Nat.le_of_ble_eq_true rfl, Nat.le_of_ble_eq_true rfl⟩) J rfl hl.1 (Nat.le_of_ble_eq_true rfl) dX6_stock_37 ⟨Nat.le_of_ble_eq_true rfl, Nat.le_of_ble_eq_true rfl⟩) J (fun r3 _ H locs w3 hP hD hS => ?_)
    have hP : va_P D.1 vwCl [(m0, .inr (6, [.int th, .int (nI M.1), .ref m1, .ref m2, .int (nI bt), .ref m3, .int (nI ln), .ref m4, .ref m5, .int (nI cl), .ref m6, .ref m7, .ref m8, .ref m9, .ref m10, .ref m11, .ref m12, .int (nI pn), .ref m13, .ref m14])), (m7, .inl (D.2 0, 4, .inl (fun i => nI (ly i)))), (m8, .inl (D.2 0, 48, .inl lp)), (m9, .inl (D.2 0, 48, .inl lq))] H := hP
    have hD : va_D A [(m0, .inr (6, [.int th, .int (nI M.1), .ref m1, .ref m2, .int (nI bt), .ref m3, .int (nI ln), .ref m4, .ref m5, .int (nI cl), .ref m6, .ref m7, .ref m8, .ref m9, .ref m10, .ref m11, .ref m12, .int (nI pn), .ref m13, .ref m14])), (m7, .inl (D.2 0, 4, .inl (fun i => nI (ly i)))), (m8, .inl (D.2 0, 48, .inl lp)), (m9, .inl (D.2 0, 48, .inl lq))] := hD
    have f3 : (r3 = 1 ∧ ¬ p3 < 0 ∧ p3 ≤ 1000000) ∨ (r3 = 0 ∧ ¬ (¬ p3 < 0 ∧ p3 ≤ 1000000)) := z_li (a := 0) (b := 1000000) (by decide) (by decide) w3
    refine lv_if_ne (tgt := 47) hx hb dX6_stock_40 (by decide) (fun c3 => ?_) (fun c3 => ?_)
    · skip
      have g3 := z_b1 f3 c3
      have rg : ¬ p2 < 1 ∧ p2 ≤ 1000000 ∧ ¬ p3 < 0 ∧ p3 ≤ 1000000 := ⟨g2.1, g2.2, g3.1, g3.2⟩
      refine lv_iconst (v := 0) hx hb dX6_stock_47 (by decide) ?_
      refine lv_istore (lv' := [(5, .int 0), (4, .int 0), (0, .ref m0), (1, .int (nI j)), (2, .int p2), (3, .int p3)]) hx hb dX6_stock_48 hl (by decide) rfl (fun ls hl => ?_)
      refine lv_aload_n hx hb dX6_stock_50 rfl (lv_at hl 2 rfl) ?_
      refine lv_iload hx hb dX6_stock_51 (lv_at hl 1 rfl) ?_
      refine lv_iload hx hb dX6_stock_53 (lv_at hl 1 rfl) ?_
      refine lv_if_ne (tgt := 82) hx hb dX6_stock_55 (by decide) (fun c4 => ?_) (fun c4 => ?_)
      · skip
        exfalso; exact absurd c4 (by decide)
      refine lv_aload_n hx hb dX6_stock_58 rfl (lv_at hl 2 rfl) ?_
      refine va_get (D := D.1) (ci := 6) (v := .ref m7) (C := "ShopLedgerModel") (T := TX6) (N := 20) hx hb hZ inX6 hown hK hP 0 rfl rfl 11 (by decide) (hZ _ t_312) (fun _ h9 => h9) rfl dX6_stock_59 ?_
      refine lv_iload hx hb dX6_stock_62 (lv_at hl 1 rfl) ?_
      refine lv_if_eq (tgt := 71) hx hb dX6_stock_64 (by decide) (fun c5 => ?_) (fun c5 => ?_)
      · skip
        refine lv_iload_n hx hb dX6_stock_71 rfl (lv_at hl 3 rfl) ?_
        refine z_iald (k := j) hx hb hK hP 1 rfl (hj) (by decide) dX6_stock_72 ?_
        refine lv_bipush (v := 12) hx hb dX6_stock_73 (by decide) ?_
        refine lv_icmp_ne (tgt := 82) hx hb dX6_stock_75 (by decide) (fun c6 => ?_) (fun c6 => ?_)
        · skip
          have tu : ¬ 12 ≤ nI (ly j) := fun h => c6 (z_full (t := 12) hy (by decide) h)
          refine lv_iconst (v := 0) hx hb dX6_stock_82 (by decide) ?_
          refine lv_iload hx hb dX6_stock_83 (lv_at hl 0 rfl) ?_
          refine lv_iconst (v := 0) hx hb dX6_stock_85 (by decide) ?_
          have J := zJ.mk (wc := [(m0, .inr (6, [.int th, .int (nI M.1), .ref m1, .ref m2, .int (nI bt), .ref m3, .int (nI ln), .ref m4, .ref m5, .int (nI cl), .ref m6, .ref m7, .ref m8, .ref m9, .ref m10, .ref m11, .ref m12, .int (nI pn), .ref m13, .ref m14]))]) (wr := [(m7, .inl (D.2 0, 4, .inl (fun i => nI (ly i)))), (m8, .inl (D.2 0, 48, .inl lp)), (m9, .inl (D.2 0, 48, .inl lq))]) hA hB hK hP hD hS [0] [1, 2, 3] rfl rfl (by decide)
          refine z_goi (z_runV (As := [.int 0, .int 0, .int 0, .int 0]) (rest := []) (b := m0) hF (d_throwing D m0 m1 m2 m3 m4 m5 m6 m7 m8 m9 m10 m11 m12 m13 m14 (M.1, fun _ => 0, fun _ => 0) bt ln cl pn th 0 0 0 0 H.size) (cwV 4 hZ (z_gV t_286 t_287 t_288 t_272 t_285) rfl rfl rfl (by decide +kernel) ⟨Nat.le_of_ble_eq_true rfl, Nat.le_of_ble_eq_true rfl⟩) J 0 6 rfl rfl rfl rfl hl.1 (Nat.le_of_ble_eq_true rfl) dX6_stock_86 ⟨Nat.le_of_ble_eq_true rfl, Nat.le_of_ble_eq_true rfl⟩) J (fun r4 _ H locs w4 hP hD hS => ?_)
          have hP : va_P D.1 vwCl [(m7, .inl (D.2 0, 4, .inl (fun i => nI (ly i)))), (m8, .inl (D.2 0, 48, .inl lp)), (m9, .inl (D.2 0, 48, .inl lq)), (m0, .inr (6, [.int 0, .int (nI M.1), .ref m1, .ref m2, .int (nI bt), .ref m3, .int (nI ln), .ref m4, .ref m5, .int (nI cl), .ref m6, .ref m7, .ref m8, .ref m9, .ref m10, .ref m11, .ref m12, .int (nI pn), .ref m13, .ref m14]))] H := hP
          have hD : va_D A [(m7, .inl (D.2 0, 4, .inl (fun i => nI (ly i)))), (m8, .inl (D.2 0, 48, .inl lp)), (m9, .inl (D.2 0, 48, .inl lq)), (m0, .inr (6, [.int 0, .int (nI M.1), .ref m1, .ref m2, .int (nI bt), .ref m3, .int (nI ln), .ref m4, .ref m5, .int (nI cl), .ref m6, .ref m7, .ref m8, .ref m9, .ref m10, .ref m11, .ref m12, .int (nI pn), .ref m13, .ref m14]))] := hD
          have w4 : r4 = 0 := w4
          subst w4
          refine lv_if_eq (tgt := 94) hx hb dX6_stock_89 (by decide) (fun c7 => ?_) (fun c7 => ?_)
          · skip
            have hk : ly j < 12 := z_lt (t := 12) hy (by decide) tu
            refine lv_aload_n hx hb dX6_stock_94 rfl (lv_at hl 2 rfl) ?_
            refine va_get (D := D.1) (ci := 6) (v := .ref m8) (C := "ShopLedgerModel") (T := TX6) (N := 20) hx hb hZ inX6 hown hK hP 3 rfl rfl 12 (by decide) (hZ _ t_313) (fun _ h9 => h9) rfl dX6_stock_95 ?_
            refine lv_bipush (v := 12) hx hb dX6_stock_98 (by decide) ?_
            refine lv_iload_n hx hb dX6_stock_100 rfl (lv_at hl 3 rfl) ?_
            refine lv_imul hx hb dX6_stock_101 ?_
            rw [show (12 * (nI j)) = nI (12 * j) from pk_mul 12 j]
            refine lv_aload_n hx hb dX6_stock_102 rfl (lv_at hl 2 rfl) ?_
            refine va_get (D := D.1) (ci := 6) (v := .ref m7) (C := "ShopLedgerModel") (T := TX6) (N := 20) hx hb hZ inX6 hown hK hP 3 rfl rfl 11 (by decide) (hZ _ t_312) (fun _ h9 => h9) rfl dX6_stock_103 ?_
            refine lv_iload_n hx hb dX6_stock_106 rfl (lv_at hl 3 rfl) ?_
            refine z_iald (k := j) hx hb hK hP 0 rfl (hj) (by decide) dX6_stock_107 ?_
            refine lv_iadd hx hb dX6_stock_108 ?_
            rw [show ((nI (12 * j)) + (nI (ly j))) = nI (12 * j + ly j) from nI_add _ _]
            refine lv_iload_n hx hb dX6_stock_109 rfl (lv_at hl 4 rfl) ?_
            refine z_iast (k := 12 * j + ly j) hx hb hK hP hD hS 1 rfl (by omega) (by decide) dX6_stock_110 (fun H locs hP hD hS => ?_)
            have hP : va_P D.1 vwCl [(m7, .inl (D.2 0, 4, .inl (fun i => nI (ly i)))), (m8, .inl (D.2 0, 48, .inl (upd lp (12 * j + ly j) p2))), (m9, .inl (D.2 0, 48, .inl lq)), (m0, .inr (6, [.int 0, .int (nI M.1), .ref m1, .ref m2, .int (nI bt), .ref m3, .int (nI ln), .ref m4, .ref m5, .int (nI cl), .ref m6, .ref m7, .ref m8, .ref m9, .ref m10, .ref m11, .ref m12, .int (nI pn), .ref m13, .ref m14]))] H := hP
            have hD : va_D A [(m7, .inl (D.2 0, 4, .inl (fun i => nI (ly i)))), (m8, .inl (D.2 0, 48, .inl (upd lp (12 * j + ly j) p2))), (m9, .inl (D.2 0, 48, .inl lq)), (m0, .inr (6, [.int 0, .int (nI M.1), .ref m1, .ref m2, .int (nI bt), .ref m3, .int (nI ln), .ref m4, .ref m5, .int (nI cl), .ref m6, .ref m7, .ref m8, .ref m9, .ref m10, .ref m11, .ref m12, .int (nI pn), .ref m13, .ref m14]))] := hD
            refine lv_aload_n hx hb dX6_stock_111 rfl (lv_at hl 2 rfl) ?_
            refine va_get (D := D.1) (ci := 6) (v := .ref m9) (C := "ShopLedgerModel") (T := TX6) (N := 20) hx hb hZ inX6 hown hK hP 3 rfl rfl 13 (by decide) (hZ _ t_315) (fun _ h9 => h9) rfl dX6_stock_112 ?_
            refine lv_bipush (v := 12) hx hb dX6_stock_115 (by decide) ?_
            refine lv_iload_n hx hb dX6_stock_117 rfl (lv_at hl 3 rfl) ?_
            refine lv_imul hx hb dX6_stock_118 ?_
            rw [show (12 * (nI j)) = nI (12 * j) from pk_mul 12 j]
            refine lv_aload_n hx hb dX6_stock_119 rfl (lv_at hl 2 rfl) ?_
            refine va_get (D := D.1) (ci := 6) (v := .ref m7) (C := "ShopLedgerModel") (T := TX6) (N := 20) hx hb hZ inX6 hown hK hP 3 rfl rfl 11 (by decide) (hZ _ t_312) (fun _ h9 => h9) rfl dX6_stock_120 ?_
            refine lv_iload_n hx hb dX6_stock_123 rfl (lv_at hl 3 rfl) ?_
            refine z_iald (k := j) hx hb hK hP 0 rfl (hj) (by decide) dX6_stock_124 ?_
            refine lv_iadd hx hb dX6_stock_125 ?_
            rw [show ((nI (12 * j)) + (nI (ly j))) = nI (12 * j + ly j) from nI_add _ _]
            refine lv_iload_n hx hb dX6_stock_126 rfl (lv_at hl 5 rfl) ?_
            refine z_iast (k := 12 * j + ly j) hx hb hK hP hD hS 2 rfl (by omega) (by decide) dX6_stock_127 (fun H locs hP hD hS => ?_)
            have hP : va_P D.1 vwCl [(m7, .inl (D.2 0, 4, .inl (fun i => nI (ly i)))), (m8, .inl (D.2 0, 48, .inl (upd lp (12 * j + ly j) p2))), (m9, .inl (D.2 0, 48, .inl (upd lq (12 * j + ly j) p3))), (m0, .inr (6, [.int 0, .int (nI M.1), .ref m1, .ref m2, .int (nI bt), .ref m3, .int (nI ln), .ref m4, .ref m5, .int (nI cl), .ref m6, .ref m7, .ref m8, .ref m9, .ref m10, .ref m11, .ref m12, .int (nI pn), .ref m13, .ref m14]))] H := hP
            have hD : va_D A [(m7, .inl (D.2 0, 4, .inl (fun i => nI (ly i)))), (m8, .inl (D.2 0, 48, .inl (upd lp (12 * j + ly j) p2))), (m9, .inl (D.2 0, 48, .inl (upd lq (12 * j + ly j) p3))), (m0, .inr (6, [.int 0, .int (nI M.1), .ref m1, .ref m2, .int (nI bt), .ref m3, .int (nI ln), .ref m4, .ref m5, .int (nI cl), .ref m6, .ref m7, .ref m8, .ref m9, .ref m10, .ref m11, .ref m12, .int (nI pn), .ref m13, .ref m14]))] := hD
            refine lv_aload_n hx hb dX6_stock_128 rfl (lv_at hl 2 rfl) ?_
            refine va_get (D := D.1) (ci := 6) (v := .ref m7) (C := "ShopLedgerModel") (T := TX6) (N := 20) hx hb hZ inX6 hown hK hP 3 rfl rfl 11 (by decide) (hZ _ t_312) (fun _ h9 => h9) rfl dX6_stock_129 ?_
            refine lv_iload_n hx hb dX6_stock_132 rfl (lv_at hl 3 rfl) ?_
            refine lv_dup2_11 hx hb dX6_stock_133 rfl rfl ?_
            refine z_iald (k := j) hx hb hK hP 0 rfl (hj) (by decide) dX6_stock_134 ?_
            refine lv_iconst (v := 1) hx hb dX6_stock_135 (by decide) ?_
            refine lv_iadd hx hb dX6_stock_136 ?_
            rw [show ((nI (ly j)) + 1) = nI (ly j + 1) from nI_1 _]
            refine z_iast (k := j) hx hb hK hP hD hS 0 rfl (hj) (by decide) dX6_stock_137 (fun H locs hP hD hS => ?_)
            have hP : va_P D.1 vwCl [(m7, .inl (D.2 0, 4, .inl (upd (fun i => nI (ly i)) j (nI (ly j + 1))))), (m8, .inl (D.2 0, 48, .inl (upd lp (12 * j + ly j) p2))), (m9, .inl (D.2 0, 48, .inl (upd lq (12 * j + ly j) p3))), (m0, .inr (6, [.int 0, .int (nI M.1), .ref m1, .ref m2, .int (nI bt), .ref m3, .int (nI ln), .ref m4, .ref m5, .int (nI cl), .ref m6, .ref m7, .ref m8, .ref m9, .ref m10, .ref m11, .ref m12, .int (nI pn), .ref m13, .ref m14]))] H := hP
            have hD : va_D A [(m7, .inl (D.2 0, 4, .inl (upd (fun i => nI (ly i)) j (nI (ly j + 1))))), (m8, .inl (D.2 0, 48, .inl (upd lp (12 * j + ly j) p2))), (m9, .inl (D.2 0, 48, .inl (upd lq (12 * j + ly j) p3))), (m0, .inr (6, [.int 0, .int (nI M.1), .ref m1, .ref m2, .int (nI bt), .ref m3, .int (nI ln), .ref m4, .ref m5, .int (nI cl), .ref m6, .ref m7, .ref m8, .ref m9, .ref m10, .ref m11, .ref m12, .int (nI pn), .ref m13, .ref m14]))] := hD
            rw [z_updN] at hP hD
            have hP : va_P D.1 vwCl [(m7, .inl (D.2 0, 4, .inl (fun i => nI (va_up ly j (ly j + 1) i)))), (m8, .inl (D.2 0, 48, .inl (upd lp (12 * j + ly j) p2))), (m9, .inl (D.2 0, 48, .inl (upd lq (12 * j + ly j) p3))), (m0, .inr (6, [.int 0, .int (nI M.1), .ref m1, .ref m2, .int (nI bt), .ref m3, .int (nI ln), .ref m4, .ref m5, .int (nI cl), .ref m6, .ref m7, .ref m8, .ref m9, .ref m10, .ref m11, .ref m12, .int (nI pn), .ref m13, .ref m14]))] H := hP
            have hD : va_D A [(m7, .inl (D.2 0, 4, .inl (fun i => nI (va_up ly j (ly j + 1) i)))), (m8, .inl (D.2 0, 48, .inl (upd lp (12 * j + ly j) p2))), (m9, .inl (D.2 0, 48, .inl (upd lq (12 * j + ly j) p3))), (m0, .inr (6, [.int 0, .int (nI M.1), .ref m1, .ref m2, .int (nI bt), .ref m3, .int (nI ln), .ref m4, .ref m5, .int (nI cl), .ref m6, .ref m7, .ref m8, .ref m9, .ref m10, .ref m11, .ref m12, .int (nI pn), .ref m13, .ref m14]))] := hD
            refine lv_aload_n hx hb dX6_stock_138 rfl (lv_at hl 2 rfl) ?_
            refine va_get (D := D.1) (ci := 6) (v := .ref m7) (C := "ShopLedgerModel") (T := TX6) (N := 20) hx hb hZ inX6 hown hK hP 3 rfl rfl 11 (by decide) (hZ _ t_312) (fun _ h9 => h9) rfl dX6_stock_139 ?_
            refine lv_iload_n hx hb dX6_stock_142 rfl (lv_at hl 3 rfl) ?_
            refine z_iald (k := j) hx hb hK hP 0 rfl (hj) (by decide) dX6_stock_143 ?_
            rw [show (nI (va_up ly j (ly j + 1) j)) = nI (ly j + 1) from congrArg nI (va_up_self _ _ _)]
            exact z_iret (v := nI (ly j + 1)) hx hb hr hlocks hP hD hS none (Or.inl ⟨rfl, trivial, tu, rg, rfl⟩) [3, 0, 1, 2] rfl (by decide) (Nat.le_of_ble_eq_true rfl) (Nat.le_of_ble_eq_true rfl) dX6_stock_144
          exfalso; exact absurd c7 (by decide)
        have tu : ¬ (¬ 12 ≤ nI (ly j)) := fun h => h (by rw [c6]; decide)
        refine lv_iconst (v := 1) hx hb dX6_stock_78 (by decide) ?_
        refine lv_goto (tgt := 83) hx hb dX6_stock_79 (by decide) ?_
        refine lv_iload hx hb dX6_stock_83 (lv_at hl 0 rfl) ?_
        refine lv_iconst (v := 0) hx hb dX6_stock_85 (by decide) ?_
        have J := zJ.mk (wc := [(m0, .inr (6, [.int th, .int (nI M.1), .ref m1, .ref m2, .int (nI bt), .ref m3, .int (nI ln), .ref m4, .ref m5, .int (nI cl), .ref m6, .ref m7, .ref m8, .ref m9, .ref m10, .ref m11, .ref m12, .int (nI pn), .ref m13, .ref m14]))]) (wr := [(m7, .inl (D.2 0, 4, .inl (fun i => nI (ly i)))), (m8, .inl (D.2 0, 48, .inl lp)), (m9, .inl (D.2 0, 48, .inl lq))]) hA hB hK hP hD hS [0] [1, 2, 3] rfl rfl (by decide)
        refine z_goi (z_runV (As := [.int 0, .int 1, .int 0, .int 0]) (rest := []) (b := m0) hF (d_throwing D m0 m1 m2 m3 m4 m5 m6 m7 m8 m9 m10 m11 m12 m13 m14 (M.1, fun _ => 0, fun _ => 0) bt ln cl pn th 0 1 0 0 H.size) (cwV 4 hZ (z_gV t_286 t_287 t_288 t_272 t_285) rfl rfl rfl (by decide +kernel) ⟨Nat.le_of_ble_eq_true rfl, Nat.le_of_ble_eq_true rfl⟩) J 0 6 rfl rfl rfl rfl hl.1 (Nat.le_of_ble_eq_true rfl) dX6_stock_86 ⟨Nat.le_of_ble_eq_true rfl, Nat.le_of_ble_eq_true rfl⟩) J (fun r4 _ H locs w4 hP hD hS => ?_)
        have hP : va_P D.1 vwCl [(m7, .inl (D.2 0, 4, .inl (fun i => nI (ly i)))), (m8, .inl (D.2 0, 48, .inl lp)), (m9, .inl (D.2 0, 48, .inl lq)), (m0, .inr (6, [.int 2, .int (nI M.1), .ref m1, .ref m2, .int (nI bt), .ref m3, .int (nI ln), .ref m4, .ref m5, .int (nI cl), .ref m6, .ref m7, .ref m8, .ref m9, .ref m10, .ref m11, .ref m12, .int (nI pn), .ref m13, .ref m14]))] H := hP
        have hD : va_D A [(m7, .inl (D.2 0, 4, .inl (fun i => nI (ly i)))), (m8, .inl (D.2 0, 48, .inl lp)), (m9, .inl (D.2 0, 48, .inl lq)), (m0, .inr (6, [.int 2, .int (nI M.1), .ref m1, .ref m2, .int (nI bt), .ref m3, .int (nI ln), .ref m4, .ref m5, .int (nI cl), .ref m6, .ref m7, .ref m8, .ref m9, .ref m10, .ref m11, .ref m12, .int (nI pn), .ref m13, .ref m14]))] := hD
        have w4 : r4 = 1 := w4
        subst w4
        refine lv_if_eq (tgt := 94) hx hb dX6_stock_89 (by decide) (fun c7 => ?_) (fun c7 => ?_)
        · skip
          exfalso; exact absurd c7 (by decide)
        refine lv_iconst (v := 0) hx hb dX6_stock_92 (by decide) ?_
        exact z_iret (v := 0) hx hb hr hlocks hP hD hS (some 2) (Or.inr (Or.inr (Or.inl ⟨rfl, trivial, tu⟩))) [3, 0, 1, 2] rfl (by decide) (Nat.le_of_ble_eq_true rfl) (Nat.le_of_ble_eq_true rfl) dX6_stock_93
      exfalso; exact absurd c5 (by decide)
    have g3 := z_b0 f3 c3
    have rg : ¬ (¬ p2 < 1 ∧ p2 ≤ 1000000 ∧ ¬ p3 < 0 ∧ p3 ≤ 1000000) := fun h => g3 ⟨h.2.2.1, h.2.2.2⟩
    refine lv_iconst (v := 1) hx hb dX6_stock_43 (by decide) ?_
    refine lv_goto (tgt := 48) hx hb dX6_stock_44 (by decide) ?_
    refine lv_istore (lv' := [(5, .int 1), (4, .int 0), (0, .ref m0), (1, .int (nI j)), (2, .int p2), (3, .int p3)]) hx hb dX6_stock_48 hl (by decide) rfl (fun ls hl => ?_)
    refine lv_aload_n hx hb dX6_stock_50 rfl (lv_at hl 2 rfl) ?_
    refine lv_iload hx hb dX6_stock_51 (lv_at hl 1 rfl) ?_
    refine lv_iload hx hb dX6_stock_53 (lv_at hl 1 rfl) ?_
    refine lv_if_ne (tgt := 82) hx hb dX6_stock_55 (by decide) (fun c4 => ?_) (fun c4 => ?_)
    · skip
      exfalso; exact absurd c4 (by decide)
    refine lv_aload_n hx hb dX6_stock_58 rfl (lv_at hl 2 rfl) ?_
    refine va_get (D := D.1) (ci := 6) (v := .ref m7) (C := "ShopLedgerModel") (T := TX6) (N := 20) hx hb hZ inX6 hown hK hP 0 rfl rfl 11 (by decide) (hZ _ t_312) (fun _ h9 => h9) rfl dX6_stock_59 ?_
    refine lv_iload hx hb dX6_stock_62 (lv_at hl 1 rfl) ?_
    refine lv_if_eq (tgt := 71) hx hb dX6_stock_64 (by decide) (fun c5 => ?_) (fun c5 => ?_)
    · skip
      refine lv_iload_n hx hb dX6_stock_71 rfl (lv_at hl 3 rfl) ?_
      refine z_iald (k := j) hx hb hK hP 1 rfl (hj) (by decide) dX6_stock_72 ?_
      refine lv_bipush (v := 12) hx hb dX6_stock_73 (by decide) ?_
      refine lv_icmp_ne (tgt := 82) hx hb dX6_stock_75 (by decide) (fun c6 => ?_) (fun c6 => ?_)
      · skip
        have tu : ¬ 12 ≤ nI (ly j) := fun h => c6 (z_full (t := 12) hy (by decide) h)
        refine lv_iconst (v := 0) hx hb dX6_stock_82 (by decide) ?_
        refine lv_iload hx hb dX6_stock_83 (lv_at hl 0 rfl) ?_
        refine lv_iconst (v := 0) hx hb dX6_stock_85 (by decide) ?_
        have J := zJ.mk (wc := [(m0, .inr (6, [.int th, .int (nI M.1), .ref m1, .ref m2, .int (nI bt), .ref m3, .int (nI ln), .ref m4, .ref m5, .int (nI cl), .ref m6, .ref m7, .ref m8, .ref m9, .ref m10, .ref m11, .ref m12, .int (nI pn), .ref m13, .ref m14]))]) (wr := [(m7, .inl (D.2 0, 4, .inl (fun i => nI (ly i)))), (m8, .inl (D.2 0, 48, .inl lp)), (m9, .inl (D.2 0, 48, .inl lq))]) hA hB hK hP hD hS [0] [1, 2, 3] rfl rfl (by decide)
        refine z_goi (z_runV (As := [.int 0, .int 0, .int 1, .int 0]) (rest := []) (b := m0) hF (d_throwing D m0 m1 m2 m3 m4 m5 m6 m7 m8 m9 m10 m11 m12 m13 m14 (M.1, fun _ => 0, fun _ => 0) bt ln cl pn th 0 0 1 0 H.size) (cwV 4 hZ (z_gV t_286 t_287 t_288 t_272 t_285) rfl rfl rfl (by decide +kernel) ⟨Nat.le_of_ble_eq_true rfl, Nat.le_of_ble_eq_true rfl⟩) J 0 6 rfl rfl rfl rfl hl.1 (Nat.le_of_ble_eq_true rfl) dX6_stock_86 ⟨Nat.le_of_ble_eq_true rfl, Nat.le_of_ble_eq_true rfl⟩) J (fun r4 _ H locs w4 hP hD hS => ?_)
        have hP : va_P D.1 vwCl [(m7, .inl (D.2 0, 4, .inl (fun i => nI (ly i)))), (m8, .inl (D.2 0, 48, .inl lp)), (m9, .inl (D.2 0, 48, .inl lq)), (m0, .inr (6, [.int 3, .int (nI M.1), .ref m1, .ref m2, .int (nI bt), .ref m3, .int (nI ln), .ref m4, .ref m5, .int (nI cl), .ref m6, .ref m7, .ref m8, .ref m9, .ref m10, .ref m11, .ref m12, .int (nI pn), .ref m13, .ref m14]))] H := hP
        have hD : va_D A [(m7, .inl (D.2 0, 4, .inl (fun i => nI (ly i)))), (m8, .inl (D.2 0, 48, .inl lp)), (m9, .inl (D.2 0, 48, .inl lq)), (m0, .inr (6, [.int 3, .int (nI M.1), .ref m1, .ref m2, .int (nI bt), .ref m3, .int (nI ln), .ref m4, .ref m5, .int (nI cl), .ref m6, .ref m7, .ref m8, .ref m9, .ref m10, .ref m11, .ref m12, .int (nI pn), .ref m13, .ref m14]))] := hD
        have w4 : r4 = 1 := w4
        subst w4
        refine lv_if_eq (tgt := 94) hx hb dX6_stock_89 (by decide) (fun c7 => ?_) (fun c7 => ?_)
        · skip
          exfalso; exact absurd c7 (by decide)
        refine lv_iconst (v := 0) hx hb dX6_stock_92 (by decide) ?_
        exact z_iret (v := 0) hx hb hr hlocks hP hD hS (some 3) (Or.inr (Or.inr (Or.inr (⟨rfl, trivial, tu, rg⟩)))) [3, 0, 1, 2] rfl (by decide) (Nat.le_of_ble_eq_true rfl) (Nat.le_of_ble_eq_true rfl) dX6_stock_93
      have tu : ¬ (¬ 12 ≤ nI (ly j)) := fun h => h (by rw [c6]; decide)
      refine lv_iconst (v := 1) hx hb dX6_stock_78 (by decide) ?_
      refine lv_goto (tgt := 83) hx hb dX6_stock_79 (by decide) ?_
      refine lv_iload hx hb dX6_stock_83 (lv_at hl 0 rfl) ?_
      refine lv_iconst (v := 0) hx hb dX6_stock_85 (by decide) ?_
      have J := zJ.mk (wc := [(m0, .inr (6, [.int th, .int (nI M.1), .ref m1, .ref m2, .int (nI bt), .ref m3, .int (nI ln), .ref m4, .ref m5, .int (nI cl), .ref m6, .ref m7, .ref m8, .ref m9, .ref m10, .ref m11, .ref m12, .int (nI pn), .ref m13, .ref m14]))]) (wr := [(m7, .inl (D.2 0, 4, .inl (fun i => nI (ly i)))), (m8, .inl (D.2 0, 48, .inl lp)), (m9, .inl (D.2 0, 48, .inl lq))]) hA hB hK hP hD hS [0] [1, 2, 3] rfl rfl (by decide)
      refine z_goi (z_runV (As := [.int 0, .int 1, .int 1, .int 0]) (rest := []) (b := m0) hF (d_throwing D m0 m1 m2 m3 m4 m5 m6 m7 m8 m9 m10 m11 m12 m13 m14 (M.1, fun _ => 0, fun _ => 0) bt ln cl pn th 0 1 1 0 H.size) (cwV 4 hZ (z_gV t_286 t_287 t_288 t_272 t_285) rfl rfl rfl (by decide +kernel) ⟨Nat.le_of_ble_eq_true rfl, Nat.le_of_ble_eq_true rfl⟩) J 0 6 rfl rfl rfl rfl hl.1 (Nat.le_of_ble_eq_true rfl) dX6_stock_86 ⟨Nat.le_of_ble_eq_true rfl, Nat.le_of_ble_eq_true rfl⟩) J (fun r4 _ H locs w4 hP hD hS => ?_)
      have hP : va_P D.1 vwCl [(m7, .inl (D.2 0, 4, .inl (fun i => nI (ly i)))), (m8, .inl (D.2 0, 48, .inl lp)), (m9, .inl (D.2 0, 48, .inl lq)), (m0, .inr (6, [.int 2, .int (nI M.1), .ref m1, .ref m2, .int (nI bt), .ref m3, .int (nI ln), .ref m4, .ref m5, .int (nI cl), .ref m6, .ref m7, .ref m8, .ref m9, .ref m10, .ref m11, .ref m12, .int (nI pn), .ref m13, .ref m14]))] H := hP
      have hD : va_D A [(m7, .inl (D.2 0, 4, .inl (fun i => nI (ly i)))), (m8, .inl (D.2 0, 48, .inl lp)), (m9, .inl (D.2 0, 48, .inl lq)), (m0, .inr (6, [.int 2, .int (nI M.1), .ref m1, .ref m2, .int (nI bt), .ref m3, .int (nI ln), .ref m4, .ref m5, .int (nI cl), .ref m6, .ref m7, .ref m8, .ref m9, .ref m10, .ref m11, .ref m12, .int (nI pn), .ref m13, .ref m14]))] := hD
      have w4 : r4 = 1 := w4
      subst w4
      refine lv_if_eq (tgt := 94) hx hb dX6_stock_89 (by decide) (fun c7 => ?_) (fun c7 => ?_)
      · skip
        exfalso; exact absurd c7 (by decide)
      refine lv_iconst (v := 0) hx hb dX6_stock_92 (by decide) ?_
      exact z_iret (v := 0) hx hb hr hlocks hP hD hS (some 2) (Or.inr (Or.inr (Or.inl ⟨rfl, trivial, tu⟩))) [3, 0, 1, 2] rfl (by decide) (Nat.le_of_ble_eq_true rfl) (Nat.le_of_ble_eq_true rfl) dX6_stock_93
    exfalso; exact absurd c5 (by decide)
  exfalso; exact z_b0 f1 c1 ⟨nI_pos (by omega), nI_ge hj (by decide)⟩
set_option maxHeartbeats 4000000 in
set_option maxRecDepth 100000 in
/-- the reference: stock -/
theorem d_stockX {l : Launch} (D : zD) (m0 m1 m2 m3 m4 m5 m6 m7 m8 m9 m10 m11 m12 m13 m14 : Nat) (M : zM) (bt ln cl pn : Nat) (th : Int32) (p1 p2 p3 : Int32) (sz : Nat) (hp : ¬ zin p1 4) : Met l yX6_stock wsX6_stock ({ frames := 1, cells := 0, slots := 0, locals := 25 }) (va_Pc [.ref m0, .int p1, .int p2, .int p3] (zp D sz [(m0, .inr (6, [.int th, .int (nI M.1), .ref m1, .ref m2, .int (nI bt), .ref m3, .int (nI ln), .ref m4, .ref m5, .int (nI cl), .ref m6, .ref m7, .ref m8, .ref m9, .ref m10, .ref m11, .ref m12, .int (nI pn), .ref m13, .ref m14]))])) (va_Qi (fun r (u : Option Int32) => (u = none ∧ (zin p1 4) ∧ r = 0) ∨ (u = some 1 ∧ ¬ (zin p1 4))) (zq D (va_A [(m0, .inr (6, [.int th, .int (nI M.1), .ref m1, .ref m2, .int (nI bt), .ref m3, .int (nI ln), .ref m4, .ref m5, .int (nI cl), .ref m6, .ref m7, .ref m8, .ref m9, .ref m10, .ref m11, .ref m12, .int (nI pn), .ref m13, .ref m14]))] sz) (fun (u : Option Int32) => (u.elim [(m0, .inr (6, [.int 0, .int (nI M.1), .ref m1, .ref m2, .int (nI bt), .ref m3, .int (nI ln), .ref m4, .ref m5, .int (nI cl), .ref m6, .ref m7, .ref m8, .ref m9, .ref m10, .ref m11, .ref m12, .int (nI pn), .ref m13, .ref m14]))] (fun t => [(m0, .inr (6, [.int t, .int (nI M.1), .ref m1, .ref m2, .int (nI bt), .ref m3, .int (nI ln), .ref m4, .ref m5, .int (nI cl), .ref m6, .ref m7, .ref m8, .ref m9, .ref m10, .ref m11, .ref m12, .int (nI pn), .ref m13, .ref m14]))]) : va_W))) (va_A [(m0, .inr (6, [.int th, .int (nI M.1), .ref m1, .ref m2, .int (nI bt), .ref m3, .int (nI ln), .ref m4, .ref m5, .int (nI cl), .ref m6, .ref m7, .ref m8, .ref m9, .ref m10, .ref m11, .ref m12, .int (nI pn), .ref m13, .ref m14]))] sz)) 0 0 (va_A [(m0, .inr (6, [.int th, .int (nI M.1), .ref m1, .ref m2, .int (nI bt), .ref m3, .int (nI ln), .ref m4, .ref m5, .int (nI cl), .ref m6, .ref m7, .ref m8, .ref m9, .ref m10, .ref m11, .ref m12, .int (nI pn), .ref m13, .ref m14]))] sz) := by
  refine Met.ofW (cc := cX6_stock) (maxL := 6) (ret := (some .int)) (by decide) rfl ?_
  intro p e s m args below meth c s₁ B hml hv
  obtain ⟨rfl, hsz, hP, hK, hD0, hB⟩ := hv
  have hx := B.exec
  have hb := B.bytes
  have hr := B.returns
  have hts := atoms_spec (ws := wsX6_stock) B.pre
  have hown : s.vm.findClass "ShopLedgerModel" = some m.cls := findClass_of_methodNamed B.named
  have hlocks := B.notSynchronized
  subst hsz
  have hD := hD0.self (sz := s.heap.size)
  generalize hAe : va_A [(m0, .inr (6, [.int th, .int (nI M.1), .ref m1, .ref m2, .int (nI bt), .ref m3, .int (nI ln), .ref m4, .ref m5, .int (nI cl), .ref m6, .ref m7, .ref m8, .ref m9, .ref m10, .ref m11, .ref m12, .int (nI pn), .ref m13, .ref m14]))] s.heap.size = A at hD hB ⊢
  have hA : ∀ q : Nat, s.heap.size ≤ q → A q := fun q h => by rw [← hAe]; exact Or.inr h
  have hS : va_S A s.heap s.heap [] := va_S.rf
  have hZ : ∀ w ∈ zALL, w.before _ s = true := fun w h => hts w (List.mem_cons_of_mem _ h)
  have hF : CallFix p m c cX6_stock 6 s _ zALL "ShopLedgerModel" := ⟨hx, hb, hml, hown, hZ⟩
  have hl := lv_entry ([.ref m0, .int p1, .int p2, .int p3]) (n := 6) (Nat.le_of_ble_eq_true rfl)
  rw [lg_entry_eq]
  generalize (lg_sl ([.ref m0, .int p1, .int p2, .int p3]) ++ List.replicate (6 - (lg_sl ([.ref m0, .int p1, .int p2, .int p3])).length) Slot.unset).toArray = ls at hl ⊢
  have hl : lv_has ls 6 [(0, .ref m0), (1, .int p1), (2, .int p2), (3, .int p3)] := hl
  refine lv_iload_n hx hb dX6_stock_0 rfl (lv_at hl 1 rfl) ?_
  refine lv_i2l (v := p1.toInt64) hx hb dX6_stock_1 rfl ?_
  refine lv_lconst (v := 0) hx hb dX6_stock_2 (by decide) ?_
  refine lv_ldc2 (v := 3) hx hb hown (hZ _ t_314) dX6_stock_3 ?_
  have J := zJ.mk (wc := []) (wr := [(m0, .inr (6, [.int th, .int (nI M.1), .ref m1, .ref m2, .int (nI bt), .ref m3, .int (nI ln), .ref m4, .ref m5, .int (nI cl), .ref m6, .ref m7, .ref m8, .ref m9, .ref m10, .ref m11, .ref m12, .int (nI pn), .ref m13, .ref m14]))]) hA hB hK hP hD hS [] [0] rfl rfl (by decide)
  refine z_goi (z_runS (As := [.long p1.toInt64, .long 0, .long 3]) (rest := []) hF (d_lies D p1.toInt64 0 3 s.heap.size) (va_cwS 3 hZ (z_gS t_273 t_274 t_272 t_271) rfl rfl rfl (by decide +kernel) ⟨Nat.le_of_ble_eq_true rfl, Nat.le_of_ble_eq_true rfl⟩) J rfl hl.1 (Nat.le_of_ble_eq_true rfl) dX6_stock_6 ⟨Nat.le_of_ble_eq_true rfl, Nat.le_of_ble_eq_true rfl⟩) J (fun r1 _ H locs w1 hP hD hS => ?_)
  have hP : va_P D.1 vwCl [(m0, .inr (6, [.int th, .int (nI M.1), .ref m1, .ref m2, .int (nI bt), .ref m3, .int (nI ln), .ref m4, .ref m5, .int (nI cl), .ref m6, .ref m7, .ref m8, .ref m9, .ref m10, .ref m11, .ref m12, .int (nI pn), .ref m13, .ref m14]))] H := hP
  have hD : va_D A [(m0, .inr (6, [.int th, .int (nI M.1), .ref m1, .ref m2, .int (nI bt), .ref m3, .int (nI ln), .ref m4, .ref m5, .int (nI cl), .ref m6, .ref m7, .ref m8, .ref m9, .ref m10, .ref m11, .ref m12, .int (nI pn), .ref m13, .ref m14]))] := hD
  have f1 : (r1 = 1 ∧ zin p1 4) ∨ (r1 = 0 ∧ ¬ zin p1 4) := z_lz 3 (by decide) (by decide) w1
  refine lv_if_ne (tgt := 16) hx hb dX6_stock_9 (by decide) (fun c1 => ?_) (fun c1 => ?_)
  · skip
    exfalso; exact hp (z_b1 f1 c1)
  refine lv_iconst (v := 1) hx hb dX6_stock_12 (by decide) ?_
  refine lv_goto (tgt := 17) hx hb dX6_stock_13 (by decide) ?_
  refine lv_istore (lv' := [(4, .int 1), (0, .ref m0), (1, .int p1), (2, .int p2), (3, .int p3)]) hx hb dX6_stock_17 hl (by decide) rfl (fun ls hl => ?_)
  refine lv_iload_n hx hb dX6_stock_19 rfl (lv_at hl 3 rfl) ?_
  refine lv_i2l (v := p2.toInt64) hx hb dX6_stock_20 rfl ?_
  refine lv_lconst (v := 1) hx hb dX6_stock_21 (by decide) ?_
  refine lv_ldc2 (v := 1000000) hx hb hown (hZ _ t_296) dX6_stock_22 ?_
  have J := zJ.mk (wc := []) (wr := [(m0, .inr (6, [.int th, .int (nI M.1), .ref m1, .ref m2, .int (nI bt), .ref m3, .int (nI ln), .ref m4, .ref m5, .int (nI cl), .ref m6, .ref m7, .ref m8, .ref m9, .ref m10, .ref m11, .ref m12, .int (nI pn), .ref m13, .ref m14]))]) hA hB hK hP hD hS [] [0] rfl rfl (by decide)
  refine z_goi (z_runS (As := [.long p2.toInt64, .long 1, .long 1000000]) (rest := []) hF (d_lies D p2.toInt64 1 1000000 H.size) (va_cwS 3 hZ (z_gS t_273 t_274 t_272 t_271) rfl rfl rfl (by decide +kernel) ⟨Nat.le_of_ble_eq_true rfl, Nat.le_of_ble_eq_true rfl⟩) J rfl hl.1 (Nat.le_of_ble_eq_true rfl) dX6_stock_25 ⟨Nat.le_of_ble_eq_true rfl, Nat.le_of_ble_eq_true rfl⟩) J (fun r2 _ H locs w2 hP hD hS => ?_)
  have hP : va_P D.1 vwCl [(m0, .inr (6, [.int th, .int (nI M.1), .ref m1, .ref m2, .int (nI bt), .ref m3, .int (nI ln), .ref m4, .ref m5, .int (nI cl), .ref m6, .ref m7, .ref m8, .ref m9, .ref m10, .ref m11, .ref m12, .int (nI pn), .ref m13, .ref m14]))] H := hP
  have hD : va_D A [(m0, .inr (6, [.int th, .int (nI M.1), .ref m1, .ref m2, .int (nI bt), .ref m3, .int (nI ln), .ref m4, .ref m5, .int (nI cl), .ref m6, .ref m7, .ref m8, .ref m9, .ref m10, .ref m11, .ref m12, .int (nI pn), .ref m13, .ref m14]))] := hD
  have f2 : (r2 = 1 ∧ ¬ p2 < 1 ∧ p2 ≤ 1000000) ∨ (r2 = 0 ∧ ¬ (¬ p2 < 1 ∧ p2 ≤ 1000000)) := z_li (a := 1) (b := 1000000) (by decide) (by decide) w2
  refine lv_if_eq (tgt := 43) hx hb dX6_stock_28 (by decide) (fun c2 => ?_) (fun c2 => ?_)
  · skip
    refine lv_iconst (v := 1) hx hb dX6_stock_43 (by decide) ?_
    refine lv_goto (tgt := 48) hx hb dX6_stock_44 (by decide) ?_
    refine lv_istore (lv' := [(5, .int 1), (4, .int 1), (0, .ref m0), (1, .int p1), (2, .int p2), (3, .int p3)]) hx hb dX6_stock_48 hl (by decide) rfl (fun ls hl => ?_)
    refine lv_aload_n hx hb dX6_stock_50 rfl (lv_at hl 2 rfl) ?_
    refine lv_iload hx hb dX6_stock_51 (lv_at hl 1 rfl) ?_
    refine lv_iload hx hb dX6_stock_53 (lv_at hl 1 rfl) ?_
    refine lv_if_ne (tgt := 82) hx hb dX6_stock_55 (by decide) (fun c4 => ?_) (fun c4 => ?_)
    · skip
      refine lv_iconst (v := 0) hx hb dX6_stock_82 (by decide) ?_
      refine lv_iload hx hb dX6_stock_83 (lv_at hl 0 rfl) ?_
      refine lv_iconst (v := 0) hx hb dX6_stock_85 (by decide) ?_
      have J := zJ.mk (wc := [(m0, .inr (6, [.int th, .int (nI M.1), .ref m1, .ref m2, .int (nI bt), .ref m3, .int (nI ln), .ref m4, .ref m5, .int (nI cl), .ref m6, .ref m7, .ref m8, .ref m9, .ref m10, .ref m11, .ref m12, .int (nI pn), .ref m13, .ref m14]))]) (wr := []) hA hB hK hP hD hS [0] [] rfl rfl (by decide)
      refine z_goi (z_runV (As := [.int 1, .int 0, .int 1, .int 0]) (rest := []) (b := m0) hF (d_throwing D m0 m1 m2 m3 m4 m5 m6 m7 m8 m9 m10 m11 m12 m13 m14 (M.1, fun _ => 0, fun _ => 0) bt ln cl pn th 1 0 1 0 H.size) (cwV 4 hZ (z_gV t_286 t_287 t_288 t_272 t_285) rfl rfl rfl (by decide +kernel) ⟨Nat.le_of_ble_eq_true rfl, Nat.le_of_ble_eq_true rfl⟩) J 0 6 rfl rfl rfl rfl hl.1 (Nat.le_of_ble_eq_true rfl) dX6_stock_86 ⟨Nat.le_of_ble_eq_true rfl, Nat.le_of_ble_eq_true rfl⟩) J (fun r4 _ H locs w4 hP hD hS => ?_)
      have hP : va_P D.1 vwCl [(m0, .inr (6, [.int 1, .int (nI M.1), .ref m1, .ref m2, .int (nI bt), .ref m3, .int (nI ln), .ref m4, .ref m5, .int (nI cl), .ref m6, .ref m7, .ref m8, .ref m9, .ref m10, .ref m11, .ref m12, .int (nI pn), .ref m13, .ref m14]))] H := hP
      have hD : va_D A [(m0, .inr (6, [.int 1, .int (nI M.1), .ref m1, .ref m2, .int (nI bt), .ref m3, .int (nI ln), .ref m4, .ref m5, .int (nI cl), .ref m6, .ref m7, .ref m8, .ref m9, .ref m10, .ref m11, .ref m12, .int (nI pn), .ref m13, .ref m14]))] := hD
      have w4 : r4 = 1 := w4
      subst w4
      refine lv_if_eq (tgt := 94) hx hb dX6_stock_89 (by decide) (fun c7 => ?_) (fun c7 => ?_)
      · skip
        exfalso; exact absurd c7 (by decide)
      refine lv_iconst (v := 0) hx hb dX6_stock_92 (by decide) ?_
      exact z_iret (v := 0) hx hb hr hlocks hP hD hS (some 1) (Or.inr (⟨rfl, hp⟩)) [0] rfl (by decide) (Nat.le_of_ble_eq_true rfl) (Nat.le_of_ble_eq_true rfl) dX6_stock_93
    exfalso; exact absurd c4 (by decide)
  refine lv_iload_n hx hb dX6_stock_31 rfl (lv_at hl 4 rfl) ?_
  refine lv_i2l (v := p3.toInt64) hx hb dX6_stock_32 rfl ?_
  refine lv_lconst (v := 0) hx hb dX6_stock_33 (by decide) ?_
  refine lv_ldc2 (v := 1000000) hx hb hown (hZ _ t_296) dX6_stock_34 ?_
  have J := zJ.mk (wc := []) (wr := [(m0, .inr (6, [.int th, .int (nI M.1), .ref m1, .ref m2, .int (nI bt), .ref m3, .int (nI ln), .ref m4, .ref m5, .int (nI cl), .ref m6, .ref m7, .ref m8, .ref m9, .ref m10, .ref m11, .ref m12, .int (nI pn), .ref m13, .ref m14]))]) hA hB hK hP hD hS [] [0] rfl rfl (by decide)
  refine z_goi (z_runS (As := [.long p3.toInt64, .long 0, .long 1000000]) (rest := []) hF (d_lies D p3.toInt64 0 1000000 H.size) (va_cwS 3 hZ (z_gS t_273 t_274 t_272 t_271) rfl rfl rfl (by decide +kernel) ⟨Nat.le_of_ble_eq_true rfl, Nat.le_of_ble_eq_true rfl⟩) J rfl hl.1 (Nat.le_of_ble_eq_true rfl) dX6_stock_37 ⟨Nat.le_of_ble_eq_true rfl, Nat.le_of_ble_eq_true rfl⟩) J (fun r3 _ H locs w3 hP hD hS => ?_)
  have hP : va_P D.1 vwCl [(m0, .inr (6, [.int th, .int (nI M.1), .ref m1, .ref m2, .int (nI bt), .ref m3, .int (nI ln), .ref m4, .ref m5, .int (nI cl), .ref m6, .ref m7, .ref m8, .ref m9, .ref m10, .ref m11, .ref m12, .int (nI pn), .ref m13, .ref m14]))] H := hP
  have hD : va_D A [(m0, .inr (6, [.int th, .int (nI M.1), .ref m1, .ref m2, .int (nI bt), .ref m3, .int (nI ln), .ref m4, .ref m5, .int (nI cl), .ref m6, .ref m7, .ref m8, .ref m9, .ref m10, .ref m11, .ref m12, .int (nI pn), .ref m13, .ref m14]))] := hD
  have f3 : (r3 = 1 ∧ ¬ p3 < 0 ∧ p3 ≤ 1000000) ∨ (r3 = 0 ∧ ¬ (¬ p3 < 0 ∧ p3 ≤ 1000000)) := z_li (a := 0) (b := 1000000) (by decide) (by decide) w3
  refine lv_if_ne (tgt := 47) hx hb dX6_stock_40 (by decide) (fun c3 => ?_) (fun c3 => ?_)
  · skip
    refine lv_iconst (v := 0) hx hb dX6_stock_47 (by decide) ?_
    refine lv_istore (lv' := [(5, .int 0), (4, .int 1), (0, .ref m0), (1, .int p1), (2, .int p2), (3, .int p3)]) hx hb dX6_stock_48 hl (by decide) rfl (fun ls hl => ?_)
    refine lv_aload_n hx hb dX6_stock_50 rfl (lv_at hl 2 rfl) ?_
    refine lv_iload hx hb dX6_stock_51 (lv_at hl 1 rfl) ?_
    refine lv_iload hx hb dX6_stock_53 (lv_at hl 1 rfl) ?_
    refine lv_if_ne (tgt := 82) hx hb dX6_stock_55 (by decide) (fun c4 => ?_) (fun c4 => ?_)
    · skip
      refine lv_iconst (v := 0) hx hb dX6_stock_82 (by decide) ?_
      refine lv_iload hx hb dX6_stock_83 (lv_at hl 0 rfl) ?_
      refine lv_iconst (v := 0) hx hb dX6_stock_85 (by decide) ?_
      have J := zJ.mk (wc := [(m0, .inr (6, [.int th, .int (nI M.1), .ref m1, .ref m2, .int (nI bt), .ref m3, .int (nI ln), .ref m4, .ref m5, .int (nI cl), .ref m6, .ref m7, .ref m8, .ref m9, .ref m10, .ref m11, .ref m12, .int (nI pn), .ref m13, .ref m14]))]) (wr := []) hA hB hK hP hD hS [0] [] rfl rfl (by decide)
      refine z_goi (z_runV (As := [.int 1, .int 0, .int 0, .int 0]) (rest := []) (b := m0) hF (d_throwing D m0 m1 m2 m3 m4 m5 m6 m7 m8 m9 m10 m11 m12 m13 m14 (M.1, fun _ => 0, fun _ => 0) bt ln cl pn th 1 0 0 0 H.size) (cwV 4 hZ (z_gV t_286 t_287 t_288 t_272 t_285) rfl rfl rfl (by decide +kernel) ⟨Nat.le_of_ble_eq_true rfl, Nat.le_of_ble_eq_true rfl⟩) J 0 6 rfl rfl rfl rfl hl.1 (Nat.le_of_ble_eq_true rfl) dX6_stock_86 ⟨Nat.le_of_ble_eq_true rfl, Nat.le_of_ble_eq_true rfl⟩) J (fun r4 _ H locs w4 hP hD hS => ?_)
      have hP : va_P D.1 vwCl [(m0, .inr (6, [.int 1, .int (nI M.1), .ref m1, .ref m2, .int (nI bt), .ref m3, .int (nI ln), .ref m4, .ref m5, .int (nI cl), .ref m6, .ref m7, .ref m8, .ref m9, .ref m10, .ref m11, .ref m12, .int (nI pn), .ref m13, .ref m14]))] H := hP
      have hD : va_D A [(m0, .inr (6, [.int 1, .int (nI M.1), .ref m1, .ref m2, .int (nI bt), .ref m3, .int (nI ln), .ref m4, .ref m5, .int (nI cl), .ref m6, .ref m7, .ref m8, .ref m9, .ref m10, .ref m11, .ref m12, .int (nI pn), .ref m13, .ref m14]))] := hD
      have w4 : r4 = 1 := w4
      subst w4
      refine lv_if_eq (tgt := 94) hx hb dX6_stock_89 (by decide) (fun c7 => ?_) (fun c7 => ?_)
      · skip
        exfalso; exact absurd c7 (by decide)
      refine lv_iconst (v := 0) hx hb dX6_stock_92 (by decide) ?_
      exact z_iret (v := 0) hx hb hr hlocks hP hD hS (some 1) (Or.inr (⟨rfl, hp⟩)) [0] rfl (by decide) (Nat.le_of_ble_eq_true rfl) (Nat.le_of_ble_eq_true rfl) dX6_stock_93
    exfalso; exact absurd c4 (by decide)
  refine lv_iconst (v := 1) hx hb dX6_stock_43 (by decide) ?_
  refine lv_goto (tgt := 48) hx hb dX6_stock_44 (by decide) ?_
  refine lv_istore (lv' := [(5, .int 1), (4, .int 1), (0, .ref m0), (1, .int p1), (2, .int p2), (3, .int p3)]) hx hb dX6_stock_48 hl (by decide) rfl (fun ls hl => ?_)
  refine lv_aload_n hx hb dX6_stock_50 rfl (lv_at hl 2 rfl) ?_
  refine lv_iload hx hb dX6_stock_51 (lv_at hl 1 rfl) ?_
  refine lv_iload hx hb dX6_stock_53 (lv_at hl 1 rfl) ?_
  refine lv_if_ne (tgt := 82) hx hb dX6_stock_55 (by decide) (fun c4 => ?_) (fun c4 => ?_)
  · skip
    refine lv_iconst (v := 0) hx hb dX6_stock_82 (by decide) ?_
    refine lv_iload hx hb dX6_stock_83 (lv_at hl 0 rfl) ?_
    refine lv_iconst (v := 0) hx hb dX6_stock_85 (by decide) ?_
    have J := zJ.mk (wc := [(m0, .inr (6, [.int th, .int (nI M.1), .ref m1, .ref m2, .int (nI bt), .ref m3, .int (nI ln), .ref m4, .ref m5, .int (nI cl), .ref m6, .ref m7, .ref m8, .ref m9, .ref m10, .ref m11, .ref m12, .int (nI pn), .ref m13, .ref m14]))]) (wr := []) hA hB hK hP hD hS [0] [] rfl rfl (by decide)
    refine z_goi (z_runV (As := [.int 1, .int 0, .int 1, .int 0]) (rest := []) (b := m0) hF (d_throwing D m0 m1 m2 m3 m4 m5 m6 m7 m8 m9 m10 m11 m12 m13 m14 (M.1, fun _ => 0, fun _ => 0) bt ln cl pn th 1 0 1 0 H.size) (cwV 4 hZ (z_gV t_286 t_287 t_288 t_272 t_285) rfl rfl rfl (by decide +kernel) ⟨Nat.le_of_ble_eq_true rfl, Nat.le_of_ble_eq_true rfl⟩) J 0 6 rfl rfl rfl rfl hl.1 (Nat.le_of_ble_eq_true rfl) dX6_stock_86 ⟨Nat.le_of_ble_eq_true rfl, Nat.le_of_ble_eq_true rfl⟩) J (fun r4 _ H locs w4 hP hD hS => ?_)
    have hP : va_P D.1 vwCl [(m0, .inr (6, [.int 1, .int (nI M.1), .ref m1, .ref m2, .int (nI bt), .ref m3, .int (nI ln), .ref m4, .ref m5, .int (nI cl), .ref m6, .ref m7, .ref m8, .ref m9, .ref m10, .ref m11, .ref m12, .int (nI pn), .ref m13, .ref m14]))] H := hP
    have hD : va_D A [(m0, .inr (6, [.int 1, .int (nI M.1), .ref m1, .ref m2, .int (nI bt), .ref m3, .int (nI ln), .ref m4, .ref m5, .int (nI cl), .ref m6, .ref m7, .ref m8, .ref m9, .ref m10, .ref m11, .ref m12, .int (nI pn), .ref m13, .ref m14]))] := hD
    have w4 : r4 = 1 := w4
    subst w4
    refine lv_if_eq (tgt := 94) hx hb dX6_stock_89 (by decide) (fun c7 => ?_) (fun c7 => ?_)
    · skip
      exfalso; exact absurd c7 (by decide)
    refine lv_iconst (v := 0) hx hb dX6_stock_92 (by decide) ?_
    exact z_iret (v := 0) hx hb hr hlocks hP hD hS (some 1) (Or.inr (⟨rfl, hp⟩)) [0] rfl (by decide) (Nat.le_of_ble_eq_true rfl) (Nat.le_of_ble_eq_true rfl) dX6_stock_93
  exfalso; exact absurd c4 (by decide)
set_option maxHeartbeats 4000000 in
set_option maxRecDepth 100000 in
/-- the reference: in -/
theorem d_in {l : Launch} (D : zD) (m0 m1 m2 m3 m4 m5 m6 m7 m8 m9 m10 m11 m12 m13 m14 : Nat) (M : zM) (bt ln cl pn : Nat) (th : Int32) (ly : Nat → Nat) (lp lq : Nat → Int32) (j : Nat) (p2 : Int32) (sz : Nat) (hj : j < 4) (hy : ly j ≤ 12) : Met l yX6_in wsX6_in ({ frames := 1, cells := 0, slots := 0, locals := 25 }) (va_Pc [.ref m0, .int (nI j), .int p2] (zp D sz [(m0, .inr (6, [.int th, .int (nI M.1), .ref m1, .ref m2, .int (nI bt), .ref m3, .int (nI ln), .ref m4, .ref m5, .int (nI cl), .ref m6, .ref m7, .ref m8, .ref m9, .ref m10, .ref m11, .ref m12, .int (nI pn), .ref m13, .ref m14])), (m7, .inl (D.2 0, 4, .inl (fun i => nI (ly i)))), (m8, .inl (D.2 0, 48, .inl lp)), (m9, .inl (D.2 0, 48, .inl lq))])) (va_Ql (fun r (u : Option Int32) => (u = none ∧ (zin p2 3) ∧ ((p2 = 0 ∧ r = zm_lsum lp (12 * j) (ly j)) ∨ (p2 = 2 ∧ r = (nI (ly j)).toInt64) ∨ (¬ p2 = 0 ∧ ¬ p2 = 2 ∧ r = zm_worth lp lq (12 * j) (ly j)))) ∨ (u = some 1 ∧ ¬ (zin p2 3))) (zq D (va_A [(m0, .inr (6, [.int th, .int (nI M.1), .ref m1, .ref m2, .int (nI bt), .ref m3, .int (nI ln), .ref m4, .ref m5, .int (nI cl), .ref m6, .ref m7, .ref m8, .ref m9, .ref m10, .ref m11, .ref m12, .int (nI pn), .ref m13, .ref m14])), (m7, .inl (D.2 0, 4, .inl (fun i => nI (ly i)))), (m8, .inl (D.2 0, 48, .inl lp)), (m9, .inl (D.2 0, 48, .inl lq))] sz) (fun (u : Option Int32) => (u.elim [(m0, .inr (6, [.int 0, .int (nI M.1), .ref m1, .ref m2, .int (nI bt), .ref m3, .int (nI ln), .ref m4, .ref m5, .int (nI cl), .ref m6, .ref m7, .ref m8, .ref m9, .ref m10, .ref m11, .ref m12, .int (nI pn), .ref m13, .ref m14])), (m7, .inl (D.2 0, 4, .inl (fun i => nI (ly i)))), (m8, .inl (D.2 0, 48, .inl lp)), (m9, .inl (D.2 0, 48, .inl lq))] (fun t => [(m0, .inr (6, [.int t, .int (nI M.1), .ref m1, .ref m2, .int (nI bt), .ref m3, .int (nI ln), .ref m4, .ref m5, .int (nI cl), .ref m6, .ref m7, .ref m8, .ref m9, .ref m10, .ref m11, .ref m12, .int (nI pn), .ref m13, .ref m14])), (m7, .inl (D.2 0, 4, .inl (fun i => nI (ly i)))), (m8, .inl (D.2 0, 48, .inl lp)), (m9, .inl (D.2 0, 48, .inl lq))]) : va_W))) (va_A [(m0, .inr (6, [.int th, .int (nI M.1), .ref m1, .ref m2, .int (nI bt), .ref m3, .int (nI ln), .ref m4, .ref m5, .int (nI cl), .ref m6, .ref m7, .ref m8, .ref m9, .ref m10, .ref m11, .ref m12, .int (nI pn), .ref m13, .ref m14])), (m7, .inl (D.2 0, 4, .inl (fun i => nI (ly i)))), (m8, .inl (D.2 0, 48, .inl lp)), (m9, .inl (D.2 0, 48, .inl lq))] sz)) 0 0 (va_A [(m0, .inr (6, [.int th, .int (nI M.1), .ref m1, .ref m2, .int (nI bt), .ref m3, .int (nI ln), .ref m4, .ref m5, .int (nI cl), .ref m6, .ref m7, .ref m8, .ref m9, .ref m10, .ref m11, .ref m12, .int (nI pn), .ref m13, .ref m14])), (m7, .inl (D.2 0, 4, .inl (fun i => nI (ly i)))), (m8, .inl (D.2 0, 48, .inl lp)), (m9, .inl (D.2 0, 48, .inl lq))] sz) := by
  refine Met.ofW (cc := cX6_in) (maxL := 6) (ret := (some .long)) (by decide) rfl ?_
  intro p e s m args below meth c s₁ B hml hv
  obtain ⟨rfl, hsz, hP, hK, hD0, hB⟩ := hv
  have hx := B.exec
  have hb := B.bytes
  have hr := B.returns
  have hts := atoms_spec (ws := wsX6_in) B.pre
  have hown : s.vm.findClass "ShopLedgerModel" = some m.cls := findClass_of_methodNamed B.named
  have hlocks := B.notSynchronized
  subst hsz
  have hD := hD0.self (sz := s.heap.size)
  generalize hAe : va_A [(m0, .inr (6, [.int th, .int (nI M.1), .ref m1, .ref m2, .int (nI bt), .ref m3, .int (nI ln), .ref m4, .ref m5, .int (nI cl), .ref m6, .ref m7, .ref m8, .ref m9, .ref m10, .ref m11, .ref m12, .int (nI pn), .ref m13, .ref m14])), (m7, .inl (D.2 0, 4, .inl (fun i => nI (ly i)))), (m8, .inl (D.2 0, 48, .inl lp)), (m9, .inl (D.2 0, 48, .inl lq))] s.heap.size = A at hD hB ⊢
  have hA : ∀ q : Nat, s.heap.size ≤ q → A q := fun q h => by rw [← hAe]; exact Or.inr h
  have hS : va_S A s.heap s.heap [] := va_S.rf
  have hZ : ∀ w ∈ zALL, w.before _ s = true := fun w h => hts w (List.mem_cons_of_mem _ h)
  have hF : CallFix p m c cX6_in 6 s _ zALL "ShopLedgerModel" := ⟨hx, hb, hml, hown, hZ⟩
  have hl := lv_entry ([.ref m0, .int (nI j), .int p2]) (n := 6) (Nat.le_of_ble_eq_true rfl)
  rw [lg_entry_eq]
  generalize (lg_sl ([.ref m0, .int (nI j), .int p2]) ++ List.replicate (6 - (lg_sl ([.ref m0, .int (nI j), .int p2])).length) Slot.unset).toArray = ls at hl ⊢
  have hl : lv_has ls 6 [(0, .ref m0), (1, .int (nI j)), (2, .int p2)] := hl
  refine lv_aload_n hx hb dX6_in_0 rfl (lv_at hl 0 rfl) ?_
  refine lv_iload_n hx hb dX6_in_1 rfl (lv_at hl 1 rfl) ?_
  refine lv_i2l (v := (nI j).toInt64) hx hb dX6_in_2 rfl ?_
  refine lv_lconst (v := 0) hx hb dX6_in_3 (by decide) ?_
  refine lv_ldc2 (v := 3) hx hb hown (hZ _ t_314) dX6_in_4 ?_
  have J := zJ.mk (wc := []) (wr := [(m0, .inr (6, [.int th, .int (nI M.1), .ref m1, .ref m2, .int (nI bt), .ref m3, .int (nI ln), .ref m4, .ref m5, .int (nI cl), .ref m6, .ref m7, .ref m8, .ref m9, .ref m10, .ref m11, .ref m12, .int (nI pn), .ref m13, .ref m14])), (m7, .inl (D.2 0, 4, .inl (fun i => nI (ly i)))), (m8, .inl (D.2 0, 48, .inl lp)), (m9, .inl (D.2 0, 48, .inl lq))]) hA hB hK hP hD hS [] [0, 1, 2, 3] rfl rfl (by decide)
  refine z_goi (z_runS (As := [.long ((nI j).toInt64), .long 0, .long 3]) (rest := [.ref m0]) hF (d_lies D (nI j).toInt64 0 3 s.heap.size) (va_cwS 3 hZ (z_gS t_273 t_274 t_272 t_271) rfl rfl rfl (by decide +kernel) ⟨Nat.le_of_ble_eq_true rfl, Nat.le_of_ble_eq_true rfl⟩) J rfl hl.1 (Nat.le_of_ble_eq_true rfl) dX6_in_7 ⟨Nat.le_of_ble_eq_true rfl, Nat.le_of_ble_eq_true rfl⟩) J (fun r1 _ H locs w1 hP hD hS => ?_)
  have hP : va_P D.1 vwCl [(m0, .inr (6, [.int th, .int (nI M.1), .ref m1, .ref m2, .int (nI bt), .ref m3, .int (nI ln), .ref m4, .ref m5, .int (nI cl), .ref m6, .ref m7, .ref m8, .ref m9, .ref m10, .ref m11, .ref m12, .int (nI pn), .ref m13, .ref m14])), (m7, .inl (D.2 0, 4, .inl (fun i => nI (ly i)))), (m8, .inl (D.2 0, 48, .inl lp)), (m9, .inl (D.2 0, 48, .inl lq))] H := hP
  have hD : va_D A [(m0, .inr (6, [.int th, .int (nI M.1), .ref m1, .ref m2, .int (nI bt), .ref m3, .int (nI ln), .ref m4, .ref m5, .int (nI cl), .ref m6, .ref m7, .ref m8, .ref m9, .ref m10, .ref m11, .ref m12, .int (nI pn), .ref m13, .ref m14])), (m7, .inl (D.2 0, 4, .inl (fun i => nI (ly i)))), (m8, .inl (D.2 0, 48, .inl lp)), (m9, .inl (D.2 0, 48, .inl lq))] := hD
  have f1 : (r1 = 1 ∧ zin (nI j) 4) ∨ (r1 = 0 ∧ ¬ zin (nI j) 4) := z_lz 3 (by decide) (by decide) w1
  refine lv_if_eq (tgt := 25) hx hb dX6_in_10 (by decide) (fun c1 => ?_) (fun c1 => ?_)
  · skip
    exfalso; exact z_b0 f1 c1 ⟨nI_pos (by omega), nI_ge hj (by decide)⟩
  refine lv_iload_n hx hb dX6_in_13 rfl (lv_at hl 2 rfl) ?_
  refine lv_i2l (v := p2.toInt64) hx hb dX6_in_14 rfl ?_
  refine lv_lconst (v := 0) hx hb dX6_in_15 (by decide) ?_
  refine lv_ldc2 (v := 2) hx hb hown (hZ _ t_316) dX6_in_16 ?_
  have J := zJ.mk (wc := []) (wr := [(m0, .inr (6, [.int th, .int (nI M.1), .ref m1, .ref m2, .int (nI bt), .ref m3, .int (nI ln), .ref m4, .ref m5, .int (nI cl), .ref m6, .ref m7, .ref m8, .ref m9, .ref m10, .ref m11, .ref m12, .int (nI pn), .ref m13, .ref m14])), (m7, .inl (D.2 0, 4, .inl (fun i => nI (ly i)))), (m8, .inl (D.2 0, 48, .inl lp)), (m9, .inl (D.2 0, 48, .inl lq))]) hA hB hK hP hD hS [] [0, 1, 2, 3] rfl rfl (by decide)
  refine z_goi (z_runS (As := [.long p2.toInt64, .long 0, .long 2]) (rest := [.ref m0]) hF (d_lies D p2.toInt64 0 2 H.size) (va_cwS 3 hZ (z_gS t_273 t_274 t_272 t_271) rfl rfl rfl (by decide +kernel) ⟨Nat.le_of_ble_eq_true rfl, Nat.le_of_ble_eq_true rfl⟩) J rfl hl.1 (Nat.le_of_ble_eq_true rfl) dX6_in_19 ⟨Nat.le_of_ble_eq_true rfl, Nat.le_of_ble_eq_true rfl⟩) J (fun r2 _ H locs w2 hP hD hS => ?_)
  have hP : va_P D.1 vwCl [(m0, .inr (6, [.int th, .int (nI M.1), .ref m1, .ref m2, .int (nI bt), .ref m3, .int (nI ln), .ref m4, .ref m5, .int (nI cl), .ref m6, .ref m7, .ref m8, .ref m9, .ref m10, .ref m11, .ref m12, .int (nI pn), .ref m13, .ref m14])), (m7, .inl (D.2 0, 4, .inl (fun i => nI (ly i)))), (m8, .inl (D.2 0, 48, .inl lp)), (m9, .inl (D.2 0, 48, .inl lq))] H := hP
  have hD : va_D A [(m0, .inr (6, [.int th, .int (nI M.1), .ref m1, .ref m2, .int (nI bt), .ref m3, .int (nI ln), .ref m4, .ref m5, .int (nI cl), .ref m6, .ref m7, .ref m8, .ref m9, .ref m10, .ref m11, .ref m12, .int (nI pn), .ref m13, .ref m14])), (m7, .inl (D.2 0, 4, .inl (fun i => nI (ly i)))), (m8, .inl (D.2 0, 48, .inl lp)), (m9, .inl (D.2 0, 48, .inl lq))] := hD
  have f2 : (r2 = 1 ∧ zin p2 3) ∨ (r2 = 0 ∧ ¬ zin p2 3) := z_lz 2 (by decide) (by decide) w2
  refine lv_if_ne (tgt := 29) hx hb dX6_in_22 (by decide) (fun c2 => ?_) (fun c2 => ?_)
  · skip
    have ar := z_b1 f2 c2
    refine lv_iconst (v := 0) hx hb dX6_in_29 (by decide) ?_
    refine lv_iconst (v := 0) hx hb dX6_in_30 (by decide) ?_
    refine lv_iconst (v := 0) hx hb dX6_in_31 (by decide) ?_
    refine lv_iconst (v := 0) hx hb dX6_in_32 (by decide) ?_
    have J := zJ.mk (wc := [(m0, .inr (6, [.int th, .int (nI M.1), .ref m1, .ref m2, .int (nI bt), .ref m3, .int (nI ln), .ref m4, .ref m5, .int (nI cl), .ref m6, .ref m7, .ref m8, .ref m9, .ref m10, .ref m11, .ref m12, .int (nI pn), .ref m13, .ref m14]))]) (wr := [(m7, .inl (D.2 0, 4, .inl (fun i => nI (ly i)))), (m8, .inl (D.2 0, 48, .inl lp)), (m9, .inl (D.2 0, 48, .inl lq))]) hA hB hK hP hD hS [0] [1, 2, 3] rfl rfl (by decide)
    refine z_goi (z_runV (As := [.int 0, .int 0, .int 0, .int 0]) (rest := []) (b := m0) hF (d_throwing D m0 m1 m2 m3 m4 m5 m6 m7 m8 m9 m10 m11 m12 m13 m14 (M.1, fun _ => 0, fun _ => 0) bt ln cl pn th 0 0 0 0 H.size) (cwV 4 hZ (z_gV t_286 t_287 t_288 t_272 t_285) rfl rfl rfl (by decide +kernel) ⟨Nat.le_of_ble_eq_true rfl, Nat.le_of_ble_eq_true rfl⟩) J 0 6 rfl rfl rfl rfl hl.1 (Nat.le_of_ble_eq_true rfl) dX6_in_33 ⟨Nat.le_of_ble_eq_true rfl, Nat.le_of_ble_eq_true rfl⟩) J (fun r3 _ H locs w3 hP hD hS => ?_)
    have hP : va_P D.1 vwCl [(m7, .inl (D.2 0, 4, .inl (fun i => nI (ly i)))), (m8, .inl (D.2 0, 48, .inl lp)), (m9, .inl (D.2 0, 48, .inl lq)), (m0, .inr (6, [.int 0, .int (nI M.1), .ref m1, .ref m2, .int (nI bt), .ref m3, .int (nI ln), .ref m4, .ref m5, .int (nI cl), .ref m6, .ref m7, .ref m8, .ref m9, .ref m10, .ref m11, .ref m12, .int (nI pn), .ref m13, .ref m14]))] H := hP
    have hD : va_D A [(m7, .inl (D.2 0, 4, .inl (fun i => nI (ly i)))), (m8, .inl (D.2 0, 48, .inl lp)), (m9, .inl (D.2 0, 48, .inl lq)), (m0, .inr (6, [.int 0, .int (nI M.1), .ref m1, .ref m2, .int (nI bt), .ref m3, .int (nI ln), .ref m4, .ref m5, .int (nI cl), .ref m6, .ref m7, .ref m8, .ref m9, .ref m10, .ref m11, .ref m12, .int (nI pn), .ref m13, .ref m14]))] := hD
    have w3 : r3 = 0 := w3
    subst w3
    refine lv_if_eq (tgt := 41) hx hb dX6_in_36 (by decide) (fun c3 => ?_) (fun c3 => ?_)
    · skip
      refine lv_iload_n hx hb dX6_in_41 rfl (lv_at hl 2 rfl) ?_
      refine lv_if_ne (tgt := 51) hx hb dX6_in_42 (by decide) (fun c4 => ?_) (fun c4 => ?_)
      · skip
        refine lv_iload_n hx hb dX6_in_51 rfl (lv_at hl 2 rfl) ?_
        refine lv_iconst (v := 2) hx hb dX6_in_52 (by decide) ?_
        refine lv_icmp_ne (tgt := 64) hx hb dX6_in_53 (by decide) (fun c5 => ?_) (fun c5 => ?_)
        · skip
          refine lv_lconst (v := 0) hx hb dX6_in_64 (by decide) ?_
          refine lv_lstore_n (lv' := [(3, .long 0), (0, .ref m0), (1, .int (nI j)), (2, .int p2)]) hx hb dX6_in_65 rfl hl (by decide) rfl (fun ls hl => ?_)
          refine lv_iconst (v := 0) hx hb dX6_in_66 (by decide) ?_
          refine lv_istore (lv' := [(5, .int 0), (3, .long 0), (0, .ref m0), (1, .int (nI j)), (2, .int p2)]) hx hb dX6_in_67 hl (by decide) rfl (fun ls hl => ?_)
          have lo1 : ∀ (nn : Nat) (k : Nat), k ≤ (ly j) → (ly j) + 1 ≤ k + nn → ∀ (H : Heap) (locs : List Loc), va_P D.1 vwCl [(m7, .inl (D.2 0, 4, .inl (fun i => nI (ly i)))), (m8, .inl (D.2 0, 48, .inl lp)), (m9, .inl (D.2 0, 48, .inl lq)), (m0, .inr (6, [.int 0, .int (nI M.1), .ref m1, .ref m2, .int (nI bt), .ref m3, .int (nI ln), .ref m4, .ref m5, .int (nI cl), .ref m6, .ref m7, .ref m8, .ref m9, .ref m10, .ref m11, .ref m12, .int (nI pn), .ref m13, .ref m14]))] H → va_D A [(m7, .inl (D.2 0, 4, .inl (fun i => nI (ly i)))), (m8, .inl (D.2 0, 48, .inl lp)), (m9, .inl (D.2 0, 48, .inl lq)), (m0, .inr (6, [.int 0, .int (nI M.1), .ref m1, .ref m2, .int (nI bt), .ref m3, .int (nI ln), .ref m4, .ref m5, .int (nI cl), .ref m6, .ref m7, .ref m8, .ref m9, .ref m10, .ref m11, .ref m12, .int (nI pn), .ref m13, .ref m14]))] → va_S A s.heap H locs → ∀ (ls : Array Slot), lv_has ls 6 [(0, .ref m0), (1, .int (nI j)), (2, .int p2), (3, .long (zm_worth lp lq (12 * j) k)), (5, .int (nI k))] → W p l e (headSpec wsX6_in ({ frames := 1, cells := 0, slots := 0, locals := 25 })).room s m [.ref m0, .int (nI j), .int p2].toArray below meth c H locs 0 0 (MQ below (va_Ql (fun r (u : Option Int32) => (u = none ∧ (zin p2 3) ∧ ((p2 = 0 ∧ r = zm_lsum lp (12 * j) (ly j)) ∨ (p2 = 2 ∧ r = (nI (ly j)).toInt64) ∨ (¬ p2 = 0 ∧ ¬ p2 = 2 ∧ r = zm_worth lp lq (12 * j) (ly j)))) ∨ (u = some 1 ∧ ¬ (zin p2 3))) (zq D A (fun (u : Option Int32) => (u.elim [(m0, .inr (6, [.int 0, .int (nI M.1), .ref m1, .ref m2, .int (nI bt), .ref m3, .int (nI ln), .ref m4, .ref m5, .int (nI cl), .ref m6, .ref m7, .ref m8, .ref m9, .ref m10, .ref m11, .ref m12, .int (nI pn), .ref m13, .ref m14])), (m7, .inl (D.2 0, 4, .inl (fun i => nI (ly i)))), (m8, .inl (D.2 0, 48, .inl lp)), (m9, .inl (D.2 0, 48, .inl lq))] (fun t => [(m0, .inr (6, [.int t, .int (nI M.1), .ref m1, .ref m2, .int (nI bt), .ref m3, .int (nI ln), .ref m4, .ref m5, .int (nI cl), .ref m6, .ref m7, .ref m8, .ref m9, .ref m10, .ref m11, .ref m12, .int (nI pn), .ref m13, .ref m14])), (m7, .inl (D.2 0, 4, .inl (fun i => nI (ly i)))), (m8, .inl (D.2 0, 48, .inl lp)), (m9, .inl (D.2 0, 48, .inl lq))]) : va_W))) A) [.ref m0, .int (nI j), .int p2].toArray s 0 0 A) (F0 m 69 ls []) := by
            intro nn
            induction nn with
            | zero =>
              intro k q1 q2
              exfalso
              omega
            | succ nn ih_lo1 =>
              intro k q1 q2 H locs hP hD hS ls hl
              refine lv_iload hx hb dX6_in_69 (lv_at hl 4 rfl) ?_
              refine lv_aload_n hx hb dX6_in_71 rfl (lv_at hl 0 rfl) ?_
              refine va_get (D := D.1) (ci := 6) (v := .ref m7) (C := "ShopLedgerModel") (T := TX6) (N := 20) hx hb hZ inX6 hown hK hP 3 rfl rfl 11 (by decide) (hZ _ t_312) (fun _ h9 => h9) rfl dX6_in_72 ?_
              refine lv_iload_n hx hb dX6_in_75 rfl (lv_at hl 1 rfl) ?_
              refine z_iald (k := j) hx hb hK hP 0 rfl (hj) (by decide) dX6_in_76 ?_
              refine lv_icmp_ge (tgt := 116) hx hb dX6_in_77 (by decide) (fun c6 => ?_) (fun c6 => ?_)
              · skip
                have e9 : ly j = k := (z_ge q1 (by omega) c6).symm
                subst e9
                refine lv_lload_n hx hb dX6_in_116 rfl (lv_at hl 3 rfl) ?_
                exact z_lret (v := zm_worth lp lq (12 * j) (ly j)) hx hb hr hlocks hP hD hS none (Or.inl ⟨rfl, ar, Or.inr (Or.inr ⟨c4, c5, rfl⟩)⟩) [3, 0, 1, 2] rfl (by decide) (Nat.le_of_ble_eq_true rfl) (Nat.le_of_ble_eq_true rfl) dX6_in_117
              have hk : k < ly j := z_lt q1 (by omega) c6
              refine lv_lload_n hx hb dX6_in_80 rfl (lv_at hl 3 rfl) ?_
              refine lv_aload_n hx hb dX6_in_81 rfl (lv_at hl 0 rfl) ?_
              refine va_get (D := D.1) (ci := 6) (v := .ref m8) (C := "ShopLedgerModel") (T := TX6) (N := 20) hx hb hZ inX6 hown hK hP 3 rfl rfl 12 (by decide) (hZ _ t_313) (fun _ h9 => h9) rfl dX6_in_82 ?_
              refine lv_bipush (v := 12) hx hb dX6_in_85 (by decide) ?_
              refine lv_iload_n hx hb dX6_in_87 rfl (lv_at hl 1 rfl) ?_
              refine lv_imul hx hb dX6_in_88 ?_
              rw [show (12 * (nI j)) = nI (12 * j) from pk_mul 12 j]
              refine lv_iload hx hb dX6_in_89 (lv_at hl 4 rfl) ?_
              refine lv_iadd hx hb dX6_in_91 ?_
              rw [show ((nI (12 * j)) + (nI k)) = nI (12 * j + k) from nI_add _ _]
              refine z_iald (k := 12 * j + k) hx hb hK hP 1 rfl (by omega) (by decide) dX6_in_92 ?_
              refine lv_i2l (v := (lp (12 * j + k)).toInt64) hx hb dX6_in_93 rfl ?_
              refine lv_aload_n hx hb dX6_in_94 rfl (lv_at hl 0 rfl) ?_
              refine va_get (D := D.1) (ci := 6) (v := .ref m9) (C := "ShopLedgerModel") (T := TX6) (N := 20) hx hb hZ inX6 hown hK hP 3 rfl rfl 13 (by decide) (hZ _ t_315) (fun _ h9 => h9) rfl dX6_in_95 ?_
              refine lv_bipush (v := 12) hx hb dX6_in_98 (by decide) ?_
              refine lv_iload_n hx hb dX6_in_100 rfl (lv_at hl 1 rfl) ?_
              refine lv_imul hx hb dX6_in_101 ?_
              rw [show (12 * (nI j)) = nI (12 * j) from pk_mul 12 j]
              refine lv_iload hx hb dX6_in_102 (lv_at hl 4 rfl) ?_
              refine lv_iadd hx hb dX6_in_104 ?_
              rw [show ((nI (12 * j)) + (nI k)) = nI (12 * j + k) from nI_add _ _]
              refine z_iald (k := 12 * j + k) hx hb hK hP 2 rfl (by omega) (by decide) dX6_in_105 ?_
              refine lv_i2l (v := (lq (12 * j + k)).toInt64) hx hb dX6_in_106 rfl ?_
              refine lv_lmul hx hb dX6_in_107 ?_
              refine lv_ladd hx hb dX6_in_108 ?_
              rw [show ((zm_worth lp lq (12 * j) k) + (((lp (12 * j + k)).toInt64) * ((lq (12 * j + k)).toInt64))) = zm_worth lp lq (12 * j) (k + 1) from rfl]
              refine lv_lstore_n (lv' := [(3, .long (zm_worth lp lq (12 * j) (k + 1))), (0, .ref m0), (1, .int (nI j)), (2, .int p2), (5, .int (nI k))]) hx hb dX6_in_109 rfl hl (by decide) rfl (fun ls hl => ?_)
              refine lv_iinc (v := nI (k + 1)) (lv' := [(5, .int (nI (k + 1))), (3, .long (zm_worth lp lq (12 * j) (k + 1))), (0, .ref m0), (1, .int (nI j)), (2, .int p2)]) hx hb dX6_in_110 hl (k := 4) rfl (nI_1 k) (by decide) rfl (fun ls hl => ?_)
              refine lv_goto (tgt := 69) hx hb dX6_in_113 (by decide) ?_
              exact ih_lo1 (k + 1) (Nat.succ_le_of_lt hk) (by omega)  _ _ (hP.sub [0, 1, 2, 3] rfl) (hD.sub [0, 1, 2, 3] (by decide) rfl) hS ls (lv_sub hl [2, 3, 4, 1, 0] rfl)
          exact lo1 ((ly j) + 1) 0 (Nat.zero_le _) (by omega)  _ _ (hP.sub [0, 1, 2, 3] rfl) (hD.sub [0, 1, 2, 3] (by decide) rfl) hS ls (lv_sub hl [2, 3, 4, 1, 0] rfl)
        refine lv_aload_n hx hb dX6_in_56 rfl (lv_at hl 0 rfl) ?_
        refine va_get (D := D.1) (ci := 6) (v := .ref m7) (C := "ShopLedgerModel") (T := TX6) (N := 20) hx hb hZ inX6 hown hK hP 3 rfl rfl 11 (by decide) (hZ _ t_312) (fun _ h9 => h9) rfl dX6_in_57 ?_
        refine lv_iload_n hx hb dX6_in_60 rfl (lv_at hl 1 rfl) ?_
        refine z_iald (k := j) hx hb hK hP 0 rfl (hj) (by decide) dX6_in_61 ?_
        refine lv_i2l (v := (nI (ly j)).toInt64) hx hb dX6_in_62 rfl ?_
        exact z_lret (v := (nI (ly j)).toInt64) hx hb hr hlocks hP hD hS none (Or.inl ⟨rfl, ar, Or.inr (Or.inl ⟨c5, rfl⟩)⟩) [3, 0, 1, 2] rfl (by decide) (Nat.le_of_ble_eq_true rfl) (Nat.le_of_ble_eq_true rfl) dX6_in_63
      refine lv_aload_n hx hb dX6_in_45 rfl (lv_at hl 0 rfl) ?_
      refine lv_iload_n hx hb dX6_in_46 rfl (lv_at hl 1 rfl) ?_
      have J := zJ.mk (wc := [(m0, .inr (6, [.int 0, .int (nI M.1), .ref m1, .ref m2, .int (nI bt), .ref m3, .int (nI ln), .ref m4, .ref m5, .int (nI cl), .ref m6, .ref m7, .ref m8, .ref m9, .ref m10, .ref m11, .ref m12, .int (nI pn), .ref m13, .ref m14])), (m7, .inl (D.2 0, 4, .inl (fun i => nI (ly i)))), (m8, .inl (D.2 0, 48, .inl lp))]) (wr := [(m9, .inl (D.2 0, 48, .inl lq))]) hA hB hK hP hD hS [3, 0, 1] [2] rfl rfl (by decide)
      refine z_gol (z_runV (As := [.int (nI j)]) (rest := []) (b := m0) hF (d_stocked D m0 m1 m2 m3 m4 m5 m6 m7 m8 m9 m10 m11 m12 m13 m14 M bt ln cl pn 0 ly lp lq j H.size hj hy) (cwV 1 hZ (z_gV t_318 t_319 t_320 t_272 t_317) rfl rfl rfl (by decide +kernel) ⟨Nat.le_of_ble_eq_true rfl, Nat.le_of_ble_eq_true rfl⟩) J 0 6 rfl rfl rfl rfl hl.1 (Nat.le_of_ble_eq_true rfl) dX6_in_47 ⟨Nat.le_of_ble_eq_true rfl, Nat.le_of_ble_eq_true rfl⟩) J (fun r4 _ H locs w4 hP hD hS => ?_)
      have hP : va_P D.1 vwCl [(m9, .inl (D.2 0, 48, .inl lq)), (m0, .inr (6, [.int 0, .int (nI M.1), .ref m1, .ref m2, .int (nI bt), .ref m3, .int (nI ln), .ref m4, .ref m5, .int (nI cl), .ref m6, .ref m7, .ref m8, .ref m9, .ref m10, .ref m11, .ref m12, .int (nI pn), .ref m13, .ref m14])), (m7, .inl (D.2 0, 4, .inl (fun i => nI (ly i)))), (m8, .inl (D.2 0, 48, .inl lp))] H := hP
      have hD : va_D A [(m9, .inl (D.2 0, 48, .inl lq)), (m0, .inr (6, [.int 0, .int (nI M.1), .ref m1, .ref m2, .int (nI bt), .ref m3, .int (nI ln), .ref m4, .ref m5, .int (nI cl), .ref m6, .ref m7, .ref m8, .ref m9, .ref m10, .ref m11, .ref m12, .int (nI pn), .ref m13, .ref m14])), (m7, .inl (D.2 0, 4, .inl (fun i => nI (ly i)))), (m8, .inl (D.2 0, 48, .inl lp))] := hD
      subst w4
      exact z_lret (v := zm_lsum lp (12 * j) (ly j)) hx hb hr hlocks hP hD hS none (Or.inl ⟨rfl, ar, Or.inl ⟨c4, rfl⟩⟩) [1, 2, 3, 0] rfl (by decide) (Nat.le_of_ble_eq_true rfl) (Nat.le_of_ble_eq_true rfl) dX6_in_50
    exfalso; exact absurd c3 (by decide)
  have ar := z_b0 f2 c2
  refine lv_iconst (v := 1) hx hb dX6_in_25 (by decide) ?_
  refine lv_goto (tgt := 30) hx hb dX6_in_26 (by decide) ?_
  refine lv_iconst (v := 0) hx hb dX6_in_30 (by decide) ?_
  refine lv_iconst (v := 0) hx hb dX6_in_31 (by decide) ?_
  refine lv_iconst (v := 0) hx hb dX6_in_32 (by decide) ?_
  have J := zJ.mk (wc := [(m0, .inr (6, [.int th, .int (nI M.1), .ref m1, .ref m2, .int (nI bt), .ref m3, .int (nI ln), .ref m4, .ref m5, .int (nI cl), .ref m6, .ref m7, .ref m8, .ref m9, .ref m10, .ref m11, .ref m12, .int (nI pn), .ref m13, .ref m14]))]) (wr := [(m7, .inl (D.2 0, 4, .inl (fun i => nI (ly i)))), (m8, .inl (D.2 0, 48, .inl lp)), (m9, .inl (D.2 0, 48, .inl lq))]) hA hB hK hP hD hS [0] [1, 2, 3] rfl rfl (by decide)
  refine z_goi (z_runV (As := [.int 1, .int 0, .int 0, .int 0]) (rest := []) (b := m0) hF (d_throwing D m0 m1 m2 m3 m4 m5 m6 m7 m8 m9 m10 m11 m12 m13 m14 (M.1, fun _ => 0, fun _ => 0) bt ln cl pn th 1 0 0 0 H.size) (cwV 4 hZ (z_gV t_286 t_287 t_288 t_272 t_285) rfl rfl rfl (by decide +kernel) ⟨Nat.le_of_ble_eq_true rfl, Nat.le_of_ble_eq_true rfl⟩) J 0 6 rfl rfl rfl rfl hl.1 (Nat.le_of_ble_eq_true rfl) dX6_in_33 ⟨Nat.le_of_ble_eq_true rfl, Nat.le_of_ble_eq_true rfl⟩) J (fun r3 _ H locs w3 hP hD hS => ?_)
  have hP : va_P D.1 vwCl [(m7, .inl (D.2 0, 4, .inl (fun i => nI (ly i)))), (m8, .inl (D.2 0, 48, .inl lp)), (m9, .inl (D.2 0, 48, .inl lq)), (m0, .inr (6, [.int 1, .int (nI M.1), .ref m1, .ref m2, .int (nI bt), .ref m3, .int (nI ln), .ref m4, .ref m5, .int (nI cl), .ref m6, .ref m7, .ref m8, .ref m9, .ref m10, .ref m11, .ref m12, .int (nI pn), .ref m13, .ref m14]))] H := hP
  have hD : va_D A [(m7, .inl (D.2 0, 4, .inl (fun i => nI (ly i)))), (m8, .inl (D.2 0, 48, .inl lp)), (m9, .inl (D.2 0, 48, .inl lq)), (m0, .inr (6, [.int 1, .int (nI M.1), .ref m1, .ref m2, .int (nI bt), .ref m3, .int (nI ln), .ref m4, .ref m5, .int (nI cl), .ref m6, .ref m7, .ref m8, .ref m9, .ref m10, .ref m11, .ref m12, .int (nI pn), .ref m13, .ref m14]))] := hD
  have w3 : r3 = 1 := w3
  subst w3
  refine lv_if_eq (tgt := 41) hx hb dX6_in_36 (by decide) (fun c3 => ?_) (fun c3 => ?_)
  · skip
    exfalso; exact absurd c3 (by decide)
  refine lv_lconst (v := 0) hx hb dX6_in_39 (by decide) ?_
  exact z_lret (v := 0) hx hb hr hlocks hP hD hS (some 1) (Or.inr (⟨rfl, ar⟩)) [3, 0, 1, 2] rfl (by decide) (Nat.le_of_ble_eq_true rfl) (Nat.le_of_ble_eq_true rfl) dX6_in_40
set_option maxHeartbeats 4000000 in
set_option maxRecDepth 100000 in
/-- the reference: in -/
theorem d_inX {l : Launch} (D : zD) (m0 m1 m2 m3 m4 m5 m6 m7 m8 m9 m10 m11 m12 m13 m14 : Nat) (M : zM) (bt ln cl pn : Nat) (th : Int32) (p1 p2 : Int32) (sz : Nat) (hp : ¬ zin p1 4) : Met l yX6_in wsX6_in ({ frames := 1, cells := 0, slots := 0, locals := 25 }) (va_Pc [.ref m0, .int p1, .int p2] (zp D sz [(m0, .inr (6, [.int th, .int (nI M.1), .ref m1, .ref m2, .int (nI bt), .ref m3, .int (nI ln), .ref m4, .ref m5, .int (nI cl), .ref m6, .ref m7, .ref m8, .ref m9, .ref m10, .ref m11, .ref m12, .int (nI pn), .ref m13, .ref m14]))])) (va_Ql (fun r (u : Option Int32) => (u = none ∧ (zin p1 4) ∧ r = 0) ∨ (u = some 1 ∧ ¬ (zin p1 4))) (zq D (va_A [(m0, .inr (6, [.int th, .int (nI M.1), .ref m1, .ref m2, .int (nI bt), .ref m3, .int (nI ln), .ref m4, .ref m5, .int (nI cl), .ref m6, .ref m7, .ref m8, .ref m9, .ref m10, .ref m11, .ref m12, .int (nI pn), .ref m13, .ref m14]))] sz) (fun (u : Option Int32) => (u.elim [(m0, .inr (6, [.int 0, .int (nI M.1), .ref m1, .ref m2, .int (nI bt), .ref m3, .int (nI ln), .ref m4, .ref m5, .int (nI cl), .ref m6, .ref m7, .ref m8, .ref m9, .ref m10, .ref m11, .ref m12, .int (nI pn), .ref m13, .ref m14]))] (fun t => [(m0, .inr (6, [.int t, .int (nI M.1), .ref m1, .ref m2, .int (nI bt), .ref m3, .int (nI ln), .ref m4, .ref m5, .int (nI cl), .ref m6, .ref m7, .ref m8, .ref m9, .ref m10, .ref m11, .ref m12, .int (nI pn), .ref m13, .ref m14]))]) : va_W))) (va_A [(m0, .inr (6, [.int th, .int (nI M.1), .ref m1, .ref m2, .int (nI bt), .ref m3, .int (nI ln), .ref m4, .ref m5, .int (nI cl), .ref m6, .ref m7, .ref m8, .ref m9, .ref m10, .ref m11, .ref m12, .int (nI pn), .ref m13, .ref m14]))] sz)) 0 0 (va_A [(m0, .inr (6, [.int th, .int (nI M.1), .ref m1, .ref m2, .int (nI bt), .ref m3, .int (nI ln), .ref m4, .ref m5, .int (nI cl), .ref m6, .ref m7, .ref m8, .ref m9, .ref m10, .ref m11, .ref m12, .int (nI pn), .ref m13, .ref m14]))] sz) := by
  refine Met.ofW (cc := cX6_in) (maxL := 6) (ret := (some .long)) (by decide) rfl ?_
  intro p e s m args below meth c s₁ B hml hv
  obtain ⟨rfl, hsz, hP, hK, hD0, hB⟩ := hv
  have hx := B.exec
  have hb := B.bytes
  have hr := B.returns
  have hts := atoms_spec (ws := wsX6_in) B.pre
  have hown : s.vm.findClass "ShopLedgerModel" = some m.cls := findClass_of_methodNamed B.named
  have hlocks := B.notSynchronized
  subst hsz
  have hD := hD0.self (sz := s.heap.size)
  generalize hAe : va_A [(m0, .inr (6, [.int th, .int (nI M.1), .ref m1, .ref m2, .int (nI bt), .ref m3, .int (nI ln), .ref m4, .ref m5, .int (nI cl), .ref m6, .ref m7, .ref m8, .ref m9, .ref m10, .ref m11, .ref m12, .int (nI pn), .ref m13, .ref m14]))] s.heap.size = A at hD hB ⊢
  have hA : ∀ q : Nat, s.heap.size ≤ q → A q := fun q h => by rw [← hAe]; exact Or.inr h
  have hS : va_S A s.heap s.heap [] := va_S.rf
  have hZ : ∀ w ∈ zALL, w.before _ s = true := fun w h => hts w (List.mem_cons_of_mem _ h)
  have hF : CallFix p m c cX6_in 6 s _ zALL "ShopLedgerModel" := ⟨hx, hb, hml, hown, hZ⟩
  have hl := lv_entry ([.ref m0, .int p1, .int p2]) (n := 6) (Nat.le_of_ble_eq_true rfl)
  rw [lg_entry_eq]
  generalize (lg_sl ([.ref m0, .int p1, .int p2]) ++ List.replicate (6 - (lg_sl ([.ref m0, .int p1, .int p2])).length) Slot.unset).toArray = ls at hl ⊢
  have hl : lv_has ls 6 [(0, .ref m0), (1, .int p1), (2, .int p2)] := hl
  refine lv_aload_n hx hb dX6_in_0 rfl (lv_at hl 0 rfl) ?_
  refine lv_iload_n hx hb dX6_in_1 rfl (lv_at hl 1 rfl) ?_
  refine lv_i2l (v := p1.toInt64) hx hb dX6_in_2 rfl ?_
  refine lv_lconst (v := 0) hx hb dX6_in_3 (by decide) ?_
  refine lv_ldc2 (v := 3) hx hb hown (hZ _ t_314) dX6_in_4 ?_
  have J := zJ.mk (wc := []) (wr := [(m0, .inr (6, [.int th, .int (nI M.1), .ref m1, .ref m2, .int (nI bt), .ref m3, .int (nI ln), .ref m4, .ref m5, .int (nI cl), .ref m6, .ref m7, .ref m8, .ref m9, .ref m10, .ref m11, .ref m12, .int (nI pn), .ref m13, .ref m14]))]) hA hB hK hP hD hS [] [0] rfl rfl (by decide)
  refine z_goi (z_runS (As := [.long p1.toInt64, .long 0, .long 3]) (rest := [.ref m0]) hF (d_lies D p1.toInt64 0 3 s.heap.size) (va_cwS 3 hZ (z_gS t_273 t_274 t_272 t_271) rfl rfl rfl (by decide +kernel) ⟨Nat.le_of_ble_eq_true rfl, Nat.le_of_ble_eq_true rfl⟩) J rfl hl.1 (Nat.le_of_ble_eq_true rfl) dX6_in_7 ⟨Nat.le_of_ble_eq_true rfl, Nat.le_of_ble_eq_true rfl⟩) J (fun r1 _ H locs w1 hP hD hS => ?_)
  have hP : va_P D.1 vwCl [(m0, .inr (6, [.int th, .int (nI M.1), .ref m1, .ref m2, .int (nI bt), .ref m3, .int (nI ln), .ref m4, .ref m5, .int (nI cl), .ref m6, .ref m7, .ref m8, .ref m9, .ref m10, .ref m11, .ref m12, .int (nI pn), .ref m13, .ref m14]))] H := hP
  have hD : va_D A [(m0, .inr (6, [.int th, .int (nI M.1), .ref m1, .ref m2, .int (nI bt), .ref m3, .int (nI ln), .ref m4, .ref m5, .int (nI cl), .ref m6, .ref m7, .ref m8, .ref m9, .ref m10, .ref m11, .ref m12, .int (nI pn), .ref m13, .ref m14]))] := hD
  have f1 : (r1 = 1 ∧ zin p1 4) ∨ (r1 = 0 ∧ ¬ zin p1 4) := z_lz 3 (by decide) (by decide) w1
  refine lv_if_eq (tgt := 25) hx hb dX6_in_10 (by decide) (fun c1 => ?_) (fun c1 => ?_)
  · skip
    refine lv_iconst (v := 1) hx hb dX6_in_25 (by decide) ?_
    refine lv_goto (tgt := 30) hx hb dX6_in_26 (by decide) ?_
    refine lv_iconst (v := 0) hx hb dX6_in_30 (by decide) ?_
    refine lv_iconst (v := 0) hx hb dX6_in_31 (by decide) ?_
    refine lv_iconst (v := 0) hx hb dX6_in_32 (by decide) ?_
    have J := zJ.mk (wc := [(m0, .inr (6, [.int th, .int (nI M.1), .ref m1, .ref m2, .int (nI bt), .ref m3, .int (nI ln), .ref m4, .ref m5, .int (nI cl), .ref m6, .ref m7, .ref m8, .ref m9, .ref m10, .ref m11, .ref m12, .int (nI pn), .ref m13, .ref m14]))]) (wr := []) hA hB hK hP hD hS [0] [] rfl rfl (by decide)
    refine z_goi (z_runV (As := [.int 1, .int 0, .int 0, .int 0]) (rest := []) (b := m0) hF (d_throwing D m0 m1 m2 m3 m4 m5 m6 m7 m8 m9 m10 m11 m12 m13 m14 (M.1, fun _ => 0, fun _ => 0) bt ln cl pn th 1 0 0 0 H.size) (cwV 4 hZ (z_gV t_286 t_287 t_288 t_272 t_285) rfl rfl rfl (by decide +kernel) ⟨Nat.le_of_ble_eq_true rfl, Nat.le_of_ble_eq_true rfl⟩) J 0 6 rfl rfl rfl rfl hl.1 (Nat.le_of_ble_eq_true rfl) dX6_in_33 ⟨Nat.le_of_ble_eq_true rfl, Nat.le_of_ble_eq_true rfl⟩) J (fun r3 _ H locs w3 hP hD hS => ?_)
    have hP : va_P D.1 vwCl [(m0, .inr (6, [.int 1, .int (nI M.1), .ref m1, .ref m2, .int (nI bt), .ref m3, .int (nI ln), .ref m4, .ref m5, .int (nI cl), .ref m6, .ref m7, .ref m8, .ref m9, .ref m10, .ref m11, .ref m12, .int (nI pn), .ref m13, .ref m14]))] H := hP
    have hD : va_D A [(m0, .inr (6, [.int 1, .int (nI M.1), .ref m1, .ref m2, .int (nI bt), .ref m3, .int (nI ln), .ref m4, .ref m5, .int (nI cl), .ref m6, .ref m7, .ref m8, .ref m9, .ref m10, .ref m11, .ref m12, .int (nI pn), .ref m13, .ref m14]))] := hD
    have w3 : r3 = 1 := w3
    subst w3
    refine lv_if_eq (tgt := 41) hx hb dX6_in_36 (by decide) (fun c3 => ?_) (fun c3 => ?_)
    · skip
      exfalso; exact absurd c3 (by decide)
    refine lv_lconst (v := 0) hx hb dX6_in_39 (by decide) ?_
    exact z_lret (v := 0) hx hb hr hlocks hP hD hS (some 1) (Or.inr (⟨rfl, hp⟩)) [0] rfl (by decide) (Nat.le_of_ble_eq_true rfl) (Nat.le_of_ble_eq_true rfl) dX6_in_40
  exfalso; exact hp (z_b1 f1 c1)
