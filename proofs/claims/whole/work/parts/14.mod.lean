theorem t_269 : (Cond.fieldLink "ShopLedgerModel" 52 "ShopLedgerModel" "thrown" "I" : Cond) ∈ zALL := List.mem_filter.mpr ⟨List.mem_append_right _ (List.mem_append_right _ (List.mem_append_right _ (List.mem_of_getElem? (l := tables_1_3) (i := 56) (by decide +kernel)))), by decide +kernel⟩
theorem t_270 : (Cond.constantLong "ShopLedgerModel" 56 7 : Cond) ∈ zALL := List.mem_filter.mpr ⟨List.mem_append_right _ (List.mem_append_right _ (List.mem_append_right _ (List.mem_of_getElem? (l := tables_1_3) (i := 133) (by decide +kernel)))), by decide +kernel⟩
theorem t_271 : (Cond.code ⟨"ShopLedgerModel", "lies", "(JJJ)Z"⟩ prog_8_method_4_code 6 (some .boolean) : Cond) ∈ zALL := List.mem_filter.mpr ⟨List.mem_append_right _ (List.mem_append_right _ (List.mem_append_right _ (List.mem_of_getElem? (l := tables_1_3) (i := 129) (by decide +kernel)))), by decide +kernel⟩
theorem t_272 : (Cond.initialized "ShopLedgerModel" : Cond) ∈ zALL := List.mem_filter.mpr ⟨List.mem_append_right _ (List.mem_append_left _ (List.mem_of_getElem? (l := tables_1_1) (i := 7) (by decide +kernel))), by decide +kernel⟩
theorem t_273 : (Cond.methodLink "ShopLedgerModel" 58 ⟨"ShopLedgerModel", "lies", "(JJJ)Z"⟩ : Cond) ∈ zALL := List.mem_filter.mpr ⟨List.mem_append_right _ (List.mem_append_right _ (List.mem_append_right _ (List.mem_of_getElem? (l := tables_1_3) (i := 127) (by decide +kernel)))), by decide +kernel⟩
theorem t_274 : (Cond.static ⟨"ShopLedgerModel", "lies", "(JJJ)Z"⟩ : Cond) ∈ zALL := List.mem_filter.mpr ⟨List.mem_append_right _ (List.mem_append_right _ (List.mem_append_right _ (List.mem_of_getElem? (l := tables_1_3) (i := 128) (by decide +kernel)))), by decide +kernel⟩
theorem t_275 : (Cond.constantLong "ShopLedgerModel" 62 11 : Cond) ∈ zALL := List.mem_filter.mpr ⟨List.mem_append_right _ (List.mem_append_right _ (List.mem_append_right _ (List.mem_of_getElem? (l := tables_1_3) (i := 134) (by decide +kernel)))), by decide +kernel⟩
theorem t_276 : (Cond.fieldLink "ShopLedgerModel" 7 "ShopLedgerModel" "of" "[I" : Cond) ∈ zALL := List.mem_filter.mpr ⟨List.mem_append_right _ (List.mem_append_right _ (List.mem_append_right _ (List.mem_of_getElem? (l := tables_1_3) (i := 58) (by decide +kernel)))), by decide +kernel⟩
theorem t_277 : (Cond.fieldLink "ShopLedgerModel" 64 "ShopLedgerModel" "entries" "I" : Cond) ∈ zALL := List.mem_filter.mpr ⟨List.mem_append_right _ (List.mem_append_right _ (List.mem_append_right _ (List.mem_of_getElem? (l := tables_1_3) (i := 57) (by decide +kernel)))), by decide +kernel⟩
theorem t_278 : (Cond.fieldLink "ShopLedgerModel" 67 "ShopLedgerModel" "batches" "I" : Cond) ∈ zALL := List.mem_filter.mpr ⟨List.mem_append_right _ (List.mem_append_right _ (List.mem_append_right _ (List.mem_of_getElem? (l := tables_1_3) (i := 60) (by decide +kernel)))), by decide +kernel⟩
theorem t_279 : (Cond.fieldLink "ShopLedgerModel" 13 "ShopLedgerModel" "cents" "[I" : Cond) ∈ zALL := List.mem_filter.mpr ⟨List.mem_append_right _ (List.mem_append_right _ (List.mem_append_right _ (List.mem_of_getElem? (l := tables_1_3) (i := 59) (by decide +kernel)))), by decide +kernel⟩
theorem t_280 : (Cond.fieldLink "ShopLedgerModel" 16 "ShopLedgerModel" "marks" "[I" : Cond) ∈ zALL := List.mem_filter.mpr ⟨List.mem_append_right _ (List.mem_append_right _ (List.mem_append_right _ (List.mem_of_getElem? (l := tables_1_3) (i := 61) (by decide +kernel)))), by decide +kernel⟩
theorem t_281 : (Cond.code ⟨"ShopLedgerModel", "areThere", "(III)Z"⟩ prog_8_method_5_code 3 (some .boolean) : Cond) ∈ zALL := List.mem_filter.mpr ⟨List.mem_append_right _ (List.mem_append_right _ (List.mem_append_right _ (List.mem_of_getElem? (l := tables_1_3) (i := 132) (by decide +kernel)))), by decide +kernel⟩
theorem t_282 : (Cond.methodLink "ShopLedgerModel" 74 ⟨"ShopLedgerModel", "areThere", "(III)Z"⟩ : Cond) ∈ zALL := List.mem_filter.mpr ⟨List.mem_append_right _ (List.mem_append_right _ (List.mem_append_right _ (List.mem_of_getElem? (l := tables_1_3) (i := 130) (by decide +kernel)))), by decide +kernel⟩
theorem t_283 : (Cond.static ⟨"ShopLedgerModel", "areThere", "(III)Z"⟩ : Cond) ∈ zALL := List.mem_filter.mpr ⟨List.mem_append_right _ (List.mem_append_right _ (List.mem_append_right _ (List.mem_of_getElem? (l := tables_1_3) (i := 131) (by decide +kernel)))), by decide +kernel⟩
theorem t_284 : (Cond.fieldLink "ShopLedgerModel" 78 "ShopLedgerModel" "lines" "I" : Cond) ∈ zALL := List.mem_filter.mpr ⟨List.mem_append_right _ (List.mem_append_right _ (List.mem_append_right _ (List.mem_of_getElem? (l := tables_1_3) (i := 62) (by decide +kernel)))), by decide +kernel⟩
theorem t_285 : (Cond.code ⟨"ShopLedgerModel", "throwing", "(ZZZZ)Z"⟩ prog_8_method_3_code 5 (some .boolean) : Cond) ∈ zALL := List.mem_filter.mpr ⟨List.mem_append_right _ (List.mem_append_right _ (List.mem_append_right _ (List.mem_of_getElem? (l := tables_1_3) (i := 138) (by decide +kernel)))), by decide +kernel⟩
theorem t_286 : (Cond.methodLink "ShopLedgerModel" 81 ⟨"ShopLedgerModel", "throwing", "(ZZZZ)Z"⟩ : Cond) ∈ zALL := List.mem_filter.mpr ⟨List.mem_append_right _ (List.mem_append_right _ (List.mem_append_right _ (List.mem_of_getElem? (l := tables_1_3) (i := 135) (by decide +kernel)))), by decide +kernel⟩
theorem t_287 : (Cond.instanceMethod ⟨"ShopLedgerModel", "throwing", "(ZZZZ)Z"⟩ : Cond) ∈ zALL := List.mem_filter.mpr ⟨List.mem_append_right _ (List.mem_append_right _ (List.mem_append_right _ (List.mem_of_getElem? (l := tables_1_3) (i := 137) (by decide +kernel)))), by decide +kernel⟩
theorem t_288 : (Cond.selects "ShopLedgerModel" ⟨"ShopLedgerModel", "throwing", "(ZZZZ)Z"⟩ ⟨"ShopLedgerModel", "throwing", "(ZZZZ)Z"⟩ : Cond) ∈ zALL := List.mem_filter.mpr ⟨List.mem_append_left _ (by decide +kernel), by decide +kernel⟩
theorem t_289 : (Cond.constantLong "ShopLedgerModel" 70 (-1000000000) : Cond) ∈ zALL := List.mem_filter.mpr ⟨List.mem_append_right _ (List.mem_append_right _ (List.mem_append_right _ (List.mem_of_getElem? (l := tables_1_3) (i := 125) (by decide +kernel)))), by decide +kernel⟩
theorem t_290 : (Cond.constantLong "ShopLedgerModel" 72 1000000000 : Cond) ∈ zALL := List.mem_filter.mpr ⟨List.mem_append_right _ (List.mem_append_right _ (List.mem_append_right _ (List.mem_of_getElem? (l := tables_1_3) (i := 126) (by decide +kernel)))), by decide +kernel⟩
theorem t_291 : (Cond.fieldLink "ShopLedgerModel" 19 "ShopLedgerModel" "lineOf" "[I" : Cond) ∈ zALL := List.mem_filter.mpr ⟨List.mem_append_right _ (List.mem_append_right _ (List.mem_append_right _ (List.mem_of_getElem? (l := tables_1_3) (i := 63) (by decide +kernel)))), by decide +kernel⟩
theorem t_292 : (Cond.fieldLink "ShopLedgerModel" 22 "ShopLedgerModel" "lineCents" "[I" : Cond) ∈ zALL := List.mem_filter.mpr ⟨List.mem_append_right _ (List.mem_append_right _ (List.mem_append_right _ (List.mem_of_getElem? (l := tables_1_3) (i := 64) (by decide +kernel)))), by decide +kernel⟩
theorem t_293 : (Cond.fieldLink "ShopLedgerModel" 85 "ShopLedgerModel" "closed" "I" : Cond) ∈ zALL := List.mem_filter.mpr ⟨List.mem_append_right _ (List.mem_append_right _ (List.mem_append_right _ (List.mem_of_getElem? (l := tables_1_3) (i := 65) (by decide +kernel)))), by decide +kernel⟩
theorem t_294 : (Cond.constantLong "ShopLedgerModel" 100 4 : Cond) ∈ zALL := List.mem_filter.mpr ⟨List.mem_append_right _ (List.mem_append_right _ (List.mem_append_right _ (List.mem_of_getElem? (l := tables_1_3) (i := 179) (by decide +kernel)))), by decide +kernel⟩
theorem t_295 : (Cond.fieldLink "ShopLedgerModel" 102 "ShopLedgerModel" "pieces" "I" : Cond) ∈ zALL := List.mem_filter.mpr ⟨List.mem_append_right _ (List.mem_append_right _ (List.mem_append_right _ (List.mem_of_getElem? (l := tables_1_3) (i := 73) (by decide +kernel)))), by decide +kernel⟩
theorem t_296 : (Cond.constantLong "ShopLedgerModel" 105 1000000 : Cond) ∈ zALL := List.mem_filter.mpr ⟨List.mem_append_right _ (List.mem_append_right _ (List.mem_append_right _ (List.mem_of_getElem? (l := tables_1_3) (i := 184) (by decide +kernel)))), by decide +kernel⟩
theorem t_297 : (Cond.fieldLink "ShopLedgerModel" 25 "ShopLedgerModel" "weights" "[I" : Cond) ∈ zALL := List.mem_filter.mpr ⟨List.mem_append_right _ (List.mem_append_right _ (List.mem_append_right _ (List.mem_of_getElem? (l := tables_1_3) (i := 66) (by decide +kernel)))), by decide +kernel⟩
theorem t_298 : (Cond.fieldLink "ShopLedgerModel" 46 "ShopLedgerModel" "pieceOrder" "[I" : Cond) ∈ zALL := List.mem_filter.mpr ⟨List.mem_append_right _ (List.mem_append_right _ (List.mem_append_right _ (List.mem_of_getElem? (l := tables_1_3) (i := 74) (by decide +kernel)))), by decide +kernel⟩
theorem t_299 : (Cond.fieldLink "ShopLedgerModel" 49 "ShopLedgerModel" "pieceWeight" "[I" : Cond) ∈ zALL := List.mem_filter.mpr ⟨List.mem_append_right _ (List.mem_append_right _ (List.mem_append_right _ (List.mem_of_getElem? (l := tables_1_3) (i := 75) (by decide +kernel)))), by decide +kernel⟩
set_option maxHeartbeats 4000000 in
set_option maxRecDepth 100000 in
/-- the reference: thrown -/
theorem d_thrown {l : Launch} (D : zD) (m0 m1 m2 m3 m4 m5 m6 m7 m8 m9 m10 m11 m12 m13 m14 : Nat) (M : zM) (bt ln cl pn : Nat) (th : Int32) (sz : Nat) : Met l yX6_thrown wsX6_thrown ({ frames := 0, cells := 0, slots := 0, locals := 0 }) (va_Pc [.ref m0] (zp D sz [(m0, .inr (6, [.int th, .int (nI M.1), .ref m1, .ref m2, .int (nI bt), .ref m3, .int (nI ln), .ref m4, .ref m5, .int (nI cl), .ref m6, .ref m7, .ref m8, .ref m9, .ref m10, .ref m11, .ref m12, .int (nI pn), .ref m13, .ref m14]))])) (va_Qi (fun r (_ : Unit) => r = th) (zq D (va_A [(m0, .inr (6, [.int th, .int (nI M.1), .ref m1, .ref m2, .int (nI bt), .ref m3, .int (nI ln), .ref m4, .ref m5, .int (nI cl), .ref m6, .ref m7, .ref m8, .ref m9, .ref m10, .ref m11, .ref m12, .int (nI pn), .ref m13, .ref m14]))] sz) (fun (_ : Unit) => ([(m0, .inr (6, [.int th, .int (nI M.1), .ref m1, .ref m2, .int (nI bt), .ref m3, .int (nI ln), .ref m4, .ref m5, .int (nI cl), .ref m6, .ref m7, .ref m8, .ref m9, .ref m10, .ref m11, .ref m12, .int (nI pn), .ref m13, .ref m14]))] : va_W))) (va_A [(m0, .inr (6, [.int th, .int (nI M.1), .ref m1, .ref m2, .int (nI bt), .ref m3, .int (nI ln), .ref m4, .ref m5, .int (nI cl), .ref m6, .ref m7, .ref m8, .ref m9, .ref m10, .ref m11, .ref m12, .int (nI pn), .ref m13, .ref m14]))] sz)) 0 0 (va_A [(m0, .inr (6, [.int th, .int (nI M.1), .ref m1, .ref m2, .int (nI bt), .ref m3, .int (nI ln), .ref m4, .ref m5, .int (nI cl), .ref m6, .ref m7, .ref m8, .ref m9, .ref m10, .ref m11, .ref m12, .int (nI pn), .ref m13, .ref m14]))] sz) := by
  refine Met.ofW (cc := cX6_thrown) (maxL := 1) (ret := (some .int)) (by decide) rfl ?_
  intro p e s m args below meth c s₁ B hml hv
  obtain ⟨rfl, hsz, hP, hK, hD0, hB⟩ := hv
  have hx := B.exec
  have hb := B.bytes
  have hr := B.returns
  have hts := atoms_spec (ws := wsX6_thrown) B.pre
  have hown : s.vm.findClass "ShopLedgerModel" = some m.cls := findClass_of_methodNamed B.named
  have hlocks := B.notSynchronized
  subst hsz
  have hD := hD0.self (sz := s.heap.size)
  generalize hAe : va_A [(m0, .inr (6, [.int th, .int (nI M.1), .ref m1, .ref m2, .int (nI bt), .ref m3, .int (nI ln), .ref m4, .ref m5, .int (nI cl), .ref m6, .ref m7, .ref m8, .ref m9, .ref m10, .ref m11, .ref m12, .int (nI pn), .ref m13, .ref m14]))] s.heap.size = A at hD hB ⊢
  have hA : ∀ q : Nat, s.heap.size ≤ q → A q := fun q h => by rw [← hAe]; exact Or.inr h
  have hS : va_S A s.heap s.heap [] := va_S.rf
  have hZ : ∀ w ∈ zALL, w.before _ s = true := fun w h => hts w (List.mem_cons_of_mem _ h)
  have hF : CallFix p m c cX6_thrown 1 s _ zALL "ShopLedgerModel" := ⟨hx, hb, hml, hown, hZ⟩
  have hl := lv_entry ([.ref m0]) (n := 1) (Nat.le_of_ble_eq_true rfl)
  rw [lg_entry_eq]
  generalize (lg_sl ([.ref m0]) ++ List.replicate (1 - (lg_sl ([.ref m0])).length) Slot.unset).toArray = ls at hl ⊢
  have hl : lv_has ls 1 [(0, .ref m0)] := hl
  refine lv_aload_n hx hb dX6_thrown_0 rfl (lv_at hl 0 rfl) ?_
  refine va_get (D := D.1) (ci := 6) (v := .int th) (C := "ShopLedgerModel") (T := TX6) (N := 20) hx hb hZ inX6 hown hK hP 0 rfl rfl 0 (by decide) (hZ _ t_269) (fun _ h9 => h9) rfl dX6_thrown_1 ?_
  exact z_iret (v := th) hx hb hr hlocks hP hD hS () (rfl) [0] rfl (by decide) (Nat.le_of_ble_eq_true rfl) (Nat.le_of_ble_eq_true rfl) dX6_thrown_4
set_option maxHeartbeats 4000000 in
set_option maxRecDepth 100000 in
/-- the reference: throwing -/
theorem d_throwing {l : Launch} (D : zD) (m0 m1 m2 m3 m4 m5 m6 m7 m8 m9 m10 m11 m12 m13 m14 : Nat) (M : zM) (bt ln cl pn : Nat) (th : Int32) (a b c9 d9 : Int32) (sz : Nat) : Met l yX6_throwing wsX6_throwing ({ frames := 0, cells := 0, slots := 0, locals := 0 }) (va_Pc [.ref m0, .int a, .int b, .int c9, .int d9] (zp D sz [(m0, .inr (6, [.int th, .int (nI M.1), .ref m1, .ref m2, .int (nI bt), .ref m3, .int (nI ln), .ref m4, .ref m5, .int (nI cl), .ref m6, .ref m7, .ref m8, .ref m9, .ref m10, .ref m11, .ref m12, .int (nI pn), .ref m13, .ref m14]))])) (va_Qi (fun r (_ : Unit) => r = if zth a b c9 d9 = 0 then 0 else 1) (zq D (va_A [(m0, .inr (6, [.int th, .int (nI M.1), .ref m1, .ref m2, .int (nI bt), .ref m3, .int (nI ln), .ref m4, .ref m5, .int (nI cl), .ref m6, .ref m7, .ref m8, .ref m9, .ref m10, .ref m11, .ref m12, .int (nI pn), .ref m13, .ref m14]))] sz) (fun (_ : Unit) => ([(m0, .inr (6, [.int (zth a b c9 d9), .int (nI M.1), .ref m1, .ref m2, .int (nI bt), .ref m3, .int (nI ln), .ref m4, .ref m5, .int (nI cl), .ref m6, .ref m7, .ref m8, .ref m9, .ref m10, .ref m11, .ref m12, .int (nI pn), .ref m13, .ref m14]))] : va_W))) (va_A [(m0, .inr (6, [.int th, .int (nI M.1), .ref m1, .ref m2, .int (nI bt), .ref m3, .int (nI ln), .ref m4, .ref m5, .int (nI cl), .ref m6, .ref m7, .ref m8, .ref m9, .ref m10, .ref m11, .ref m12, .int (nI pn), .ref m13, .ref m14]))] sz)) 0 0 (va_A [(m0, .inr (6, [.int th, .int (nI M.1), .ref m1, .ref m2, .int (nI bt), .ref m3, .int (nI ln), .ref m4, .ref m5, .int (nI cl), .ref m6, .ref m7, .ref m8, .ref m9, .ref m10, .ref m11, .ref m12, .int (nI pn), .ref m13, .ref m14]))] sz) := by
  refine Met.ofW (cc := cX6_throwing) (maxL := 5) (ret := (some .boolean)) (by decide) rfl ?_
  intro p e s m args below meth c s₁ B hml hv
  obtain ⟨rfl, hsz, hP, hK, hD0, hB⟩ := hv
  have hx := B.exec
  have hb := B.bytes
  have hr := B.returns
  have hts := atoms_spec (ws := wsX6_throwing) B.pre
  have hown : s.vm.findClass "ShopLedgerModel" = some m.cls := findClass_of_methodNamed B.named
  have hlocks := B.notSynchronized
  subst hsz
  have hD := hD0.self (sz := s.heap.size)
  generalize hAe : va_A [(m0, .inr (6, [.int th, .int (nI M.1), .ref m1, .ref m2, .int (nI bt), .ref m3, .int (nI ln), .ref m4, .ref m5, .int (nI cl), .ref m6, .ref m7, .ref m8, .ref m9, .ref m10, .ref m11, .ref m12, .int (nI pn), .ref m13, .ref m14]))] s.heap.size = A at hD hB ⊢
  have hA : ∀ q : Nat, s.heap.size ≤ q → A q := fun q h => by rw [← hAe]; exact Or.inr h
  have hS : va_S A s.heap s.heap [] := va_S.rf
  have hZ : ∀ w ∈ zALL, w.before _ s = true := fun w h => hts w (List.mem_cons_of_mem _ h)
  have hF : CallFix p m c cX6_throwing 5 s _ zALL "ShopLedgerModel" := ⟨hx, hb, hml, hown, hZ⟩
  have hl := lv_entry ([.ref m0, .int a, .int b, .int c9, .int d9]) (n := 5) (Nat.le_of_ble_eq_true rfl)
  rw [lg_entry_eq]
  generalize (lg_sl ([.ref m0, .int a, .int b, .int c9, .int d9]) ++ List.replicate (5 - (lg_sl ([.ref m0, .int a, .int b, .int c9, .int d9])).length) Slot.unset).toArray = ls at hl ⊢
  have hl : lv_has ls 5 [(0, .ref m0), (1, .int a), (2, .int b), (3, .int c9), (4, .int d9)] := hl
  refine lv_aload_n hx hb dX6_throwing_0 rfl (lv_at hl 0 rfl) ?_
  refine lv_iload_n hx hb dX6_throwing_1 rfl (lv_at hl 1 rfl) ?_
  refine lv_if_eq (tgt := 9) hx hb dX6_throwing_2 (by decide) (fun c1 => ?_) (fun c1 => ?_)
  · skip
    refine lv_iload_n hx hb dX6_throwing_9 rfl (lv_at hl 2 rfl) ?_
    refine lv_if_eq (tgt := 17) hx hb dX6_throwing_10 (by decide) (fun c2 => ?_) (fun c2 => ?_)
    · skip
      refine lv_iload_n hx hb dX6_throwing_17 rfl (lv_at hl 3 rfl) ?_
      refine lv_if_eq (tgt := 25) hx hb dX6_throwing_18 (by decide) (fun c3 => ?_) (fun c3 => ?_)
      · skip
        refine lv_iload hx hb dX6_throwing_25 (lv_at hl 4 rfl) ?_
        refine lv_if_eq (tgt := 34) hx hb dX6_throwing_27 (by decide) (fun c4 => ?_) (fun c4 => ?_)
        · skip
          refine lv_iconst (v := 0) hx hb dX6_throwing_34 (by decide) ?_
          refine va_put (D := D.1) (ci := 6) (v := .int 0) (ty := .int) (C := "ShopLedgerModel") (T := TX6) (N := 20) hx hb hZ inX6 tyX6 tyX6_ok nmX6 hown hK hP hD hS 0 rfl rfl 0 (by decide) (hZ _ t_269) (fun _ h9 => h9) rfl (by decide +kernel) rfl rfl (Nat.le_of_ble_eq_true rfl) dX6_throwing_35 (fun H locs hP hD hS => ?_)
          have hP : va_P D.1 vwCl [(m0, .inr (6, [.int 0, .int (nI M.1), .ref m1, .ref m2, .int (nI bt), .ref m3, .int (nI ln), .ref m4, .ref m5, .int (nI cl), .ref m6, .ref m7, .ref m8, .ref m9, .ref m10, .ref m11, .ref m12, .int (nI pn), .ref m13, .ref m14]))] H := hP
          have hD : va_D A [(m0, .inr (6, [.int 0, .int (nI M.1), .ref m1, .ref m2, .int (nI bt), .ref m3, .int (nI ln), .ref m4, .ref m5, .int (nI cl), .ref m6, .ref m7, .ref m8, .ref m9, .ref m10, .ref m11, .ref m12, .int (nI pn), .ref m13, .ref m14]))] := hD
          refine lv_aload_n hx hb dX6_throwing_38 rfl (lv_at hl 0 rfl) ?_
          refine va_get (D := D.1) (ci := 6) (v := .int 0) (C := "ShopLedgerModel") (T := TX6) (N := 20) hx hb hZ inX6 hown hK hP 0 rfl rfl 0 (by decide) (hZ _ t_269) (fun _ h9 => h9) rfl dX6_throwing_39 ?_
          refine lv_if_le (tgt := 49) hx hb dX6_throwing_42 (by decide) (fun c5 => ?_) (fun c5 => ?_)
          · skip
            refine lv_iconst (v := 0) hx hb dX6_throwing_49 (by decide) ?_
            have e7 : zth a b c9 d9 = 0 := (if_pos c1).trans ((if_pos c2).trans ((if_pos c3).trans (if_pos c4)))
            rw [← e7] at hP hD
            exact z_zret (v := 0) hx hb hr hlocks (by first | rfl | decide) hP hD hS () (by rw [e7]; decide) [0] rfl (by decide) (Nat.le_of_ble_eq_true rfl) (Nat.le_of_ble_eq_true rfl) dX6_throwing_50
          exfalso; exact absurd c5 (by decide)
        refine lv_iconst (v := 4) hx hb dX6_throwing_30 (by decide) ?_
        refine lv_goto (tgt := 35) hx hb dX6_throwing_31 (by decide) ?_
        refine va_put (D := D.1) (ci := 6) (v := .int 4) (ty := .int) (C := "ShopLedgerModel") (T := TX6) (N := 20) hx hb hZ inX6 tyX6 tyX6_ok nmX6 hown hK hP hD hS 0 rfl rfl 0 (by decide) (hZ _ t_269) (fun _ h9 => h9) rfl (by decide +kernel) rfl rfl (Nat.le_of_ble_eq_true rfl) dX6_throwing_35 (fun H locs hP hD hS => ?_)
        have hP : va_P D.1 vwCl [(m0, .inr (6, [.int 4, .int (nI M.1), .ref m1, .ref m2, .int (nI bt), .ref m3, .int (nI ln), .ref m4, .ref m5, .int (nI cl), .ref m6, .ref m7, .ref m8, .ref m9, .ref m10, .ref m11, .ref m12, .int (nI pn), .ref m13, .ref m14]))] H := hP
        have hD : va_D A [(m0, .inr (6, [.int 4, .int (nI M.1), .ref m1, .ref m2, .int (nI bt), .ref m3, .int (nI ln), .ref m4, .ref m5, .int (nI cl), .ref m6, .ref m7, .ref m8, .ref m9, .ref m10, .ref m11, .ref m12, .int (nI pn), .ref m13, .ref m14]))] := hD
        refine lv_aload_n hx hb dX6_throwing_38 rfl (lv_at hl 0 rfl) ?_
        refine va_get (D := D.1) (ci := 6) (v := .int 4) (C := "ShopLedgerModel") (T := TX6) (N := 20) hx hb hZ inX6 hown hK hP 0 rfl rfl 0 (by decide) (hZ _ t_269) (fun _ h9 => h9) rfl dX6_throwing_39 ?_
        refine lv_if_le (tgt := 49) hx hb dX6_throwing_42 (by decide) (fun c5 => ?_) (fun c5 => ?_)
        · skip
          exfalso; exact absurd c5 (by decide)
        refine lv_iconst (v := 1) hx hb dX6_throwing_45 (by decide) ?_
        refine lv_goto (tgt := 50) hx hb dX6_throwing_46 (by decide) ?_
        have e7 : zth a b c9 d9 = 4 := (if_pos c1).trans ((if_pos c2).trans ((if_pos c3).trans (if_neg c4)))
        rw [← e7] at hP hD
        exact z_zret (v := 1) hx hb hr hlocks (by first | rfl | decide) hP hD hS () (by rw [e7]; decide) [0] rfl (by decide) (Nat.le_of_ble_eq_true rfl) (Nat.le_of_ble_eq_true rfl) dX6_throwing_50
      refine lv_iconst (v := 3) hx hb dX6_throwing_21 (by decide) ?_
      refine lv_goto (tgt := 35) hx hb dX6_throwing_22 (by decide) ?_
      refine va_put (D := D.1) (ci := 6) (v := .int 3) (ty := .int) (C := "ShopLedgerModel") (T := TX6) (N := 20) hx hb hZ inX6 tyX6 tyX6_ok nmX6 hown hK hP hD hS 0 rfl rfl 0 (by decide) (hZ _ t_269) (fun _ h9 => h9) rfl (by decide +kernel) rfl rfl (Nat.le_of_ble_eq_true rfl) dX6_throwing_35 (fun H locs hP hD hS => ?_)
      have hP : va_P D.1 vwCl [(m0, .inr (6, [.int 3, .int (nI M.1), .ref m1, .ref m2, .int (nI bt), .ref m3, .int (nI ln), .ref m4, .ref m5, .int (nI cl), .ref m6, .ref m7, .ref m8, .ref m9, .ref m10, .ref m11, .ref m12, .int (nI pn), .ref m13, .ref m14]))] H := hP
      have hD : va_D A [(m0, .inr (6, [.int 3, .int (nI M.1), .ref m1, .ref m2, .int (nI bt), .ref m3, .int (nI ln), .ref m4, .ref m5, .int (nI cl), .ref m6, .ref m7, .ref m8, .ref m9, .ref m10, .ref m11, .ref m12, .int (nI pn), .ref m13, .ref m14]))] := hD
      refine lv_aload_n hx hb dX6_throwing_38 rfl (lv_at hl 0 rfl) ?_
      refine va_get (D := D.1) (ci := 6) (v := .int 3) (C := "ShopLedgerModel") (T := TX6) (N := 20) hx hb hZ inX6 hown hK hP 0 rfl rfl 0 (by decide) (hZ _ t_269) (fun _ h9 => h9) rfl dX6_throwing_39 ?_
      refine lv_if_le (tgt := 49) hx hb dX6_throwing_42 (by decide) (fun c5 => ?_) (fun c5 => ?_)
      · skip
        exfalso; exact absurd c5 (by decide)
      refine lv_iconst (v := 1) hx hb dX6_throwing_45 (by decide) ?_
      refine lv_goto (tgt := 50) hx hb dX6_throwing_46 (by decide) ?_
      have e7 : zth a b c9 d9 = 3 := (if_pos c1).trans ((if_pos c2).trans (if_neg c3))
      rw [← e7] at hP hD
      exact z_zret (v := 1) hx hb hr hlocks (by first | rfl | decide) hP hD hS () (by rw [e7]; decide) [0] rfl (by decide) (Nat.le_of_ble_eq_true rfl) (Nat.le_of_ble_eq_true rfl) dX6_throwing_50
    refine lv_iconst (v := 2) hx hb dX6_throwing_13 (by decide) ?_
    refine lv_goto (tgt := 35) hx hb dX6_throwing_14 (by decide) ?_
    refine va_put (D := D.1) (ci := 6) (v := .int 2) (ty := .int) (C := "ShopLedgerModel") (T := TX6) (N := 20) hx hb hZ inX6 tyX6 tyX6_ok nmX6 hown hK hP hD hS 0 rfl rfl 0 (by decide) (hZ _ t_269) (fun _ h9 => h9) rfl (by decide +kernel) rfl rfl (Nat.le_of_ble_eq_true rfl) dX6_throwing_35 (fun H locs hP hD hS => ?_)
    have hP : va_P D.1 vwCl [(m0, .inr (6, [.int 2, .int (nI M.1), .ref m1, .ref m2, .int (nI bt), .ref m3, .int (nI ln), .ref m4, .ref m5, .int (nI cl), .ref m6, .ref m7, .ref m8, .ref m9, .ref m10, .ref m11, .ref m12, .int (nI pn), .ref m13, .ref m14]))] H := hP
    have hD : va_D A [(m0, .inr (6, [.int 2, .int (nI M.1), .ref m1, .ref m2, .int (nI bt), .ref m3, .int (nI ln), .ref m4, .ref m5, .int (nI cl), .ref m6, .ref m7, .ref m8, .ref m9, .ref m10, .ref m11, .ref m12, .int (nI pn), .ref m13, .ref m14]))] := hD
    refine lv_aload_n hx hb dX6_throwing_38 rfl (lv_at hl 0 rfl) ?_
    refine va_get (D := D.1) (ci := 6) (v := .int 2) (C := "ShopLedgerModel") (T := TX6) (N := 20) hx hb hZ inX6 hown hK hP 0 rfl rfl 0 (by decide) (hZ _ t_269) (fun _ h9 => h9) rfl dX6_throwing_39 ?_
    refine lv_if_le (tgt := 49) hx hb dX6_throwing_42 (by decide) (fun c5 => ?_) (fun c5 => ?_)
    · skip
      exfalso; exact absurd c5 (by decide)
    refine lv_iconst (v := 1) hx hb dX6_throwing_45 (by decide) ?_
    refine lv_goto (tgt := 50) hx hb dX6_throwing_46 (by decide) ?_
    have e7 : zth a b c9 d9 = 2 := (if_pos c1).trans (if_neg c2)
    rw [← e7] at hP hD
    exact z_zret (v := 1) hx hb hr hlocks (by first | rfl | decide) hP hD hS () (by rw [e7]; decide) [0] rfl (by decide) (Nat.le_of_ble_eq_true rfl) (Nat.le_of_ble_eq_true rfl) dX6_throwing_50
  refine lv_iconst (v := 1) hx hb dX6_throwing_5 (by decide) ?_
  refine lv_goto (tgt := 35) hx hb dX6_throwing_6 (by decide) ?_
  refine va_put (D := D.1) (ci := 6) (v := .int 1) (ty := .int) (C := "ShopLedgerModel") (T := TX6) (N := 20) hx hb hZ inX6 tyX6 tyX6_ok nmX6 hown hK hP hD hS 0 rfl rfl 0 (by decide) (hZ _ t_269) (fun _ h9 => h9) rfl (by decide +kernel) rfl rfl (Nat.le_of_ble_eq_true rfl) dX6_throwing_35 (fun H locs hP hD hS => ?_)
  have hP : va_P D.1 vwCl [(m0, .inr (6, [.int 1, .int (nI M.1), .ref m1, .ref m2, .int (nI bt), .ref m3, .int (nI ln), .ref m4, .ref m5, .int (nI cl), .ref m6, .ref m7, .ref m8, .ref m9, .ref m10, .ref m11, .ref m12, .int (nI pn), .ref m13, .ref m14]))] H := hP
  have hD : va_D A [(m0, .inr (6, [.int 1, .int (nI M.1), .ref m1, .ref m2, .int (nI bt), .ref m3, .int (nI ln), .ref m4, .ref m5, .int (nI cl), .ref m6, .ref m7, .ref m8, .ref m9, .ref m10, .ref m11, .ref m12, .int (nI pn), .ref m13, .ref m14]))] := hD
  refine lv_aload_n hx hb dX6_throwing_38 rfl (lv_at hl 0 rfl) ?_
  refine va_get (D := D.1) (ci := 6) (v := .int 1) (C := "ShopLedgerModel") (T := TX6) (N := 20) hx hb hZ inX6 hown hK hP 0 rfl rfl 0 (by decide) (hZ _ t_269) (fun _ h9 => h9) rfl dX6_throwing_39 ?_
  refine lv_if_le (tgt := 49) hx hb dX6_throwing_42 (by decide) (fun c5 => ?_) (fun c5 => ?_)
  · skip
    exfalso; exact absurd c5 (by decide)
  refine lv_iconst (v := 1) hx hb dX6_throwing_45 (by decide) ?_
  refine lv_goto (tgt := 50) hx hb dX6_throwing_46 (by decide) ?_
  have e7 : zth a b c9 d9 = 1 := if_neg c1
  rw [← e7] at hP hD
  exact z_zret (v := 1) hx hb hr hlocks (by first | rfl | decide) hP hD hS () (by rw [e7]; decide) [0] rfl (by decide) (Nat.le_of_ble_eq_true rfl) (Nat.le_of_ble_eq_true rfl) dX6_throwing_50
set_option maxHeartbeats 4000000 in
set_option maxRecDepth 100000 in
/-- the reference: lies -/
theorem d_lies {l : Launch} (D : zD) (x a b : Int64) (sz : Nat) : Met l yX6_lies wsX6_lies ({ frames := 0, cells := 0, slots := 0, locals := 0 }) (va_Pc [.long x, .long a, .long b] (zp D sz [])) (va_Qi (fun r (_ : Unit) => (r = 1 ∧ a ≤ x ∧ x ≤ b) ∨ (r = 0 ∧ ¬ (a ≤ x ∧ x ≤ b))) (zq D (va_A [] sz) (fun (_ : Unit) => ([] : va_W))) (va_A [] sz)) 0 0 (va_A [] sz) := by
  refine Met.ofW (cc := cX6_lies) (maxL := 6) (ret := (some .boolean)) (by decide) rfl ?_
  intro p e s m args below meth c s₁ B hml hv
  obtain ⟨rfl, hsz, hP, hK, hD0, hB⟩ := hv
  have hx := B.exec
  have hb := B.bytes
  have hr := B.returns
  have hts := atoms_spec (ws := wsX6_lies) B.pre
  have hown : s.vm.findClass "ShopLedgerModel" = some m.cls := findClass_of_methodNamed B.named
  have hlocks := B.notSynchronized
  subst hsz
  have hD := hD0.self (sz := s.heap.size)
  generalize hAe : va_A [] s.heap.size = A at hD hB ⊢
  have hA : ∀ q : Nat, s.heap.size ≤ q → A q := fun q h => by rw [← hAe]; exact Or.inr h
  have hS : va_S A s.heap s.heap [] := va_S.rf
  have hZ : ∀ w ∈ zALL, w.before _ s = true := fun w h => hts w (List.mem_cons_of_mem _ h)
  have hF : CallFix p m c cX6_lies 6 s _ zALL "ShopLedgerModel" := ⟨hx, hb, hml, hown, hZ⟩
  have hl := lv_entry ([.long x, .long a, .long b]) (n := 6) (Nat.le_of_ble_eq_true rfl)
  rw [lg_entry_eq]
  generalize (lg_sl ([.long x, .long a, .long b]) ++ List.replicate (6 - (lg_sl ([.long x, .long a, .long b])).length) Slot.unset).toArray = ls at hl ⊢
  have hl : lv_has ls 6 [(0, .long x), (2, .long a), (4, .long b)] := hl
  refine lv_lload_n hx hb dX6_lies_0 rfl (lv_at hl 0 rfl) ?_
  refine lv_lload_n hx hb dX6_lies_1 rfl (lv_at hl 1 rfl) ?_
  refine W.lcmp hx hb dX6_lies_2 ?_
  refine lv_if_lt (tgt := 17) hx hb dX6_lies_3 (by decide) (fun c1 => ?_) (fun c1 => ?_)
  · skip
    refine lv_iconst (v := 0) hx hb dX6_lies_17 (by decide) ?_
    exact z_zret (v := 0) hx hb hr hlocks (by first | rfl | decide) hP hD hS () (Or.inr ⟨rfl, fun h => by first | exact absurd h.1 (Int64.not_le.mpr ((lg_cmp_lt _ _).mp c1)) | exact absurd h.2 (Int64.not_le.mpr ((lg_cmp_gt _ _).mp c2))⟩) [] rfl (by decide) (Nat.le_of_ble_eq_true rfl) (Nat.le_of_ble_eq_true rfl) dX6_lies_18
  refine lv_lload_n hx hb dX6_lies_6 rfl (lv_at hl 0 rfl) ?_
  refine lv_lload hx hb dX6_lies_7 (lv_at hl 2 rfl) ?_
  refine W.lcmp hx hb dX6_lies_9 ?_
  refine lv_if_gt (tgt := 17) hx hb dX6_lies_10 (by decide) (fun c2 => ?_) (fun c2 => ?_)
  · skip
    refine lv_iconst (v := 0) hx hb dX6_lies_17 (by decide) ?_
    exact z_zret (v := 0) hx hb hr hlocks (by first | rfl | decide) hP hD hS () (Or.inr ⟨rfl, fun h => by first | exact absurd h.1 (Int64.not_le.mpr ((lg_cmp_lt _ _).mp c1)) | exact absurd h.2 (Int64.not_le.mpr ((lg_cmp_gt _ _).mp c2))⟩) [] rfl (by decide) (Nat.le_of_ble_eq_true rfl) (Nat.le_of_ble_eq_true rfl) dX6_lies_18
  refine lv_iconst (v := 1) hx hb dX6_lies_13 (by decide) ?_
  refine lv_goto (tgt := 18) hx hb dX6_lies_14 (by decide) ?_
  exact z_zret (v := 1) hx hb hr hlocks (by first | rfl | decide) hP hD hS () (Or.inl ⟨rfl, Int64.not_lt.mp (fun h => c1 ((lg_cmp_lt _ _).mpr h)), Int64.not_lt.mp (fun h => c2 ((lg_cmp_gt _ _).mpr h))⟩) [] rfl (by decide) (Nat.le_of_ble_eq_true rfl) (Nat.le_of_ble_eq_true rfl) dX6_lies_18
set_option maxHeartbeats 4000000 in
set_option maxRecDepth 100000 in
/-- the reference: areThere -/
theorem d_there {l : Launch} (D : zD) (p1 p2 p3 : Int32) (sz : Nat) : Met l yX6_areThere wsX6_areThere ({ frames := 1, cells := 0, slots := 0, locals := 25 }) (va_Pc [.int p1, .int p2, .int p3] (zp D sz [])) (va_Qi (fun r (_ : Unit) => (r = 1 ∧ zin p1 8 ∧ zin p2 8 ∧ zin p3 12) ∨ (r = 0 ∧ ¬ (zin p1 8 ∧ zin p2 8 ∧ zin p3 12))) (zq D (va_A [] sz) (fun (_ : Unit) => ([] : va_W))) (va_A [] sz)) 0 0 (va_A [] sz) := by
  refine Met.ofW (cc := cX6_areThere) (maxL := 3) (ret := (some .boolean)) (by decide) rfl ?_
  intro p e s m args below meth c s₁ B hml hv
  obtain ⟨rfl, hsz, hP, hK, hD0, hB⟩ := hv
  have hx := B.exec
  have hb := B.bytes
  have hr := B.returns
  have hts := atoms_spec (ws := wsX6_areThere) B.pre
  have hown : s.vm.findClass "ShopLedgerModel" = some m.cls := findClass_of_methodNamed B.named
  have hlocks := B.notSynchronized
  subst hsz
  have hD := hD0.self (sz := s.heap.size)
  generalize hAe : va_A [] s.heap.size = A at hD hB ⊢
  have hA : ∀ q : Nat, s.heap.size ≤ q → A q := fun q h => by rw [← hAe]; exact Or.inr h
  have hS : va_S A s.heap s.heap [] := va_S.rf
  have hZ : ∀ w ∈ zALL, w.before _ s = true := fun w h => hts w (List.mem_cons_of_mem _ h)
  have hF : CallFix p m c cX6_areThere 3 s _ zALL "ShopLedgerModel" := ⟨hx, hb, hml, hown, hZ⟩
  have hl := lv_entry ([.int p1, .int p2, .int p3]) (n := 3) (Nat.le_of_ble_eq_true rfl)
  rw [lg_entry_eq]
  generalize (lg_sl ([.int p1, .int p2, .int p3]) ++ List.replicate (3 - (lg_sl ([.int p1, .int p2, .int p3])).length) Slot.unset).toArray = ls at hl ⊢
  have hl : lv_has ls 3 [(0, .int p1), (1, .int p2), (2, .int p3)] := hl
  refine lv_iload_n hx hb dX6_areThere_0 rfl (lv_at hl 0 rfl) ?_
  refine lv_i2l (v := p1.toInt64) hx hb dX6_areThere_1 rfl ?_
  refine lv_lconst (v := 0) hx hb dX6_areThere_2 (by decide) ?_
  refine lv_ldc2 (v := 7) hx hb hown (hZ _ t_270) dX6_areThere_3 ?_
  have J := zJ.mk (wc := []) (wr := []) hA hB hK hP hD hS [] [] rfl rfl (by decide)
  refine z_goi (z_runS (As := [.long p1.toInt64, .long 0, .long 7]) (rest := []) hF (d_lies D p1.toInt64 0 7 s.heap.size) (va_cwS 3 hZ (z_gS t_273 t_274 t_272 t_271) rfl rfl rfl (by decide +kernel) ⟨Nat.le_of_ble_eq_true rfl, Nat.le_of_ble_eq_true rfl⟩) J rfl hl.1 (Nat.le_of_ble_eq_true rfl) dX6_areThere_6 ⟨Nat.le_of_ble_eq_true rfl, Nat.le_of_ble_eq_true rfl⟩) J (fun r1 _ H locs w1 hP hD hS => ?_)
  have hP : va_P D.1 vwCl [] H := hP
  have hD : va_D A [] := hD
  have f1 : (r1 = 1 ∧ zin p1 8) ∨ (r1 = 0 ∧ ¬ zin p1 8) := z_lz 7 (by decide) (by decide) w1
  refine lv_if_eq (tgt := 40) hx hb dX6_areThere_9 (by decide) (fun c1 => ?_) (fun c1 => ?_)
  · skip
    have g1 := z_b0 f1 c1
    refine lv_iconst (v := 0) hx hb dX6_areThere_40 (by decide) ?_
    exact z_zret (v := 0) hx hb hr hlocks (by first | rfl | decide) hP hD hS () (Or.inr ⟨rfl, fun h => by first | exact g1 h.1 | exact g2 h.2.1 | exact g3 h.2.2⟩) [] rfl (by decide) (Nat.le_of_ble_eq_true rfl) (Nat.le_of_ble_eq_true rfl) dX6_areThere_41
  have g1 := z_b1 f1 c1
  refine lv_iload_n hx hb dX6_areThere_12 rfl (lv_at hl 1 rfl) ?_
  refine lv_i2l (v := p2.toInt64) hx hb dX6_areThere_13 rfl ?_
  refine lv_lconst (v := 0) hx hb dX6_areThere_14 (by decide) ?_
  refine lv_ldc2 (v := 7) hx hb hown (hZ _ t_270) dX6_areThere_15 ?_
  have J := zJ.mk (wc := []) (wr := []) hA hB hK hP hD hS [] [] rfl rfl (by decide)
  refine z_goi (z_runS (As := [.long p2.toInt64, .long 0, .long 7]) (rest := []) hF (d_lies D p2.toInt64 0 7 H.size) (va_cwS 3 hZ (z_gS t_273 t_274 t_272 t_271) rfl rfl rfl (by decide +kernel) ⟨Nat.le_of_ble_eq_true rfl, Nat.le_of_ble_eq_true rfl⟩) J rfl hl.1 (Nat.le_of_ble_eq_true rfl) dX6_areThere_18 ⟨Nat.le_of_ble_eq_true rfl, Nat.le_of_ble_eq_true rfl⟩) J (fun r2 _ H locs w2 hP hD hS => ?_)
  have hP : va_P D.1 vwCl [] H := hP
  have hD : va_D A [] := hD
  have f2 : (r2 = 1 ∧ zin p2 8) ∨ (r2 = 0 ∧ ¬ zin p2 8) := z_lz 7 (by decide) (by decide) w2
  refine lv_if_eq (tgt := 40) hx hb dX6_areThere_21 (by decide) (fun c2 => ?_) (fun c2 => ?_)
  · skip
    have g2 := z_b0 f2 c2
    refine lv_iconst (v := 0) hx hb dX6_areThere_40 (by decide) ?_
    exact z_zret (v := 0) hx hb hr hlocks (by first | rfl | decide) hP hD hS () (Or.inr ⟨rfl, fun h => by first | exact g1 h.1 | exact g2 h.2.1 | exact g3 h.2.2⟩) [] rfl (by decide) (Nat.le_of_ble_eq_true rfl) (Nat.le_of_ble_eq_true rfl) dX6_areThere_41
  have g2 := z_b1 f2 c2
  refine lv_iload_n hx hb dX6_areThere_24 rfl (lv_at hl 2 rfl) ?_
  refine lv_i2l (v := p3.toInt64) hx hb dX6_areThere_25 rfl ?_
  refine lv_lconst (v := 0) hx hb dX6_areThere_26 (by decide) ?_
  refine lv_ldc2 (v := 11) hx hb hown (hZ _ t_275) dX6_areThere_27 ?_
  have J := zJ.mk (wc := []) (wr := []) hA hB hK hP hD hS [] [] rfl rfl (by decide)
  refine z_goi (z_runS (As := [.long p3.toInt64, .long 0, .long 11]) (rest := []) hF (d_lies D p3.toInt64 0 11 H.size) (va_cwS 3 hZ (z_gS t_273 t_274 t_272 t_271) rfl rfl rfl (by decide +kernel) ⟨Nat.le_of_ble_eq_true rfl, Nat.le_of_ble_eq_true rfl⟩) J rfl hl.1 (Nat.le_of_ble_eq_true rfl) dX6_areThere_30 ⟨Nat.le_of_ble_eq_true rfl, Nat.le_of_ble_eq_true rfl⟩) J (fun r3 _ H locs w3 hP hD hS => ?_)
  have hP : va_P D.1 vwCl [] H := hP
  have hD : va_D A [] := hD
  have f3 : (r3 = 1 ∧ zin p3 12) ∨ (r3 = 0 ∧ ¬ zin p3 12) := z_lz 11 (by decide) (by decide) w3
  refine lv_if_eq (tgt := 40) hx hb dX6_areThere_33 (by decide) (fun c3 => ?_) (fun c3 => ?_)
  · skip
    have g3 := z_b0 f3 c3
    refine lv_iconst (v := 0) hx hb dX6_areThere_40 (by decide) ?_
    exact z_zret (v := 0) hx hb hr hlocks (by first | rfl | decide) hP hD hS () (Or.inr ⟨rfl, fun h => by first | exact g1 h.1 | exact g2 h.2.1 | exact g3 h.2.2⟩) [] rfl (by decide) (Nat.le_of_ble_eq_true rfl) (Nat.le_of_ble_eq_true rfl) dX6_areThere_41
  have g3 := z_b1 f3 c3
  refine lv_iconst (v := 1) hx hb dX6_areThere_36 (by decide) ?_
  refine lv_goto (tgt := 41) hx hb dX6_areThere_37 (by decide) ?_
  exact z_zret (v := 1) hx hb hr hlocks (by first | rfl | decide) hP hD hS () (Or.inl ⟨rfl, g1, g2, g3⟩) [] rfl (by decide) (Nat.le_of_ble_eq_true rfl) (Nat.le_of_ble_eq_true rfl) dX6_areThere_41
set_option maxHeartbeats 4000000 in
set_option maxRecDepth 100000 in
/-- the reference: enter -/
theorem d_enter {l : Launch} (D : zD) (m0 m1 m2 m3 m4 m5 m6 m7 m8 m9 m10 m11 m12 m13 m14 : Nat) (M : zM) (bt ln cl pn : Nat) (th : Int32) (p1 p2 p3 p4 : Int32) (sz : Nat) (hn : M.1 < 200) : Met l yX6_enter wsX6_enter ({ frames := 0, cells := 0, slots := 0, locals := 0 }) (va_Pc [.ref m0, .int p1, .int p2, .int p3, .int p4] (zp D sz [(m0, .inr (6, [.int th, .int (nI M.1), .ref m1, .ref m2, .int (nI bt), .ref m3, .int (nI ln), .ref m4, .ref m5, .int (nI cl), .ref m6, .ref m7, .ref m8, .ref m9, .ref m10, .ref m11, .ref m12, .int (nI pn), .ref m13, .ref m14])), (m1, .inl (D.2 0, 800, .inl M.2.1)), (m2, .inl (D.2 0, 200, .inl M.2.2))])) (va_Qv (fun (_ : Unit) => True) (zq D (va_A [(m0, .inr (6, [.int th, .int (nI M.1), .ref m1, .ref m2, .int (nI bt), .ref m3, .int (nI ln), .ref m4, .ref m5, .int (nI cl), .ref m6, .ref m7, .ref m8, .ref m9, .ref m10, .ref m11, .ref m12, .int (nI pn), .ref m13, .ref m14])), (m1, .inl (D.2 0, 800, .inl M.2.1)), (m2, .inl (D.2 0, 200, .inl M.2.2))] sz) (fun (_ : Unit) => ([(m0, .inr (6, [.int th, .int (nI (zm_enter M (nI bt) p1 p2 p3 p4).1), .ref m1, .ref m2, .int (nI bt), .ref m3, .int (nI ln), .ref m4, .ref m5, .int (nI cl), .ref m6, .ref m7, .ref m8, .ref m9, .ref m10, .ref m11, .ref m12, .int (nI pn), .ref m13, .ref m14])), (m1, .inl (D.2 0, 800, .inl ((zm_enter M (nI bt) p1 p2 p3 p4).2.1))), (m2, .inl (D.2 0, 200, .inl ((zm_enter M (nI bt) p1 p2 p3 p4).2.2)))] : va_W))) (va_A [(m0, .inr (6, [.int th, .int (nI M.1), .ref m1, .ref m2, .int (nI bt), .ref m3, .int (nI ln), .ref m4, .ref m5, .int (nI cl), .ref m6, .ref m7, .ref m8, .ref m9, .ref m10, .ref m11, .ref m12, .int (nI pn), .ref m13, .ref m14])), (m1, .inl (D.2 0, 800, .inl M.2.1)), (m2, .inl (D.2 0, 200, .inl M.2.2))] sz)) 0 0 (va_A [(m0, .inr (6, [.int th, .int (nI M.1), .ref m1, .ref m2, .int (nI bt), .ref m3, .int (nI ln), .ref m4, .ref m5, .int (nI cl), .ref m6, .ref m7, .ref m8, .ref m9, .ref m10, .ref m11, .ref m12, .int (nI pn), .ref m13, .ref m14])), (m1, .inl (D.2 0, 800, .inl M.2.1)), (m2, .inl (D.2 0, 200, .inl M.2.2))] sz) := by
  refine Met.ofW (cc := cX6_enter) (maxL := 5) (ret := none) (by decide) rfl ?_
  intro p e s m args below meth c s₁ B hml hv
  obtain ⟨rfl, hsz, hP, hK, hD0, hB⟩ := hv
  have hx := B.exec
  have hb := B.bytes
  have hr := B.returns
  have hts := atoms_spec (ws := wsX6_enter) B.pre
  have hown : s.vm.findClass "ShopLedgerModel" = some m.cls := findClass_of_methodNamed B.named
  have hlocks := B.notSynchronized
  subst hsz
  have hD := hD0.self (sz := s.heap.size)
  generalize hAe : va_A [(m0, .inr (6, [.int th, .int (nI M.1), .ref m1, .ref m2, .int (nI bt), .ref m3, .int (nI ln), .ref m4, .ref m5, .int (nI cl), .ref m6, .ref m7, .ref m8, .ref m9, .ref m10, .ref m11, .ref m12, .int (nI pn), .ref m13, .ref m14])), (m1, .inl (D.2 0, 800, .inl M.2.1)), (m2, .inl (D.2 0, 200, .inl M.2.2))] s.heap.size = A at hD hB ⊢
  have hA : ∀ q : Nat, s.heap.size ≤ q → A q := fun q h => by rw [← hAe]; exact Or.inr h
  have hS : va_S A s.heap s.heap [] := va_S.rf
  have hZ : ∀ w ∈ zALL, w.before _ s = true := fun w h => hts w (List.mem_cons_of_mem _ h)
  have hF : CallFix p m c cX6_enter 5 s _ zALL "ShopLedgerModel" := ⟨hx, hb, hml, hown, hZ⟩
  have hl := lv_entry ([.ref m0, .int p1, .int p2, .int p3, .int p4]) (n := 5) (Nat.le_of_ble_eq_true rfl)
  rw [lg_entry_eq]
  generalize (lg_sl ([.ref m0, .int p1, .int p2, .int p3, .int p4]) ++ List.replicate (5 - (lg_sl ([.ref m0, .int p1, .int p2, .int p3, .int p4])).length) Slot.unset).toArray = ls at hl ⊢
  have hl : lv_has ls 5 [(0, .ref m0), (1, .int p1), (2, .int p2), (3, .int p3), (4, .int p4)] := hl
  refine lv_aload_n hx hb dX6_enter_0 rfl (lv_at hl 0 rfl) ?_
  refine va_get (D := D.1) (ci := 6) (v := .ref m1) (C := "ShopLedgerModel") (T := TX6) (N := 20) hx hb hZ inX6 hown hK hP 0 rfl rfl 2 (by decide) (hZ _ t_276) (fun _ h9 => h9) rfl dX6_enter_1 ?_
  refine lv_iconst (v := 4) hx hb dX6_enter_4 (by decide) ?_
  refine lv_aload_n hx hb dX6_enter_5 rfl (lv_at hl 0 rfl) ?_
  refine va_get (D := D.1) (ci := 6) (v := .int (nI M.1)) (C := "ShopLedgerModel") (T := TX6) (N := 20) hx hb hZ inX6 hown hK hP 0 rfl rfl 1 (by decide) (hZ _ t_277) (fun _ h9 => h9) rfl dX6_enter_6 ?_
  refine lv_imul hx hb dX6_enter_9 ?_
  rw [show (4 * (nI M.1)) = nI (4 * M.1) from pk_mul 4 M.1]
  refine lv_iload_n hx hb dX6_enter_10 rfl (lv_at hl 1 rfl) ?_
  refine z_iast (k := 4 * M.1) hx hb hK hP hD hS 1 rfl (by omega) (by decide) dX6_enter_11 (fun H locs hP hD hS => ?_)
  have hP : va_P D.1 vwCl [(m0, .inr (6, [.int th, .int (nI M.1), .ref m1, .ref m2, .int (nI bt), .ref m3, .int (nI ln), .ref m4, .ref m5, .int (nI cl), .ref m6, .ref m7, .ref m8, .ref m9, .ref m10, .ref m11, .ref m12, .int (nI pn), .ref m13, .ref m14])), (m1, .inl (D.2 0, 800, .inl (upd M.2.1 (4 * M.1) p1))), (m2, .inl (D.2 0, 200, .inl M.2.2))] H := hP
  have hD : va_D A [(m0, .inr (6, [.int th, .int (nI M.1), .ref m1, .ref m2, .int (nI bt), .ref m3, .int (nI ln), .ref m4, .ref m5, .int (nI cl), .ref m6, .ref m7, .ref m8, .ref m9, .ref m10, .ref m11, .ref m12, .int (nI pn), .ref m13, .ref m14])), (m1, .inl (D.2 0, 800, .inl (upd M.2.1 (4 * M.1) p1))), (m2, .inl (D.2 0, 200, .inl M.2.2))] := hD
  refine lv_aload_n hx hb dX6_enter_12 rfl (lv_at hl 0 rfl) ?_
  refine va_get (D := D.1) (ci := 6) (v := .ref m1) (C := "ShopLedgerModel") (T := TX6) (N := 20) hx hb hZ inX6 hown hK hP 0 rfl rfl 2 (by decide) (hZ _ t_276) (fun _ h9 => h9) rfl dX6_enter_13 ?_
  refine lv_iconst (v := 4) hx hb dX6_enter_16 (by decide) ?_
  refine lv_aload_n hx hb dX6_enter_17 rfl (lv_at hl 0 rfl) ?_
  refine va_get (D := D.1) (ci := 6) (v := .int (nI M.1)) (C := "ShopLedgerModel") (T := TX6) (N := 20) hx hb hZ inX6 hown hK hP 0 rfl rfl 1 (by decide) (hZ _ t_277) (fun _ h9 => h9) rfl dX6_enter_18 ?_
  refine lv_imul hx hb dX6_enter_21 ?_
  rw [show (4 * (nI M.1)) = nI (4 * M.1) from pk_mul 4 M.1]
  refine lv_iconst (v := 1) hx hb dX6_enter_22 (by decide) ?_
  refine lv_iadd hx hb dX6_enter_23 ?_
  rw [show ((nI (4 * M.1)) + 1) = nI (4 * M.1 + 1) from nI_add _ 1]
  refine lv_iload_n hx hb dX6_enter_24 rfl (lv_at hl 2 rfl) ?_
  refine z_iast (k := 4 * M.1 + 1) hx hb hK hP hD hS 1 rfl (by omega) (by decide) dX6_enter_25 (fun H locs hP hD hS => ?_)
  have hP : va_P D.1 vwCl [(m0, .inr (6, [.int th, .int (nI M.1), .ref m1, .ref m2, .int (nI bt), .ref m3, .int (nI ln), .ref m4, .ref m5, .int (nI cl), .ref m6, .ref m7, .ref m8, .ref m9, .ref m10, .ref m11, .ref m12, .int (nI pn), .ref m13, .ref m14])), (m1, .inl (D.2 0, 800, .inl (upd (upd M.2.1 (4 * M.1) p1) (4 * M.1 + 1) p2))), (m2, .inl (D.2 0, 200, .inl M.2.2))] H := hP
  have hD : va_D A [(m0, .inr (6, [.int th, .int (nI M.1), .ref m1, .ref m2, .int (nI bt), .ref m3, .int (nI ln), .ref m4, .ref m5, .int (nI cl), .ref m6, .ref m7, .ref m8, .ref m9, .ref m10, .ref m11, .ref m12, .int (nI pn), .ref m13, .ref m14])), (m1, .inl (D.2 0, 800, .inl (upd (upd M.2.1 (4 * M.1) p1) (4 * M.1 + 1) p2))), (m2, .inl (D.2 0, 200, .inl M.2.2))] := hD
  refine lv_aload_n hx hb dX6_enter_26 rfl (lv_at hl 0 rfl) ?_
  refine va_get (D := D.1) (ci := 6) (v := .ref m1) (C := "ShopLedgerModel") (T := TX6) (N := 20) hx hb hZ inX6 hown hK hP 0 rfl rfl 2 (by decide) (hZ _ t_276) (fun _ h9 => h9) rfl dX6_enter_27 ?_
  refine lv_iconst (v := 4) hx hb dX6_enter_30 (by decide) ?_
  refine lv_aload_n hx hb dX6_enter_31 rfl (lv_at hl 0 rfl) ?_
  refine va_get (D := D.1) (ci := 6) (v := .int (nI M.1)) (C := "ShopLedgerModel") (T := TX6) (N := 20) hx hb hZ inX6 hown hK hP 0 rfl rfl 1 (by decide) (hZ _ t_277) (fun _ h9 => h9) rfl dX6_enter_32 ?_
  refine lv_imul hx hb dX6_enter_35 ?_
  rw [show (4 * (nI M.1)) = nI (4 * M.1) from pk_mul 4 M.1]
  refine lv_iconst (v := 2) hx hb dX6_enter_36 (by decide) ?_
  refine lv_iadd hx hb dX6_enter_37 ?_
  rw [show ((nI (4 * M.1)) + 2) = nI (4 * M.1 + 2) from nI_add _ 2]
  refine lv_iload_n hx hb dX6_enter_38 rfl (lv_at hl 3 rfl) ?_
  refine z_iast (k := 4 * M.1 + 2) hx hb hK hP hD hS 1 rfl (by omega) (by decide) dX6_enter_39 (fun H locs hP hD hS => ?_)
  have hP : va_P D.1 vwCl [(m0, .inr (6, [.int th, .int (nI M.1), .ref m1, .ref m2, .int (nI bt), .ref m3, .int (nI ln), .ref m4, .ref m5, .int (nI cl), .ref m6, .ref m7, .ref m8, .ref m9, .ref m10, .ref m11, .ref m12, .int (nI pn), .ref m13, .ref m14])), (m1, .inl (D.2 0, 800, .inl (upd (upd (upd M.2.1 (4 * M.1) p1) (4 * M.1 + 1) p2) (4 * M.1 + 2) p3))), (m2, .inl (D.2 0, 200, .inl M.2.2))] H := hP
  have hD : va_D A [(m0, .inr (6, [.int th, .int (nI M.1), .ref m1, .ref m2, .int (nI bt), .ref m3, .int (nI ln), .ref m4, .ref m5, .int (nI cl), .ref m6, .ref m7, .ref m8, .ref m9, .ref m10, .ref m11, .ref m12, .int (nI pn), .ref m13, .ref m14])), (m1, .inl (D.2 0, 800, .inl (upd (upd (upd M.2.1 (4 * M.1) p1) (4 * M.1 + 1) p2) (4 * M.1 + 2) p3))), (m2, .inl (D.2 0, 200, .inl M.2.2))] := hD
  refine lv_aload_n hx hb dX6_enter_40 rfl (lv_at hl 0 rfl) ?_
  refine va_get (D := D.1) (ci := 6) (v := .ref m1) (C := "ShopLedgerModel") (T := TX6) (N := 20) hx hb hZ inX6 hown hK hP 0 rfl rfl 2 (by decide) (hZ _ t_276) (fun _ h9 => h9) rfl dX6_enter_41 ?_
  refine lv_iconst (v := 4) hx hb dX6_enter_44 (by decide) ?_
  refine lv_aload_n hx hb dX6_enter_45 rfl (lv_at hl 0 rfl) ?_
  refine va_get (D := D.1) (ci := 6) (v := .int (nI M.1)) (C := "ShopLedgerModel") (T := TX6) (N := 20) hx hb hZ inX6 hown hK hP 0 rfl rfl 1 (by decide) (hZ _ t_277) (fun _ h9 => h9) rfl dX6_enter_46 ?_
  refine lv_imul hx hb dX6_enter_49 ?_
  rw [show (4 * (nI M.1)) = nI (4 * M.1) from pk_mul 4 M.1]
  refine lv_iconst (v := 3) hx hb dX6_enter_50 (by decide) ?_
  refine lv_iadd hx hb dX6_enter_51 ?_
  rw [show ((nI (4 * M.1)) + 3) = nI (4 * M.1 + 3) from nI_add _ 3]
  refine lv_aload_n hx hb dX6_enter_52 rfl (lv_at hl 0 rfl) ?_
  refine va_get (D := D.1) (ci := 6) (v := .int (nI bt)) (C := "ShopLedgerModel") (T := TX6) (N := 20) hx hb hZ inX6 hown hK hP 0 rfl rfl 4 (by decide) (hZ _ t_278) (fun _ h9 => h9) rfl dX6_enter_53 ?_
  refine z_iast (k := 4 * M.1 + 3) hx hb hK hP hD hS 1 rfl (by omega) (by decide) dX6_enter_56 (fun H locs hP hD hS => ?_)
  have hP : va_P D.1 vwCl [(m0, .inr (6, [.int th, .int (nI M.1), .ref m1, .ref m2, .int (nI bt), .ref m3, .int (nI ln), .ref m4, .ref m5, .int (nI cl), .ref m6, .ref m7, .ref m8, .ref m9, .ref m10, .ref m11, .ref m12, .int (nI pn), .ref m13, .ref m14])), (m1, .inl (D.2 0, 800, .inl (upd (upd (upd (upd M.2.1 (4 * M.1) p1) (4 * M.1 + 1) p2) (4 * M.1 + 2) p3) (4 * M.1 + 3) (nI bt)))), (m2, .inl (D.2 0, 200, .inl M.2.2))] H := hP
  have hD : va_D A [(m0, .inr (6, [.int th, .int (nI M.1), .ref m1, .ref m2, .int (nI bt), .ref m3, .int (nI ln), .ref m4, .ref m5, .int (nI cl), .ref m6, .ref m7, .ref m8, .ref m9, .ref m10, .ref m11, .ref m12, .int (nI pn), .ref m13, .ref m14])), (m1, .inl (D.2 0, 800, .inl (upd (upd (upd (upd M.2.1 (4 * M.1) p1) (4 * M.1 + 1) p2) (4 * M.1 + 2) p3) (4 * M.1 + 3) (nI bt)))), (m2, .inl (D.2 0, 200, .inl M.2.2))] := hD
  refine lv_aload_n hx hb dX6_enter_57 rfl (lv_at hl 0 rfl) ?_
  refine va_get (D := D.1) (ci := 6) (v := .ref m2) (C := "ShopLedgerModel") (T := TX6) (N := 20) hx hb hZ inX6 hown hK hP 0 rfl rfl 3 (by decide) (hZ _ t_279) (fun _ h9 => h9) rfl dX6_enter_58 ?_
  refine lv_aload_n hx hb dX6_enter_61 rfl (lv_at hl 0 rfl) ?_
  refine va_get (D := D.1) (ci := 6) (v := .int (nI M.1)) (C := "ShopLedgerModel") (T := TX6) (N := 20) hx hb hZ inX6 hown hK hP 0 rfl rfl 1 (by decide) (hZ _ t_277) (fun _ h9 => h9) rfl dX6_enter_62 ?_
  refine lv_iload hx hb dX6_enter_65 (lv_at hl 4 rfl) ?_
  refine z_iast (k := M.1) hx hb hK hP hD hS 2 rfl (hn) (by decide) dX6_enter_67 (fun H locs hP hD hS => ?_)
  have hP : va_P D.1 vwCl [(m0, .inr (6, [.int th, .int (nI M.1), .ref m1, .ref m2, .int (nI bt), .ref m3, .int (nI ln), .ref m4, .ref m5, .int (nI cl), .ref m6, .ref m7, .ref m8, .ref m9, .ref m10, .ref m11, .ref m12, .int (nI pn), .ref m13, .ref m14])), (m1, .inl (D.2 0, 800, .inl (upd (upd (upd (upd M.2.1 (4 * M.1) p1) (4 * M.1 + 1) p2) (4 * M.1 + 2) p3) (4 * M.1 + 3) (nI bt)))), (m2, .inl (D.2 0, 200, .inl (upd M.2.2 M.1 p4)))] H := hP
  have hD : va_D A [(m0, .inr (6, [.int th, .int (nI M.1), .ref m1, .ref m2, .int (nI bt), .ref m3, .int (nI ln), .ref m4, .ref m5, .int (nI cl), .ref m6, .ref m7, .ref m8, .ref m9, .ref m10, .ref m11, .ref m12, .int (nI pn), .ref m13, .ref m14])), (m1, .inl (D.2 0, 800, .inl (upd (upd (upd (upd M.2.1 (4 * M.1) p1) (4 * M.1 + 1) p2) (4 * M.1 + 2) p3) (4 * M.1 + 3) (nI bt)))), (m2, .inl (D.2 0, 200, .inl (upd M.2.2 M.1 p4)))] := hD
  refine lv_aload_n hx hb dX6_enter_68 rfl (lv_at hl 0 rfl) ?_
  refine lv_dup hx hb dX6_enter_69 rfl ?_
  refine va_get (D := D.1) (ci := 6) (v := .int (nI M.1)) (C := "ShopLedgerModel") (T := TX6) (N := 20) hx hb hZ inX6 hown hK hP 0 rfl rfl 1 (by decide) (hZ _ t_277) (fun _ h9 => h9) rfl dX6_enter_70 ?_
  refine lv_iconst (v := 1) hx hb dX6_enter_73 (by decide) ?_
  refine lv_iadd hx hb dX6_enter_74 ?_
  rw [show ((nI M.1) + 1) = nI (M.1 + 1) from nI_1 M.1]
  refine va_put (D := D.1) (ci := 6) (v := .int (nI (M.1 + 1))) (ty := .int) (C := "ShopLedgerModel") (T := TX6) (N := 20) hx hb hZ inX6 tyX6 tyX6_ok nmX6 hown hK hP hD hS 0 rfl rfl 1 (by decide) (hZ _ t_277) (fun _ h9 => h9) rfl (by decide +kernel) rfl rfl (Nat.le_of_ble_eq_true rfl) dX6_enter_75 (fun H locs hP hD hS => ?_)
  have hP : va_P D.1 vwCl [(m0, .inr (6, [.int th, .int (nI (M.1 + 1)), .ref m1, .ref m2, .int (nI bt), .ref m3, .int (nI ln), .ref m4, .ref m5, .int (nI cl), .ref m6, .ref m7, .ref m8, .ref m9, .ref m10, .ref m11, .ref m12, .int (nI pn), .ref m13, .ref m14])), (m1, .inl (D.2 0, 800, .inl (upd (upd (upd (upd M.2.1 (4 * M.1) p1) (4 * M.1 + 1) p2) (4 * M.1 + 2) p3) (4 * M.1 + 3) (nI bt)))), (m2, .inl (D.2 0, 200, .inl (upd M.2.2 M.1 p4)))] H := hP
  have hD : va_D A [(m0, .inr (6, [.int th, .int (nI (M.1 + 1)), .ref m1, .ref m2, .int (nI bt), .ref m3, .int (nI ln), .ref m4, .ref m5, .int (nI cl), .ref m6, .ref m7, .ref m8, .ref m9, .ref m10, .ref m11, .ref m12, .int (nI pn), .ref m13, .ref m14])), (m1, .inl (D.2 0, 800, .inl (upd (upd (upd (upd M.2.1 (4 * M.1) p1) (4 * M.1 + 1) p2) (4 * M.1 + 2) p3) (4 * M.1 + 3) (nI bt)))), (m2, .inl (D.2 0, 200, .inl (upd M.2.2 M.1 p4)))] := hD
  exact z_vret hx hb hr hlocks hP hD hS () (trivial) [0, 1, 2] rfl (by decide) (Nat.le_of_ble_eq_true rfl) (Nat.le_of_ble_eq_true rfl) dX6_enter_78
set_option maxHeartbeats 4000000 in
set_option maxRecDepth 100000 in
/-- the reference: endBatch -/
theorem d_end {l : Launch} (D : zD) (m0 m1 m2 m3 m4 m5 m6 m7 m8 m9 m10 m11 m12 m13 m14 : Nat) (M : zM) (bt ln cl pn : Nat) (th : Int32) (qm : Nat → Int32) (p1 : Int32) (sz : Nat) (hb9 : bt < 200) : Met l yX6_endBatch wsX6_endBatch ({ frames := 0, cells := 0, slots := 0, locals := 0 }) (va_Pc [.ref m0, .int p1] (zp D sz [(m0, .inr (6, [.int th, .int (nI M.1), .ref m1, .ref m2, .int (nI bt), .ref m3, .int (nI ln), .ref m4, .ref m5, .int (nI cl), .ref m6, .ref m7, .ref m8, .ref m9, .ref m10, .ref m11, .ref m12, .int (nI pn), .ref m13, .ref m14])), (m3, .inl (D.2 0, 200, .inl qm))])) (va_Qi (fun r (_ : Unit) => r = nI bt) (zq D (va_A [(m0, .inr (6, [.int th, .int (nI M.1), .ref m1, .ref m2, .int (nI bt), .ref m3, .int (nI ln), .ref m4, .ref m5, .int (nI cl), .ref m6, .ref m7, .ref m8, .ref m9, .ref m10, .ref m11, .ref m12, .int (nI pn), .ref m13, .ref m14])), (m3, .inl (D.2 0, 200, .inl qm))] sz) (fun (_ : Unit) => ([(m0, .inr (6, [.int th, .int (nI M.1), .ref m1, .ref m2, .int (nI (bt + 1)), .ref m3, .int (nI ln), .ref m4, .ref m5, .int (nI cl), .ref m6, .ref m7, .ref m8, .ref m9, .ref m10, .ref m11, .ref m12, .int (nI pn), .ref m13, .ref m14])), (m3, .inl (D.2 0, 200, .inl (upd qm bt p1)))] : va_W))) (va_A [(m0, .inr (6, [.int th, .int (nI M.1), .ref m1, .ref m2, .int (nI bt), .ref m3, .int (nI ln), .ref m4, .ref m5, .int (nI cl), .ref m6, .ref m7, .ref m8, .ref m9, .ref m10, .ref m11, .ref m12, .int (nI pn), .ref m13, .ref m14])), (m3, .inl (D.2 0, 200, .inl qm))] sz)) 0 0 (va_A [(m0, .inr (6, [.int th, .int (nI M.1), .ref m1, .ref m2, .int (nI bt), .ref m3, .int (nI ln), .ref m4, .ref m5, .int (nI cl), .ref m6, .ref m7, .ref m8, .ref m9, .ref m10, .ref m11, .ref m12, .int (nI pn), .ref m13, .ref m14])), (m3, .inl (D.2 0, 200, .inl qm))] sz) := by
  refine Met.ofW (cc := cX6_endBatch) (maxL := 2) (ret := (some .int)) (by decide) rfl ?_
  intro p e s m args below meth c s₁ B hml hv
  obtain ⟨rfl, hsz, hP, hK, hD0, hB⟩ := hv
  have hx := B.exec
  have hb := B.bytes
  have hr := B.returns
  have hts := atoms_spec (ws := wsX6_endBatch) B.pre
  have hown : s.vm.findClass "ShopLedgerModel" = some m.cls := findClass_of_methodNamed B.named
  have hlocks := B.notSynchronized
  subst hsz
  have hD := hD0.self (sz := s.heap.size)
  generalize hAe : va_A [(m0, .inr (6, [.int th, .int (nI M.1), .ref m1, .ref m2, .int (nI bt), .ref m3, .int (nI ln), .ref m4, .ref m5, .int (nI cl), .ref m6, .ref m7, .ref m8, .ref m9, .ref m10, .ref m11, .ref m12, .int (nI pn), .ref m13, .ref m14])), (m3, .inl (D.2 0, 200, .inl qm))] s.heap.size = A at hD hB ⊢
  have hA : ∀ q : Nat, s.heap.size ≤ q → A q := fun q h => by rw [← hAe]; exact Or.inr h
  have hS : va_S A s.heap s.heap [] := va_S.rf
  have hZ : ∀ w ∈ zALL, w.before _ s = true := fun w h => hts w (List.mem_cons_of_mem _ h)
  have hF : CallFix p m c cX6_endBatch 2 s _ zALL "ShopLedgerModel" := ⟨hx, hb, hml, hown, hZ⟩
  have hl := lv_entry ([.ref m0, .int p1]) (n := 2) (Nat.le_of_ble_eq_true rfl)
  rw [lg_entry_eq]
  generalize (lg_sl ([.ref m0, .int p1]) ++ List.replicate (2 - (lg_sl ([.ref m0, .int p1])).length) Slot.unset).toArray = ls at hl ⊢
  have hl : lv_has ls 2 [(0, .ref m0), (1, .int p1)] := hl
  refine lv_aload_n hx hb dX6_endBatch_0 rfl (lv_at hl 0 rfl) ?_
  refine va_get (D := D.1) (ci := 6) (v := .ref m3) (C := "ShopLedgerModel") (T := TX6) (N := 20) hx hb hZ inX6 hown hK hP 0 rfl rfl 5 (by decide) (hZ _ t_280) (fun _ h9 => h9) rfl dX6_endBatch_1 ?_
  refine lv_aload_n hx hb dX6_endBatch_4 rfl (lv_at hl 0 rfl) ?_
  refine va_get (D := D.1) (ci := 6) (v := .int (nI bt)) (C := "ShopLedgerModel") (T := TX6) (N := 20) hx hb hZ inX6 hown hK hP 0 rfl rfl 4 (by decide) (hZ _ t_278) (fun _ h9 => h9) rfl dX6_endBatch_5 ?_
  refine lv_iload_n hx hb dX6_endBatch_8 rfl (lv_at hl 1 rfl) ?_
  refine z_iast (k := bt) hx hb hK hP hD hS 1 rfl (hb9) (by decide) dX6_endBatch_9 (fun H locs hP hD hS => ?_)
  have hP : va_P D.1 vwCl [(m0, .inr (6, [.int th, .int (nI M.1), .ref m1, .ref m2, .int (nI bt), .ref m3, .int (nI ln), .ref m4, .ref m5, .int (nI cl), .ref m6, .ref m7, .ref m8, .ref m9, .ref m10, .ref m11, .ref m12, .int (nI pn), .ref m13, .ref m14])), (m3, .inl (D.2 0, 200, .inl (upd qm bt p1)))] H := hP
  have hD : va_D A [(m0, .inr (6, [.int th, .int (nI M.1), .ref m1, .ref m2, .int (nI bt), .ref m3, .int (nI ln), .ref m4, .ref m5, .int (nI cl), .ref m6, .ref m7, .ref m8, .ref m9, .ref m10, .ref m11, .ref m12, .int (nI pn), .ref m13, .ref m14])), (m3, .inl (D.2 0, 200, .inl (upd qm bt p1)))] := hD
  refine lv_aload_n hx hb dX6_endBatch_10 rfl (lv_at hl 0 rfl) ?_
  refine lv_dup hx hb dX6_endBatch_11 rfl ?_
  refine va_get (D := D.1) (ci := 6) (v := .int (nI bt)) (C := "ShopLedgerModel") (T := TX6) (N := 20) hx hb hZ inX6 hown hK hP 0 rfl rfl 4 (by decide) (hZ _ t_278) (fun _ h9 => h9) rfl dX6_endBatch_12 ?_
  refine lv_iconst (v := 1) hx hb dX6_endBatch_15 (by decide) ?_
  refine lv_iadd hx hb dX6_endBatch_16 ?_
  rw [show ((nI bt) + 1) = nI (bt + 1) from nI_1 bt]
  refine va_put (D := D.1) (ci := 6) (v := .int (nI (bt + 1))) (ty := .int) (C := "ShopLedgerModel") (T := TX6) (N := 20) hx hb hZ inX6 tyX6 tyX6_ok nmX6 hown hK hP hD hS 0 rfl rfl 4 (by decide) (hZ _ t_278) (fun _ h9 => h9) rfl (by decide +kernel) rfl rfl (Nat.le_of_ble_eq_true rfl) dX6_endBatch_17 (fun H locs hP hD hS => ?_)
  have hP : va_P D.1 vwCl [(m0, .inr (6, [.int th, .int (nI M.1), .ref m1, .ref m2, .int (nI (bt + 1)), .ref m3, .int (nI ln), .ref m4, .ref m5, .int (nI cl), .ref m6, .ref m7, .ref m8, .ref m9, .ref m10, .ref m11, .ref m12, .int (nI pn), .ref m13, .ref m14])), (m3, .inl (D.2 0, 200, .inl (upd qm bt p1)))] H := hP
  have hD : va_D A [(m0, .inr (6, [.int th, .int (nI M.1), .ref m1, .ref m2, .int (nI (bt + 1)), .ref m3, .int (nI ln), .ref m4, .ref m5, .int (nI cl), .ref m6, .ref m7, .ref m8, .ref m9, .ref m10, .ref m11, .ref m12, .int (nI pn), .ref m13, .ref m14])), (m3, .inl (D.2 0, 200, .inl (upd qm bt p1)))] := hD
  refine lv_aload_n hx hb dX6_endBatch_20 rfl (lv_at hl 0 rfl) ?_
  refine va_get (D := D.1) (ci := 6) (v := .int (nI (bt + 1))) (C := "ShopLedgerModel") (T := TX6) (N := 20) hx hb hZ inX6 hown hK hP 0 rfl rfl 4 (by decide) (hZ _ t_278) (fun _ h9 => h9) rfl dX6_endBatch_21 ?_
  refine lv_iconst (v := 1) hx hb dX6_endBatch_24 (by decide) ?_
  refine lv_isub hx hb dX6_endBatch_25 ?_
  rw [show ((nI (bt + 1)) - 1) = nI bt from nI_pred bt]
  exact z_iret (v := nI bt) hx hb hr hlocks hP hD hS () (rfl) [0, 1] rfl (by decide) (Nat.le_of_ble_eq_true rfl) (Nat.le_of_ble_eq_true rfl) dX6_endBatch_26
set_option maxHeartbeats 4000000 in
set_option maxRecDepth 100000 in
/-- the reference: line -/
theorem d_line {l : Launch} (D : zD) (m0 m1 m2 m3 m4 m5 m6 m7 m8 m9 m10 m11 m12 m13 m14 : Nat) (M : zM) (bt ln cl pn : Nat) (th : Int32) (lo lc : Nat → Int32) (p1 p2 p3 p4 : Int32) (sz : Nat) (hn : ln ≤ 16) : Met l yX6_line wsX6_line ({ frames := 2, cells := 0, slots := 0, locals := 47 }) (va_Pc [.ref m0, .int p1, .int p2, .int p3, .int p4] (zp D sz [(m0, .inr (6, [.int th, .int (nI M.1), .ref m1, .ref m2, .int (nI bt), .ref m3, .int (nI ln), .ref m4, .ref m5, .int (nI cl), .ref m6, .ref m7, .ref m8, .ref m9, .ref m10, .ref m11, .ref m12, .int (nI pn), .ref m13, .ref m14])), (m4, .inl (D.2 0, 48, .inl lo)), (m5, .inl (D.2 0, 16, .inl lc))])) (va_Qi (fun r (u : Option Int32) => (u = none ∧ (zin p1 8 ∧ zin p2 8 ∧ zin p3 12) ∧ (¬ 16 ≤ nI ln) ∧ (¬ p4 < (-1000000000) ∧ p4 ≤ 1000000000 ∧ ¬ p4 = 0) ∧ r = nI (ln + 1)) ∨ (u = some 1 ∧ ¬ (zin p1 8 ∧ zin p2 8 ∧ zin p3 12)) ∨ (u = some 2 ∧ (zin p1 8 ∧ zin p2 8 ∧ zin p3 12) ∧ ¬ (¬ 16 ≤ nI ln)) ∨ (u = some 3 ∧ (zin p1 8 ∧ zin p2 8 ∧ zin p3 12) ∧ (¬ 16 ≤ nI ln) ∧ ¬ (¬ p4 < (-1000000000) ∧ p4 ≤ 1000000000 ∧ ¬ p4 = 0))) (zq D (va_A [(m0, .inr (6, [.int th, .int (nI M.1), .ref m1, .ref m2, .int (nI bt), .ref m3, .int (nI ln), .ref m4, .ref m5, .int (nI cl), .ref m6, .ref m7, .ref m8, .ref m9, .ref m10, .ref m11, .ref m12, .int (nI pn), .ref m13, .ref m14])), (m4, .inl (D.2 0, 48, .inl lo)), (m5, .inl (D.2 0, 16, .inl lc))] sz) (fun (u : Option Int32) => (u.elim [(m0, .inr (6, [.int 0, .int (nI M.1), .ref m1, .ref m2, .int (nI bt), .ref m3, .int (nI (ln + 1)), .ref m4, .ref m5, .int (nI cl), .ref m6, .ref m7, .ref m8, .ref m9, .ref m10, .ref m11, .ref m12, .int (nI pn), .ref m13, .ref m14])), (m4, .inl (D.2 0, 48, .inl (upd (upd (upd lo (3 * ln) p1) (3 * ln + 1) p2) (3 * ln + 2) p3))), (m5, .inl (D.2 0, 16, .inl (upd lc ln p4)))] (fun t => [(m0, .inr (6, [.int t, .int (nI M.1), .ref m1, .ref m2, .int (nI bt), .ref m3, .int (nI ln), .ref m4, .ref m5, .int (nI cl), .ref m6, .ref m7, .ref m8, .ref m9, .ref m10, .ref m11, .ref m12, .int (nI pn), .ref m13, .ref m14])), (m4, .inl (D.2 0, 48, .inl lo)), (m5, .inl (D.2 0, 16, .inl lc))]) : va_W))) (va_A [(m0, .inr (6, [.int th, .int (nI M.1), .ref m1, .ref m2, .int (nI bt), .ref m3, .int (nI ln), .ref m4, .ref m5, .int (nI cl), .ref m6, .ref m7, .ref m8, .ref m9, .ref m10, .ref m11, .ref m12, .int (nI pn), .ref m13, .ref m14])), (m4, .inl (D.2 0, 48, .inl lo)), (m5, .inl (D.2 0, 16, .inl lc))] sz)) 0 0 (va_A [(m0, .inr (6, [.int th, .int (nI M.1), .ref m1, .ref m2, .int (nI bt), .ref m3, .int (nI ln), .ref m4, .ref m5, .int (nI cl), .ref m6, .ref m7, .ref m8, .ref m9, .ref m10, .ref m11, .ref m12, .int (nI pn), .ref m13, .ref m14])), (m4, .inl (D.2 0, 48, .inl lo)), (m5, .inl (D.2 0, 16, .inl lc))] sz) := by
  refine Met.ofW (cc := cX6_line) (maxL := 6) (ret := (some .int)) (by decide) rfl ?_
  intro p e s m args below meth c s₁ B hml hv
  obtain ⟨rfl, hsz, hP, hK, hD0, hB⟩ := hv
  have hx := B.exec
  have hb := B.bytes
  have hr := B.returns
  have hts := atoms_spec (ws := wsX6_line) B.pre
  have hown : s.vm.findClass "ShopLedgerModel" = some m.cls := findClass_of_methodNamed B.named
  have hlocks := B.notSynchronized
  subst hsz
  have hD := hD0.self (sz := s.heap.size)
  generalize hAe : va_A [(m0, .inr (6, [.int th, .int (nI M.1), .ref m1, .ref m2, .int (nI bt), .ref m3, .int (nI ln), .ref m4, .ref m5, .int (nI cl), .ref m6, .ref m7, .ref m8, .ref m9, .ref m10, .ref m11, .ref m12, .int (nI pn), .ref m13, .ref m14])), (m4, .inl (D.2 0, 48, .inl lo)), (m5, .inl (D.2 0, 16, .inl lc))] s.heap.size = A at hD hB ⊢
  have hA : ∀ q : Nat, s.heap.size ≤ q → A q := fun q h => by rw [← hAe]; exact Or.inr h
  have hS : va_S A s.heap s.heap [] := va_S.rf
  have hZ : ∀ w ∈ zALL, w.before _ s = true := fun w h => hts w (List.mem_cons_of_mem _ h)
  have hF : CallFix p m c cX6_line 6 s _ zALL "ShopLedgerModel" := ⟨hx, hb, hml, hown, hZ⟩
  have hl := lv_entry ([.ref m0, .int p1, .int p2, .int p3, .int p4]) (n := 6) (Nat.le_of_ble_eq_true rfl)
  rw [lg_entry_eq]
  generalize (lg_sl ([.ref m0, .int p1, .int p2, .int p3, .int p4]) ++ List.replicate (6 - (lg_sl ([.ref m0, .int p1, .int p2, .int p3, .int p4])).length) Slot.unset).toArray = ls at hl ⊢
  have hl : lv_has ls 6 [(0, .ref m0), (1, .int p1), (2, .int p2), (3, .int p3), (4, .int p4)] := hl
  refine lv_iload hx hb dX6_line_0 (lv_at hl 4 rfl) ?_
  refine lv_if_eq (tgt := 20) hx hb dX6_line_2 (by decide) (fun c1 => ?_) (fun c1 => ?_)
  · skip
    have rg : ¬ (¬ p4 < (-1000000000) ∧ p4 ≤ 1000000000 ∧ ¬ p4 = 0) := fun h => h.2.2 c1
    refine lv_iconst (v := 1) hx hb dX6_line_20 (by decide) ?_
    refine lv_goto (tgt := 25) hx hb dX6_line_21 (by decide) ?_
    refine lv_istore (lv' := [(5, .int 1), (0, .ref m0), (1, .int p1), (2, .int p2), (3, .int p3), (4, .int p4)]) hx hb dX6_line_25 hl (by decide) rfl (fun ls hl => ?_)
    refine lv_aload_n hx hb dX6_line_27 rfl (lv_at hl 1 rfl) ?_
    refine lv_iload_n hx hb dX6_line_28 rfl (lv_at hl 2 rfl) ?_
    refine lv_iload_n hx hb dX6_line_29 rfl (lv_at hl 3 rfl) ?_
    refine lv_iload_n hx hb dX6_line_30 rfl (lv_at hl 4 rfl) ?_
    have J := zJ.mk (wc := []) (wr := [(m0, .inr (6, [.int th, .int (nI M.1), .ref m1, .ref m2, .int (nI bt), .ref m3, .int (nI ln), .ref m4, .ref m5, .int (nI cl), .ref m6, .ref m7, .ref m8, .ref m9, .ref m10, .ref m11, .ref m12, .int (nI pn), .ref m13, .ref m14])), (m4, .inl (D.2 0, 48, .inl lo)), (m5, .inl (D.2 0, 16, .inl lc))]) hA hB hK hP hD hS [] [0, 1, 2] rfl rfl (by decide)
    refine z_goi (z_runS (As := [.int p1, .int p2, .int p3]) (rest := [.ref m0]) hF (d_there D p1 p2 p3 s.heap.size) (va_cwS 3 hZ (z_gS t_282 t_283 t_272 t_281) rfl rfl rfl (by decide +kernel) ⟨Nat.le_of_ble_eq_true rfl, Nat.le_of_ble_eq_true rfl⟩) J rfl hl.1 (Nat.le_of_ble_eq_true rfl) dX6_line_31 ⟨Nat.le_of_ble_eq_true rfl, Nat.le_of_ble_eq_true rfl⟩) J (fun r2 _ H locs w2 hP hD hS => ?_)
    have hP : va_P D.1 vwCl [(m0, .inr (6, [.int th, .int (nI M.1), .ref m1, .ref m2, .int (nI bt), .ref m3, .int (nI ln), .ref m4, .ref m5, .int (nI cl), .ref m6, .ref m7, .ref m8, .ref m9, .ref m10, .ref m11, .ref m12, .int (nI pn), .ref m13, .ref m14])), (m4, .inl (D.2 0, 48, .inl lo)), (m5, .inl (D.2 0, 16, .inl lc))] H := hP
    have hD : va_D A [(m0, .inr (6, [.int th, .int (nI M.1), .ref m1, .ref m2, .int (nI bt), .ref m3, .int (nI ln), .ref m4, .ref m5, .int (nI cl), .ref m6, .ref m7, .ref m8, .ref m9, .ref m10, .ref m11, .ref m12, .int (nI pn), .ref m13, .ref m14])), (m4, .inl (D.2 0, 48, .inl lo)), (m5, .inl (D.2 0, 16, .inl lc))] := hD
    refine lv_if_ne (tgt := 41) hx hb dX6_line_34 (by decide) (fun c3 => ?_) (fun c3 => ?_)
    · skip
      have ar := z_b1 w2 c3
      refine lv_iconst (v := 0) hx hb dX6_line_41 (by decide) ?_
      refine lv_aload_n hx hb dX6_line_42 rfl (lv_at hl 1 rfl) ?_
      refine va_get (D := D.1) (ci := 6) (v := .int (nI ln)) (C := "ShopLedgerModel") (T := TX6) (N := 20) hx hb hZ inX6 hown hK hP 0 rfl rfl 6 (by decide) (hZ _ t_284) (fun _ h9 => h9) rfl dX6_line_43 ?_
      refine lv_bipush (v := 16) hx hb dX6_line_46 (by decide) ?_
      refine lv_icmp_ne (tgt := 55) hx hb dX6_line_48 (by decide) (fun c4 => ?_) (fun c4 => ?_)
      · skip
        have tu : ¬ 16 ≤ nI ln := fun h => c4 (z_full (t := 16) hn (by decide) h)
        refine lv_iconst (v := 0) hx hb dX6_line_55 (by decide) ?_
        refine lv_iload hx hb dX6_line_56 (lv_at hl 0 rfl) ?_
        refine lv_iconst (v := 0) hx hb dX6_line_58 (by decide) ?_
        have J := zJ.mk (wc := [(m0, .inr (6, [.int th, .int (nI M.1), .ref m1, .ref m2, .int (nI bt), .ref m3, .int (nI ln), .ref m4, .ref m5, .int (nI cl), .ref m6, .ref m7, .ref m8, .ref m9, .ref m10, .ref m11, .ref m12, .int (nI pn), .ref m13, .ref m14]))]) (wr := [(m4, .inl (D.2 0, 48, .inl lo)), (m5, .inl (D.2 0, 16, .inl lc))]) hA hB hK hP hD hS [0] [1, 2] rfl rfl (by decide)
        refine z_goi (z_runV (As := [.int 0, .int 0, .int 1, .int 0]) (rest := []) (b := m0) hF (d_throwing D m0 m1 m2 m3 m4 m5 m6 m7 m8 m9 m10 m11 m12 m13 m14 (M.1, fun _ => 0, fun _ => 0) bt ln cl pn th 0 0 1 0 H.size) (cwV 4 hZ (z_gV t_286 t_287 t_288 t_272 t_285) rfl rfl rfl (by decide +kernel) ⟨Nat.le_of_ble_eq_true rfl, Nat.le_of_ble_eq_true rfl⟩) J 0 6 rfl rfl rfl rfl hl.1 (Nat.le_of_ble_eq_true rfl) dX6_line_59 ⟨Nat.le_of_ble_eq_true rfl, Nat.le_of_ble_eq_true rfl⟩) J (fun r3 _ H locs w3 hP hD hS => ?_)
        have hP : va_P D.1 vwCl [(m4, .inl (D.2 0, 48, .inl lo)), (m5, .inl (D.2 0, 16, .inl lc)), (m0, .inr (6, [.int 3, .int (nI M.1), .ref m1, .ref m2, .int (nI bt), .ref m3, .int (nI ln), .ref m4, .ref m5, .int (nI cl), .ref m6, .ref m7, .ref m8, .ref m9, .ref m10, .ref m11, .ref m12, .int (nI pn), .ref m13, .ref m14]))] H := hP
        have hD : va_D A [(m4, .inl (D.2 0, 48, .inl lo)), (m5, .inl (D.2 0, 16, .inl lc)), (m0, .inr (6, [.int 3, .int (nI M.1), .ref m1, .ref m2, .int (nI bt), .ref m3, .int (nI ln), .ref m4, .ref m5, .int (nI cl), .ref m6, .ref m7, .ref m8, .ref m9, .ref m10, .ref m11, .ref m12, .int (nI pn), .ref m13, .ref m14]))] := hD
        have w3 : r3 = 1 := w3
        subst w3
        refine lv_if_eq (tgt := 67) hx hb dX6_line_62 (by decide) (fun c5 => ?_) (fun c5 => ?_)
        · skip
          exfalso; exact absurd c5 (by decide)
        refine lv_iconst (v := 0) hx hb dX6_line_65 (by decide) ?_
        exact z_iret (v := 0) hx hb hr hlocks hP hD hS (some 3) (Or.inr (Or.inr (Or.inr (⟨rfl, ar, tu, rg⟩)))) [2, 0, 1] rfl (by decide) (Nat.le_of_ble_eq_true rfl) (Nat.le_of_ble_eq_true rfl) dX6_line_66
      have tu : ¬ (¬ 16 ≤ nI ln) := fun h => h (by rw [c4]; decide)
      refine lv_iconst (v := 1) hx hb dX6_line_51 (by decide) ?_
      refine lv_goto (tgt := 56) hx hb dX6_line_52 (by decide) ?_
      refine lv_iload hx hb dX6_line_56 (lv_at hl 0 rfl) ?_
      refine lv_iconst (v := 0) hx hb dX6_line_58 (by decide) ?_
      have J := zJ.mk (wc := [(m0, .inr (6, [.int th, .int (nI M.1), .ref m1, .ref m2, .int (nI bt), .ref m3, .int (nI ln), .ref m4, .ref m5, .int (nI cl), .ref m6, .ref m7, .ref m8, .ref m9, .ref m10, .ref m11, .ref m12, .int (nI pn), .ref m13, .ref m14]))]) (wr := [(m4, .inl (D.2 0, 48, .inl lo)), (m5, .inl (D.2 0, 16, .inl lc))]) hA hB hK hP hD hS [0] [1, 2] rfl rfl (by decide)
      refine z_goi (z_runV (As := [.int 0, .int 1, .int 1, .int 0]) (rest := []) (b := m0) hF (d_throwing D m0 m1 m2 m3 m4 m5 m6 m7 m8 m9 m10 m11 m12 m13 m14 (M.1, fun _ => 0, fun _ => 0) bt ln cl pn th 0 1 1 0 H.size) (cwV 4 hZ (z_gV t_286 t_287 t_288 t_272 t_285) rfl rfl rfl (by decide +kernel) ⟨Nat.le_of_ble_eq_true rfl, Nat.le_of_ble_eq_true rfl⟩) J 0 6 rfl rfl rfl rfl hl.1 (Nat.le_of_ble_eq_true rfl) dX6_line_59 ⟨Nat.le_of_ble_eq_true rfl, Nat.le_of_ble_eq_true rfl⟩) J (fun r3 _ H locs w3 hP hD hS => ?_)
      have hP : va_P D.1 vwCl [(m4, .inl (D.2 0, 48, .inl lo)), (m5, .inl (D.2 0, 16, .inl lc)), (m0, .inr (6, [.int 2, .int (nI M.1), .ref m1, .ref m2, .int (nI bt), .ref m3, .int (nI ln), .ref m4, .ref m5, .int (nI cl), .ref m6, .ref m7, .ref m8, .ref m9, .ref m10, .ref m11, .ref m12, .int (nI pn), .ref m13, .ref m14]))] H := hP
      have hD : va_D A [(m4, .inl (D.2 0, 48, .inl lo)), (m5, .inl (D.2 0, 16, .inl lc)), (m0, .inr (6, [.int 2, .int (nI M.1), .ref m1, .ref m2, .int (nI bt), .ref m3, .int (nI ln), .ref m4, .ref m5, .int (nI cl), .ref m6, .ref m7, .ref m8, .ref m9, .ref m10, .ref m11, .ref m12, .int (nI pn), .ref m13, .ref m14]))] := hD
      have w3 : r3 = 1 := w3
      subst w3
      refine lv_if_eq (tgt := 67) hx hb dX6_line_62 (by decide) (fun c5 => ?_) (fun c5 => ?_)
      · skip
        exfalso; exact absurd c5 (by decide)
      refine lv_iconst (v := 0) hx hb dX6_line_65 (by decide) ?_
      exact z_iret (v := 0) hx hb hr hlocks hP hD hS (some 2) (Or.inr (Or.inr (Or.inl ⟨rfl, ar, tu⟩))) [2, 0, 1] rfl (by decide) (Nat.le_of_ble_eq_true rfl) (Nat.le_of_ble_eq_true rfl) dX6_line_66
    have ar := z_b0 w2 c3
    refine lv_iconst (v := 1) hx hb dX6_line_37 (by decide) ?_
    refine lv_goto (tgt := 42) hx hb dX6_line_38 (by decide) ?_
    refine lv_aload_n hx hb dX6_line_42 rfl (lv_at hl 1 rfl) ?_
    refine va_get (D := D.1) (ci := 6) (v := .int (nI ln)) (C := "ShopLedgerModel") (T := TX6) (N := 20) hx hb hZ inX6 hown hK hP 0 rfl rfl 6 (by decide) (hZ _ t_284) (fun _ h9 => h9) rfl dX6_line_43 ?_
    refine lv_bipush (v := 16) hx hb dX6_line_46 (by decide) ?_
    refine lv_icmp_ne (tgt := 55) hx hb dX6_line_48 (by decide) (fun c4 => ?_) (fun c4 => ?_)
    · skip
      have tu : ¬ 16 ≤ nI ln := fun h => c4 (z_full (t := 16) hn (by decide) h)
      refine lv_iconst (v := 0) hx hb dX6_line_55 (by decide) ?_
      refine lv_iload hx hb dX6_line_56 (lv_at hl 0 rfl) ?_
      refine lv_iconst (v := 0) hx hb dX6_line_58 (by decide) ?_
      have J := zJ.mk (wc := [(m0, .inr (6, [.int th, .int (nI M.1), .ref m1, .ref m2, .int (nI bt), .ref m3, .int (nI ln), .ref m4, .ref m5, .int (nI cl), .ref m6, .ref m7, .ref m8, .ref m9, .ref m10, .ref m11, .ref m12, .int (nI pn), .ref m13, .ref m14]))]) (wr := [(m4, .inl (D.2 0, 48, .inl lo)), (m5, .inl (D.2 0, 16, .inl lc))]) hA hB hK hP hD hS [0] [1, 2] rfl rfl (by decide)
      refine z_goi (z_runV (As := [.int 1, .int 0, .int 1, .int 0]) (rest := []) (b := m0) hF (d_throwing D m0 m1 m2 m3 m4 m5 m6 m7 m8 m9 m10 m11 m12 m13 m14 (M.1, fun _ => 0, fun _ => 0) bt ln cl pn th 1 0 1 0 H.size) (cwV 4 hZ (z_gV t_286 t_287 t_288 t_272 t_285) rfl rfl rfl (by decide +kernel) ⟨Nat.le_of_ble_eq_true rfl, Nat.le_of_ble_eq_true rfl⟩) J 0 6 rfl rfl rfl rfl hl.1 (Nat.le_of_ble_eq_true rfl) dX6_line_59 ⟨Nat.le_of_ble_eq_true rfl, Nat.le_of_ble_eq_true rfl⟩) J (fun r3 _ H locs w3 hP hD hS => ?_)
      have hP : va_P D.1 vwCl [(m4, .inl (D.2 0, 48, .inl lo)), (m5, .inl (D.2 0, 16, .inl lc)), (m0, .inr (6, [.int 1, .int (nI M.1), .ref m1, .ref m2, .int (nI bt), .ref m3, .int (nI ln), .ref m4, .ref m5, .int (nI cl), .ref m6, .ref m7, .ref m8, .ref m9, .ref m10, .ref m11, .ref m12, .int (nI pn), .ref m13, .ref m14]))] H := hP
      have hD : va_D A [(m4, .inl (D.2 0, 48, .inl lo)), (m5, .inl (D.2 0, 16, .inl lc)), (m0, .inr (6, [.int 1, .int (nI M.1), .ref m1, .ref m2, .int (nI bt), .ref m3, .int (nI ln), .ref m4, .ref m5, .int (nI cl), .ref m6, .ref m7, .ref m8, .ref m9, .ref m10, .ref m11, .ref m12, .int (nI pn), .ref m13, .ref m14]))] := hD
      have w3 : r3 = 1 := w3
      subst w3
      refine lv_if_eq (tgt := 67) hx hb dX6_line_62 (by decide) (fun c5 => ?_) (fun c5 => ?_)
      · skip
        exfalso; exact absurd c5 (by decide)
      refine lv_iconst (v := 0) hx hb dX6_line_65 (by decide) ?_
      exact z_iret (v := 0) hx hb hr hlocks hP hD hS (some 1) (Or.inr (Or.inl ⟨rfl, ar⟩)) [2, 0, 1] rfl (by decide) (Nat.le_of_ble_eq_true rfl) (Nat.le_of_ble_eq_true rfl) dX6_line_66
    have tu : ¬ (¬ 16 ≤ nI ln) := fun h => h (by rw [c4]; decide)
    refine lv_iconst (v := 1) hx hb dX6_line_51 (by decide) ?_
    refine lv_goto (tgt := 56) hx hb dX6_line_52 (by decide) ?_
    refine lv_iload hx hb dX6_line_56 (lv_at hl 0 rfl) ?_
    refine lv_iconst (v := 0) hx hb dX6_line_58 (by decide) ?_
    have J := zJ.mk (wc := [(m0, .inr (6, [.int th, .int (nI M.1), .ref m1, .ref m2, .int (nI bt), .ref m3, .int (nI ln), .ref m4, .ref m5, .int (nI cl), .ref m6, .ref m7, .ref m8, .ref m9, .ref m10, .ref m11, .ref m12, .int (nI pn), .ref m13, .ref m14]))]) (wr := [(m4, .inl (D.2 0, 48, .inl lo)), (m5, .inl (D.2 0, 16, .inl lc))]) hA hB hK hP hD hS [0] [1, 2] rfl rfl (by decide)
    refine z_goi (z_runV (As := [.int 1, .int 1, .int 1, .int 0]) (rest := []) (b := m0) hF (d_throwing D m0 m1 m2 m3 m4 m5 m6 m7 m8 m9 m10 m11 m12 m13 m14 (M.1, fun _ => 0, fun _ => 0) bt ln cl pn th 1 1 1 0 H.size) (cwV 4 hZ (z_gV t_286 t_287 t_288 t_272 t_285) rfl rfl rfl (by decide +kernel) ⟨Nat.le_of_ble_eq_true rfl, Nat.le_of_ble_eq_true rfl⟩) J 0 6 rfl rfl rfl rfl hl.1 (Nat.le_of_ble_eq_true rfl) dX6_line_59 ⟨Nat.le_of_ble_eq_true rfl, Nat.le_of_ble_eq_true rfl⟩) J (fun r3 _ H locs w3 hP hD hS => ?_)
    have hP : va_P D.1 vwCl [(m4, .inl (D.2 0, 48, .inl lo)), (m5, .inl (D.2 0, 16, .inl lc)), (m0, .inr (6, [.int 1, .int (nI M.1), .ref m1, .ref m2, .int (nI bt), .ref m3, .int (nI ln), .ref m4, .ref m5, .int (nI cl), .ref m6, .ref m7, .ref m8, .ref m9, .ref m10, .ref m11, .ref m12, .int (nI pn), .ref m13, .ref m14]))] H := hP
    have hD : va_D A [(m4, .inl (D.2 0, 48, .inl lo)), (m5, .inl (D.2 0, 16, .inl lc)), (m0, .inr (6, [.int 1, .int (nI M.1), .ref m1, .ref m2, .int (nI bt), .ref m3, .int (nI ln), .ref m4, .ref m5, .int (nI cl), .ref m6, .ref m7, .ref m8, .ref m9, .ref m10, .ref m11, .ref m12, .int (nI pn), .ref m13, .ref m14]))] := hD
    have w3 : r3 = 1 := w3
    subst w3
    refine lv_if_eq (tgt := 67) hx hb dX6_line_62 (by decide) (fun c5 => ?_) (fun c5 => ?_)
    · skip
      exfalso; exact absurd c5 (by decide)
    refine lv_iconst (v := 0) hx hb dX6_line_65 (by decide) ?_
    exact z_iret (v := 0) hx hb hr hlocks hP hD hS (some 1) (Or.inr (Or.inl ⟨rfl, ar⟩)) [2, 0, 1] rfl (by decide) (Nat.le_of_ble_eq_true rfl) (Nat.le_of_ble_eq_true rfl) dX6_line_66
  refine lv_iload hx hb dX6_line_5 (lv_at hl 4 rfl) ?_
  refine lv_i2l (v := p4.toInt64) hx hb dX6_line_7 rfl ?_
  refine lv_ldc2 (v := (-1000000000)) hx hb hown (hZ _ t_289) dX6_line_8 ?_
  refine lv_ldc2 (v := 1000000000) hx hb hown (hZ _ t_290) dX6_line_11 ?_
  have J := zJ.mk (wc := []) (wr := [(m0, .inr (6, [.int th, .int (nI M.1), .ref m1, .ref m2, .int (nI bt), .ref m3, .int (nI ln), .ref m4, .ref m5, .int (nI cl), .ref m6, .ref m7, .ref m8, .ref m9, .ref m10, .ref m11, .ref m12, .int (nI pn), .ref m13, .ref m14])), (m4, .inl (D.2 0, 48, .inl lo)), (m5, .inl (D.2 0, 16, .inl lc))]) hA hB hK hP hD hS [] [0, 1, 2] rfl rfl (by decide)
  refine z_goi (z_runS (As := [.long p4.toInt64, .long (-1000000000), .long 1000000000]) (rest := []) hF (d_lies D p4.toInt64 (-1000000000) 1000000000 s.heap.size) (va_cwS 3 hZ (z_gS t_273 t_274 t_272 t_271) rfl rfl rfl (by decide +kernel) ⟨Nat.le_of_ble_eq_true rfl, Nat.le_of_ble_eq_true rfl⟩) J rfl hl.1 (Nat.le_of_ble_eq_true rfl) dX6_line_14 ⟨Nat.le_of_ble_eq_true rfl, Nat.le_of_ble_eq_true rfl⟩) J (fun r1 _ H locs w1 hP hD hS => ?_)
  have hP : va_P D.1 vwCl [(m0, .inr (6, [.int th, .int (nI M.1), .ref m1, .ref m2, .int (nI bt), .ref m3, .int (nI ln), .ref m4, .ref m5, .int (nI cl), .ref m6, .ref m7, .ref m8, .ref m9, .ref m10, .ref m11, .ref m12, .int (nI pn), .ref m13, .ref m14])), (m4, .inl (D.2 0, 48, .inl lo)), (m5, .inl (D.2 0, 16, .inl lc))] H := hP
  have hD : va_D A [(m0, .inr (6, [.int th, .int (nI M.1), .ref m1, .ref m2, .int (nI bt), .ref m3, .int (nI ln), .ref m4, .ref m5, .int (nI cl), .ref m6, .ref m7, .ref m8, .ref m9, .ref m10, .ref m11, .ref m12, .int (nI pn), .ref m13, .ref m14])), (m4, .inl (D.2 0, 48, .inl lo)), (m5, .inl (D.2 0, 16, .inl lc))] := hD
  have f1 : (r1 = 1 ∧ ¬ p4 < (-1000000000) ∧ p4 ≤ 1000000000) ∨ (r1 = 0 ∧ ¬ (¬ p4 < (-1000000000) ∧ p4 ≤ 1000000000)) := z_li (a := (-1000000000)) (b := 1000000000) (by decide) (by decide) w1
  refine lv_if_ne (tgt := 24) hx hb dX6_line_17 (by decide) (fun c2 => ?_) (fun c2 => ?_)
  · skip
    have g1 := z_b1 f1 c2
    have rg : ¬ p4 < (-1000000000) ∧ p4 ≤ 1000000000 ∧ ¬ p4 = 0 := ⟨g1.1, g1.2, c1⟩
    refine lv_iconst (v := 0) hx hb dX6_line_24 (by decide) ?_
    refine lv_istore (lv' := [(5, .int 0), (0, .ref m0), (1, .int p1), (2, .int p2), (3, .int p3), (4, .int p4)]) hx hb dX6_line_25 hl (by decide) rfl (fun ls hl => ?_)
    refine lv_aload_n hx hb dX6_line_27 rfl (lv_at hl 1 rfl) ?_
    refine lv_iload_n hx hb dX6_line_28 rfl (lv_at hl 2 rfl) ?_
    refine lv_iload_n hx hb dX6_line_29 rfl (lv_at hl 3 rfl) ?_
    refine lv_iload_n hx hb dX6_line_30 rfl (lv_at hl 4 rfl) ?_
    have J := zJ.mk (wc := []) (wr := [(m0, .inr (6, [.int th, .int (nI M.1), .ref m1, .ref m2, .int (nI bt), .ref m3, .int (nI ln), .ref m4, .ref m5, .int (nI cl), .ref m6, .ref m7, .ref m8, .ref m9, .ref m10, .ref m11, .ref m12, .int (nI pn), .ref m13, .ref m14])), (m4, .inl (D.2 0, 48, .inl lo)), (m5, .inl (D.2 0, 16, .inl lc))]) hA hB hK hP hD hS [] [0, 1, 2] rfl rfl (by decide)
    refine z_goi (z_runS (As := [.int p1, .int p2, .int p3]) (rest := [.ref m0]) hF (d_there D p1 p2 p3 H.size) (va_cwS 3 hZ (z_gS t_282 t_283 t_272 t_281) rfl rfl rfl (by decide +kernel) ⟨Nat.le_of_ble_eq_true rfl, Nat.le_of_ble_eq_true rfl⟩) J rfl hl.1 (Nat.le_of_ble_eq_true rfl) dX6_line_31 ⟨Nat.le_of_ble_eq_true rfl, Nat.le_of_ble_eq_true rfl⟩) J (fun r2 _ H locs w2 hP hD hS => ?_)
    have hP : va_P D.1 vwCl [(m0, .inr (6, [.int th, .int (nI M.1), .ref m1, .ref m2, .int (nI bt), .ref m3, .int (nI ln), .ref m4, .ref m5, .int (nI cl), .ref m6, .ref m7, .ref m8, .ref m9, .ref m10, .ref m11, .ref m12, .int (nI pn), .ref m13, .ref m14])), (m4, .inl (D.2 0, 48, .inl lo)), (m5, .inl (D.2 0, 16, .inl lc))] H := hP
    have hD : va_D A [(m0, .inr (6, [.int th, .int (nI M.1), .ref m1, .ref m2, .int (nI bt), .ref m3, .int (nI ln), .ref m4, .ref m5, .int (nI cl), .ref m6, .ref m7, .ref m8, .ref m9, .ref m10, .ref m11, .ref m12, .int (nI pn), .ref m13, .ref m14])), (m4, .inl (D.2 0, 48, .inl lo)), (m5, .inl (D.2 0, 16, .inl lc))] := hD
    refine lv_if_ne (tgt := 41) hx hb dX6_line_34 (by decide) (fun c3 => ?_) (fun c3 => ?_)
    · skip
      have ar := z_b1 w2 c3
      refine lv_iconst (v := 0) hx hb dX6_line_41 (by decide) ?_
      refine lv_aload_n hx hb dX6_line_42 rfl (lv_at hl 1 rfl) ?_
      refine va_get (D := D.1) (ci := 6) (v := .int (nI ln)) (C := "ShopLedgerModel") (T := TX6) (N := 20) hx hb hZ inX6 hown hK hP 0 rfl rfl 6 (by decide) (hZ _ t_284) (fun _ h9 => h9) rfl dX6_line_43 ?_
      refine lv_bipush (v := 16) hx hb dX6_line_46 (by decide) ?_
      refine lv_icmp_ne (tgt := 55) hx hb dX6_line_48 (by decide) (fun c4 => ?_) (fun c4 => ?_)
      · skip
        have tu : ¬ 16 ≤ nI ln := fun h => c4 (z_full (t := 16) hn (by decide) h)
        refine lv_iconst (v := 0) hx hb dX6_line_55 (by decide) ?_
        refine lv_iload hx hb dX6_line_56 (lv_at hl 0 rfl) ?_
        refine lv_iconst (v := 0) hx hb dX6_line_58 (by decide) ?_
        have J := zJ.mk (wc := [(m0, .inr (6, [.int th, .int (nI M.1), .ref m1, .ref m2, .int (nI bt), .ref m3, .int (nI ln), .ref m4, .ref m5, .int (nI cl), .ref m6, .ref m7, .ref m8, .ref m9, .ref m10, .ref m11, .ref m12, .int (nI pn), .ref m13, .ref m14]))]) (wr := [(m4, .inl (D.2 0, 48, .inl lo)), (m5, .inl (D.2 0, 16, .inl lc))]) hA hB hK hP hD hS [0] [1, 2] rfl rfl (by decide)
        refine z_goi (z_runV (As := [.int 0, .int 0, .int 0, .int 0]) (rest := []) (b := m0) hF (d_throwing D m0 m1 m2 m3 m4 m5 m6 m7 m8 m9 m10 m11 m12 m13 m14 (M.1, fun _ => 0, fun _ => 0) bt ln cl pn th 0 0 0 0 H.size) (cwV 4 hZ (z_gV t_286 t_287 t_288 t_272 t_285) rfl rfl rfl (by decide +kernel) ⟨Nat.le_of_ble_eq_true rfl, Nat.le_of_ble_eq_true rfl⟩) J 0 6 rfl rfl rfl rfl hl.1 (Nat.le_of_ble_eq_true rfl) dX6_line_59 ⟨Nat.le_of_ble_eq_true rfl, Nat.le_of_ble_eq_true rfl⟩) J (fun r3 _ H locs w3 hP hD hS => ?_)
        have hP : va_P D.1 vwCl [(m4, .inl (D.2 0, 48, .inl lo)), (m5, .inl (D.2 0, 16, .inl lc)), (m0, .inr (6, [.int 0, .int (nI M.1), .ref m1, .ref m2, .int (nI bt), .ref m3, .int (nI ln), .ref m4, .ref m5, .int (nI cl), .ref m6, .ref m7, .ref m8, .ref m9, .ref m10, .ref m11, .ref m12, .int (nI pn), .ref m13, .ref m14]))] H := hP
        have hD : va_D A [(m4, .inl (D.2 0, 48, .inl lo)), (m5, .inl (D.2 0, 16, .inl lc)), (m0, .inr (6, [.int 0, .int (nI M.1), .ref m1, .ref m2, .int (nI bt), .ref m3, .int (nI ln), .ref m4, .ref m5, .int (nI cl), .ref m6, .ref m7, .ref m8, .ref m9, .ref m10, .ref m11, .ref m12, .int (nI pn), .ref m13, .ref m14]))] := hD
        have w3 : r3 = 0 := w3
        subst w3
        refine lv_if_eq (tgt := 67) hx hb dX6_line_62 (by decide) (fun c5 => ?_) (fun c5 => ?_)
        · skip
          have hk : ln < 16 := z_lt (t := 16) hn (by decide) tu
          refine lv_aload_n hx hb dX6_line_67 rfl (lv_at hl 1 rfl) ?_
          refine va_get (D := D.1) (ci := 6) (v := .ref m4) (C := "ShopLedgerModel") (T := TX6) (N := 20) hx hb hZ inX6 hown hK hP 2 rfl rfl 7 (by decide) (hZ _ t_291) (fun _ h9 => h9) rfl dX6_line_68 ?_
          refine lv_iconst (v := 3) hx hb dX6_line_71 (by decide) ?_
          refine lv_aload_n hx hb dX6_line_72 rfl (lv_at hl 1 rfl) ?_
          refine va_get (D := D.1) (ci := 6) (v := .int (nI ln)) (C := "ShopLedgerModel") (T := TX6) (N := 20) hx hb hZ inX6 hown hK hP 2 rfl rfl 6 (by decide) (hZ _ t_284) (fun _ h9 => h9) rfl dX6_line_73 ?_
          refine lv_imul hx hb dX6_line_76 ?_
          rw [show (3 * (nI ln)) = nI (3 * ln) from pk_mul 3 ln]
          refine lv_iload_n hx hb dX6_line_77 rfl (lv_at hl 2 rfl) ?_
          refine z_iast (k := 3 * ln) hx hb hK hP hD hS 0 rfl (by omega) (by decide) dX6_line_78 (fun H locs hP hD hS => ?_)
          have hP : va_P D.1 vwCl [(m4, .inl (D.2 0, 48, .inl (upd lo (3 * ln) p1))), (m5, .inl (D.2 0, 16, .inl lc)), (m0, .inr (6, [.int 0, .int (nI M.1), .ref m1, .ref m2, .int (nI bt), .ref m3, .int (nI ln), .ref m4, .ref m5, .int (nI cl), .ref m6, .ref m7, .ref m8, .ref m9, .ref m10, .ref m11, .ref m12, .int (nI pn), .ref m13, .ref m14]))] H := hP
          have hD : va_D A [(m4, .inl (D.2 0, 48, .inl (upd lo (3 * ln) p1))), (m5, .inl (D.2 0, 16, .inl lc)), (m0, .inr (6, [.int 0, .int (nI M.1), .ref m1, .ref m2, .int (nI bt), .ref m3, .int (nI ln), .ref m4, .ref m5, .int (nI cl), .ref m6, .ref m7, .ref m8, .ref m9, .ref m10, .ref m11, .ref m12, .int (nI pn), .ref m13, .ref m14]))] := hD
          refine lv_aload_n hx hb dX6_line_79 rfl (lv_at hl 1 rfl) ?_
          refine va_get (D := D.1) (ci := 6) (v := .ref m4) (C := "ShopLedgerModel") (T := TX6) (N := 20) hx hb hZ inX6 hown hK hP 2 rfl rfl 7 (by decide) (hZ _ t_291) (fun _ h9 => h9) rfl dX6_line_80 ?_
          refine lv_iconst (v := 3) hx hb dX6_line_83 (by decide) ?_
          refine lv_aload_n hx hb dX6_line_84 rfl (lv_at hl 1 rfl) ?_
          refine va_get (D := D.1) (ci := 6) (v := .int (nI ln)) (C := "ShopLedgerModel") (T := TX6) (N := 20) hx hb hZ inX6 hown hK hP 2 rfl rfl 6 (by decide) (hZ _ t_284) (fun _ h9 => h9) rfl dX6_line_85 ?_
          refine lv_imul hx hb dX6_line_88 ?_
          rw [show (3 * (nI ln)) = nI (3 * ln) from pk_mul 3 ln]
          refine lv_iconst (v := 1) hx hb dX6_line_89 (by decide) ?_
          refine lv_iadd hx hb dX6_line_90 ?_
          rw [show ((nI (3 * ln)) + 1) = nI (3 * ln + 1) from nI_add _ 1]
          refine lv_iload_n hx hb dX6_line_91 rfl (lv_at hl 3 rfl) ?_
          refine z_iast (k := 3 * ln + 1) hx hb hK hP hD hS 0 rfl (by omega) (by decide) dX6_line_92 (fun H locs hP hD hS => ?_)
          have hP : va_P D.1 vwCl [(m4, .inl (D.2 0, 48, .inl (upd (upd lo (3 * ln) p1) (3 * ln + 1) p2))), (m5, .inl (D.2 0, 16, .inl lc)), (m0, .inr (6, [.int 0, .int (nI M.1), .ref m1, .ref m2, .int (nI bt), .ref m3, .int (nI ln), .ref m4, .ref m5, .int (nI cl), .ref m6, .ref m7, .ref m8, .ref m9, .ref m10, .ref m11, .ref m12, .int (nI pn), .ref m13, .ref m14]))] H := hP
          have hD : va_D A [(m4, .inl (D.2 0, 48, .inl (upd (upd lo (3 * ln) p1) (3 * ln + 1) p2))), (m5, .inl (D.2 0, 16, .inl lc)), (m0, .inr (6, [.int 0, .int (nI M.1), .ref m1, .ref m2, .int (nI bt), .ref m3, .int (nI ln), .ref m4, .ref m5, .int (nI cl), .ref m6, .ref m7, .ref m8, .ref m9, .ref m10, .ref m11, .ref m12, .int (nI pn), .ref m13, .ref m14]))] := hD
          refine lv_aload_n hx hb dX6_line_93 rfl (lv_at hl 1 rfl) ?_
          refine va_get (D := D.1) (ci := 6) (v := .ref m4) (C := "ShopLedgerModel") (T := TX6) (N := 20) hx hb hZ inX6 hown hK hP 2 rfl rfl 7 (by decide) (hZ _ t_291) (fun _ h9 => h9) rfl dX6_line_94 ?_
          refine lv_iconst (v := 3) hx hb dX6_line_97 (by decide) ?_
          refine lv_aload_n hx hb dX6_line_98 rfl (lv_at hl 1 rfl) ?_
          refine va_get (D := D.1) (ci := 6) (v := .int (nI ln)) (C := "ShopLedgerModel") (T := TX6) (N := 20) hx hb hZ inX6 hown hK hP 2 rfl rfl 6 (by decide) (hZ _ t_284) (fun _ h9 => h9) rfl dX6_line_99 ?_
          refine lv_imul hx hb dX6_line_102 ?_
          rw [show (3 * (nI ln)) = nI (3 * ln) from pk_mul 3 ln]
          refine lv_iconst (v := 2) hx hb dX6_line_103 (by decide) ?_
          refine lv_iadd hx hb dX6_line_104 ?_
          rw [show ((nI (3 * ln)) + 2) = nI (3 * ln + 2) from nI_add _ 2]
          refine lv_iload_n hx hb dX6_line_105 rfl (lv_at hl 4 rfl) ?_
          refine z_iast (k := 3 * ln + 2) hx hb hK hP hD hS 0 rfl (by omega) (by decide) dX6_line_106 (fun H locs hP hD hS => ?_)
          have hP : va_P D.1 vwCl [(m4, .inl (D.2 0, 48, .inl (upd (upd (upd lo (3 * ln) p1) (3 * ln + 1) p2) (3 * ln + 2) p3))), (m5, .inl (D.2 0, 16, .inl lc)), (m0, .inr (6, [.int 0, .int (nI M.1), .ref m1, .ref m2, .int (nI bt), .ref m3, .int (nI ln), .ref m4, .ref m5, .int (nI cl), .ref m6, .ref m7, .ref m8, .ref m9, .ref m10, .ref m11, .ref m12, .int (nI pn), .ref m13, .ref m14]))] H := hP
          have hD : va_D A [(m4, .inl (D.2 0, 48, .inl (upd (upd (upd lo (3 * ln) p1) (3 * ln + 1) p2) (3 * ln + 2) p3))), (m5, .inl (D.2 0, 16, .inl lc)), (m0, .inr (6, [.int 0, .int (nI M.1), .ref m1, .ref m2, .int (nI bt), .ref m3, .int (nI ln), .ref m4, .ref m5, .int (nI cl), .ref m6, .ref m7, .ref m8, .ref m9, .ref m10, .ref m11, .ref m12, .int (nI pn), .ref m13, .ref m14]))] := hD
          refine lv_aload_n hx hb dX6_line_107 rfl (lv_at hl 1 rfl) ?_
          refine va_get (D := D.1) (ci := 6) (v := .ref m5) (C := "ShopLedgerModel") (T := TX6) (N := 20) hx hb hZ inX6 hown hK hP 2 rfl rfl 8 (by decide) (hZ _ t_292) (fun _ h9 => h9) rfl dX6_line_108 ?_
          refine lv_aload_n hx hb dX6_line_111 rfl (lv_at hl 1 rfl) ?_
          refine va_get (D := D.1) (ci := 6) (v := .int (nI ln)) (C := "ShopLedgerModel") (T := TX6) (N := 20) hx hb hZ inX6 hown hK hP 2 rfl rfl 6 (by decide) (hZ _ t_284) (fun _ h9 => h9) rfl dX6_line_112 ?_
          refine lv_iload hx hb dX6_line_115 (lv_at hl 5 rfl) ?_
          refine z_iast (k := ln) hx hb hK hP hD hS 1 rfl (hk) (by decide) dX6_line_117 (fun H locs hP hD hS => ?_)
          have hP : va_P D.1 vwCl [(m4, .inl (D.2 0, 48, .inl (upd (upd (upd lo (3 * ln) p1) (3 * ln + 1) p2) (3 * ln + 2) p3))), (m5, .inl (D.2 0, 16, .inl (upd lc ln p4))), (m0, .inr (6, [.int 0, .int (nI M.1), .ref m1, .ref m2, .int (nI bt), .ref m3, .int (nI ln), .ref m4, .ref m5, .int (nI cl), .ref m6, .ref m7, .ref m8, .ref m9, .ref m10, .ref m11, .ref m12, .int (nI pn), .ref m13, .ref m14]))] H := hP
          have hD : va_D A [(m4, .inl (D.2 0, 48, .inl (upd (upd (upd lo (3 * ln) p1) (3 * ln + 1) p2) (3 * ln + 2) p3))), (m5, .inl (D.2 0, 16, .inl (upd lc ln p4))), (m0, .inr (6, [.int 0, .int (nI M.1), .ref m1, .ref m2, .int (nI bt), .ref m3, .int (nI ln), .ref m4, .ref m5, .int (nI cl), .ref m6, .ref m7, .ref m8, .ref m9, .ref m10, .ref m11, .ref m12, .int (nI pn), .ref m13, .ref m14]))] := hD
          refine lv_aload_n hx hb dX6_line_118 rfl (lv_at hl 1 rfl) ?_
          refine lv_dup hx hb dX6_line_119 rfl ?_
          refine va_get (D := D.1) (ci := 6) (v := .int (nI ln)) (C := "ShopLedgerModel") (T := TX6) (N := 20) hx hb hZ inX6 hown hK hP 2 rfl rfl 6 (by decide) (hZ _ t_284) (fun _ h9 => h9) rfl dX6_line_120 ?_
          refine lv_iconst (v := 1) hx hb dX6_line_123 (by decide) ?_
          refine lv_iadd hx hb dX6_line_124 ?_
          rw [show ((nI ln) + 1) = nI (ln + 1) from nI_1 ln]
          refine va_put (D := D.1) (ci := 6) (v := .int (nI (ln + 1))) (ty := .int) (C := "ShopLedgerModel") (T := TX6) (N := 20) hx hb hZ inX6 tyX6 tyX6_ok nmX6 hown hK hP hD hS 2 rfl rfl 6 (by decide) (hZ _ t_284) (fun _ h9 => h9) rfl (by decide +kernel) rfl rfl (Nat.le_of_ble_eq_true rfl) dX6_line_125 (fun H locs hP hD hS => ?_)
          have hP : va_P D.1 vwCl [(m4, .inl (D.2 0, 48, .inl (upd (upd (upd lo (3 * ln) p1) (3 * ln + 1) p2) (3 * ln + 2) p3))), (m5, .inl (D.2 0, 16, .inl (upd lc ln p4))), (m0, .inr (6, [.int 0, .int (nI M.1), .ref m1, .ref m2, .int (nI bt), .ref m3, .int (nI (ln + 1)), .ref m4, .ref m5, .int (nI cl), .ref m6, .ref m7, .ref m8, .ref m9, .ref m10, .ref m11, .ref m12, .int (nI pn), .ref m13, .ref m14]))] H := hP
          have hD : va_D A [(m4, .inl (D.2 0, 48, .inl (upd (upd (upd lo (3 * ln) p1) (3 * ln + 1) p2) (3 * ln + 2) p3))), (m5, .inl (D.2 0, 16, .inl (upd lc ln p4))), (m0, .inr (6, [.int 0, .int (nI M.1), .ref m1, .ref m2, .int (nI bt), .ref m3, .int (nI (ln + 1)), .ref m4, .ref m5, .int (nI cl), .ref m6, .ref m7, .ref m8, .ref m9, .ref m10, .ref m11, .ref m12, .int (nI pn), .ref m13, .ref m14]))] := hD
          refine lv_aload_n hx hb dX6_line_128 rfl (lv_at hl 1 rfl) ?_
          refine va_get (D := D.1) (ci := 6) (v := .int (nI (ln + 1))) (C := "ShopLedgerModel") (T := TX6) (N := 20) hx hb hZ inX6 hown hK hP 2 rfl rfl 6 (by decide) (hZ _ t_284) (fun _ h9 => h9) rfl dX6_line_129 ?_
          exact z_iret (v := nI (ln + 1)) hx hb hr hlocks hP hD hS none (Or.inl ⟨rfl, ar, tu, rg, rfl⟩) [2, 0, 1] rfl (by decide) (Nat.le_of_ble_eq_true rfl) (Nat.le_of_ble_eq_true rfl) dX6_line_132
        exfalso; exact absurd c5 (by decide)
      have tu : ¬ (¬ 16 ≤ nI ln) := fun h => h (by rw [c4]; decide)
      refine lv_iconst (v := 1) hx hb dX6_line_51 (by decide) ?_
      refine lv_goto (tgt := 56) hx hb dX6_line_52 (by decide) ?_
      refine lv_iload hx hb dX6_line_56 (lv_at hl 0 rfl) ?_
      refine lv_iconst (v := 0) hx hb dX6_line_58 (by decide) ?_
      have J := zJ.mk (wc := [(m0, .inr (6, [.int th, .int (nI M.1), .ref m1, .ref m2, .int (nI bt), .ref m3, .int (nI ln), .ref m4, .ref m5, .int (nI cl), .ref m6, .ref m7, .ref m8, .ref m9, .ref m10, .ref m11, .ref m12, .int (nI pn), .ref m13, .ref m14]))]) (wr := [(m4, .inl (D.2 0, 48, .inl lo)), (m5, .inl (D.2 0, 16, .inl lc))]) hA hB hK hP hD hS [0] [1, 2] rfl rfl (by decide)
      refine z_goi (z_runV (As := [.int 0, .int 1, .int 0, .int 0]) (rest := []) (b := m0) hF (d_throwing D m0 m1 m2 m3 m4 m5 m6 m7 m8 m9 m10 m11 m12 m13 m14 (M.1, fun _ => 0, fun _ => 0) bt ln cl pn th 0 1 0 0 H.size) (cwV 4 hZ (z_gV t_286 t_287 t_288 t_272 t_285) rfl rfl rfl (by decide +kernel) ⟨Nat.le_of_ble_eq_true rfl, Nat.le_of_ble_eq_true rfl⟩) J 0 6 rfl rfl rfl rfl hl.1 (Nat.le_of_ble_eq_true rfl) dX6_line_59 ⟨Nat.le_of_ble_eq_true rfl, Nat.le_of_ble_eq_true rfl⟩) J (fun r3 _ H locs w3 hP hD hS => ?_)
      have hP : va_P D.1 vwCl [(m4, .inl (D.2 0, 48, .inl lo)), (m5, .inl (D.2 0, 16, .inl lc)), (m0, .inr (6, [.int 2, .int (nI M.1), .ref m1, .ref m2, .int (nI bt), .ref m3, .int (nI ln), .ref m4, .ref m5, .int (nI cl), .ref m6, .ref m7, .ref m8, .ref m9, .ref m10, .ref m11, .ref m12, .int (nI pn), .ref m13, .ref m14]))] H := hP
      have hD : va_D A [(m4, .inl (D.2 0, 48, .inl lo)), (m5, .inl (D.2 0, 16, .inl lc)), (m0, .inr (6, [.int 2, .int (nI M.1), .ref m1, .ref m2, .int (nI bt), .ref m3, .int (nI ln), .ref m4, .ref m5, .int (nI cl), .ref m6, .ref m7, .ref m8, .ref m9, .ref m10, .ref m11, .ref m12, .int (nI pn), .ref m13, .ref m14]))] := hD
      have w3 : r3 = 1 := w3
      subst w3
      refine lv_if_eq (tgt := 67) hx hb dX6_line_62 (by decide) (fun c5 => ?_) (fun c5 => ?_)
      · skip
        exfalso; exact absurd c5 (by decide)
      refine lv_iconst (v := 0) hx hb dX6_line_65 (by decide) ?_
      exact z_iret (v := 0) hx hb hr hlocks hP hD hS (some 2) (Or.inr (Or.inr (Or.inl ⟨rfl, ar, tu⟩))) [2, 0, 1] rfl (by decide) (Nat.le_of_ble_eq_true rfl) (Nat.le_of_ble_eq_true rfl) dX6_line_66
    have ar := z_b0 w2 c3
    refine lv_iconst (v := 1) hx hb dX6_line_37 (by decide) ?_
    refine lv_goto (tgt := 42) hx hb dX6_line_38 (by decide) ?_
    refine lv_aload_n hx hb dX6_line_42 rfl (lv_at hl 1 rfl) ?_
    refine va_get (D := D.1) (ci := 6) (v := .int (nI ln)) (C := "ShopLedgerModel") (T := TX6) (N := 20) hx hb hZ inX6 hown hK hP 0 rfl rfl 6 (by decide) (hZ _ t_284) (fun _ h9 => h9) rfl dX6_line_43 ?_
    refine lv_bipush (v := 16) hx hb dX6_line_46 (by decide) ?_
    refine lv_icmp_ne (tgt := 55) hx hb dX6_line_48 (by decide) (fun c4 => ?_) (fun c4 => ?_)
    · skip
      have tu : ¬ 16 ≤ nI ln := fun h => c4 (z_full (t := 16) hn (by decide) h)
      refine lv_iconst (v := 0) hx hb dX6_line_55 (by decide) ?_
      refine lv_iload hx hb dX6_line_56 (lv_at hl 0 rfl) ?_
      refine lv_iconst (v := 0) hx hb dX6_line_58 (by decide) ?_
      have J := zJ.mk (wc := [(m0, .inr (6, [.int th, .int (nI M.1), .ref m1, .ref m2, .int (nI bt), .ref m3, .int (nI ln), .ref m4, .ref m5, .int (nI cl), .ref m6, .ref m7, .ref m8, .ref m9, .ref m10, .ref m11, .ref m12, .int (nI pn), .ref m13, .ref m14]))]) (wr := [(m4, .inl (D.2 0, 48, .inl lo)), (m5, .inl (D.2 0, 16, .inl lc))]) hA hB hK hP hD hS [0] [1, 2] rfl rfl (by decide)
      refine z_goi (z_runV (As := [.int 1, .int 0, .int 0, .int 0]) (rest := []) (b := m0) hF (d_throwing D m0 m1 m2 m3 m4 m5 m6 m7 m8 m9 m10 m11 m12 m13 m14 (M.1, fun _ => 0, fun _ => 0) bt ln cl pn th 1 0 0 0 H.size) (cwV 4 hZ (z_gV t_286 t_287 t_288 t_272 t_285) rfl rfl rfl (by decide +kernel) ⟨Nat.le_of_ble_eq_true rfl, Nat.le_of_ble_eq_true rfl⟩) J 0 6 rfl rfl rfl rfl hl.1 (Nat.le_of_ble_eq_true rfl) dX6_line_59 ⟨Nat.le_of_ble_eq_true rfl, Nat.le_of_ble_eq_true rfl⟩) J (fun r3 _ H locs w3 hP hD hS => ?_)
      have hP : va_P D.1 vwCl [(m4, .inl (D.2 0, 48, .inl lo)), (m5, .inl (D.2 0, 16, .inl lc)), (m0, .inr (6, [.int 1, .int (nI M.1), .ref m1, .ref m2, .int (nI bt), .ref m3, .int (nI ln), .ref m4, .ref m5, .int (nI cl), .ref m6, .ref m7, .ref m8, .ref m9, .ref m10, .ref m11, .ref m12, .int (nI pn), .ref m13, .ref m14]))] H := hP
      have hD : va_D A [(m4, .inl (D.2 0, 48, .inl lo)), (m5, .inl (D.2 0, 16, .inl lc)), (m0, .inr (6, [.int 1, .int (nI M.1), .ref m1, .ref m2, .int (nI bt), .ref m3, .int (nI ln), .ref m4, .ref m5, .int (nI cl), .ref m6, .ref m7, .ref m8, .ref m9, .ref m10, .ref m11, .ref m12, .int (nI pn), .ref m13, .ref m14]))] := hD
      have w3 : r3 = 1 := w3
      subst w3
      refine lv_if_eq (tgt := 67) hx hb dX6_line_62 (by decide) (fun c5 => ?_) (fun c5 => ?_)
      · skip
        exfalso; exact absurd c5 (by decide)
      refine lv_iconst (v := 0) hx hb dX6_line_65 (by decide) ?_
      exact z_iret (v := 0) hx hb hr hlocks hP hD hS (some 1) (Or.inr (Or.inl ⟨rfl, ar⟩)) [2, 0, 1] rfl (by decide) (Nat.le_of_ble_eq_true rfl) (Nat.le_of_ble_eq_true rfl) dX6_line_66
    have tu : ¬ (¬ 16 ≤ nI ln) := fun h => h (by rw [c4]; decide)
    refine lv_iconst (v := 1) hx hb dX6_line_51 (by decide) ?_
    refine lv_goto (tgt := 56) hx hb dX6_line_52 (by decide) ?_
    refine lv_iload hx hb dX6_line_56 (lv_at hl 0 rfl) ?_
    refine lv_iconst (v := 0) hx hb dX6_line_58 (by decide) ?_
    have J := zJ.mk (wc := [(m0, .inr (6, [.int th, .int (nI M.1), .ref m1, .ref m2, .int (nI bt), .ref m3, .int (nI ln), .ref m4, .ref m5, .int (nI cl), .ref m6, .ref m7, .ref m8, .ref m9, .ref m10, .ref m11, .ref m12, .int (nI pn), .ref m13, .ref m14]))]) (wr := [(m4, .inl (D.2 0, 48, .inl lo)), (m5, .inl (D.2 0, 16, .inl lc))]) hA hB hK hP hD hS [0] [1, 2] rfl rfl (by decide)
    refine z_goi (z_runV (As := [.int 1, .int 1, .int 0, .int 0]) (rest := []) (b := m0) hF (d_throwing D m0 m1 m2 m3 m4 m5 m6 m7 m8 m9 m10 m11 m12 m13 m14 (M.1, fun _ => 0, fun _ => 0) bt ln cl pn th 1 1 0 0 H.size) (cwV 4 hZ (z_gV t_286 t_287 t_288 t_272 t_285) rfl rfl rfl (by decide +kernel) ⟨Nat.le_of_ble_eq_true rfl, Nat.le_of_ble_eq_true rfl⟩) J 0 6 rfl rfl rfl rfl hl.1 (Nat.le_of_ble_eq_true rfl) dX6_line_59 ⟨Nat.le_of_ble_eq_true rfl, Nat.le_of_ble_eq_true rfl⟩) J (fun r3 _ H locs w3 hP hD hS => ?_)
    have hP : va_P D.1 vwCl [(m4, .inl (D.2 0, 48, .inl lo)), (m5, .inl (D.2 0, 16, .inl lc)), (m0, .inr (6, [.int 1, .int (nI M.1), .ref m1, .ref m2, .int (nI bt), .ref m3, .int (nI ln), .ref m4, .ref m5, .int (nI cl), .ref m6, .ref m7, .ref m8, .ref m9, .ref m10, .ref m11, .ref m12, .int (nI pn), .ref m13, .ref m14]))] H := hP
    have hD : va_D A [(m4, .inl (D.2 0, 48, .inl lo)), (m5, .inl (D.2 0, 16, .inl lc)), (m0, .inr (6, [.int 1, .int (nI M.1), .ref m1, .ref m2, .int (nI bt), .ref m3, .int (nI ln), .ref m4, .ref m5, .int (nI cl), .ref m6, .ref m7, .ref m8, .ref m9, .ref m10, .ref m11, .ref m12, .int (nI pn), .ref m13, .ref m14]))] := hD
    have w3 : r3 = 1 := w3
    subst w3
    refine lv_if_eq (tgt := 67) hx hb dX6_line_62 (by decide) (fun c5 => ?_) (fun c5 => ?_)
    · skip
      exfalso; exact absurd c5 (by decide)
    refine lv_iconst (v := 0) hx hb dX6_line_65 (by decide) ?_
    exact z_iret (v := 0) hx hb hr hlocks hP hD hS (some 1) (Or.inr (Or.inl ⟨rfl, ar⟩)) [2, 0, 1] rfl (by decide) (Nat.le_of_ble_eq_true rfl) (Nat.le_of_ble_eq_true rfl) dX6_line_66
  have g1 := z_b0 f1 c2
  have rg : ¬ (¬ p4 < (-1000000000) ∧ p4 ≤ 1000000000 ∧ ¬ p4 = 0) := fun h => g1 ⟨h.1, h.2.1⟩
  refine lv_iconst (v := 1) hx hb dX6_line_20 (by decide) ?_
  refine lv_goto (tgt := 25) hx hb dX6_line_21 (by decide) ?_
  refine lv_istore (lv' := [(5, .int 1), (0, .ref m0), (1, .int p1), (2, .int p2), (3, .int p3), (4, .int p4)]) hx hb dX6_line_25 hl (by decide) rfl (fun ls hl => ?_)
  refine lv_aload_n hx hb dX6_line_27 rfl (lv_at hl 1 rfl) ?_
  refine lv_iload_n hx hb dX6_line_28 rfl (lv_at hl 2 rfl) ?_
  refine lv_iload_n hx hb dX6_line_29 rfl (lv_at hl 3 rfl) ?_
  refine lv_iload_n hx hb dX6_line_30 rfl (lv_at hl 4 rfl) ?_
  have J := zJ.mk (wc := []) (wr := [(m0, .inr (6, [.int th, .int (nI M.1), .ref m1, .ref m2, .int (nI bt), .ref m3, .int (nI ln), .ref m4, .ref m5, .int (nI cl), .ref m6, .ref m7, .ref m8, .ref m9, .ref m10, .ref m11, .ref m12, .int (nI pn), .ref m13, .ref m14])), (m4, .inl (D.2 0, 48, .inl lo)), (m5, .inl (D.2 0, 16, .inl lc))]) hA hB hK hP hD hS [] [0, 1, 2] rfl rfl (by decide)
  refine z_goi (z_runS (As := [.int p1, .int p2, .int p3]) (rest := [.ref m0]) hF (d_there D p1 p2 p3 H.size) (va_cwS 3 hZ (z_gS t_282 t_283 t_272 t_281) rfl rfl rfl (by decide +kernel) ⟨Nat.le_of_ble_eq_true rfl, Nat.le_of_ble_eq_true rfl⟩) J rfl hl.1 (Nat.le_of_ble_eq_true rfl) dX6_line_31 ⟨Nat.le_of_ble_eq_true rfl, Nat.le_of_ble_eq_true rfl⟩) J (fun r2 _ H locs w2 hP hD hS => ?_)
  have hP : va_P D.1 vwCl [(m0, .inr (6, [.int th, .int (nI M.1), .ref m1, .ref m2, .int (nI bt), .ref m3, .int (nI ln), .ref m4, .ref m5, .int (nI cl), .ref m6, .ref m7, .ref m8, .ref m9, .ref m10, .ref m11, .ref m12, .int (nI pn), .ref m13, .ref m14])), (m4, .inl (D.2 0, 48, .inl lo)), (m5, .inl (D.2 0, 16, .inl lc))] H := hP
  have hD : va_D A [(m0, .inr (6, [.int th, .int (nI M.1), .ref m1, .ref m2, .int (nI bt), .ref m3, .int (nI ln), .ref m4, .ref m5, .int (nI cl), .ref m6, .ref m7, .ref m8, .ref m9, .ref m10, .ref m11, .ref m12, .int (nI pn), .ref m13, .ref m14])), (m4, .inl (D.2 0, 48, .inl lo)), (m5, .inl (D.2 0, 16, .inl lc))] := hD
  refine lv_if_ne (tgt := 41) hx hb dX6_line_34 (by decide) (fun c3 => ?_) (fun c3 => ?_)
  · skip
    have ar := z_b1 w2 c3
    refine lv_iconst (v := 0) hx hb dX6_line_41 (by decide) ?_
    refine lv_aload_n hx hb dX6_line_42 rfl (lv_at hl 1 rfl) ?_
    refine va_get (D := D.1) (ci := 6) (v := .int (nI ln)) (C := "ShopLedgerModel") (T := TX6) (N := 20) hx hb hZ inX6 hown hK hP 0 rfl rfl 6 (by decide) (hZ _ t_284) (fun _ h9 => h9) rfl dX6_line_43 ?_
    refine lv_bipush (v := 16) hx hb dX6_line_46 (by decide) ?_
    refine lv_icmp_ne (tgt := 55) hx hb dX6_line_48 (by decide) (fun c4 => ?_) (fun c4 => ?_)
    · skip
      have tu : ¬ 16 ≤ nI ln := fun h => c4 (z_full (t := 16) hn (by decide) h)
      refine lv_iconst (v := 0) hx hb dX6_line_55 (by decide) ?_
      refine lv_iload hx hb dX6_line_56 (lv_at hl 0 rfl) ?_
      refine lv_iconst (v := 0) hx hb dX6_line_58 (by decide) ?_
      have J := zJ.mk (wc := [(m0, .inr (6, [.int th, .int (nI M.1), .ref m1, .ref m2, .int (nI bt), .ref m3, .int (nI ln), .ref m4, .ref m5, .int (nI cl), .ref m6, .ref m7, .ref m8, .ref m9, .ref m10, .ref m11, .ref m12, .int (nI pn), .ref m13, .ref m14]))]) (wr := [(m4, .inl (D.2 0, 48, .inl lo)), (m5, .inl (D.2 0, 16, .inl lc))]) hA hB hK hP hD hS [0] [1, 2] rfl rfl (by decide)
      refine z_goi (z_runV (As := [.int 0, .int 0, .int 1, .int 0]) (rest := []) (b := m0) hF (d_throwing D m0 m1 m2 m3 m4 m5 m6 m7 m8 m9 m10 m11 m12 m13 m14 (M.1, fun _ => 0, fun _ => 0) bt ln cl pn th 0 0 1 0 H.size) (cwV 4 hZ (z_gV t_286 t_287 t_288 t_272 t_285) rfl rfl rfl (by decide +kernel) ⟨Nat.le_of_ble_eq_true rfl, Nat.le_of_ble_eq_true rfl⟩) J 0 6 rfl rfl rfl rfl hl.1 (Nat.le_of_ble_eq_true rfl) dX6_line_59 ⟨Nat.le_of_ble_eq_true rfl, Nat.le_of_ble_eq_true rfl⟩) J (fun r3 _ H locs w3 hP hD hS => ?_)
      have hP : va_P D.1 vwCl [(m4, .inl (D.2 0, 48, .inl lo)), (m5, .inl (D.2 0, 16, .inl lc)), (m0, .inr (6, [.int 3, .int (nI M.1), .ref m1, .ref m2, .int (nI bt), .ref m3, .int (nI ln), .ref m4, .ref m5, .int (nI cl), .ref m6, .ref m7, .ref m8, .ref m9, .ref m10, .ref m11, .ref m12, .int (nI pn), .ref m13, .ref m14]))] H := hP
      have hD : va_D A [(m4, .inl (D.2 0, 48, .inl lo)), (m5, .inl (D.2 0, 16, .inl lc)), (m0, .inr (6, [.int 3, .int (nI M.1), .ref m1, .ref m2, .int (nI bt), .ref m3, .int (nI ln), .ref m4, .ref m5, .int (nI cl), .ref m6, .ref m7, .ref m8, .ref m9, .ref m10, .ref m11, .ref m12, .int (nI pn), .ref m13, .ref m14]))] := hD
      have w3 : r3 = 1 := w3
      subst w3
      refine lv_if_eq (tgt := 67) hx hb dX6_line_62 (by decide) (fun c5 => ?_) (fun c5 => ?_)
      · skip
        exfalso; exact absurd c5 (by decide)
      refine lv_iconst (v := 0) hx hb dX6_line_65 (by decide) ?_
      exact z_iret (v := 0) hx hb hr hlocks hP hD hS (some 3) (Or.inr (Or.inr (Or.inr (⟨rfl, ar, tu, rg⟩)))) [2, 0, 1] rfl (by decide) (Nat.le_of_ble_eq_true rfl) (Nat.le_of_ble_eq_true rfl) dX6_line_66
    have tu : ¬ (¬ 16 ≤ nI ln) := fun h => h (by rw [c4]; decide)
    refine lv_iconst (v := 1) hx hb dX6_line_51 (by decide) ?_
    refine lv_goto (tgt := 56) hx hb dX6_line_52 (by decide) ?_
    refine lv_iload hx hb dX6_line_56 (lv_at hl 0 rfl) ?_
    refine lv_iconst (v := 0) hx hb dX6_line_58 (by decide) ?_
    have J := zJ.mk (wc := [(m0, .inr (6, [.int th, .int (nI M.1), .ref m1, .ref m2, .int (nI bt), .ref m3, .int (nI ln), .ref m4, .ref m5, .int (nI cl), .ref m6, .ref m7, .ref m8, .ref m9, .ref m10, .ref m11, .ref m12, .int (nI pn), .ref m13, .ref m14]))]) (wr := [(m4, .inl (D.2 0, 48, .inl lo)), (m5, .inl (D.2 0, 16, .inl lc))]) hA hB hK hP hD hS [0] [1, 2] rfl rfl (by decide)
    refine z_goi (z_runV (As := [.int 0, .int 1, .int 1, .int 0]) (rest := []) (b := m0) hF (d_throwing D m0 m1 m2 m3 m4 m5 m6 m7 m8 m9 m10 m11 m12 m13 m14 (M.1, fun _ => 0, fun _ => 0) bt ln cl pn th 0 1 1 0 H.size) (cwV 4 hZ (z_gV t_286 t_287 t_288 t_272 t_285) rfl rfl rfl (by decide +kernel) ⟨Nat.le_of_ble_eq_true rfl, Nat.le_of_ble_eq_true rfl⟩) J 0 6 rfl rfl rfl rfl hl.1 (Nat.le_of_ble_eq_true rfl) dX6_line_59 ⟨Nat.le_of_ble_eq_true rfl, Nat.le_of_ble_eq_true rfl⟩) J (fun r3 _ H locs w3 hP hD hS => ?_)
    have hP : va_P D.1 vwCl [(m4, .inl (D.2 0, 48, .inl lo)), (m5, .inl (D.2 0, 16, .inl lc)), (m0, .inr (6, [.int 2, .int (nI M.1), .ref m1, .ref m2, .int (nI bt), .ref m3, .int (nI ln), .ref m4, .ref m5, .int (nI cl), .ref m6, .ref m7, .ref m8, .ref m9, .ref m10, .ref m11, .ref m12, .int (nI pn), .ref m13, .ref m14]))] H := hP
    have hD : va_D A [(m4, .inl (D.2 0, 48, .inl lo)), (m5, .inl (D.2 0, 16, .inl lc)), (m0, .inr (6, [.int 2, .int (nI M.1), .ref m1, .ref m2, .int (nI bt), .ref m3, .int (nI ln), .ref m4, .ref m5, .int (nI cl), .ref m6, .ref m7, .ref m8, .ref m9, .ref m10, .ref m11, .ref m12, .int (nI pn), .ref m13, .ref m14]))] := hD
    have w3 : r3 = 1 := w3
    subst w3
    refine lv_if_eq (tgt := 67) hx hb dX6_line_62 (by decide) (fun c5 => ?_) (fun c5 => ?_)
    · skip
      exfalso; exact absurd c5 (by decide)
    refine lv_iconst (v := 0) hx hb dX6_line_65 (by decide) ?_
    exact z_iret (v := 0) hx hb hr hlocks hP hD hS (some 2) (Or.inr (Or.inr (Or.inl ⟨rfl, ar, tu⟩))) [2, 0, 1] rfl (by decide) (Nat.le_of_ble_eq_true rfl) (Nat.le_of_ble_eq_true rfl) dX6_line_66
  have ar := z_b0 w2 c3
  refine lv_iconst (v := 1) hx hb dX6_line_37 (by decide) ?_
  refine lv_goto (tgt := 42) hx hb dX6_line_38 (by decide) ?_
  refine lv_aload_n hx hb dX6_line_42 rfl (lv_at hl 1 rfl) ?_
  refine va_get (D := D.1) (ci := 6) (v := .int (nI ln)) (C := "ShopLedgerModel") (T := TX6) (N := 20) hx hb hZ inX6 hown hK hP 0 rfl rfl 6 (by decide) (hZ _ t_284) (fun _ h9 => h9) rfl dX6_line_43 ?_
  refine lv_bipush (v := 16) hx hb dX6_line_46 (by decide) ?_
  refine lv_icmp_ne (tgt := 55) hx hb dX6_line_48 (by decide) (fun c4 => ?_) (fun c4 => ?_)
  · skip
    have tu : ¬ 16 ≤ nI ln := fun h => c4 (z_full (t := 16) hn (by decide) h)
    refine lv_iconst (v := 0) hx hb dX6_line_55 (by decide) ?_
    refine lv_iload hx hb dX6_line_56 (lv_at hl 0 rfl) ?_
    refine lv_iconst (v := 0) hx hb dX6_line_58 (by decide) ?_
    have J := zJ.mk (wc := [(m0, .inr (6, [.int th, .int (nI M.1), .ref m1, .ref m2, .int (nI bt), .ref m3, .int (nI ln), .ref m4, .ref m5, .int (nI cl), .ref m6, .ref m7, .ref m8, .ref m9, .ref m10, .ref m11, .ref m12, .int (nI pn), .ref m13, .ref m14]))]) (wr := [(m4, .inl (D.2 0, 48, .inl lo)), (m5, .inl (D.2 0, 16, .inl lc))]) hA hB hK hP hD hS [0] [1, 2] rfl rfl (by decide)
    refine z_goi (z_runV (As := [.int 1, .int 0, .int 1, .int 0]) (rest := []) (b := m0) hF (d_throwing D m0 m1 m2 m3 m4 m5 m6 m7 m8 m9 m10 m11 m12 m13 m14 (M.1, fun _ => 0, fun _ => 0) bt ln cl pn th 1 0 1 0 H.size) (cwV 4 hZ (z_gV t_286 t_287 t_288 t_272 t_285) rfl rfl rfl (by decide +kernel) ⟨Nat.le_of_ble_eq_true rfl, Nat.le_of_ble_eq_true rfl⟩) J 0 6 rfl rfl rfl rfl hl.1 (Nat.le_of_ble_eq_true rfl) dX6_line_59 ⟨Nat.le_of_ble_eq_true rfl, Nat.le_of_ble_eq_true rfl⟩) J (fun r3 _ H locs w3 hP hD hS => ?_)
    have hP : va_P D.1 vwCl [(m4, .inl (D.2 0, 48, .inl lo)), (m5, .inl (D.2 0, 16, .inl lc)), (m0, .inr (6, [.int 1, .int (nI M.1), .ref m1, .ref m2, .int (nI bt), .ref m3, .int (nI ln), .ref m4, .ref m5, .int (nI cl), .ref m6, .ref m7, .ref m8, .ref m9, .ref m10, .ref m11, .ref m12, .int (nI pn), .ref m13, .ref m14]))] H := hP
    have hD : va_D A [(m4, .inl (D.2 0, 48, .inl lo)), (m5, .inl (D.2 0, 16, .inl lc)), (m0, .inr (6, [.int 1, .int (nI M.1), .ref m1, .ref m2, .int (nI bt), .ref m3, .int (nI ln), .ref m4, .ref m5, .int (nI cl), .ref m6, .ref m7, .ref m8, .ref m9, .ref m10, .ref m11, .ref m12, .int (nI pn), .ref m13, .ref m14]))] := hD
    have w3 : r3 = 1 := w3
    subst w3
    refine lv_if_eq (tgt := 67) hx hb dX6_line_62 (by decide) (fun c5 => ?_) (fun c5 => ?_)
    · skip
      exfalso; exact absurd c5 (by decide)
    refine lv_iconst (v := 0) hx hb dX6_line_65 (by decide) ?_
    exact z_iret (v := 0) hx hb hr hlocks hP hD hS (some 1) (Or.inr (Or.inl ⟨rfl, ar⟩)) [2, 0, 1] rfl (by decide) (Nat.le_of_ble_eq_true rfl) (Nat.le_of_ble_eq_true rfl) dX6_line_66
  have tu : ¬ (¬ 16 ≤ nI ln) := fun h => h (by rw [c4]; decide)
  refine lv_iconst (v := 1) hx hb dX6_line_51 (by decide) ?_
  refine lv_goto (tgt := 56) hx hb dX6_line_52 (by decide) ?_
  refine lv_iload hx hb dX6_line_56 (lv_at hl 0 rfl) ?_
  refine lv_iconst (v := 0) hx hb dX6_line_58 (by decide) ?_
  have J := zJ.mk (wc := [(m0, .inr (6, [.int th, .int (nI M.1), .ref m1, .ref m2, .int (nI bt), .ref m3, .int (nI ln), .ref m4, .ref m5, .int (nI cl), .ref m6, .ref m7, .ref m8, .ref m9, .ref m10, .ref m11, .ref m12, .int (nI pn), .ref m13, .ref m14]))]) (wr := [(m4, .inl (D.2 0, 48, .inl lo)), (m5, .inl (D.2 0, 16, .inl lc))]) hA hB hK hP hD hS [0] [1, 2] rfl rfl (by decide)
  refine z_goi (z_runV (As := [.int 1, .int 1, .int 1, .int 0]) (rest := []) (b := m0) hF (d_throwing D m0 m1 m2 m3 m4 m5 m6 m7 m8 m9 m10 m11 m12 m13 m14 (M.1, fun _ => 0, fun _ => 0) bt ln cl pn th 1 1 1 0 H.size) (cwV 4 hZ (z_gV t_286 t_287 t_288 t_272 t_285) rfl rfl rfl (by decide +kernel) ⟨Nat.le_of_ble_eq_true rfl, Nat.le_of_ble_eq_true rfl⟩) J 0 6 rfl rfl rfl rfl hl.1 (Nat.le_of_ble_eq_true rfl) dX6_line_59 ⟨Nat.le_of_ble_eq_true rfl, Nat.le_of_ble_eq_true rfl⟩) J (fun r3 _ H locs w3 hP hD hS => ?_)
  have hP : va_P D.1 vwCl [(m4, .inl (D.2 0, 48, .inl lo)), (m5, .inl (D.2 0, 16, .inl lc)), (m0, .inr (6, [.int 1, .int (nI M.1), .ref m1, .ref m2, .int (nI bt), .ref m3, .int (nI ln), .ref m4, .ref m5, .int (nI cl), .ref m6, .ref m7, .ref m8, .ref m9, .ref m10, .ref m11, .ref m12, .int (nI pn), .ref m13, .ref m14]))] H := hP
  have hD : va_D A [(m4, .inl (D.2 0, 48, .inl lo)), (m5, .inl (D.2 0, 16, .inl lc)), (m0, .inr (6, [.int 1, .int (nI M.1), .ref m1, .ref m2, .int (nI bt), .ref m3, .int (nI ln), .ref m4, .ref m5, .int (nI cl), .ref m6, .ref m7, .ref m8, .ref m9, .ref m10, .ref m11, .ref m12, .int (nI pn), .ref m13, .ref m14]))] := hD
  have w3 : r3 = 1 := w3
  subst w3
  refine lv_if_eq (tgt := 67) hx hb dX6_line_62 (by decide) (fun c5 => ?_) (fun c5 => ?_)
  · skip
    exfalso; exact absurd c5 (by decide)
  refine lv_iconst (v := 0) hx hb dX6_line_65 (by decide) ?_
  exact z_iret (v := 0) hx hb hr hlocks hP hD hS (some 1) (Or.inr (Or.inl ⟨rfl, ar⟩)) [2, 0, 1] rfl (by decide) (Nat.le_of_ble_eq_true rfl) (Nat.le_of_ble_eq_true rfl) dX6_line_66
set_option maxHeartbeats 4000000 in
set_option maxRecDepth 100000 in
/-- the reference: drop -/
theorem d_drop {l : Launch} (D : zD) (m0 m1 m2 m3 m4 m5 m6 m7 m8 m9 m10 m11 m12 m13 m14 : Nat) (M : zM) (bt ln cl pn : Nat) (th : Int32) (sz : Nat) : Met l yX6_drop wsX6_drop ({ frames := 0, cells := 0, slots := 0, locals := 0 }) (va_Pc [.ref m0] (zp D sz [(m0, .inr (6, [.int th, .int (nI M.1), .ref m1, .ref m2, .int (nI bt), .ref m3, .int (nI ln), .ref m4, .ref m5, .int (nI cl), .ref m6, .ref m7, .ref m8, .ref m9, .ref m10, .ref m11, .ref m12, .int (nI pn), .ref m13, .ref m14]))])) (va_Qv (fun (_ : Unit) => True) (zq D (va_A [(m0, .inr (6, [.int th, .int (nI M.1), .ref m1, .ref m2, .int (nI bt), .ref m3, .int (nI ln), .ref m4, .ref m5, .int (nI cl), .ref m6, .ref m7, .ref m8, .ref m9, .ref m10, .ref m11, .ref m12, .int (nI pn), .ref m13, .ref m14]))] sz) (fun (_ : Unit) => ([(m0, .inr (6, [.int 0, .int (nI M.1), .ref m1, .ref m2, .int (nI bt), .ref m3, .int 0, .ref m4, .ref m5, .int (nI cl), .ref m6, .ref m7, .ref m8, .ref m9, .ref m10, .ref m11, .ref m12, .int (nI pn), .ref m13, .ref m14]))] : va_W))) (va_A [(m0, .inr (6, [.int th, .int (nI M.1), .ref m1, .ref m2, .int (nI bt), .ref m3, .int (nI ln), .ref m4, .ref m5, .int (nI cl), .ref m6, .ref m7, .ref m8, .ref m9, .ref m10, .ref m11, .ref m12, .int (nI pn), .ref m13, .ref m14]))] sz)) 0 0 (va_A [(m0, .inr (6, [.int th, .int (nI M.1), .ref m1, .ref m2, .int (nI bt), .ref m3, .int (nI ln), .ref m4, .ref m5, .int (nI cl), .ref m6, .ref m7, .ref m8, .ref m9, .ref m10, .ref m11, .ref m12, .int (nI pn), .ref m13, .ref m14]))] sz) := by
  refine Met.ofW (cc := cX6_drop) (maxL := 1) (ret := none) (by decide) rfl ?_
  intro p e s m args below meth c s₁ B hml hv
  obtain ⟨rfl, hsz, hP, hK, hD0, hB⟩ := hv
  have hx := B.exec
  have hb := B.bytes
  have hr := B.returns
  have hts := atoms_spec (ws := wsX6_drop) B.pre
  have hown : s.vm.findClass "ShopLedgerModel" = some m.cls := findClass_of_methodNamed B.named
  have hlocks := B.notSynchronized
  subst hsz
  have hD := hD0.self (sz := s.heap.size)
  generalize hAe : va_A [(m0, .inr (6, [.int th, .int (nI M.1), .ref m1, .ref m2, .int (nI bt), .ref m3, .int (nI ln), .ref m4, .ref m5, .int (nI cl), .ref m6, .ref m7, .ref m8, .ref m9, .ref m10, .ref m11, .ref m12, .int (nI pn), .ref m13, .ref m14]))] s.heap.size = A at hD hB ⊢
  have hA : ∀ q : Nat, s.heap.size ≤ q → A q := fun q h => by rw [← hAe]; exact Or.inr h
  have hS : va_S A s.heap s.heap [] := va_S.rf
  have hZ : ∀ w ∈ zALL, w.before _ s = true := fun w h => hts w (List.mem_cons_of_mem _ h)
  have hF : CallFix p m c cX6_drop 1 s _ zALL "ShopLedgerModel" := ⟨hx, hb, hml, hown, hZ⟩
  have hl := lv_entry ([.ref m0]) (n := 1) (Nat.le_of_ble_eq_true rfl)
  rw [lg_entry_eq]
  generalize (lg_sl ([.ref m0]) ++ List.replicate (1 - (lg_sl ([.ref m0])).length) Slot.unset).toArray = ls at hl ⊢
  have hl : lv_has ls 1 [(0, .ref m0)] := hl
  refine lv_aload_n hx hb dX6_drop_0 rfl (lv_at hl 0 rfl) ?_
  refine lv_iconst (v := 0) hx hb dX6_drop_1 (by decide) ?_
  refine va_put (D := D.1) (ci := 6) (v := .int 0) (ty := .int) (C := "ShopLedgerModel") (T := TX6) (N := 20) hx hb hZ inX6 tyX6 tyX6_ok nmX6 hown hK hP hD hS 0 rfl rfl 0 (by decide) (hZ _ t_269) (fun _ h9 => h9) rfl (by decide +kernel) rfl rfl (Nat.le_of_ble_eq_true rfl) dX6_drop_2 (fun H locs hP hD hS => ?_)
  have hP : va_P D.1 vwCl [(m0, .inr (6, [.int 0, .int (nI M.1), .ref m1, .ref m2, .int (nI bt), .ref m3, .int (nI ln), .ref m4, .ref m5, .int (nI cl), .ref m6, .ref m7, .ref m8, .ref m9, .ref m10, .ref m11, .ref m12, .int (nI pn), .ref m13, .ref m14]))] H := hP
  have hD : va_D A [(m0, .inr (6, [.int 0, .int (nI M.1), .ref m1, .ref m2, .int (nI bt), .ref m3, .int (nI ln), .ref m4, .ref m5, .int (nI cl), .ref m6, .ref m7, .ref m8, .ref m9, .ref m10, .ref m11, .ref m12, .int (nI pn), .ref m13, .ref m14]))] := hD
  refine lv_aload_n hx hb dX6_drop_5 rfl (lv_at hl 0 rfl) ?_
  refine lv_iconst (v := 0) hx hb dX6_drop_6 (by decide) ?_
  refine va_put (D := D.1) (ci := 6) (v := .int 0) (ty := .int) (C := "ShopLedgerModel") (T := TX6) (N := 20) hx hb hZ inX6 tyX6 tyX6_ok nmX6 hown hK hP hD hS 0 rfl rfl 6 (by decide) (hZ _ t_284) (fun _ h9 => h9) rfl (by decide +kernel) rfl rfl (Nat.le_of_ble_eq_true rfl) dX6_drop_7 (fun H locs hP hD hS => ?_)
  have hP : va_P D.1 vwCl [(m0, .inr (6, [.int 0, .int (nI M.1), .ref m1, .ref m2, .int (nI bt), .ref m3, .int 0, .ref m4, .ref m5, .int (nI cl), .ref m6, .ref m7, .ref m8, .ref m9, .ref m10, .ref m11, .ref m12, .int (nI pn), .ref m13, .ref m14]))] H := hP
  have hD : va_D A [(m0, .inr (6, [.int 0, .int (nI M.1), .ref m1, .ref m2, .int (nI bt), .ref m3, .int 0, .ref m4, .ref m5, .int (nI cl), .ref m6, .ref m7, .ref m8, .ref m9, .ref m10, .ref m11, .ref m12, .int (nI pn), .ref m13, .ref m14]))] := hD
  exact z_vret hx hb hr hlocks hP hD hS () (trivial) [0] rfl (by decide) (Nat.le_of_ble_eq_true rfl) (Nat.le_of_ble_eq_true rfl) dX6_drop_10
set_option maxHeartbeats 4000000 in
set_option maxRecDepth 100000 in
/-- the reference: close -/
theorem d_close {l : Launch} (D : zD) (m0 m1 m2 m3 m4 m5 m6 m7 m8 m9 m10 m11 m12 m13 m14 : Nat) (M : zM) (bt ln cl pn : Nat) (th : Int32) (sz : Nat) (hn : cl ≤ 12) : Met l yX6_close wsX6_close ({ frames := 1, cells := 0, slots := 0, locals := 24 }) (va_Pc [.ref m0] (zp D sz [(m0, .inr (6, [.int th, .int (nI M.1), .ref m1, .ref m2, .int (nI bt), .ref m3, .int (nI ln), .ref m4, .ref m5, .int (nI cl), .ref m6, .ref m7, .ref m8, .ref m9, .ref m10, .ref m11, .ref m12, .int (nI pn), .ref m13, .ref m14]))])) (va_Qi (fun r (u : Option Int32) => (u = none ∧ (¬ 12 ≤ nI cl) ∧ r = nI cl) ∨ (u = some 1 ∧ ¬ (¬ 12 ≤ nI cl))) (zq D (va_A [(m0, .inr (6, [.int th, .int (nI M.1), .ref m1, .ref m2, .int (nI bt), .ref m3, .int (nI ln), .ref m4, .ref m5, .int (nI cl), .ref m6, .ref m7, .ref m8, .ref m9, .ref m10, .ref m11, .ref m12, .int (nI pn), .ref m13, .ref m14]))] sz) (fun (u : Option Int32) => (u.elim [(m0, .inr (6, [.int 0, .int (nI M.1), .ref m1, .ref m2, .int (nI bt), .ref m3, .int (nI ln), .ref m4, .ref m5, .int (nI (cl + 1)), .ref m6, .ref m7, .ref m8, .ref m9, .ref m10, .ref m11, .ref m12, .int (nI pn), .ref m13, .ref m14]))] (fun t => [(m0, .inr (6, [.int t, .int (nI M.1), .ref m1, .ref m2, .int (nI bt), .ref m3, .int (nI ln), .ref m4, .ref m5, .int (nI cl), .ref m6, .ref m7, .ref m8, .ref m9, .ref m10, .ref m11, .ref m12, .int (nI pn), .ref m13, .ref m14]))]) : va_W))) (va_A [(m0, .inr (6, [.int th, .int (nI M.1), .ref m1, .ref m2, .int (nI bt), .ref m3, .int (nI ln), .ref m4, .ref m5, .int (nI cl), .ref m6, .ref m7, .ref m8, .ref m9, .ref m10, .ref m11, .ref m12, .int (nI pn), .ref m13, .ref m14]))] sz)) 0 0 (va_A [(m0, .inr (6, [.int th, .int (nI M.1), .ref m1, .ref m2, .int (nI bt), .ref m3, .int (nI ln), .ref m4, .ref m5, .int (nI cl), .ref m6, .ref m7, .ref m8, .ref m9, .ref m10, .ref m11, .ref m12, .int (nI pn), .ref m13, .ref m14]))] sz) := by
  refine Met.ofW (cc := cX6_close) (maxL := 1) (ret := (some .int)) (by decide) rfl ?_
  intro p e s m args below meth c s₁ B hml hv
  obtain ⟨rfl, hsz, hP, hK, hD0, hB⟩ := hv
  have hx := B.exec
  have hb := B.bytes
  have hr := B.returns
  have hts := atoms_spec (ws := wsX6_close) B.pre
  have hown : s.vm.findClass "ShopLedgerModel" = some m.cls := findClass_of_methodNamed B.named
  have hlocks := B.notSynchronized
  subst hsz
  have hD := hD0.self (sz := s.heap.size)
  generalize hAe : va_A [(m0, .inr (6, [.int th, .int (nI M.1), .ref m1, .ref m2, .int (nI bt), .ref m3, .int (nI ln), .ref m4, .ref m5, .int (nI cl), .ref m6, .ref m7, .ref m8, .ref m9, .ref m10, .ref m11, .ref m12, .int (nI pn), .ref m13, .ref m14]))] s.heap.size = A at hD hB ⊢
  have hA : ∀ q : Nat, s.heap.size ≤ q → A q := fun q h => by rw [← hAe]; exact Or.inr h
  have hS : va_S A s.heap s.heap [] := va_S.rf
  have hZ : ∀ w ∈ zALL, w.before _ s = true := fun w h => hts w (List.mem_cons_of_mem _ h)
  have hF : CallFix p m c cX6_close 1 s _ zALL "ShopLedgerModel" := ⟨hx, hb, hml, hown, hZ⟩
  have hl := lv_entry ([.ref m0]) (n := 1) (Nat.le_of_ble_eq_true rfl)
  rw [lg_entry_eq]
  generalize (lg_sl ([.ref m0]) ++ List.replicate (1 - (lg_sl ([.ref m0])).length) Slot.unset).toArray = ls at hl ⊢
  have hl : lv_has ls 1 [(0, .ref m0)] := hl
  refine lv_aload_n hx hb dX6_close_0 rfl (lv_at hl 0 rfl) ?_
  refine lv_aload_n hx hb dX6_close_1 rfl (lv_at hl 0 rfl) ?_
  refine va_get (D := D.1) (ci := 6) (v := .int (nI cl)) (C := "ShopLedgerModel") (T := TX6) (N := 20) hx hb hZ inX6 hown hK hP 0 rfl rfl 9 (by decide) (hZ _ t_293) (fun _ h9 => h9) rfl dX6_close_2 ?_
  refine lv_bipush (v := 12) hx hb dX6_close_5 (by decide) ?_
  refine lv_icmp_ne (tgt := 14) hx hb dX6_close_7 (by decide) (fun c1 => ?_) (fun c1 => ?_)
  · skip
    have tu : ¬ 12 ≤ nI cl := fun h => c1 (z_full (t := 12) hn (by decide) h)
    refine lv_iconst (v := 0) hx hb dX6_close_14 (by decide) ?_
    refine lv_iconst (v := 0) hx hb dX6_close_15 (by decide) ?_
    refine lv_iconst (v := 0) hx hb dX6_close_16 (by decide) ?_
    refine lv_iconst (v := 0) hx hb dX6_close_17 (by decide) ?_
    have J := zJ.mk (wc := [(m0, .inr (6, [.int th, .int (nI M.1), .ref m1, .ref m2, .int (nI bt), .ref m3, .int (nI ln), .ref m4, .ref m5, .int (nI cl), .ref m6, .ref m7, .ref m8, .ref m9, .ref m10, .ref m11, .ref m12, .int (nI pn), .ref m13, .ref m14]))]) (wr := []) hA hB hK hP hD hS [0] [] rfl rfl (by decide)
    refine z_goi (z_runV (As := [.int 0, .int 0, .int 0, .int 0]) (rest := []) (b := m0) hF (d_throwing D m0 m1 m2 m3 m4 m5 m6 m7 m8 m9 m10 m11 m12 m13 m14 (M.1, fun _ => 0, fun _ => 0) bt ln cl pn th 0 0 0 0 s.heap.size) (cwV 4 hZ (z_gV t_286 t_287 t_288 t_272 t_285) rfl rfl rfl (by decide +kernel) ⟨Nat.le_of_ble_eq_true rfl, Nat.le_of_ble_eq_true rfl⟩) J 0 6 rfl rfl rfl rfl hl.1 (Nat.le_of_ble_eq_true rfl) dX6_close_18 ⟨Nat.le_of_ble_eq_true rfl, Nat.le_of_ble_eq_true rfl⟩) J (fun r1 _ H locs w1 hP hD hS => ?_)
    have hP : va_P D.1 vwCl [(m0, .inr (6, [.int 0, .int (nI M.1), .ref m1, .ref m2, .int (nI bt), .ref m3, .int (nI ln), .ref m4, .ref m5, .int (nI cl), .ref m6, .ref m7, .ref m8, .ref m9, .ref m10, .ref m11, .ref m12, .int (nI pn), .ref m13, .ref m14]))] H := hP
    have hD : va_D A [(m0, .inr (6, [.int 0, .int (nI M.1), .ref m1, .ref m2, .int (nI bt), .ref m3, .int (nI ln), .ref m4, .ref m5, .int (nI cl), .ref m6, .ref m7, .ref m8, .ref m9, .ref m10, .ref m11, .ref m12, .int (nI pn), .ref m13, .ref m14]))] := hD
    have w1 : r1 = 0 := w1
    subst w1
    refine lv_if_eq (tgt := 26) hx hb dX6_close_21 (by decide) (fun c2 => ?_) (fun c2 => ?_)
    · skip
      refine lv_aload_n hx hb dX6_close_26 rfl (lv_at hl 0 rfl) ?_
      refine lv_dup hx hb dX6_close_27 rfl ?_
      refine va_get (D := D.1) (ci := 6) (v := .int (nI cl)) (C := "ShopLedgerModel") (T := TX6) (N := 20) hx hb hZ inX6 hown hK hP 0 rfl rfl 9 (by decide) (hZ _ t_293) (fun _ h9 => h9) rfl dX6_close_28 ?_
      refine lv_iconst (v := 1) hx hb dX6_close_31 (by decide) ?_
      refine lv_iadd hx hb dX6_close_32 ?_
      rw [show ((nI cl) + 1) = nI (cl + 1) from nI_1 cl]
      refine va_put (D := D.1) (ci := 6) (v := .int (nI (cl + 1))) (ty := .int) (C := "ShopLedgerModel") (T := TX6) (N := 20) hx hb hZ inX6 tyX6 tyX6_ok nmX6 hown hK hP hD hS 0 rfl rfl 9 (by decide) (hZ _ t_293) (fun _ h9 => h9) rfl (by decide +kernel) rfl rfl (Nat.le_of_ble_eq_true rfl) dX6_close_33 (fun H locs hP hD hS => ?_)
      have hP : va_P D.1 vwCl [(m0, .inr (6, [.int 0, .int (nI M.1), .ref m1, .ref m2, .int (nI bt), .ref m3, .int (nI ln), .ref m4, .ref m5, .int (nI (cl + 1)), .ref m6, .ref m7, .ref m8, .ref m9, .ref m10, .ref m11, .ref m12, .int (nI pn), .ref m13, .ref m14]))] H := hP
      have hD : va_D A [(m0, .inr (6, [.int 0, .int (nI M.1), .ref m1, .ref m2, .int (nI bt), .ref m3, .int (nI ln), .ref m4, .ref m5, .int (nI (cl + 1)), .ref m6, .ref m7, .ref m8, .ref m9, .ref m10, .ref m11, .ref m12, .int (nI pn), .ref m13, .ref m14]))] := hD
      refine lv_aload_n hx hb dX6_close_36 rfl (lv_at hl 0 rfl) ?_
      refine va_get (D := D.1) (ci := 6) (v := .int (nI (cl + 1))) (C := "ShopLedgerModel") (T := TX6) (N := 20) hx hb hZ inX6 hown hK hP 0 rfl rfl 9 (by decide) (hZ _ t_293) (fun _ h9 => h9) rfl dX6_close_37 ?_
      refine lv_iconst (v := 1) hx hb dX6_close_40 (by decide) ?_
      refine lv_isub hx hb dX6_close_41 ?_
      rw [show ((nI (cl + 1)) - 1) = nI cl from nI_pred cl]
      exact z_iret (v := nI cl) hx hb hr hlocks hP hD hS none (Or.inl ⟨rfl, tu, rfl⟩) [0] rfl (by decide) (Nat.le_of_ble_eq_true rfl) (Nat.le_of_ble_eq_true rfl) dX6_close_42
    exfalso; exact absurd c2 (by decide)
  have tu : ¬ (¬ 12 ≤ nI cl) := fun h => h (by rw [c1]; decide)
  refine lv_iconst (v := 1) hx hb dX6_close_10 (by decide) ?_
  refine lv_goto (tgt := 15) hx hb dX6_close_11 (by decide) ?_
  refine lv_iconst (v := 0) hx hb dX6_close_15 (by decide) ?_
  refine lv_iconst (v := 0) hx hb dX6_close_16 (by decide) ?_
  refine lv_iconst (v := 0) hx hb dX6_close_17 (by decide) ?_
  have J := zJ.mk (wc := [(m0, .inr (6, [.int th, .int (nI M.1), .ref m1, .ref m2, .int (nI bt), .ref m3, .int (nI ln), .ref m4, .ref m5, .int (nI cl), .ref m6, .ref m7, .ref m8, .ref m9, .ref m10, .ref m11, .ref m12, .int (nI pn), .ref m13, .ref m14]))]) (wr := []) hA hB hK hP hD hS [0] [] rfl rfl (by decide)
  refine z_goi (z_runV (As := [.int 1, .int 0, .int 0, .int 0]) (rest := []) (b := m0) hF (d_throwing D m0 m1 m2 m3 m4 m5 m6 m7 m8 m9 m10 m11 m12 m13 m14 (M.1, fun _ => 0, fun _ => 0) bt ln cl pn th 1 0 0 0 s.heap.size) (cwV 4 hZ (z_gV t_286 t_287 t_288 t_272 t_285) rfl rfl rfl (by decide +kernel) ⟨Nat.le_of_ble_eq_true rfl, Nat.le_of_ble_eq_true rfl⟩) J 0 6 rfl rfl rfl rfl hl.1 (Nat.le_of_ble_eq_true rfl) dX6_close_18 ⟨Nat.le_of_ble_eq_true rfl, Nat.le_of_ble_eq_true rfl⟩) J (fun r1 _ H locs w1 hP hD hS => ?_)
  have hP : va_P D.1 vwCl [(m0, .inr (6, [.int 1, .int (nI M.1), .ref m1, .ref m2, .int (nI bt), .ref m3, .int (nI ln), .ref m4, .ref m5, .int (nI cl), .ref m6, .ref m7, .ref m8, .ref m9, .ref m10, .ref m11, .ref m12, .int (nI pn), .ref m13, .ref m14]))] H := hP
  have hD : va_D A [(m0, .inr (6, [.int 1, .int (nI M.1), .ref m1, .ref m2, .int (nI bt), .ref m3, .int (nI ln), .ref m4, .ref m5, .int (nI cl), .ref m6, .ref m7, .ref m8, .ref m9, .ref m10, .ref m11, .ref m12, .int (nI pn), .ref m13, .ref m14]))] := hD
  have w1 : r1 = 1 := w1
  subst w1
  refine lv_if_eq (tgt := 26) hx hb dX6_close_21 (by decide) (fun c2 => ?_) (fun c2 => ?_)
  · skip
    exfalso; exact absurd c2 (by decide)
  refine lv_iconst (v := 0) hx hb dX6_close_24 (by decide) ?_
  exact z_iret (v := 0) hx hb hr hlocks hP hD hS (some 1) (Or.inr (⟨rfl, tu⟩)) [0] rfl (by decide) (Nat.le_of_ble_eq_true rfl) (Nat.le_of_ble_eq_true rfl) dX6_close_25
set_option maxHeartbeats 4000000 in
set_option maxRecDepth 100000 in
/-- the reference: many -/
theorem d_many {l : Launch} (D : zD) (m0 m1 m2 m3 m4 m5 m6 m7 m8 m9 m10 m11 m12 m13 m14 : Nat) (M : zM) (bt ln cl pn : Nat) (th : Int32) (p1 : Int32) (sz : Nat) : Met l yX6_many wsX6_many ({ frames := 1, cells := 0, slots := 0, locals := 25 }) (va_Pc [.ref m0, .int p1] (zp D sz [(m0, .inr (6, [.int th, .int (nI M.1), .ref m1, .ref m2, .int (nI bt), .ref m3, .int (nI ln), .ref m4, .ref m5, .int (nI cl), .ref m6, .ref m7, .ref m8, .ref m9, .ref m10, .ref m11, .ref m12, .int (nI pn), .ref m13, .ref m14]))])) (va_Qi (fun r (u : Option Int32) => (u = none ∧ (zin p1 5) ∧ ((p1 = 0 ∧ r = nI M.1) ∨ (p1 = 1 ∧ r = nI bt) ∨ (p1 = 2 ∧ r = nI ln) ∨ (p1 = 3 ∧ r = nI cl) ∨ (¬ p1 = 0 ∧ ¬ p1 = 1 ∧ ¬ p1 = 2 ∧ ¬ p1 = 3 ∧ r = nI pn))) ∨ (u = some 1 ∧ ¬ (zin p1 5))) (zq D (va_A [(m0, .inr (6, [.int th, .int (nI M.1), .ref m1, .ref m2, .int (nI bt), .ref m3, .int (nI ln), .ref m4, .ref m5, .int (nI cl), .ref m6, .ref m7, .ref m8, .ref m9, .ref m10, .ref m11, .ref m12, .int (nI pn), .ref m13, .ref m14]))] sz) (fun (u : Option Int32) => (u.elim [(m0, .inr (6, [.int 0, .int (nI M.1), .ref m1, .ref m2, .int (nI bt), .ref m3, .int (nI ln), .ref m4, .ref m5, .int (nI cl), .ref m6, .ref m7, .ref m8, .ref m9, .ref m10, .ref m11, .ref m12, .int (nI pn), .ref m13, .ref m14]))] (fun t => [(m0, .inr (6, [.int t, .int (nI M.1), .ref m1, .ref m2, .int (nI bt), .ref m3, .int (nI ln), .ref m4, .ref m5, .int (nI cl), .ref m6, .ref m7, .ref m8, .ref m9, .ref m10, .ref m11, .ref m12, .int (nI pn), .ref m13, .ref m14]))]) : va_W))) (va_A [(m0, .inr (6, [.int th, .int (nI M.1), .ref m1, .ref m2, .int (nI bt), .ref m3, .int (nI ln), .ref m4, .ref m5, .int (nI cl), .ref m6, .ref m7, .ref m8, .ref m9, .ref m10, .ref m11, .ref m12, .int (nI pn), .ref m13, .ref m14]))] sz)) 0 0 (va_A [(m0, .inr (6, [.int th, .int (nI M.1), .ref m1, .ref m2, .int (nI bt), .ref m3, .int (nI ln), .ref m4, .ref m5, .int (nI cl), .ref m6, .ref m7, .ref m8, .ref m9, .ref m10, .ref m11, .ref m12, .int (nI pn), .ref m13, .ref m14]))] sz) := by
  refine Met.ofW (cc := cX6_many) (maxL := 2) (ret := (some .int)) (by decide) rfl ?_
  intro p e s m args below meth c s₁ B hml hv
  obtain ⟨rfl, hsz, hP, hK, hD0, hB⟩ := hv
  have hx := B.exec
  have hb := B.bytes
  have hr := B.returns
  have hts := atoms_spec (ws := wsX6_many) B.pre
  have hown : s.vm.findClass "ShopLedgerModel" = some m.cls := findClass_of_methodNamed B.named
  have hlocks := B.notSynchronized
  subst hsz
  have hD := hD0.self (sz := s.heap.size)
  generalize hAe : va_A [(m0, .inr (6, [.int th, .int (nI M.1), .ref m1, .ref m2, .int (nI bt), .ref m3, .int (nI ln), .ref m4, .ref m5, .int (nI cl), .ref m6, .ref m7, .ref m8, .ref m9, .ref m10, .ref m11, .ref m12, .int (nI pn), .ref m13, .ref m14]))] s.heap.size = A at hD hB ⊢
  have hA : ∀ q : Nat, s.heap.size ≤ q → A q := fun q h => by rw [← hAe]; exact Or.inr h
  have hS : va_S A s.heap s.heap [] := va_S.rf
  have hZ : ∀ w ∈ zALL, w.before _ s = true := fun w h => hts w (List.mem_cons_of_mem _ h)
  have hF : CallFix p m c cX6_many 2 s _ zALL "ShopLedgerModel" := ⟨hx, hb, hml, hown, hZ⟩
  have hl := lv_entry ([.ref m0, .int p1]) (n := 2) (Nat.le_of_ble_eq_true rfl)
  rw [lg_entry_eq]
  generalize (lg_sl ([.ref m0, .int p1]) ++ List.replicate (2 - (lg_sl ([.ref m0, .int p1])).length) Slot.unset).toArray = ls at hl ⊢
  have hl : lv_has ls 2 [(0, .ref m0), (1, .int p1)] := hl
  refine lv_aload_n hx hb dX6_many_0 rfl (lv_at hl 0 rfl) ?_
  refine lv_iload_n hx hb dX6_many_1 rfl (lv_at hl 1 rfl) ?_
  refine lv_i2l (v := p1.toInt64) hx hb dX6_many_2 rfl ?_
  refine lv_lconst (v := 0) hx hb dX6_many_3 (by decide) ?_
  refine lv_ldc2 (v := 4) hx hb hown (hZ _ t_294) dX6_many_4 ?_
  have J := zJ.mk (wc := []) (wr := [(m0, .inr (6, [.int th, .int (nI M.1), .ref m1, .ref m2, .int (nI bt), .ref m3, .int (nI ln), .ref m4, .ref m5, .int (nI cl), .ref m6, .ref m7, .ref m8, .ref m9, .ref m10, .ref m11, .ref m12, .int (nI pn), .ref m13, .ref m14]))]) hA hB hK hP hD hS [] [0] rfl rfl (by decide)
  refine z_goi (z_runS (As := [.long p1.toInt64, .long 0, .long 4]) (rest := [.ref m0]) hF (d_lies D p1.toInt64 0 4 s.heap.size) (va_cwS 3 hZ (z_gS t_273 t_274 t_272 t_271) rfl rfl rfl (by decide +kernel) ⟨Nat.le_of_ble_eq_true rfl, Nat.le_of_ble_eq_true rfl⟩) J rfl hl.1 (Nat.le_of_ble_eq_true rfl) dX6_many_7 ⟨Nat.le_of_ble_eq_true rfl, Nat.le_of_ble_eq_true rfl⟩) J (fun r1 _ H locs w1 hP hD hS => ?_)
  have hP : va_P D.1 vwCl [(m0, .inr (6, [.int th, .int (nI M.1), .ref m1, .ref m2, .int (nI bt), .ref m3, .int (nI ln), .ref m4, .ref m5, .int (nI cl), .ref m6, .ref m7, .ref m8, .ref m9, .ref m10, .ref m11, .ref m12, .int (nI pn), .ref m13, .ref m14]))] H := hP
  have hD : va_D A [(m0, .inr (6, [.int th, .int (nI M.1), .ref m1, .ref m2, .int (nI bt), .ref m3, .int (nI ln), .ref m4, .ref m5, .int (nI cl), .ref m6, .ref m7, .ref m8, .ref m9, .ref m10, .ref m11, .ref m12, .int (nI pn), .ref m13, .ref m14]))] := hD
  have f1 : (r1 = 1 ∧ zin p1 5) ∨ (r1 = 0 ∧ ¬ zin p1 5) := z_lz 4 (by decide) (by decide) w1
  refine lv_if_ne (tgt := 17) hx hb dX6_many_10 (by decide) (fun c1 => ?_) (fun c1 => ?_)
  · skip
    have ar := z_b1 f1 c1
    refine lv_iconst (v := 0) hx hb dX6_many_17 (by decide) ?_
    refine lv_iconst (v := 0) hx hb dX6_many_18 (by decide) ?_
    refine lv_iconst (v := 0) hx hb dX6_many_19 (by decide) ?_
    refine lv_iconst (v := 0) hx hb dX6_many_20 (by decide) ?_
    have J := zJ.mk (wc := [(m0, .inr (6, [.int th, .int (nI M.1), .ref m1, .ref m2, .int (nI bt), .ref m3, .int (nI ln), .ref m4, .ref m5, .int (nI cl), .ref m6, .ref m7, .ref m8, .ref m9, .ref m10, .ref m11, .ref m12, .int (nI pn), .ref m13, .ref m14]))]) (wr := []) hA hB hK hP hD hS [0] [] rfl rfl (by decide)
    refine z_goi (z_runV (As := [.int 0, .int 0, .int 0, .int 0]) (rest := []) (b := m0) hF (d_throwing D m0 m1 m2 m3 m4 m5 m6 m7 m8 m9 m10 m11 m12 m13 m14 (M.1, fun _ => 0, fun _ => 0) bt ln cl pn th 0 0 0 0 H.size) (cwV 4 hZ (z_gV t_286 t_287 t_288 t_272 t_285) rfl rfl rfl (by decide +kernel) ⟨Nat.le_of_ble_eq_true rfl, Nat.le_of_ble_eq_true rfl⟩) J 0 6 rfl rfl rfl rfl hl.1 (Nat.le_of_ble_eq_true rfl) dX6_many_21 ⟨Nat.le_of_ble_eq_true rfl, Nat.le_of_ble_eq_true rfl⟩) J (fun r2 _ H locs w2 hP hD hS => ?_)
    have hP : va_P D.1 vwCl [(m0, .inr (6, [.int 0, .int (nI M.1), .ref m1, .ref m2, .int (nI bt), .ref m3, .int (nI ln), .ref m4, .ref m5, .int (nI cl), .ref m6, .ref m7, .ref m8, .ref m9, .ref m10, .ref m11, .ref m12, .int (nI pn), .ref m13, .ref m14]))] H := hP
    have hD : va_D A [(m0, .inr (6, [.int 0, .int (nI M.1), .ref m1, .ref m2, .int (nI bt), .ref m3, .int (nI ln), .ref m4, .ref m5, .int (nI cl), .ref m6, .ref m7, .ref m8, .ref m9, .ref m10, .ref m11, .ref m12, .int (nI pn), .ref m13, .ref m14]))] := hD
    have w2 : r2 = 0 := w2
    subst w2
    refine lv_if_eq (tgt := 29) hx hb dX6_many_24 (by decide) (fun c2 => ?_) (fun c2 => ?_)
    · skip
      refine lv_iload_n hx hb dX6_many_29 rfl (lv_at hl 1 rfl) ?_
      refine lv_if_ne (tgt := 40) hx hb dX6_many_30 (by decide) (fun c3 => ?_) (fun c3 => ?_)
      · skip
        refine lv_iload_n hx hb dX6_many_40 rfl (lv_at hl 1 rfl) ?_
        refine lv_iconst (v := 1) hx hb dX6_many_41 (by decide) ?_
        refine lv_icmp_ne (tgt := 52) hx hb dX6_many_42 (by decide) (fun c4 => ?_) (fun c4 => ?_)
        · skip
          refine lv_iload_n hx hb dX6_many_52 rfl (lv_at hl 1 rfl) ?_
          refine lv_iconst (v := 2) hx hb dX6_many_53 (by decide) ?_
          refine lv_icmp_ne (tgt := 64) hx hb dX6_many_54 (by decide) (fun c5 => ?_) (fun c5 => ?_)
          · skip
            refine lv_iload_n hx hb dX6_many_64 rfl (lv_at hl 1 rfl) ?_
            refine lv_iconst (v := 3) hx hb dX6_many_65 (by decide) ?_
            refine lv_icmp_ne (tgt := 76) hx hb dX6_many_66 (by decide) (fun c6 => ?_) (fun c6 => ?_)
            · skip
              refine lv_aload_n hx hb dX6_many_76 rfl (lv_at hl 0 rfl) ?_
              refine va_get (D := D.1) (ci := 6) (v := .int (nI pn)) (C := "ShopLedgerModel") (T := TX6) (N := 20) hx hb hZ inX6 hown hK hP 0 rfl rfl 17 (by decide) (hZ _ t_295) (fun _ h9 => h9) rfl dX6_many_77 ?_
              exact z_iret (v := nI pn) hx hb hr hlocks hP hD hS none (Or.inl ⟨rfl, ar, by first | exact Or.inl ⟨c3, rfl⟩ | exact Or.inr (Or.inl ⟨c4, rfl⟩) | exact Or.inr (Or.inr (Or.inl ⟨c5, rfl⟩)) | exact Or.inr (Or.inr (Or.inr (Or.inl ⟨c6, rfl⟩))) | exact Or.inr (Or.inr (Or.inr (Or.inr ⟨c3, c4, c5, c6, rfl⟩)))⟩) [0] rfl (by decide) (Nat.le_of_ble_eq_true rfl) (Nat.le_of_ble_eq_true rfl) dX6_many_80
            refine lv_aload_n hx hb dX6_many_69 rfl (lv_at hl 0 rfl) ?_
            refine va_get (D := D.1) (ci := 6) (v := .int (nI cl)) (C := "ShopLedgerModel") (T := TX6) (N := 20) hx hb hZ inX6 hown hK hP 0 rfl rfl 9 (by decide) (hZ _ t_293) (fun _ h9 => h9) rfl dX6_many_70 ?_
            refine lv_goto (tgt := 80) hx hb dX6_many_73 (by decide) ?_
            exact z_iret (v := nI cl) hx hb hr hlocks hP hD hS none (Or.inl ⟨rfl, ar, by first | exact Or.inl ⟨c3, rfl⟩ | exact Or.inr (Or.inl ⟨c4, rfl⟩) | exact Or.inr (Or.inr (Or.inl ⟨c5, rfl⟩)) | exact Or.inr (Or.inr (Or.inr (Or.inl ⟨c6, rfl⟩))) | exact Or.inr (Or.inr (Or.inr (Or.inr ⟨c3, c4, c5, c6, rfl⟩)))⟩) [0] rfl (by decide) (Nat.le_of_ble_eq_true rfl) (Nat.le_of_ble_eq_true rfl) dX6_many_80
          refine lv_aload_n hx hb dX6_many_57 rfl (lv_at hl 0 rfl) ?_
          refine va_get (D := D.1) (ci := 6) (v := .int (nI ln)) (C := "ShopLedgerModel") (T := TX6) (N := 20) hx hb hZ inX6 hown hK hP 0 rfl rfl 6 (by decide) (hZ _ t_284) (fun _ h9 => h9) rfl dX6_many_58 ?_
          refine lv_goto (tgt := 80) hx hb dX6_many_61 (by decide) ?_
          exact z_iret (v := nI ln) hx hb hr hlocks hP hD hS none (Or.inl ⟨rfl, ar, by first | exact Or.inl ⟨c3, rfl⟩ | exact Or.inr (Or.inl ⟨c4, rfl⟩) | exact Or.inr (Or.inr (Or.inl ⟨c5, rfl⟩)) | exact Or.inr (Or.inr (Or.inr (Or.inl ⟨c6, rfl⟩))) | exact Or.inr (Or.inr (Or.inr (Or.inr ⟨c3, c4, c5, c6, rfl⟩)))⟩) [0] rfl (by decide) (Nat.le_of_ble_eq_true rfl) (Nat.le_of_ble_eq_true rfl) dX6_many_80
        refine lv_aload_n hx hb dX6_many_45 rfl (lv_at hl 0 rfl) ?_
        refine va_get (D := D.1) (ci := 6) (v := .int (nI bt)) (C := "ShopLedgerModel") (T := TX6) (N := 20) hx hb hZ inX6 hown hK hP 0 rfl rfl 4 (by decide) (hZ _ t_278) (fun _ h9 => h9) rfl dX6_many_46 ?_
        refine lv_goto (tgt := 80) hx hb dX6_many_49 (by decide) ?_
        exact z_iret (v := nI bt) hx hb hr hlocks hP hD hS none (Or.inl ⟨rfl, ar, by first | exact Or.inl ⟨c3, rfl⟩ | exact Or.inr (Or.inl ⟨c4, rfl⟩) | exact Or.inr (Or.inr (Or.inl ⟨c5, rfl⟩)) | exact Or.inr (Or.inr (Or.inr (Or.inl ⟨c6, rfl⟩))) | exact Or.inr (Or.inr (Or.inr (Or.inr ⟨c3, c4, c5, c6, rfl⟩)))⟩) [0] rfl (by decide) (Nat.le_of_ble_eq_true rfl) (Nat.le_of_ble_eq_true rfl) dX6_many_80
      refine lv_aload_n hx hb dX6_many_33 rfl (lv_at hl 0 rfl) ?_
      refine va_get (D := D.1) (ci := 6) (v := .int (nI M.1)) (C := "ShopLedgerModel") (T := TX6) (N := 20) hx hb hZ inX6 hown hK hP 0 rfl rfl 1 (by decide) (hZ _ t_277) (fun _ h9 => h9) rfl dX6_many_34 ?_
      refine lv_goto (tgt := 80) hx hb dX6_many_37 (by decide) ?_
      exact z_iret (v := nI M.1) hx hb hr hlocks hP hD hS none (Or.inl ⟨rfl, ar, by first | exact Or.inl ⟨c3, rfl⟩ | exact Or.inr (Or.inl ⟨c4, rfl⟩) | exact Or.inr (Or.inr (Or.inl ⟨c5, rfl⟩)) | exact Or.inr (Or.inr (Or.inr (Or.inl ⟨c6, rfl⟩))) | exact Or.inr (Or.inr (Or.inr (Or.inr ⟨c3, c4, c5, c6, rfl⟩)))⟩) [0] rfl (by decide) (Nat.le_of_ble_eq_true rfl) (Nat.le_of_ble_eq_true rfl) dX6_many_80
    exfalso; exact absurd c2 (by decide)
  have ar := z_b0 f1 c1
  refine lv_iconst (v := 1) hx hb dX6_many_13 (by decide) ?_
  refine lv_goto (tgt := 18) hx hb dX6_many_14 (by decide) ?_
  refine lv_iconst (v := 0) hx hb dX6_many_18 (by decide) ?_
  refine lv_iconst (v := 0) hx hb dX6_many_19 (by decide) ?_
  refine lv_iconst (v := 0) hx hb dX6_many_20 (by decide) ?_
  have J := zJ.mk (wc := [(m0, .inr (6, [.int th, .int (nI M.1), .ref m1, .ref m2, .int (nI bt), .ref m3, .int (nI ln), .ref m4, .ref m5, .int (nI cl), .ref m6, .ref m7, .ref m8, .ref m9, .ref m10, .ref m11, .ref m12, .int (nI pn), .ref m13, .ref m14]))]) (wr := []) hA hB hK hP hD hS [0] [] rfl rfl (by decide)
  refine z_goi (z_runV (As := [.int 1, .int 0, .int 0, .int 0]) (rest := []) (b := m0) hF (d_throwing D m0 m1 m2 m3 m4 m5 m6 m7 m8 m9 m10 m11 m12 m13 m14 (M.1, fun _ => 0, fun _ => 0) bt ln cl pn th 1 0 0 0 H.size) (cwV 4 hZ (z_gV t_286 t_287 t_288 t_272 t_285) rfl rfl rfl (by decide +kernel) ⟨Nat.le_of_ble_eq_true rfl, Nat.le_of_ble_eq_true rfl⟩) J 0 6 rfl rfl rfl rfl hl.1 (Nat.le_of_ble_eq_true rfl) dX6_many_21 ⟨Nat.le_of_ble_eq_true rfl, Nat.le_of_ble_eq_true rfl⟩) J (fun r2 _ H locs w2 hP hD hS => ?_)
  have hP : va_P D.1 vwCl [(m0, .inr (6, [.int 1, .int (nI M.1), .ref m1, .ref m2, .int (nI bt), .ref m3, .int (nI ln), .ref m4, .ref m5, .int (nI cl), .ref m6, .ref m7, .ref m8, .ref m9, .ref m10, .ref m11, .ref m12, .int (nI pn), .ref m13, .ref m14]))] H := hP
  have hD : va_D A [(m0, .inr (6, [.int 1, .int (nI M.1), .ref m1, .ref m2, .int (nI bt), .ref m3, .int (nI ln), .ref m4, .ref m5, .int (nI cl), .ref m6, .ref m7, .ref m8, .ref m9, .ref m10, .ref m11, .ref m12, .int (nI pn), .ref m13, .ref m14]))] := hD
  have w2 : r2 = 1 := w2
  subst w2
  refine lv_if_eq (tgt := 29) hx hb dX6_many_24 (by decide) (fun c2 => ?_) (fun c2 => ?_)
  · skip
    exfalso; exact absurd c2 (by decide)
  refine lv_iconst (v := 0) hx hb dX6_many_27 (by decide) ?_
  exact z_iret (v := 0) hx hb hr hlocks hP hD hS (some 1) (Or.inr (⟨rfl, ar⟩)) [0] rfl (by decide) (Nat.le_of_ble_eq_true rfl) (Nat.le_of_ble_eq_true rfl) dX6_many_28
set_option maxHeartbeats 4000000 in
set_option maxRecDepth 100000 in
/-- the reference: weight -/
theorem d_weight {l : Launch} (D : zD) (m0 m1 m2 m3 m4 m5 m6 m7 m8 m9 m10 m11 m12 m13 m14 : Nat) (M : zM) (bt ln cl pn : Nat) (th : Int32) (wt : Nat → Int32) (p1 p2 : Int32) (sz : Nat) : Met l yX6_weight wsX6_weight ({ frames := 1, cells := 0, slots := 0, locals := 25 }) (va_Pc [.ref m0, .int p1, .int p2] (zp D sz [(m0, .inr (6, [.int th, .int (nI M.1), .ref m1, .ref m2, .int (nI bt), .ref m3, .int (nI ln), .ref m4, .ref m5, .int (nI cl), .ref m6, .ref m7, .ref m8, .ref m9, .ref m10, .ref m11, .ref m12, .int (nI pn), .ref m13, .ref m14])), (m6, .inl (D.2 0, 8, .inl wt))])) (va_Qv (fun (u : Option Int32) => (u = none ∧ (zin p1 8) ∧ (¬ p2 < 0 ∧ p2 ≤ 1000000) ∧ True) ∨ (u = some 1 ∧ ¬ (zin p1 8)) ∨ (u = some 2 ∧ (zin p1 8) ∧ ¬ (¬ p2 < 0 ∧ p2 ≤ 1000000))) (zq D (va_A [(m0, .inr (6, [.int th, .int (nI M.1), .ref m1, .ref m2, .int (nI bt), .ref m3, .int (nI ln), .ref m4, .ref m5, .int (nI cl), .ref m6, .ref m7, .ref m8, .ref m9, .ref m10, .ref m11, .ref m12, .int (nI pn), .ref m13, .ref m14])), (m6, .inl (D.2 0, 8, .inl wt))] sz) (fun (u : Option Int32) => (u.elim [(m0, .inr (6, [.int 0, .int (nI M.1), .ref m1, .ref m2, .int (nI bt), .ref m3, .int (nI ln), .ref m4, .ref m5, .int (nI cl), .ref m6, .ref m7, .ref m8, .ref m9, .ref m10, .ref m11, .ref m12, .int (nI pn), .ref m13, .ref m14])), (m6, .inl (D.2 0, 8, .inl (upd wt p1.toNatClampNeg p2)))] (fun t => [(m0, .inr (6, [.int t, .int (nI M.1), .ref m1, .ref m2, .int (nI bt), .ref m3, .int (nI ln), .ref m4, .ref m5, .int (nI cl), .ref m6, .ref m7, .ref m8, .ref m9, .ref m10, .ref m11, .ref m12, .int (nI pn), .ref m13, .ref m14])), (m6, .inl (D.2 0, 8, .inl wt))]) : va_W))) (va_A [(m0, .inr (6, [.int th, .int (nI M.1), .ref m1, .ref m2, .int (nI bt), .ref m3, .int (nI ln), .ref m4, .ref m5, .int (nI cl), .ref m6, .ref m7, .ref m8, .ref m9, .ref m10, .ref m11, .ref m12, .int (nI pn), .ref m13, .ref m14])), (m6, .inl (D.2 0, 8, .inl wt))] sz)) 0 0 (va_A [(m0, .inr (6, [.int th, .int (nI M.1), .ref m1, .ref m2, .int (nI bt), .ref m3, .int (nI ln), .ref m4, .ref m5, .int (nI cl), .ref m6, .ref m7, .ref m8, .ref m9, .ref m10, .ref m11, .ref m12, .int (nI pn), .ref m13, .ref m14])), (m6, .inl (D.2 0, 8, .inl wt))] sz) := by
  refine Met.ofW (cc := cX6_weight) (maxL := 3) (ret := none) (by decide) rfl ?_
  intro p e s m args below meth c s₁ B hml hv
  obtain ⟨rfl, hsz, hP, hK, hD0, hB⟩ := hv
  have hx := B.exec
  have hb := B.bytes
  have hr := B.returns
  have hts := atoms_spec (ws := wsX6_weight) B.pre
  have hown : s.vm.findClass "ShopLedgerModel" = some m.cls := findClass_of_methodNamed B.named
  have hlocks := B.notSynchronized
  subst hsz
  have hD := hD0.self (sz := s.heap.size)
  generalize hAe : va_A [(m0, .inr (6, [.int th, .int (nI M.1), .ref m1, .ref m2, .int (nI bt), .ref m3, .int (nI ln), .ref m4, .ref m5, .int (nI cl), .ref m6, .ref m7, .ref m8, .ref m9, .ref m10, .ref m11, .ref m12, .int (nI pn), .ref m13, .ref m14])), (m6, .inl (D.2 0, 8, .inl wt))] s.heap.size = A at hD hB ⊢
  have hA : ∀ q : Nat, s.heap.size ≤ q → A q := fun q h => by rw [← hAe]; exact Or.inr h
  have hS : va_S A s.heap s.heap [] := va_S.rf
  have hZ : ∀ w ∈ zALL, w.before _ s = true := fun w h => hts w (List.mem_cons_of_mem _ h)
  have hF : CallFix p m c cX6_weight 3 s _ zALL "ShopLedgerModel" := ⟨hx, hb, hml, hown, hZ⟩
  have hl := lv_entry ([.ref m0, .int p1, .int p2]) (n := 3) (Nat.le_of_ble_eq_true rfl)
  rw [lg_entry_eq]
  generalize (lg_sl ([.ref m0, .int p1, .int p2]) ++ List.replicate (3 - (lg_sl ([.ref m0, .int p1, .int p2])).length) Slot.unset).toArray = ls at hl ⊢
  have hl : lv_has ls 3 [(0, .ref m0), (1, .int p1), (2, .int p2)] := hl
  refine lv_aload_n hx hb dX6_weight_0 rfl (lv_at hl 0 rfl) ?_
  refine lv_iload_n hx hb dX6_weight_1 rfl (lv_at hl 1 rfl) ?_
  refine lv_i2l (v := p1.toInt64) hx hb dX6_weight_2 rfl ?_
  refine lv_lconst (v := 0) hx hb dX6_weight_3 (by decide) ?_
  refine lv_ldc2 (v := 7) hx hb hown (hZ _ t_270) dX6_weight_4 ?_
  have J := zJ.mk (wc := []) (wr := [(m0, .inr (6, [.int th, .int (nI M.1), .ref m1, .ref m2, .int (nI bt), .ref m3, .int (nI ln), .ref m4, .ref m5, .int (nI cl), .ref m6, .ref m7, .ref m8, .ref m9, .ref m10, .ref m11, .ref m12, .int (nI pn), .ref m13, .ref m14])), (m6, .inl (D.2 0, 8, .inl wt))]) hA hB hK hP hD hS [] [0, 1] rfl rfl (by decide)
  refine z_goi (z_runS (As := [.long p1.toInt64, .long 0, .long 7]) (rest := [.ref m0]) hF (d_lies D p1.toInt64 0 7 s.heap.size) (va_cwS 3 hZ (z_gS t_273 t_274 t_272 t_271) rfl rfl rfl (by decide +kernel) ⟨Nat.le_of_ble_eq_true rfl, Nat.le_of_ble_eq_true rfl⟩) J rfl hl.1 (Nat.le_of_ble_eq_true rfl) dX6_weight_7 ⟨Nat.le_of_ble_eq_true rfl, Nat.le_of_ble_eq_true rfl⟩) J (fun r1 _ H locs w1 hP hD hS => ?_)
  have hP : va_P D.1 vwCl [(m0, .inr (6, [.int th, .int (nI M.1), .ref m1, .ref m2, .int (nI bt), .ref m3, .int (nI ln), .ref m4, .ref m5, .int (nI cl), .ref m6, .ref m7, .ref m8, .ref m9, .ref m10, .ref m11, .ref m12, .int (nI pn), .ref m13, .ref m14])), (m6, .inl (D.2 0, 8, .inl wt))] H := hP
  have hD : va_D A [(m0, .inr (6, [.int th, .int (nI M.1), .ref m1, .ref m2, .int (nI bt), .ref m3, .int (nI ln), .ref m4, .ref m5, .int (nI cl), .ref m6, .ref m7, .ref m8, .ref m9, .ref m10, .ref m11, .ref m12, .int (nI pn), .ref m13, .ref m14])), (m6, .inl (D.2 0, 8, .inl wt))] := hD
  have f1 : (r1 = 1 ∧ zin p1 8) ∨ (r1 = 0 ∧ ¬ zin p1 8) := z_lz 7 (by decide) (by decide) w1
  refine lv_if_ne (tgt := 17) hx hb dX6_weight_10 (by decide) (fun c1 => ?_) (fun c1 => ?_)
  · skip
    have ar := z_b1 f1 c1
    refine lv_iconst (v := 0) hx hb dX6_weight_17 (by decide) ?_
    refine lv_iload_n hx hb dX6_weight_18 rfl (lv_at hl 2 rfl) ?_
    refine lv_i2l (v := p2.toInt64) hx hb dX6_weight_19 rfl ?_
    refine lv_lconst (v := 0) hx hb dX6_weight_20 (by decide) ?_
    refine lv_ldc2 (v := 1000000) hx hb hown (hZ _ t_296) dX6_weight_21 ?_
    have J := zJ.mk (wc := []) (wr := [(m0, .inr (6, [.int th, .int (nI M.1), .ref m1, .ref m2, .int (nI bt), .ref m3, .int (nI ln), .ref m4, .ref m5, .int (nI cl), .ref m6, .ref m7, .ref m8, .ref m9, .ref m10, .ref m11, .ref m12, .int (nI pn), .ref m13, .ref m14])), (m6, .inl (D.2 0, 8, .inl wt))]) hA hB hK hP hD hS [] [0, 1] rfl rfl (by decide)
    refine z_goi (z_runS (As := [.long p2.toInt64, .long 0, .long 1000000]) (rest := [.int 0, .ref m0]) hF (d_lies D p2.toInt64 0 1000000 H.size) (va_cwS 3 hZ (z_gS t_273 t_274 t_272 t_271) rfl rfl rfl (by decide +kernel) ⟨Nat.le_of_ble_eq_true rfl, Nat.le_of_ble_eq_true rfl⟩) J rfl hl.1 (Nat.le_of_ble_eq_true rfl) dX6_weight_24 ⟨Nat.le_of_ble_eq_true rfl, Nat.le_of_ble_eq_true rfl⟩) J (fun r2 _ H locs w2 hP hD hS => ?_)
    have hP : va_P D.1 vwCl [(m0, .inr (6, [.int th, .int (nI M.1), .ref m1, .ref m2, .int (nI bt), .ref m3, .int (nI ln), .ref m4, .ref m5, .int (nI cl), .ref m6, .ref m7, .ref m8, .ref m9, .ref m10, .ref m11, .ref m12, .int (nI pn), .ref m13, .ref m14])), (m6, .inl (D.2 0, 8, .inl wt))] H := hP
    have hD : va_D A [(m0, .inr (6, [.int th, .int (nI M.1), .ref m1, .ref m2, .int (nI bt), .ref m3, .int (nI ln), .ref m4, .ref m5, .int (nI cl), .ref m6, .ref m7, .ref m8, .ref m9, .ref m10, .ref m11, .ref m12, .int (nI pn), .ref m13, .ref m14])), (m6, .inl (D.2 0, 8, .inl wt))] := hD
    have f2 : (r2 = 1 ∧ ¬ p2 < 0 ∧ p2 ≤ 1000000) ∨ (r2 = 0 ∧ ¬ (¬ p2 < 0 ∧ p2 ≤ 1000000)) := z_li (a := 0) (b := 1000000) (by decide) (by decide) w2
    refine lv_if_ne (tgt := 34) hx hb dX6_weight_27 (by decide) (fun c2 => ?_) (fun c2 => ?_)
    · skip
      have rg := z_b1 f2 c2
      refine lv_iconst (v := 0) hx hb dX6_weight_34 (by decide) ?_
      refine lv_iconst (v := 0) hx hb dX6_weight_35 (by decide) ?_
      refine lv_iconst (v := 0) hx hb dX6_weight_36 (by decide) ?_
      have J := zJ.mk (wc := [(m0, .inr (6, [.int th, .int (nI M.1), .ref m1, .ref m2, .int (nI bt), .ref m3, .int (nI ln), .ref m4, .ref m5, .int (nI cl), .ref m6, .ref m7, .ref m8, .ref m9, .ref m10, .ref m11, .ref m12, .int (nI pn), .ref m13, .ref m14]))]) (wr := [(m6, .inl (D.2 0, 8, .inl wt))]) hA hB hK hP hD hS [0] [1] rfl rfl (by decide)
      refine z_goi (z_runV (As := [.int 0, .int 0, .int 0, .int 0]) (rest := []) (b := m0) hF (d_throwing D m0 m1 m2 m3 m4 m5 m6 m7 m8 m9 m10 m11 m12 m13 m14 (M.1, fun _ => 0, fun _ => 0) bt ln cl pn th 0 0 0 0 H.size) (cwV 4 hZ (z_gV t_286 t_287 t_288 t_272 t_285) rfl rfl rfl (by decide +kernel) ⟨Nat.le_of_ble_eq_true rfl, Nat.le_of_ble_eq_true rfl⟩) J 0 6 rfl rfl rfl rfl hl.1 (Nat.le_of_ble_eq_true rfl) dX6_weight_37 ⟨Nat.le_of_ble_eq_true rfl, Nat.le_of_ble_eq_true rfl⟩) J (fun r3 _ H locs w3 hP hD hS => ?_)
      have hP : va_P D.1 vwCl [(m6, .inl (D.2 0, 8, .inl wt)), (m0, .inr (6, [.int 0, .int (nI M.1), .ref m1, .ref m2, .int (nI bt), .ref m3, .int (nI ln), .ref m4, .ref m5, .int (nI cl), .ref m6, .ref m7, .ref m8, .ref m9, .ref m10, .ref m11, .ref m12, .int (nI pn), .ref m13, .ref m14]))] H := hP
      have hD : va_D A [(m6, .inl (D.2 0, 8, .inl wt)), (m0, .inr (6, [.int 0, .int (nI M.1), .ref m1, .ref m2, .int (nI bt), .ref m3, .int (nI ln), .ref m4, .ref m5, .int (nI cl), .ref m6, .ref m7, .ref m8, .ref m9, .ref m10, .ref m11, .ref m12, .int (nI pn), .ref m13, .ref m14]))] := hD
      have w3 : r3 = 0 := w3
      subst w3
      refine lv_if_eq (tgt := 44) hx hb dX6_weight_40 (by decide) (fun c3 => ?_) (fun c3 => ?_)
      · skip
        refine lv_aload_n hx hb dX6_weight_44 rfl (lv_at hl 0 rfl) ?_
        refine va_get (D := D.1) (ci := 6) (v := .ref m6) (C := "ShopLedgerModel") (T := TX6) (N := 20) hx hb hZ inX6 hown hK hP 1 rfl rfl 10 (by decide) (hZ _ t_297) (fun _ h9 => h9) rfl dX6_weight_45 ?_
        refine lv_iload_n hx hb dX6_weight_48 rfl (lv_at hl 1 rfl) ?_
        refine lv_iload_n hx hb dX6_weight_49 rfl (lv_at hl 2 rfl) ?_
        refine va_iast hx hb hK hP hD hS 0 0 rfl rfl (z_vi ar) dX6_weight_50 (fun H locs hP hD hS => ?_)
        have hP : va_P D.1 vwCl [(m6, .inl (D.2 0, 8, .inl (upd wt p1.toNatClampNeg p2))), (m0, .inr (6, [.int 0, .int (nI M.1), .ref m1, .ref m2, .int (nI bt), .ref m3, .int (nI ln), .ref m4, .ref m5, .int (nI cl), .ref m6, .ref m7, .ref m8, .ref m9, .ref m10, .ref m11, .ref m12, .int (nI pn), .ref m13, .ref m14]))] H := hP
        have hD : va_D A [(m6, .inl (D.2 0, 8, .inl (upd wt p1.toNatClampNeg p2))), (m0, .inr (6, [.int 0, .int (nI M.1), .ref m1, .ref m2, .int (nI bt), .ref m3, .int (nI ln), .ref m4, .ref m5, .int (nI cl), .ref m6, .ref m7, .ref m8, .ref m9, .ref m10, .ref m11, .ref m12, .int (nI pn), .ref m13, .ref m14]))] := hD
        exact z_vret hx hb hr hlocks hP hD hS none (Or.inl ⟨rfl, ar, rg, trivial⟩) [1, 0] rfl (by decide) (Nat.le_of_ble_eq_true rfl) (Nat.le_of_ble_eq_true rfl) dX6_weight_51
      exfalso; exact absurd c3 (by decide)
    have rg := z_b0 f2 c2
    refine lv_iconst (v := 1) hx hb dX6_weight_30 (by decide) ?_
    refine lv_goto (tgt := 35) hx hb dX6_weight_31 (by decide) ?_
    refine lv_iconst (v := 0) hx hb dX6_weight_35 (by decide) ?_
    refine lv_iconst (v := 0) hx hb dX6_weight_36 (by decide) ?_
    have J := zJ.mk (wc := [(m0, .inr (6, [.int th, .int (nI M.1), .ref m1, .ref m2, .int (nI bt), .ref m3, .int (nI ln), .ref m4, .ref m5, .int (nI cl), .ref m6, .ref m7, .ref m8, .ref m9, .ref m10, .ref m11, .ref m12, .int (nI pn), .ref m13, .ref m14]))]) (wr := [(m6, .inl (D.2 0, 8, .inl wt))]) hA hB hK hP hD hS [0] [1] rfl rfl (by decide)
    refine z_goi (z_runV (As := [.int 0, .int 1, .int 0, .int 0]) (rest := []) (b := m0) hF (d_throwing D m0 m1 m2 m3 m4 m5 m6 m7 m8 m9 m10 m11 m12 m13 m14 (M.1, fun _ => 0, fun _ => 0) bt ln cl pn th 0 1 0 0 H.size) (cwV 4 hZ (z_gV t_286 t_287 t_288 t_272 t_285) rfl rfl rfl (by decide +kernel) ⟨Nat.le_of_ble_eq_true rfl, Nat.le_of_ble_eq_true rfl⟩) J 0 6 rfl rfl rfl rfl hl.1 (Nat.le_of_ble_eq_true rfl) dX6_weight_37 ⟨Nat.le_of_ble_eq_true rfl, Nat.le_of_ble_eq_true rfl⟩) J (fun r3 _ H locs w3 hP hD hS => ?_)
    have hP : va_P D.1 vwCl [(m6, .inl (D.2 0, 8, .inl wt)), (m0, .inr (6, [.int 2, .int (nI M.1), .ref m1, .ref m2, .int (nI bt), .ref m3, .int (nI ln), .ref m4, .ref m5, .int (nI cl), .ref m6, .ref m7, .ref m8, .ref m9, .ref m10, .ref m11, .ref m12, .int (nI pn), .ref m13, .ref m14]))] H := hP
    have hD : va_D A [(m6, .inl (D.2 0, 8, .inl wt)), (m0, .inr (6, [.int 2, .int (nI M.1), .ref m1, .ref m2, .int (nI bt), .ref m3, .int (nI ln), .ref m4, .ref m5, .int (nI cl), .ref m6, .ref m7, .ref m8, .ref m9, .ref m10, .ref m11, .ref m12, .int (nI pn), .ref m13, .ref m14]))] := hD
    have w3 : r3 = 1 := w3
    subst w3
    refine lv_if_eq (tgt := 44) hx hb dX6_weight_40 (by decide) (fun c3 => ?_) (fun c3 => ?_)
    · skip
      exfalso; exact absurd c3 (by decide)
    exact z_vret hx hb hr hlocks hP hD hS (some 2) (Or.inr (Or.inr (⟨rfl, ar, rg⟩))) [1, 0] rfl (by decide) (Nat.le_of_ble_eq_true rfl) (Nat.le_of_ble_eq_true rfl) dX6_weight_43
  have ar := z_b0 f1 c1
  refine lv_iconst (v := 1) hx hb dX6_weight_13 (by decide) ?_
  refine lv_goto (tgt := 18) hx hb dX6_weight_14 (by decide) ?_
  refine lv_iload_n hx hb dX6_weight_18 rfl (lv_at hl 2 rfl) ?_
  refine lv_i2l (v := p2.toInt64) hx hb dX6_weight_19 rfl ?_
  refine lv_lconst (v := 0) hx hb dX6_weight_20 (by decide) ?_
  refine lv_ldc2 (v := 1000000) hx hb hown (hZ _ t_296) dX6_weight_21 ?_
  have J := zJ.mk (wc := []) (wr := [(m0, .inr (6, [.int th, .int (nI M.1), .ref m1, .ref m2, .int (nI bt), .ref m3, .int (nI ln), .ref m4, .ref m5, .int (nI cl), .ref m6, .ref m7, .ref m8, .ref m9, .ref m10, .ref m11, .ref m12, .int (nI pn), .ref m13, .ref m14])), (m6, .inl (D.2 0, 8, .inl wt))]) hA hB hK hP hD hS [] [0, 1] rfl rfl (by decide)
  refine z_goi (z_runS (As := [.long p2.toInt64, .long 0, .long 1000000]) (rest := [.int 1, .ref m0]) hF (d_lies D p2.toInt64 0 1000000 H.size) (va_cwS 3 hZ (z_gS t_273 t_274 t_272 t_271) rfl rfl rfl (by decide +kernel) ⟨Nat.le_of_ble_eq_true rfl, Nat.le_of_ble_eq_true rfl⟩) J rfl hl.1 (Nat.le_of_ble_eq_true rfl) dX6_weight_24 ⟨Nat.le_of_ble_eq_true rfl, Nat.le_of_ble_eq_true rfl⟩) J (fun r2 _ H locs w2 hP hD hS => ?_)
  have hP : va_P D.1 vwCl [(m0, .inr (6, [.int th, .int (nI M.1), .ref m1, .ref m2, .int (nI bt), .ref m3, .int (nI ln), .ref m4, .ref m5, .int (nI cl), .ref m6, .ref m7, .ref m8, .ref m9, .ref m10, .ref m11, .ref m12, .int (nI pn), .ref m13, .ref m14])), (m6, .inl (D.2 0, 8, .inl wt))] H := hP
  have hD : va_D A [(m0, .inr (6, [.int th, .int (nI M.1), .ref m1, .ref m2, .int (nI bt), .ref m3, .int (nI ln), .ref m4, .ref m5, .int (nI cl), .ref m6, .ref m7, .ref m8, .ref m9, .ref m10, .ref m11, .ref m12, .int (nI pn), .ref m13, .ref m14])), (m6, .inl (D.2 0, 8, .inl wt))] := hD
  have f2 : (r2 = 1 ∧ ¬ p2 < 0 ∧ p2 ≤ 1000000) ∨ (r2 = 0 ∧ ¬ (¬ p2 < 0 ∧ p2 ≤ 1000000)) := z_li (a := 0) (b := 1000000) (by decide) (by decide) w2
  refine lv_if_ne (tgt := 34) hx hb dX6_weight_27 (by decide) (fun c2 => ?_) (fun c2 => ?_)
  · skip
    have rg := z_b1 f2 c2
    refine lv_iconst (v := 0) hx hb dX6_weight_34 (by decide) ?_
    refine lv_iconst (v := 0) hx hb dX6_weight_35 (by decide) ?_
    refine lv_iconst (v := 0) hx hb dX6_weight_36 (by decide) ?_
    have J := zJ.mk (wc := [(m0, .inr (6, [.int th, .int (nI M.1), .ref m1, .ref m2, .int (nI bt), .ref m3, .int (nI ln), .ref m4, .ref m5, .int (nI cl), .ref m6, .ref m7, .ref m8, .ref m9, .ref m10, .ref m11, .ref m12, .int (nI pn), .ref m13, .ref m14]))]) (wr := [(m6, .inl (D.2 0, 8, .inl wt))]) hA hB hK hP hD hS [0] [1] rfl rfl (by decide)
    refine z_goi (z_runV (As := [.int 1, .int 0, .int 0, .int 0]) (rest := []) (b := m0) hF (d_throwing D m0 m1 m2 m3 m4 m5 m6 m7 m8 m9 m10 m11 m12 m13 m14 (M.1, fun _ => 0, fun _ => 0) bt ln cl pn th 1 0 0 0 H.size) (cwV 4 hZ (z_gV t_286 t_287 t_288 t_272 t_285) rfl rfl rfl (by decide +kernel) ⟨Nat.le_of_ble_eq_true rfl, Nat.le_of_ble_eq_true rfl⟩) J 0 6 rfl rfl rfl rfl hl.1 (Nat.le_of_ble_eq_true rfl) dX6_weight_37 ⟨Nat.le_of_ble_eq_true rfl, Nat.le_of_ble_eq_true rfl⟩) J (fun r3 _ H locs w3 hP hD hS => ?_)
    have hP : va_P D.1 vwCl [(m6, .inl (D.2 0, 8, .inl wt)), (m0, .inr (6, [.int 1, .int (nI M.1), .ref m1, .ref m2, .int (nI bt), .ref m3, .int (nI ln), .ref m4, .ref m5, .int (nI cl), .ref m6, .ref m7, .ref m8, .ref m9, .ref m10, .ref m11, .ref m12, .int (nI pn), .ref m13, .ref m14]))] H := hP
    have hD : va_D A [(m6, .inl (D.2 0, 8, .inl wt)), (m0, .inr (6, [.int 1, .int (nI M.1), .ref m1, .ref m2, .int (nI bt), .ref m3, .int (nI ln), .ref m4, .ref m5, .int (nI cl), .ref m6, .ref m7, .ref m8, .ref m9, .ref m10, .ref m11, .ref m12, .int (nI pn), .ref m13, .ref m14]))] := hD
    have w3 : r3 = 1 := w3
    subst w3
    refine lv_if_eq (tgt := 44) hx hb dX6_weight_40 (by decide) (fun c3 => ?_) (fun c3 => ?_)
    · skip
      exfalso; exact absurd c3 (by decide)
    exact z_vret hx hb hr hlocks hP hD hS (some 1) (Or.inr (Or.inl ⟨rfl, ar⟩)) [1, 0] rfl (by decide) (Nat.le_of_ble_eq_true rfl) (Nat.le_of_ble_eq_true rfl) dX6_weight_43
  have rg := z_b0 f2 c2
  refine lv_iconst (v := 1) hx hb dX6_weight_30 (by decide) ?_
  refine lv_goto (tgt := 35) hx hb dX6_weight_31 (by decide) ?_
  refine lv_iconst (v := 0) hx hb dX6_weight_35 (by decide) ?_
  refine lv_iconst (v := 0) hx hb dX6_weight_36 (by decide) ?_
  have J := zJ.mk (wc := [(m0, .inr (6, [.int th, .int (nI M.1), .ref m1, .ref m2, .int (nI bt), .ref m3, .int (nI ln), .ref m4, .ref m5, .int (nI cl), .ref m6, .ref m7, .ref m8, .ref m9, .ref m10, .ref m11, .ref m12, .int (nI pn), .ref m13, .ref m14]))]) (wr := [(m6, .inl (D.2 0, 8, .inl wt))]) hA hB hK hP hD hS [0] [1] rfl rfl (by decide)
  refine z_goi (z_runV (As := [.int 1, .int 1, .int 0, .int 0]) (rest := []) (b := m0) hF (d_throwing D m0 m1 m2 m3 m4 m5 m6 m7 m8 m9 m10 m11 m12 m13 m14 (M.1, fun _ => 0, fun _ => 0) bt ln cl pn th 1 1 0 0 H.size) (cwV 4 hZ (z_gV t_286 t_287 t_288 t_272 t_285) rfl rfl rfl (by decide +kernel) ⟨Nat.le_of_ble_eq_true rfl, Nat.le_of_ble_eq_true rfl⟩) J 0 6 rfl rfl rfl rfl hl.1 (Nat.le_of_ble_eq_true rfl) dX6_weight_37 ⟨Nat.le_of_ble_eq_true rfl, Nat.le_of_ble_eq_true rfl⟩) J (fun r3 _ H locs w3 hP hD hS => ?_)
  have hP : va_P D.1 vwCl [(m6, .inl (D.2 0, 8, .inl wt)), (m0, .inr (6, [.int 1, .int (nI M.1), .ref m1, .ref m2, .int (nI bt), .ref m3, .int (nI ln), .ref m4, .ref m5, .int (nI cl), .ref m6, .ref m7, .ref m8, .ref m9, .ref m10, .ref m11, .ref m12, .int (nI pn), .ref m13, .ref m14]))] H := hP
  have hD : va_D A [(m6, .inl (D.2 0, 8, .inl wt)), (m0, .inr (6, [.int 1, .int (nI M.1), .ref m1, .ref m2, .int (nI bt), .ref m3, .int (nI ln), .ref m4, .ref m5, .int (nI cl), .ref m6, .ref m7, .ref m8, .ref m9, .ref m10, .ref m11, .ref m12, .int (nI pn), .ref m13, .ref m14]))] := hD
  have w3 : r3 = 1 := w3
  subst w3
  refine lv_if_eq (tgt := 44) hx hb dX6_weight_40 (by decide) (fun c3 => ?_) (fun c3 => ?_)
  · skip
    exfalso; exact absurd c3 (by decide)
  exact z_vret hx hb hr hlocks hP hD hS (some 1) (Or.inr (Or.inl ⟨rfl, ar⟩)) [1, 0] rfl (by decide) (Nat.le_of_ble_eq_true rfl) (Nat.le_of_ble_eq_true rfl) dX6_weight_43
set_option maxHeartbeats 4000000 in
set_option maxRecDepth 100000 in
/-- the reference: piece -/
theorem d_piece {l : Launch} (D : zD) (m0 m1 m2 m3 m4 m5 m6 m7 m8 m9 m10 m11 m12 m13 m14 : Nat) (M : zM) (bt ln cl pn : Nat) (th : Int32) (po pw : Nat → Int32) (p1 p2 : Int32) (sz : Nat) (hn : pn ≤ 10) : Met l yX6_piece wsX6_piece ({ frames := 1, cells := 0, slots := 0, locals := 25 }) (va_Pc [.ref m0, .int p1, .int p2] (zp D sz [(m0, .inr (6, [.int th, .int (nI M.1), .ref m1, .ref m2, .int (nI bt), .ref m3, .int (nI ln), .ref m4, .ref m5, .int (nI cl), .ref m6, .ref m7, .ref m8, .ref m9, .ref m10, .ref m11, .ref m12, .int (nI pn), .ref m13, .ref m14])), (m13, .inl (D.2 0, 10, .inl po)), (m14, .inl (D.2 0, 10, .inl pw))])) (va_Qi (fun r (u : Option Int32) => (u = none ∧ (zin p1 8) ∧ (¬ 10 ≤ nI pn) ∧ (¬ p2 < 1 ∧ p2 ≤ 1000000) ∧ r = nI pn) ∨ (u = some 1 ∧ ¬ (zin p1 8)) ∨ (u = some 2 ∧ (zin p1 8) ∧ ¬ (¬ 10 ≤ nI pn)) ∨ (u = some 3 ∧ (zin p1 8) ∧ (¬ 10 ≤ nI pn) ∧ ¬ (¬ p2 < 1 ∧ p2 ≤ 1000000))) (zq D (va_A [(m0, .inr (6, [.int th, .int (nI M.1), .ref m1, .ref m2, .int (nI bt), .ref m3, .int (nI ln), .ref m4, .ref m5, .int (nI cl), .ref m6, .ref m7, .ref m8, .ref m9, .ref m10, .ref m11, .ref m12, .int (nI pn), .ref m13, .ref m14])), (m13, .inl (D.2 0, 10, .inl po)), (m14, .inl (D.2 0, 10, .inl pw))] sz) (fun (u : Option Int32) => (u.elim [(m0, .inr (6, [.int 0, .int (nI M.1), .ref m1, .ref m2, .int (nI bt), .ref m3, .int (nI ln), .ref m4, .ref m5, .int (nI cl), .ref m6, .ref m7, .ref m8, .ref m9, .ref m10, .ref m11, .ref m12, .int (nI (pn + 1)), .ref m13, .ref m14])), (m13, .inl (D.2 0, 10, .inl (upd po pn p1))), (m14, .inl (D.2 0, 10, .inl (upd pw pn p2)))] (fun t => [(m0, .inr (6, [.int t, .int (nI M.1), .ref m1, .ref m2, .int (nI bt), .ref m3, .int (nI ln), .ref m4, .ref m5, .int (nI cl), .ref m6, .ref m7, .ref m8, .ref m9, .ref m10, .ref m11, .ref m12, .int (nI pn), .ref m13, .ref m14])), (m13, .inl (D.2 0, 10, .inl po)), (m14, .inl (D.2 0, 10, .inl pw))]) : va_W))) (va_A [(m0, .inr (6, [.int th, .int (nI M.1), .ref m1, .ref m2, .int (nI bt), .ref m3, .int (nI ln), .ref m4, .ref m5, .int (nI cl), .ref m6, .ref m7, .ref m8, .ref m9, .ref m10, .ref m11, .ref m12, .int (nI pn), .ref m13, .ref m14])), (m13, .inl (D.2 0, 10, .inl po)), (m14, .inl (D.2 0, 10, .inl pw))] sz)) 0 0 (va_A [(m0, .inr (6, [.int th, .int (nI M.1), .ref m1, .ref m2, .int (nI bt), .ref m3, .int (nI ln), .ref m4, .ref m5, .int (nI cl), .ref m6, .ref m7, .ref m8, .ref m9, .ref m10, .ref m11, .ref m12, .int (nI pn), .ref m13, .ref m14])), (m13, .inl (D.2 0, 10, .inl po)), (m14, .inl (D.2 0, 10, .inl pw))] sz) := by
  refine Met.ofW (cc := cX6_piece) (maxL := 3) (ret := (some .int)) (by decide) rfl ?_
  intro p e s m args below meth c s₁ B hml hv
  obtain ⟨rfl, hsz, hP, hK, hD0, hB⟩ := hv
  have hx := B.exec
  have hb := B.bytes
  have hr := B.returns
  have hts := atoms_spec (ws := wsX6_piece) B.pre
  have hown : s.vm.findClass "ShopLedgerModel" = some m.cls := findClass_of_methodNamed B.named
  have hlocks := B.notSynchronized
  subst hsz
  have hD := hD0.self (sz := s.heap.size)
  generalize hAe : va_A [(m0, .inr (6, [.int th, .int (nI M.1), .ref m1, .ref m2, .int (nI bt), .ref m3, .int (nI ln), .ref m4, .ref m5, .int (nI cl), .ref m6, .ref m7, .ref m8, .ref m9, .ref m10, .ref m11, .ref m12, .int (nI pn), .ref m13, .ref m14])), (m13, .inl (D.2 0, 10, .inl po)), (m14, .inl (D.2 0, 10, .inl pw))] s.heap.size = A at hD hB ⊢
  have hA : ∀ q : Nat, s.heap.size ≤ q → A q := fun q h => by rw [← hAe]; exact Or.inr h
  have hS : va_S A s.heap s.heap [] := va_S.rf
  have hZ : ∀ w ∈ zALL, w.before _ s = true := fun w h => hts w (List.mem_cons_of_mem _ h)
  have hF : CallFix p m c cX6_piece 3 s _ zALL "ShopLedgerModel" := ⟨hx, hb, hml, hown, hZ⟩
  have hl := lv_entry ([.ref m0, .int p1, .int p2]) (n := 3) (Nat.le_of_ble_eq_true rfl)
  rw [lg_entry_eq]
  generalize (lg_sl ([.ref m0, .int p1, .int p2]) ++ List.replicate (3 - (lg_sl ([.ref m0, .int p1, .int p2])).length) Slot.unset).toArray = ls at hl ⊢
  have hl : lv_has ls 3 [(0, .ref m0), (1, .int p1), (2, .int p2)] := hl
  refine lv_aload_n hx hb dX6_piece_0 rfl (lv_at hl 0 rfl) ?_
  refine lv_iload_n hx hb dX6_piece_1 rfl (lv_at hl 1 rfl) ?_
  refine lv_i2l (v := p1.toInt64) hx hb dX6_piece_2 rfl ?_
  refine lv_lconst (v := 0) hx hb dX6_piece_3 (by decide) ?_
  refine lv_ldc2 (v := 7) hx hb hown (hZ _ t_270) dX6_piece_4 ?_
  have J := zJ.mk (wc := []) (wr := [(m0, .inr (6, [.int th, .int (nI M.1), .ref m1, .ref m2, .int (nI bt), .ref m3, .int (nI ln), .ref m4, .ref m5, .int (nI cl), .ref m6, .ref m7, .ref m8, .ref m9, .ref m10, .ref m11, .ref m12, .int (nI pn), .ref m13, .ref m14])), (m13, .inl (D.2 0, 10, .inl po)), (m14, .inl (D.2 0, 10, .inl pw))]) hA hB hK hP hD hS [] [0, 1, 2] rfl rfl (by decide)
  refine z_goi (z_runS (As := [.long p1.toInt64, .long 0, .long 7]) (rest := [.ref m0]) hF (d_lies D p1.toInt64 0 7 s.heap.size) (va_cwS 3 hZ (z_gS t_273 t_274 t_272 t_271) rfl rfl rfl (by decide +kernel) ⟨Nat.le_of_ble_eq_true rfl, Nat.le_of_ble_eq_true rfl⟩) J rfl hl.1 (Nat.le_of_ble_eq_true rfl) dX6_piece_7 ⟨Nat.le_of_ble_eq_true rfl, Nat.le_of_ble_eq_true rfl⟩) J (fun r1 _ H locs w1 hP hD hS => ?_)
  have hP : va_P D.1 vwCl [(m0, .inr (6, [.int th, .int (nI M.1), .ref m1, .ref m2, .int (nI bt), .ref m3, .int (nI ln), .ref m4, .ref m5, .int (nI cl), .ref m6, .ref m7, .ref m8, .ref m9, .ref m10, .ref m11, .ref m12, .int (nI pn), .ref m13, .ref m14])), (m13, .inl (D.2 0, 10, .inl po)), (m14, .inl (D.2 0, 10, .inl pw))] H := hP
  have hD : va_D A [(m0, .inr (6, [.int th, .int (nI M.1), .ref m1, .ref m2, .int (nI bt), .ref m3, .int (nI ln), .ref m4, .ref m5, .int (nI cl), .ref m6, .ref m7, .ref m8, .ref m9, .ref m10, .ref m11, .ref m12, .int (nI pn), .ref m13, .ref m14])), (m13, .inl (D.2 0, 10, .inl po)), (m14, .inl (D.2 0, 10, .inl pw))] := hD
  have f1 : (r1 = 1 ∧ zin p1 8) ∨ (r1 = 0 ∧ ¬ zin p1 8) := z_lz 7 (by decide) (by decide) w1
  refine lv_if_ne (tgt := 17) hx hb dX6_piece_10 (by decide) (fun c1 => ?_) (fun c1 => ?_)
  · skip
    have ar := z_b1 f1 c1
    refine lv_iconst (v := 0) hx hb dX6_piece_17 (by decide) ?_
    refine lv_aload_n hx hb dX6_piece_18 rfl (lv_at hl 0 rfl) ?_
    refine va_get (D := D.1) (ci := 6) (v := .int (nI pn)) (C := "ShopLedgerModel") (T := TX6) (N := 20) hx hb hZ inX6 hown hK hP 0 rfl rfl 17 (by decide) (hZ _ t_295) (fun _ h9 => h9) rfl dX6_piece_19 ?_
    refine lv_bipush (v := 10) hx hb dX6_piece_22 (by decide) ?_
    refine lv_icmp_ne (tgt := 31) hx hb dX6_piece_24 (by decide) (fun c2 => ?_) (fun c2 => ?_)
    · skip
      have tu : ¬ 10 ≤ nI pn := fun h => c2 (z_full (t := 10) hn (by decide) h)
      refine lv_iconst (v := 0) hx hb dX6_piece_31 (by decide) ?_
      refine lv_iload_n hx hb dX6_piece_32 rfl (lv_at hl 2 rfl) ?_
      refine lv_i2l (v := p2.toInt64) hx hb dX6_piece_33 rfl ?_
      refine lv_lconst (v := 1) hx hb dX6_piece_34 (by decide) ?_
      refine lv_ldc2 (v := 1000000) hx hb hown (hZ _ t_296) dX6_piece_35 ?_
      have J := zJ.mk (wc := []) (wr := [(m0, .inr (6, [.int th, .int (nI M.1), .ref m1, .ref m2, .int (nI bt), .ref m3, .int (nI ln), .ref m4, .ref m5, .int (nI cl), .ref m6, .ref m7, .ref m8, .ref m9, .ref m10, .ref m11, .ref m12, .int (nI pn), .ref m13, .ref m14])), (m13, .inl (D.2 0, 10, .inl po)), (m14, .inl (D.2 0, 10, .inl pw))]) hA hB hK hP hD hS [] [0, 1, 2] rfl rfl (by decide)
      refine z_goi (z_runS (As := [.long p2.toInt64, .long 1, .long 1000000]) (rest := [.int 0, .int 0, .ref m0]) hF (d_lies D p2.toInt64 1 1000000 H.size) (va_cwS 3 hZ (z_gS t_273 t_274 t_272 t_271) rfl rfl rfl (by decide +kernel) ⟨Nat.le_of_ble_eq_true rfl, Nat.le_of_ble_eq_true rfl⟩) J rfl hl.1 (Nat.le_of_ble_eq_true rfl) dX6_piece_38 ⟨Nat.le_of_ble_eq_true rfl, Nat.le_of_ble_eq_true rfl⟩) J (fun r2 _ H locs w2 hP hD hS => ?_)
      have hP : va_P D.1 vwCl [(m0, .inr (6, [.int th, .int (nI M.1), .ref m1, .ref m2, .int (nI bt), .ref m3, .int (nI ln), .ref m4, .ref m5, .int (nI cl), .ref m6, .ref m7, .ref m8, .ref m9, .ref m10, .ref m11, .ref m12, .int (nI pn), .ref m13, .ref m14])), (m13, .inl (D.2 0, 10, .inl po)), (m14, .inl (D.2 0, 10, .inl pw))] H := hP
      have hD : va_D A [(m0, .inr (6, [.int th, .int (nI M.1), .ref m1, .ref m2, .int (nI bt), .ref m3, .int (nI ln), .ref m4, .ref m5, .int (nI cl), .ref m6, .ref m7, .ref m8, .ref m9, .ref m10, .ref m11, .ref m12, .int (nI pn), .ref m13, .ref m14])), (m13, .inl (D.2 0, 10, .inl po)), (m14, .inl (D.2 0, 10, .inl pw))] := hD
      have f2 : (r2 = 1 ∧ ¬ p2 < 1 ∧ p2 ≤ 1000000) ∨ (r2 = 0 ∧ ¬ (¬ p2 < 1 ∧ p2 ≤ 1000000)) := z_li (a := 1) (b := 1000000) (by decide) (by decide) w2
      refine lv_if_ne (tgt := 48) hx hb dX6_piece_41 (by decide) (fun c3 => ?_) (fun c3 => ?_)
      · skip
        have rg := z_b1 f2 c3
        refine lv_iconst (v := 0) hx hb dX6_piece_48 (by decide) ?_
        refine lv_iconst (v := 0) hx hb dX6_piece_49 (by decide) ?_
        have J := zJ.mk (wc := [(m0, .inr (6, [.int th, .int (nI M.1), .ref m1, .ref m2, .int (nI bt), .ref m3, .int (nI ln), .ref m4, .ref m5, .int (nI cl), .ref m6, .ref m7, .ref m8, .ref m9, .ref m10, .ref m11, .ref m12, .int (nI pn), .ref m13, .ref m14]))]) (wr := [(m13, .inl (D.2 0, 10, .inl po)), (m14, .inl (D.2 0, 10, .inl pw))]) hA hB hK hP hD hS [0] [1, 2] rfl rfl (by decide)
        refine z_goi (z_runV (As := [.int 0, .int 0, .int 0, .int 0]) (rest := []) (b := m0) hF (d_throwing D m0 m1 m2 m3 m4 m5 m6 m7 m8 m9 m10 m11 m12 m13 m14 (M.1, fun _ => 0, fun _ => 0) bt ln cl pn th 0 0 0 0 H.size) (cwV 4 hZ (z_gV t_286 t_287 t_288 t_272 t_285) rfl rfl rfl (by decide +kernel) ⟨Nat.le_of_ble_eq_true rfl, Nat.le_of_ble_eq_true rfl⟩) J 0 6 rfl rfl rfl rfl hl.1 (Nat.le_of_ble_eq_true rfl) dX6_piece_50 ⟨Nat.le_of_ble_eq_true rfl, Nat.le_of_ble_eq_true rfl⟩) J (fun r3 _ H locs w3 hP hD hS => ?_)
        have hP : va_P D.1 vwCl [(m13, .inl (D.2 0, 10, .inl po)), (m14, .inl (D.2 0, 10, .inl pw)), (m0, .inr (6, [.int 0, .int (nI M.1), .ref m1, .ref m2, .int (nI bt), .ref m3, .int (nI ln), .ref m4, .ref m5, .int (nI cl), .ref m6, .ref m7, .ref m8, .ref m9, .ref m10, .ref m11, .ref m12, .int (nI pn), .ref m13, .ref m14]))] H := hP
        have hD : va_D A [(m13, .inl (D.2 0, 10, .inl po)), (m14, .inl (D.2 0, 10, .inl pw)), (m0, .inr (6, [.int 0, .int (nI M.1), .ref m1, .ref m2, .int (nI bt), .ref m3, .int (nI ln), .ref m4, .ref m5, .int (nI cl), .ref m6, .ref m7, .ref m8, .ref m9, .ref m10, .ref m11, .ref m12, .int (nI pn), .ref m13, .ref m14]))] := hD
        have w3 : r3 = 0 := w3
        subst w3
        refine lv_if_eq (tgt := 58) hx hb dX6_piece_53 (by decide) (fun c4 => ?_) (fun c4 => ?_)
        · skip
          have hk : pn < 10 := z_lt (t := 10) hn (by decide) tu
          refine lv_aload_n hx hb dX6_piece_58 rfl (lv_at hl 0 rfl) ?_
          refine va_get (D := D.1) (ci := 6) (v := .ref m13) (C := "ShopLedgerModel") (T := TX6) (N := 20) hx hb hZ inX6 hown hK hP 2 rfl rfl 18 (by decide) (hZ _ t_298) (fun _ h9 => h9) rfl dX6_piece_59 ?_
          refine lv_aload_n hx hb dX6_piece_62 rfl (lv_at hl 0 rfl) ?_
          refine va_get (D := D.1) (ci := 6) (v := .int (nI pn)) (C := "ShopLedgerModel") (T := TX6) (N := 20) hx hb hZ inX6 hown hK hP 2 rfl rfl 17 (by decide) (hZ _ t_295) (fun _ h9 => h9) rfl dX6_piece_63 ?_
          refine lv_iload_n hx hb dX6_piece_66 rfl (lv_at hl 1 rfl) ?_
          refine z_iast (k := pn) hx hb hK hP hD hS 0 rfl (hk) (by decide) dX6_piece_67 (fun H locs hP hD hS => ?_)
          have hP : va_P D.1 vwCl [(m13, .inl (D.2 0, 10, .inl (upd po pn p1))), (m14, .inl (D.2 0, 10, .inl pw)), (m0, .inr (6, [.int 0, .int (nI M.1), .ref m1, .ref m2, .int (nI bt), .ref m3, .int (nI ln), .ref m4, .ref m5, .int (nI cl), .ref m6, .ref m7, .ref m8, .ref m9, .ref m10, .ref m11, .ref m12, .int (nI pn), .ref m13, .ref m14]))] H := hP
          have hD : va_D A [(m13, .inl (D.2 0, 10, .inl (upd po pn p1))), (m14, .inl (D.2 0, 10, .inl pw)), (m0, .inr (6, [.int 0, .int (nI M.1), .ref m1, .ref m2, .int (nI bt), .ref m3, .int (nI ln), .ref m4, .ref m5, .int (nI cl), .ref m6, .ref m7, .ref m8, .ref m9, .ref m10, .ref m11, .ref m12, .int (nI pn), .ref m13, .ref m14]))] := hD
          refine lv_aload_n hx hb dX6_piece_68 rfl (lv_at hl 0 rfl) ?_
          refine va_get (D := D.1) (ci := 6) (v := .ref m14) (C := "ShopLedgerModel") (T := TX6) (N := 20) hx hb hZ inX6 hown hK hP 2 rfl rfl 19 (by decide) (hZ _ t_299) (fun _ h9 => h9) rfl dX6_piece_69 ?_
          refine lv_aload_n hx hb dX6_piece_72 rfl (lv_at hl 0 rfl) ?_
          refine va_get (D := D.1) (ci := 6) (v := .int (nI pn)) (C := "ShopLedgerModel") (T := TX6) (N := 20) hx hb hZ inX6 hown hK hP 2 rfl rfl 17 (by decide) (hZ _ t_295) (fun _ h9 => h9) rfl dX6_piece_73 ?_
          refine lv_iload_n hx hb dX6_piece_76 rfl (lv_at hl 2 rfl) ?_
          refine z_iast (k := pn) hx hb hK hP hD hS 1 rfl (hk) (by decide) dX6_piece_77 (fun H locs hP hD hS => ?_)
          have hP : va_P D.1 vwCl [(m13, .inl (D.2 0, 10, .inl (upd po pn p1))), (m14, .inl (D.2 0, 10, .inl (upd pw pn p2))), (m0, .inr (6, [.int 0, .int (nI M.1), .ref m1, .ref m2, .int (nI bt), .ref m3, .int (nI ln), .ref m4, .ref m5, .int (nI cl), .ref m6, .ref m7, .ref m8, .ref m9, .ref m10, .ref m11, .ref m12, .int (nI pn), .ref m13, .ref m14]))] H := hP
          have hD : va_D A [(m13, .inl (D.2 0, 10, .inl (upd po pn p1))), (m14, .inl (D.2 0, 10, .inl (upd pw pn p2))), (m0, .inr (6, [.int 0, .int (nI M.1), .ref m1, .ref m2, .int (nI bt), .ref m3, .int (nI ln), .ref m4, .ref m5, .int (nI cl), .ref m6, .ref m7, .ref m8, .ref m9, .ref m10, .ref m11, .ref m12, .int (nI pn), .ref m13, .ref m14]))] := hD
          refine lv_aload_n hx hb dX6_piece_78 rfl (lv_at hl 0 rfl) ?_
          refine lv_dup hx hb dX6_piece_79 rfl ?_
          refine va_get (D := D.1) (ci := 6) (v := .int (nI pn)) (C := "ShopLedgerModel") (T := TX6) (N := 20) hx hb hZ inX6 hown hK hP 2 rfl rfl 17 (by decide) (hZ _ t_295) (fun _ h9 => h9) rfl dX6_piece_80 ?_
          refine lv_iconst (v := 1) hx hb dX6_piece_83 (by decide) ?_
          refine lv_iadd hx hb dX6_piece_84 ?_
          rw [show ((nI pn) + 1) = nI (pn + 1) from nI_1 pn]
          refine va_put (D := D.1) (ci := 6) (v := .int (nI (pn + 1))) (ty := .int) (C := "ShopLedgerModel") (T := TX6) (N := 20) hx hb hZ inX6 tyX6 tyX6_ok nmX6 hown hK hP hD hS 2 rfl rfl 17 (by decide) (hZ _ t_295) (fun _ h9 => h9) rfl (by decide +kernel) rfl rfl (Nat.le_of_ble_eq_true rfl) dX6_piece_85 (fun H locs hP hD hS => ?_)
          have hP : va_P D.1 vwCl [(m13, .inl (D.2 0, 10, .inl (upd po pn p1))), (m14, .inl (D.2 0, 10, .inl (upd pw pn p2))), (m0, .inr (6, [.int 0, .int (nI M.1), .ref m1, .ref m2, .int (nI bt), .ref m3, .int (nI ln), .ref m4, .ref m5, .int (nI cl), .ref m6, .ref m7, .ref m8, .ref m9, .ref m10, .ref m11, .ref m12, .int (nI (pn + 1)), .ref m13, .ref m14]))] H := hP
          have hD : va_D A [(m13, .inl (D.2 0, 10, .inl (upd po pn p1))), (m14, .inl (D.2 0, 10, .inl (upd pw pn p2))), (m0, .inr (6, [.int 0, .int (nI M.1), .ref m1, .ref m2, .int (nI bt), .ref m3, .int (nI ln), .ref m4, .ref m5, .int (nI cl), .ref m6, .ref m7, .ref m8, .ref m9, .ref m10, .ref m11, .ref m12, .int (nI (pn + 1)), .ref m13, .ref m14]))] := hD
          refine lv_aload_n hx hb dX6_piece_88 rfl (lv_at hl 0 rfl) ?_
          refine va_get (D := D.1) (ci := 6) (v := .int (nI (pn + 1))) (C := "ShopLedgerModel") (T := TX6) (N := 20) hx hb hZ inX6 hown hK hP 2 rfl rfl 17 (by decide) (hZ _ t_295) (fun _ h9 => h9) rfl dX6_piece_89 ?_
          refine lv_iconst (v := 1) hx hb dX6_piece_92 (by decide) ?_
          refine lv_isub hx hb dX6_piece_93 ?_
          rw [show ((nI (pn + 1)) - 1) = nI pn from nI_pred pn]
          exact z_iret (v := nI pn) hx hb hr hlocks hP hD hS none (Or.inl ⟨rfl, ar, tu, rg, rfl⟩) [2, 0, 1] rfl (by decide) (Nat.le_of_ble_eq_true rfl) (Nat.le_of_ble_eq_true rfl) dX6_piece_94
        exfalso; exact absurd c4 (by decide)
      have rg := z_b0 f2 c3
      refine lv_iconst (v := 1) hx hb dX6_piece_44 (by decide) ?_
      refine lv_goto (tgt := 49) hx hb dX6_piece_45 (by decide) ?_
      refine lv_iconst (v := 0) hx hb dX6_piece_49 (by decide) ?_
      have J := zJ.mk (wc := [(m0, .inr (6, [.int th, .int (nI M.1), .ref m1, .ref m2, .int (nI bt), .ref m3, .int (nI ln), .ref m4, .ref m5, .int (nI cl), .ref m6, .ref m7, .ref m8, .ref m9, .ref m10, .ref m11, .ref m12, .int (nI pn), .ref m13, .ref m14]))]) (wr := [(m13, .inl (D.2 0, 10, .inl po)), (m14, .inl (D.2 0, 10, .inl pw))]) hA hB hK hP hD hS [0] [1, 2] rfl rfl (by decide)
      refine z_goi (z_runV (As := [.int 0, .int 0, .int 1, .int 0]) (rest := []) (b := m0) hF (d_throwing D m0 m1 m2 m3 m4 m5 m6 m7 m8 m9 m10 m11 m12 m13 m14 (M.1, fun _ => 0, fun _ => 0) bt ln cl pn th 0 0 1 0 H.size) (cwV 4 hZ (z_gV t_286 t_287 t_288 t_272 t_285) rfl rfl rfl (by decide +kernel) ⟨Nat.le_of_ble_eq_true rfl, Nat.le_of_ble_eq_true rfl⟩) J 0 6 rfl rfl rfl rfl hl.1 (Nat.le_of_ble_eq_true rfl) dX6_piece_50 ⟨Nat.le_of_ble_eq_true rfl, Nat.le_of_ble_eq_true rfl⟩) J (fun r3 _ H locs w3 hP hD hS => ?_)
      have hP : va_P D.1 vwCl [(m13, .inl (D.2 0, 10, .inl po)), (m14, .inl (D.2 0, 10, .inl pw)), (m0, .inr (6, [.int 3, .int (nI M.1), .ref m1, .ref m2, .int (nI bt), .ref m3, .int (nI ln), .ref m4, .ref m5, .int (nI cl), .ref m6, .ref m7, .ref m8, .ref m9, .ref m10, .ref m11, .ref m12, .int (nI pn), .ref m13, .ref m14]))] H := hP
      have hD : va_D A [(m13, .inl (D.2 0, 10, .inl po)), (m14, .inl (D.2 0, 10, .inl pw)), (m0, .inr (6, [.int 3, .int (nI M.1), .ref m1, .ref m2, .int (nI bt), .ref m3, .int (nI ln), .ref m4, .ref m5, .int (nI cl), .ref m6, .ref m7, .ref m8, .ref m9, .ref m10, .ref m11, .ref m12, .int (nI pn), .ref m13, .ref m14]))] := hD
      have w3 : r3 = 1 := w3
      subst w3
      refine lv_if_eq (tgt := 58) hx hb dX6_piece_53 (by decide) (fun c4 => ?_) (fun c4 => ?_)
      · skip
        exfalso; exact absurd c4 (by decide)
      refine lv_iconst (v := 0) hx hb dX6_piece_56 (by decide) ?_
      exact z_iret (v := 0) hx hb hr hlocks hP hD hS (some 3) (Or.inr (Or.inr (Or.inr (⟨rfl, ar, tu, rg⟩)))) [2, 0, 1] rfl (by decide) (Nat.le_of_ble_eq_true rfl) (Nat.le_of_ble_eq_true rfl) dX6_piece_57
    have tu : ¬ (¬ 10 ≤ nI pn) := fun h => h (by rw [c2]; decide)
    refine lv_iconst (v := 1) hx hb dX6_piece_27 (by decide) ?_
    refine lv_goto (tgt := 32) hx hb dX6_piece_28 (by decide) ?_
    refine lv_iload_n hx hb dX6_piece_32 rfl (lv_at hl 2 rfl) ?_
    refine lv_i2l (v := p2.toInt64) hx hb dX6_piece_33 rfl ?_
    refine lv_lconst (v := 1) hx hb dX6_piece_34 (by decide) ?_
    refine lv_ldc2 (v := 1000000) hx hb hown (hZ _ t_296) dX6_piece_35 ?_
    have J := zJ.mk (wc := []) (wr := [(m0, .inr (6, [.int th, .int (nI M.1), .ref m1, .ref m2, .int (nI bt), .ref m3, .int (nI ln), .ref m4, .ref m5, .int (nI cl), .ref m6, .ref m7, .ref m8, .ref m9, .ref m10, .ref m11, .ref m12, .int (nI pn), .ref m13, .ref m14])), (m13, .inl (D.2 0, 10, .inl po)), (m14, .inl (D.2 0, 10, .inl pw))]) hA hB hK hP hD hS [] [0, 1, 2] rfl rfl (by decide)
    refine z_goi (z_runS (As := [.long p2.toInt64, .long 1, .long 1000000]) (rest := [.int 1, .int 0, .ref m0]) hF (d_lies D p2.toInt64 1 1000000 H.size) (va_cwS 3 hZ (z_gS t_273 t_274 t_272 t_271) rfl rfl rfl (by decide +kernel) ⟨Nat.le_of_ble_eq_true rfl, Nat.le_of_ble_eq_true rfl⟩) J rfl hl.1 (Nat.le_of_ble_eq_true rfl) dX6_piece_38 ⟨Nat.le_of_ble_eq_true rfl, Nat.le_of_ble_eq_true rfl⟩) J (fun r2 _ H locs w2 hP hD hS => ?_)
    have hP : va_P D.1 vwCl [(m0, .inr (6, [.int th, .int (nI M.1), .ref m1, .ref m2, .int (nI bt), .ref m3, .int (nI ln), .ref m4, .ref m5, .int (nI cl), .ref m6, .ref m7, .ref m8, .ref m9, .ref m10, .ref m11, .ref m12, .int (nI pn), .ref m13, .ref m14])), (m13, .inl (D.2 0, 10, .inl po)), (m14, .inl (D.2 0, 10, .inl pw))] H := hP
    have hD : va_D A [(m0, .inr (6, [.int th, .int (nI M.1), .ref m1, .ref m2, .int (nI bt), .ref m3, .int (nI ln), .ref m4, .ref m5, .int (nI cl), .ref m6, .ref m7, .ref m8, .ref m9, .ref m10, .ref m11, .ref m12, .int (nI pn), .ref m13, .ref m14])), (m13, .inl (D.2 0, 10, .inl po)), (m14, .inl (D.2 0, 10, .inl pw))] := hD
    have f2 : (r2 = 1 ∧ ¬ p2 < 1 ∧ p2 ≤ 1000000) ∨ (r2 = 0 ∧ ¬ (¬ p2 < 1 ∧ p2 ≤ 1000000)) := z_li (a := 1) (b := 1000000) (by decide) (by decide) w2
    refine lv_if_ne (tgt := 48) hx hb dX6_piece_41 (by decide) (fun c3 => ?_) (fun c3 => ?_)
    · skip
      have rg := z_b1 f2 c3
      refine lv_iconst (v := 0) hx hb dX6_piece_48 (by decide) ?_
      refine lv_iconst (v := 0) hx hb dX6_piece_49 (by decide) ?_
      have J := zJ.mk (wc := [(m0, .inr (6, [.int th, .int (nI M.1), .ref m1, .ref m2, .int (nI bt), .ref m3, .int (nI ln), .ref m4, .ref m5, .int (nI cl), .ref m6, .ref m7, .ref m8, .ref m9, .ref m10, .ref m11, .ref m12, .int (nI pn), .ref m13, .ref m14]))]) (wr := [(m13, .inl (D.2 0, 10, .inl po)), (m14, .inl (D.2 0, 10, .inl pw))]) hA hB hK hP hD hS [0] [1, 2] rfl rfl (by decide)
      refine z_goi (z_runV (As := [.int 0, .int 1, .int 0, .int 0]) (rest := []) (b := m0) hF (d_throwing D m0 m1 m2 m3 m4 m5 m6 m7 m8 m9 m10 m11 m12 m13 m14 (M.1, fun _ => 0, fun _ => 0) bt ln cl pn th 0 1 0 0 H.size) (cwV 4 hZ (z_gV t_286 t_287 t_288 t_272 t_285) rfl rfl rfl (by decide +kernel) ⟨Nat.le_of_ble_eq_true rfl, Nat.le_of_ble_eq_true rfl⟩) J 0 6 rfl rfl rfl rfl hl.1 (Nat.le_of_ble_eq_true rfl) dX6_piece_50 ⟨Nat.le_of_ble_eq_true rfl, Nat.le_of_ble_eq_true rfl⟩) J (fun r3 _ H locs w3 hP hD hS => ?_)
      have hP : va_P D.1 vwCl [(m13, .inl (D.2 0, 10, .inl po)), (m14, .inl (D.2 0, 10, .inl pw)), (m0, .inr (6, [.int 2, .int (nI M.1), .ref m1, .ref m2, .int (nI bt), .ref m3, .int (nI ln), .ref m4, .ref m5, .int (nI cl), .ref m6, .ref m7, .ref m8, .ref m9, .ref m10, .ref m11, .ref m12, .int (nI pn), .ref m13, .ref m14]))] H := hP
      have hD : va_D A [(m13, .inl (D.2 0, 10, .inl po)), (m14, .inl (D.2 0, 10, .inl pw)), (m0, .inr (6, [.int 2, .int (nI M.1), .ref m1, .ref m2, .int (nI bt), .ref m3, .int (nI ln), .ref m4, .ref m5, .int (nI cl), .ref m6, .ref m7, .ref m8, .ref m9, .ref m10, .ref m11, .ref m12, .int (nI pn), .ref m13, .ref m14]))] := hD
      have w3 : r3 = 1 := w3
      subst w3
      refine lv_if_eq (tgt := 58) hx hb dX6_piece_53 (by decide) (fun c4 => ?_) (fun c4 => ?_)
      · skip
        exfalso; exact absurd c4 (by decide)
      refine lv_iconst (v := 0) hx hb dX6_piece_56 (by decide) ?_
      exact z_iret (v := 0) hx hb hr hlocks hP hD hS (some 2) (Or.inr (Or.inr (Or.inl ⟨rfl, ar, tu⟩))) [2, 0, 1] rfl (by decide) (Nat.le_of_ble_eq_true rfl) (Nat.le_of_ble_eq_true rfl) dX6_piece_57
    have rg := z_b0 f2 c3
    refine lv_iconst (v := 1) hx hb dX6_piece_44 (by decide) ?_
    refine lv_goto (tgt := 49) hx hb dX6_piece_45 (by decide) ?_
    refine lv_iconst (v := 0) hx hb dX6_piece_49 (by decide) ?_
    have J := zJ.mk (wc := [(m0, .inr (6, [.int th, .int (nI M.1), .ref m1, .ref m2, .int (nI bt), .ref m3, .int (nI ln), .ref m4, .ref m5, .int (nI cl), .ref m6, .ref m7, .ref m8, .ref m9, .ref m10, .ref m11, .ref m12, .int (nI pn), .ref m13, .ref m14]))]) (wr := [(m13, .inl (D.2 0, 10, .inl po)), (m14, .inl (D.2 0, 10, .inl pw))]) hA hB hK hP hD hS [0] [1, 2] rfl rfl (by decide)
    refine z_goi (z_runV (As := [.int 0, .int 1, .int 1, .int 0]) (rest := []) (b := m0) hF (d_throwing D m0 m1 m2 m3 m4 m5 m6 m7 m8 m9 m10 m11 m12 m13 m14 (M.1, fun _ => 0, fun _ => 0) bt ln cl pn th 0 1 1 0 H.size) (cwV 4 hZ (z_gV t_286 t_287 t_288 t_272 t_285) rfl rfl rfl (by decide +kernel) ⟨Nat.le_of_ble_eq_true rfl, Nat.le_of_ble_eq_true rfl⟩) J 0 6 rfl rfl rfl rfl hl.1 (Nat.le_of_ble_eq_true rfl) dX6_piece_50 ⟨Nat.le_of_ble_eq_true rfl, Nat.le_of_ble_eq_true rfl⟩) J (fun r3 _ H locs w3 hP hD hS => ?_)
    have hP : va_P D.1 vwCl [(m13, .inl (D.2 0, 10, .inl po)), (m14, .inl (D.2 0, 10, .inl pw)), (m0, .inr (6, [.int 2, .int (nI M.1), .ref m1, .ref m2, .int (nI bt), .ref m3, .int (nI ln), .ref m4, .ref m5, .int (nI cl), .ref m6, .ref m7, .ref m8, .ref m9, .ref m10, .ref m11, .ref m12, .int (nI pn), .ref m13, .ref m14]))] H := hP
    have hD : va_D A [(m13, .inl (D.2 0, 10, .inl po)), (m14, .inl (D.2 0, 10, .inl pw)), (m0, .inr (6, [.int 2, .int (nI M.1), .ref m1, .ref m2, .int (nI bt), .ref m3, .int (nI ln), .ref m4, .ref m5, .int (nI cl), .ref m6, .ref m7, .ref m8, .ref m9, .ref m10, .ref m11, .ref m12, .int (nI pn), .ref m13, .ref m14]))] := hD
    have w3 : r3 = 1 := w3
    subst w3
    refine lv_if_eq (tgt := 58) hx hb dX6_piece_53 (by decide) (fun c4 => ?_) (fun c4 => ?_)
    · skip
      exfalso; exact absurd c4 (by decide)
    refine lv_iconst (v := 0) hx hb dX6_piece_56 (by decide) ?_
    exact z_iret (v := 0) hx hb hr hlocks hP hD hS (some 2) (Or.inr (Or.inr (Or.inl ⟨rfl, ar, tu⟩))) [2, 0, 1] rfl (by decide) (Nat.le_of_ble_eq_true rfl) (Nat.le_of_ble_eq_true rfl) dX6_piece_57
  have ar := z_b0 f1 c1
  refine lv_iconst (v := 1) hx hb dX6_piece_13 (by decide) ?_
  refine lv_goto (tgt := 18) hx hb dX6_piece_14 (by decide) ?_
  refine lv_aload_n hx hb dX6_piece_18 rfl (lv_at hl 0 rfl) ?_
  refine va_get (D := D.1) (ci := 6) (v := .int (nI pn)) (C := "ShopLedgerModel") (T := TX6) (N := 20) hx hb hZ inX6 hown hK hP 0 rfl rfl 17 (by decide) (hZ _ t_295) (fun _ h9 => h9) rfl dX6_piece_19 ?_
  refine lv_bipush (v := 10) hx hb dX6_piece_22 (by decide) ?_
  refine lv_icmp_ne (tgt := 31) hx hb dX6_piece_24 (by decide) (fun c2 => ?_) (fun c2 => ?_)
  · skip
    have tu : ¬ 10 ≤ nI pn := fun h => c2 (z_full (t := 10) hn (by decide) h)
    refine lv_iconst (v := 0) hx hb dX6_piece_31 (by decide) ?_
    refine lv_iload_n hx hb dX6_piece_32 rfl (lv_at hl 2 rfl) ?_
    refine lv_i2l (v := p2.toInt64) hx hb dX6_piece_33 rfl ?_
    refine lv_lconst (v := 1) hx hb dX6_piece_34 (by decide) ?_
    refine lv_ldc2 (v := 1000000) hx hb hown (hZ _ t_296) dX6_piece_35 ?_
    have J := zJ.mk (wc := []) (wr := [(m0, .inr (6, [.int th, .int (nI M.1), .ref m1, .ref m2, .int (nI bt), .ref m3, .int (nI ln), .ref m4, .ref m5, .int (nI cl), .ref m6, .ref m7, .ref m8, .ref m9, .ref m10, .ref m11, .ref m12, .int (nI pn), .ref m13, .ref m14])), (m13, .inl (D.2 0, 10, .inl po)), (m14, .inl (D.2 0, 10, .inl pw))]) hA hB hK hP hD hS [] [0, 1, 2] rfl rfl (by decide)
    refine z_goi (z_runS (As := [.long p2.toInt64, .long 1, .long 1000000]) (rest := [.int 0, .int 1, .ref m0]) hF (d_lies D p2.toInt64 1 1000000 H.size) (va_cwS 3 hZ (z_gS t_273 t_274 t_272 t_271) rfl rfl rfl (by decide +kernel) ⟨Nat.le_of_ble_eq_true rfl, Nat.le_of_ble_eq_true rfl⟩) J rfl hl.1 (Nat.le_of_ble_eq_true rfl) dX6_piece_38 ⟨Nat.le_of_ble_eq_true rfl, Nat.le_of_ble_eq_true rfl⟩) J (fun r2 _ H locs w2 hP hD hS => ?_)
    have hP : va_P D.1 vwCl [(m0, .inr (6, [.int th, .int (nI M.1), .ref m1, .ref m2, .int (nI bt), .ref m3, .int (nI ln), .ref m4, .ref m5, .int (nI cl), .ref m6, .ref m7, .ref m8, .ref m9, .ref m10, .ref m11, .ref m12, .int (nI pn), .ref m13, .ref m14])), (m13, .inl (D.2 0, 10, .inl po)), (m14, .inl (D.2 0, 10, .inl pw))] H := hP
    have hD : va_D A [(m0, .inr (6, [.int th, .int (nI M.1), .ref m1, .ref m2, .int (nI bt), .ref m3, .int (nI ln), .ref m4, .ref m5, .int (nI cl), .ref m6, .ref m7, .ref m8, .ref m9, .ref m10, .ref m11, .ref m12, .int (nI pn), .ref m13, .ref m14])), (m13, .inl (D.2 0, 10, .inl po)), (m14, .inl (D.2 0, 10, .inl pw))] := hD
    have f2 : (r2 = 1 ∧ ¬ p2 < 1 ∧ p2 ≤ 1000000) ∨ (r2 = 0 ∧ ¬ (¬ p2 < 1 ∧ p2 ≤ 1000000)) := z_li (a := 1) (b := 1000000) (by decide) (by decide) w2
    refine lv_if_ne (tgt := 48) hx hb dX6_piece_41 (by decide) (fun c3 => ?_) (fun c3 => ?_)
    · skip
      have rg := z_b1 f2 c3
      refine lv_iconst (v := 0) hx hb dX6_piece_48 (by decide) ?_
      refine lv_iconst (v := 0) hx hb dX6_piece_49 (by decide) ?_
      have J := zJ.mk (wc := [(m0, .inr (6, [.int th, .int (nI M.1), .ref m1, .ref m2, .int (nI bt), .ref m3, .int (nI ln), .ref m4, .ref m5, .int (nI cl), .ref m6, .ref m7, .ref m8, .ref m9, .ref m10, .ref m11, .ref m12, .int (nI pn), .ref m13, .ref m14]))]) (wr := [(m13, .inl (D.2 0, 10, .inl po)), (m14, .inl (D.2 0, 10, .inl pw))]) hA hB hK hP hD hS [0] [1, 2] rfl rfl (by decide)
      refine z_goi (z_runV (As := [.int 1, .int 0, .int 0, .int 0]) (rest := []) (b := m0) hF (d_throwing D m0 m1 m2 m3 m4 m5 m6 m7 m8 m9 m10 m11 m12 m13 m14 (M.1, fun _ => 0, fun _ => 0) bt ln cl pn th 1 0 0 0 H.size) (cwV 4 hZ (z_gV t_286 t_287 t_288 t_272 t_285) rfl rfl rfl (by decide +kernel) ⟨Nat.le_of_ble_eq_true rfl, Nat.le_of_ble_eq_true rfl⟩) J 0 6 rfl rfl rfl rfl hl.1 (Nat.le_of_ble_eq_true rfl) dX6_piece_50 ⟨Nat.le_of_ble_eq_true rfl, Nat.le_of_ble_eq_true rfl⟩) J (fun r3 _ H locs w3 hP hD hS => ?_)
      have hP : va_P D.1 vwCl [(m13, .inl (D.2 0, 10, .inl po)), (m14, .inl (D.2 0, 10, .inl pw)), (m0, .inr (6, [.int 1, .int (nI M.1), .ref m1, .ref m2, .int (nI bt), .ref m3, .int (nI ln), .ref m4, .ref m5, .int (nI cl), .ref m6, .ref m7, .ref m8, .ref m9, .ref m10, .ref m11, .ref m12, .int (nI pn), .ref m13, .ref m14]))] H := hP
      have hD : va_D A [(m13, .inl (D.2 0, 10, .inl po)), (m14, .inl (D.2 0, 10, .inl pw)), (m0, .inr (6, [.int 1, .int (nI M.1), .ref m1, .ref m2, .int (nI bt), .ref m3, .int (nI ln), .ref m4, .ref m5, .int (nI cl), .ref m6, .ref m7, .ref m8, .ref m9, .ref m10, .ref m11, .ref m12, .int (nI pn), .ref m13, .ref m14]))] := hD
      have w3 : r3 = 1 := w3
      subst w3
      refine lv_if_eq (tgt := 58) hx hb dX6_piece_53 (by decide) (fun c4 => ?_) (fun c4 => ?_)
      · skip
        exfalso; exact absurd c4 (by decide)
      refine lv_iconst (v := 0) hx hb dX6_piece_56 (by decide) ?_
      exact z_iret (v := 0) hx hb hr hlocks hP hD hS (some 1) (Or.inr (Or.inl ⟨rfl, ar⟩)) [2, 0, 1] rfl (by decide) (Nat.le_of_ble_eq_true rfl) (Nat.le_of_ble_eq_true rfl) dX6_piece_57
    have rg := z_b0 f2 c3
    refine lv_iconst (v := 1) hx hb dX6_piece_44 (by decide) ?_
    refine lv_goto (tgt := 49) hx hb dX6_piece_45 (by decide) ?_
    refine lv_iconst (v := 0) hx hb dX6_piece_49 (by decide) ?_
    have J := zJ.mk (wc := [(m0, .inr (6, [.int th, .int (nI M.1), .ref m1, .ref m2, .int (nI bt), .ref m3, .int (nI ln), .ref m4, .ref m5, .int (nI cl), .ref m6, .ref m7, .ref m8, .ref m9, .ref m10, .ref m11, .ref m12, .int (nI pn), .ref m13, .ref m14]))]) (wr := [(m13, .inl (D.2 0, 10, .inl po)), (m14, .inl (D.2 0, 10, .inl pw))]) hA hB hK hP hD hS [0] [1, 2] rfl rfl (by decide)
    refine z_goi (z_runV (As := [.int 1, .int 0, .int 1, .int 0]) (rest := []) (b := m0) hF (d_throwing D m0 m1 m2 m3 m4 m5 m6 m7 m8 m9 m10 m11 m12 m13 m14 (M.1, fun _ => 0, fun _ => 0) bt ln cl pn th 1 0 1 0 H.size) (cwV 4 hZ (z_gV t_286 t_287 t_288 t_272 t_285) rfl rfl rfl (by decide +kernel) ⟨Nat.le_of_ble_eq_true rfl, Nat.le_of_ble_eq_true rfl⟩) J 0 6 rfl rfl rfl rfl hl.1 (Nat.le_of_ble_eq_true rfl) dX6_piece_50 ⟨Nat.le_of_ble_eq_true rfl, Nat.le_of_ble_eq_true rfl⟩) J (fun r3 _ H locs w3 hP hD hS => ?_)
    have hP : va_P D.1 vwCl [(m13, .inl (D.2 0, 10, .inl po)), (m14, .inl (D.2 0, 10, .inl pw)), (m0, .inr (6, [.int 1, .int (nI M.1), .ref m1, .ref m2, .int (nI bt), .ref m3, .int (nI ln), .ref m4, .ref m5, .int (nI cl), .ref m6, .ref m7, .ref m8, .ref m9, .ref m10, .ref m11, .ref m12, .int (nI pn), .ref m13, .ref m14]))] H := hP
    have hD : va_D A [(m13, .inl (D.2 0, 10, .inl po)), (m14, .inl (D.2 0, 10, .inl pw)), (m0, .inr (6, [.int 1, .int (nI M.1), .ref m1, .ref m2, .int (nI bt), .ref m3, .int (nI ln), .ref m4, .ref m5, .int (nI cl), .ref m6, .ref m7, .ref m8, .ref m9, .ref m10, .ref m11, .ref m12, .int (nI pn), .ref m13, .ref m14]))] := hD
    have w3 : r3 = 1 := w3
    subst w3
    refine lv_if_eq (tgt := 58) hx hb dX6_piece_53 (by decide) (fun c4 => ?_) (fun c4 => ?_)
    · skip
      exfalso; exact absurd c4 (by decide)
    refine lv_iconst (v := 0) hx hb dX6_piece_56 (by decide) ?_
    exact z_iret (v := 0) hx hb hr hlocks hP hD hS (some 1) (Or.inr (Or.inl ⟨rfl, ar⟩)) [2, 0, 1] rfl (by decide) (Nat.le_of_ble_eq_true rfl) (Nat.le_of_ble_eq_true rfl) dX6_piece_57
  have tu : ¬ (¬ 10 ≤ nI pn) := fun h => h (by rw [c2]; decide)
  refine lv_iconst (v := 1) hx hb dX6_piece_27 (by decide) ?_
  refine lv_goto (tgt := 32) hx hb dX6_piece_28 (by decide) ?_
  refine lv_iload_n hx hb dX6_piece_32 rfl (lv_at hl 2 rfl) ?_
  refine lv_i2l (v := p2.toInt64) hx hb dX6_piece_33 rfl ?_
  refine lv_lconst (v := 1) hx hb dX6_piece_34 (by decide) ?_
  refine lv_ldc2 (v := 1000000) hx hb hown (hZ _ t_296) dX6_piece_35 ?_
  have J := zJ.mk (wc := []) (wr := [(m0, .inr (6, [.int th, .int (nI M.1), .ref m1, .ref m2, .int (nI bt), .ref m3, .int (nI ln), .ref m4, .ref m5, .int (nI cl), .ref m6, .ref m7, .ref m8, .ref m9, .ref m10, .ref m11, .ref m12, .int (nI pn), .ref m13, .ref m14])), (m13, .inl (D.2 0, 10, .inl po)), (m14, .inl (D.2 0, 10, .inl pw))]) hA hB hK hP hD hS [] [0, 1, 2] rfl rfl (by decide)
  refine z_goi (z_runS (As := [.long p2.toInt64, .long 1, .long 1000000]) (rest := [.int 1, .int 1, .ref m0]) hF (d_lies D p2.toInt64 1 1000000 H.size) (va_cwS 3 hZ (z_gS t_273 t_274 t_272 t_271) rfl rfl rfl (by decide +kernel) ⟨Nat.le_of_ble_eq_true rfl, Nat.le_of_ble_eq_true rfl⟩) J rfl hl.1 (Nat.le_of_ble_eq_true rfl) dX6_piece_38 ⟨Nat.le_of_ble_eq_true rfl, Nat.le_of_ble_eq_true rfl⟩) J (fun r2 _ H locs w2 hP hD hS => ?_)
  have hP : va_P D.1 vwCl [(m0, .inr (6, [.int th, .int (nI M.1), .ref m1, .ref m2, .int (nI bt), .ref m3, .int (nI ln), .ref m4, .ref m5, .int (nI cl), .ref m6, .ref m7, .ref m8, .ref m9, .ref m10, .ref m11, .ref m12, .int (nI pn), .ref m13, .ref m14])), (m13, .inl (D.2 0, 10, .inl po)), (m14, .inl (D.2 0, 10, .inl pw))] H := hP
  have hD : va_D A [(m0, .inr (6, [.int th, .int (nI M.1), .ref m1, .ref m2, .int (nI bt), .ref m3, .int (nI ln), .ref m4, .ref m5, .int (nI cl), .ref m6, .ref m7, .ref m8, .ref m9, .ref m10, .ref m11, .ref m12, .int (nI pn), .ref m13, .ref m14])), (m13, .inl (D.2 0, 10, .inl po)), (m14, .inl (D.2 0, 10, .inl pw))] := hD
  have f2 : (r2 = 1 ∧ ¬ p2 < 1 ∧ p2 ≤ 1000000) ∨ (r2 = 0 ∧ ¬ (¬ p2 < 1 ∧ p2 ≤ 1000000)) := z_li (a := 1) (b := 1000000) (by decide) (by decide) w2
  refine lv_if_ne (tgt := 48) hx hb dX6_piece_41 (by decide) (fun c3 => ?_) (fun c3 => ?_)
  · skip
    have rg := z_b1 f2 c3
    refine lv_iconst (v := 0) hx hb dX6_piece_48 (by decide) ?_
    refine lv_iconst (v := 0) hx hb dX6_piece_49 (by decide) ?_
    have J := zJ.mk (wc := [(m0, .inr (6, [.int th, .int (nI M.1), .ref m1, .ref m2, .int (nI bt), .ref m3, .int (nI ln), .ref m4, .ref m5, .int (nI cl), .ref m6, .ref m7, .ref m8, .ref m9, .ref m10, .ref m11, .ref m12, .int (nI pn), .ref m13, .ref m14]))]) (wr := [(m13, .inl (D.2 0, 10, .inl po)), (m14, .inl (D.2 0, 10, .inl pw))]) hA hB hK hP hD hS [0] [1, 2] rfl rfl (by decide)
    refine z_goi (z_runV (As := [.int 1, .int 1, .int 0, .int 0]) (rest := []) (b := m0) hF (d_throwing D m0 m1 m2 m3 m4 m5 m6 m7 m8 m9 m10 m11 m12 m13 m14 (M.1, fun _ => 0, fun _ => 0) bt ln cl pn th 1 1 0 0 H.size) (cwV 4 hZ (z_gV t_286 t_287 t_288 t_272 t_285) rfl rfl rfl (by decide +kernel) ⟨Nat.le_of_ble_eq_true rfl, Nat.le_of_ble_eq_true rfl⟩) J 0 6 rfl rfl rfl rfl hl.1 (Nat.le_of_ble_eq_true rfl) dX6_piece_50 ⟨Nat.le_of_ble_eq_true rfl, Nat.le_of_ble_eq_true rfl⟩) J (fun r3 _ H locs w3 hP hD hS => ?_)
    have hP : va_P D.1 vwCl [(m13, .inl (D.2 0, 10, .inl po)), (m14, .inl (D.2 0, 10, .inl pw)), (m0, .inr (6, [.int 1, .int (nI M.1), .ref m1, .ref m2, .int (nI bt), .ref m3, .int (nI ln), .ref m4, .ref m5, .int (nI cl), .ref m6, .ref m7, .ref m8, .ref m9, .ref m10, .ref m11, .ref m12, .int (nI pn), .ref m13, .ref m14]))] H := hP
    have hD : va_D A [(m13, .inl (D.2 0, 10, .inl po)), (m14, .inl (D.2 0, 10, .inl pw)), (m0, .inr (6, [.int 1, .int (nI M.1), .ref m1, .ref m2, .int (nI bt), .ref m3, .int (nI ln), .ref m4, .ref m5, .int (nI cl), .ref m6, .ref m7, .ref m8, .ref m9, .ref m10, .ref m11, .ref m12, .int (nI pn), .ref m13, .ref m14]))] := hD
    have w3 : r3 = 1 := w3
    subst w3
    refine lv_if_eq (tgt := 58) hx hb dX6_piece_53 (by decide) (fun c4 => ?_) (fun c4 => ?_)
    · skip
      exfalso; exact absurd c4 (by decide)
    refine lv_iconst (v := 0) hx hb dX6_piece_56 (by decide) ?_
    exact z_iret (v := 0) hx hb hr hlocks hP hD hS (some 1) (Or.inr (Or.inl ⟨rfl, ar⟩)) [2, 0, 1] rfl (by decide) (Nat.le_of_ble_eq_true rfl) (Nat.le_of_ble_eq_true rfl) dX6_piece_57
  have rg := z_b0 f2 c3
  refine lv_iconst (v := 1) hx hb dX6_piece_44 (by decide) ?_
  refine lv_goto (tgt := 49) hx hb dX6_piece_45 (by decide) ?_
  refine lv_iconst (v := 0) hx hb dX6_piece_49 (by decide) ?_
  have J := zJ.mk (wc := [(m0, .inr (6, [.int th, .int (nI M.1), .ref m1, .ref m2, .int (nI bt), .ref m3, .int (nI ln), .ref m4, .ref m5, .int (nI cl), .ref m6, .ref m7, .ref m8, .ref m9, .ref m10, .ref m11, .ref m12, .int (nI pn), .ref m13, .ref m14]))]) (wr := [(m13, .inl (D.2 0, 10, .inl po)), (m14, .inl (D.2 0, 10, .inl pw))]) hA hB hK hP hD hS [0] [1, 2] rfl rfl (by decide)
  refine z_goi (z_runV (As := [.int 1, .int 1, .int 1, .int 0]) (rest := []) (b := m0) hF (d_throwing D m0 m1 m2 m3 m4 m5 m6 m7 m8 m9 m10 m11 m12 m13 m14 (M.1, fun _ => 0, fun _ => 0) bt ln cl pn th 1 1 1 0 H.size) (cwV 4 hZ (z_gV t_286 t_287 t_288 t_272 t_285) rfl rfl rfl (by decide +kernel) ⟨Nat.le_of_ble_eq_true rfl, Nat.le_of_ble_eq_true rfl⟩) J 0 6 rfl rfl rfl rfl hl.1 (Nat.le_of_ble_eq_true rfl) dX6_piece_50 ⟨Nat.le_of_ble_eq_true rfl, Nat.le_of_ble_eq_true rfl⟩) J (fun r3 _ H locs w3 hP hD hS => ?_)
  have hP : va_P D.1 vwCl [(m13, .inl (D.2 0, 10, .inl po)), (m14, .inl (D.2 0, 10, .inl pw)), (m0, .inr (6, [.int 1, .int (nI M.1), .ref m1, .ref m2, .int (nI bt), .ref m3, .int (nI ln), .ref m4, .ref m5, .int (nI cl), .ref m6, .ref m7, .ref m8, .ref m9, .ref m10, .ref m11, .ref m12, .int (nI pn), .ref m13, .ref m14]))] H := hP
  have hD : va_D A [(m13, .inl (D.2 0, 10, .inl po)), (m14, .inl (D.2 0, 10, .inl pw)), (m0, .inr (6, [.int 1, .int (nI M.1), .ref m1, .ref m2, .int (nI bt), .ref m3, .int (nI ln), .ref m4, .ref m5, .int (nI cl), .ref m6, .ref m7, .ref m8, .ref m9, .ref m10, .ref m11, .ref m12, .int (nI pn), .ref m13, .ref m14]))] := hD
  have w3 : r3 = 1 := w3
  subst w3
  refine lv_if_eq (tgt := 58) hx hb dX6_piece_53 (by decide) (fun c4 => ?_) (fun c4 => ?_)
  · skip
    exfalso; exact absurd c4 (by decide)
  refine lv_iconst (v := 0) hx hb dX6_piece_56 (by decide) ?_
  exact z_iret (v := 0) hx hb hr hlocks hP hD hS (some 1) (Or.inr (Or.inl ⟨rfl, ar⟩)) [2, 0, 1] rfl (by decide) (Nat.le_of_ble_eq_true rfl) (Nat.le_of_ble_eq_true rfl) dX6_piece_57
