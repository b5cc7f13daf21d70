theorem t_2 : (Cond.fieldLink "ShopLedger$Lines" 9 "ShopLedger$Lines" "account" "[I" : Cond) ∈ zALL := List.mem_filter.mpr ⟨List.mem_append_right _ (List.mem_append_left _ (List.mem_of_getElem? (l := tables_1_1) (i := 30) (by decide +kernel))), by decide +kernel⟩
theorem t_3 : (Cond.fieldLink "ShopLedger$Lines" 24 "ShopLedger$Lines" "count" "I" : Cond) ∈ zALL := List.mem_filter.mpr ⟨List.mem_append_right _ (List.mem_append_left _ (List.mem_of_getElem? (l := tables_1_1) (i := 38) (by decide +kernel))), by decide +kernel⟩
theorem t_4 : (Cond.fieldLink "ShopLedger$Lines" 15 "ShopLedger$Lines" "order" "[I" : Cond) ∈ zALL := List.mem_filter.mpr ⟨List.mem_append_right _ (List.mem_append_left _ (List.mem_of_getElem? (l := tables_1_1) (i := 32) (by decide +kernel))), by decide +kernel⟩
theorem t_5 : (Cond.fieldLink "ShopLedger$Lines" 18 "ShopLedger$Lines" "month" "[I" : Cond) ∈ zALL := List.mem_filter.mpr ⟨List.mem_append_right _ (List.mem_append_left _ (List.mem_of_getElem? (l := tables_1_1) (i := 34) (by decide +kernel))), by decide +kernel⟩
theorem t_6 : (Cond.fieldLink "ShopLedger$Lines" 21 "ShopLedger$Lines" "cents" "[I" : Cond) ∈ zALL := List.mem_filter.mpr ⟨List.mem_append_right _ (List.mem_append_left _ (List.mem_of_getElem? (l := tables_1_1) (i := 36) (by decide +kernel))), by decide +kernel⟩
theorem t_7 : (Cond.fieldLink "ShopLedger$Books" 9 "ShopLedger$Books" "account" "[I" : Cond) ∈ zALL := List.mem_filter.mpr ⟨List.mem_append_right _ (List.mem_append_left _ (List.mem_of_getElem? (l := tables_1_1) (i := 58) (by decide +kernel))), by decide +kernel⟩
theorem t_8 : (Cond.fieldLink "ShopLedger$Books" 27 "ShopLedger$Books" "count" "I" : Cond) ∈ zALL := List.mem_filter.mpr ⟨List.mem_append_right _ (List.mem_append_left _ (List.mem_of_getElem? (l := tables_1_1) (i := 68) (by decide +kernel))), by decide +kernel⟩
theorem t_9 : (Cond.fieldLink "ShopLedger$Books" 15 "ShopLedger$Books" "order" "[I" : Cond) ∈ zALL := List.mem_filter.mpr ⟨List.mem_append_right _ (List.mem_append_left _ (List.mem_of_getElem? (l := tables_1_1) (i := 60) (by decide +kernel))), by decide +kernel⟩
theorem t_10 : (Cond.fieldLink "ShopLedger$Books" 18 "ShopLedger$Books" "month" "[I" : Cond) ∈ zALL := List.mem_filter.mpr ⟨List.mem_append_right _ (List.mem_append_left _ (List.mem_of_getElem? (l := tables_1_1) (i := 62) (by decide +kernel))), by decide +kernel⟩
theorem t_11 : (Cond.fieldLink "ShopLedger$Books" 21 "ShopLedger$Books" "cents" "[I" : Cond) ∈ zALL := List.mem_filter.mpr ⟨List.mem_append_right _ (List.mem_append_left _ (List.mem_of_getElem? (l := tables_1_1) (i := 64) (by decide +kernel))), by decide +kernel⟩
theorem t_12 : (Cond.fieldLink "ShopLedger$Books" 24 "ShopLedger$Books" "batch" "[I" : Cond) ∈ zALL := List.mem_filter.mpr ⟨List.mem_append_right _ (List.mem_append_left _ (List.mem_of_getElem? (l := tables_1_1) (i := 66) (by decide +kernel))), by decide +kernel⟩
theorem t_13 : (Cond.fieldLink "ShopLedger$Books" 45 "ShopLedger$Books" "batches" "I" : Cond) ∈ zALL := List.mem_filter.mpr ⟨List.mem_append_right _ (List.mem_append_left _ (List.mem_of_getElem? (l := tables_1_1) (i := 78) (by decide +kernel))), by decide +kernel⟩
theorem t_14 : (Cond.fieldLink "ShopLedger$Books" 31 "ShopLedger$Books" "accountBalance" "[J" : Cond) ∈ zALL := List.mem_filter.mpr ⟨List.mem_append_right _ (List.mem_append_left _ (List.mem_of_getElem? (l := tables_1_1) (i := 70) (by decide +kernel))), by decide +kernel⟩
theorem t_15 : (Cond.fieldLink "ShopLedger$Books" 35 "ShopLedger$Books" "orderBalance" "[J" : Cond) ∈ zALL := List.mem_filter.mpr ⟨List.mem_append_right _ (List.mem_append_left _ (List.mem_of_getElem? (l := tables_1_1) (i := 72) (by decide +kernel))), by decide +kernel⟩
theorem t_16 : (Cond.fieldLink "ShopLedger$Books" 38 "ShopLedger$Books" "monthBalance" "[J" : Cond) ∈ zALL := List.mem_filter.mpr ⟨List.mem_append_right _ (List.mem_append_left _ (List.mem_of_getElem? (l := tables_1_1) (i := 74) (by decide +kernel))), by decide +kernel⟩
theorem t_17 : (Cond.code ⟨"ShopLedger$Books", "endBatch", "()I"⟩ prog_2_method_3_code 1 (some .int) : Cond) ∈ zALL := List.mem_filter.mpr ⟨List.mem_append_right _ (List.mem_append_right _ (List.mem_append_left _ (List.mem_of_getElem? (l := tables_1_2) (i := 117) (by decide +kernel)))), by decide +kernel⟩
theorem t_18 : (Cond.initialized "ShopLedger$Books" : Cond) ∈ zALL := List.mem_filter.mpr ⟨List.mem_append_right _ (List.mem_append_left _ (List.mem_of_getElem? (l := tables_1_1) (i := 3) (by decide +kernel))), by decide +kernel⟩
theorem t_19 : (Cond.methodLink "ShopLedger$Books" 52 ⟨"ShopLedger$Books", "endBatch", "()I"⟩ : Cond) ∈ zALL := List.mem_filter.mpr ⟨List.mem_append_right _ (List.mem_append_right _ (List.mem_append_left _ (List.mem_of_getElem? (l := tables_1_2) (i := 143) (by decide +kernel)))), by decide +kernel⟩
theorem t_20 : (Cond.instanceMethod ⟨"ShopLedger$Books", "endBatch", "()I"⟩ : Cond) ∈ zALL := List.mem_filter.mpr ⟨List.mem_append_right _ (List.mem_append_right _ (List.mem_append_left _ (List.mem_of_getElem? (l := tables_1_2) (i := 115) (by decide +kernel)))), by decide +kernel⟩
theorem t_21 : (Cond.selects "ShopLedger$Books" ⟨"ShopLedger$Books", "endBatch", "()I"⟩ ⟨"ShopLedger$Books", "endBatch", "()I"⟩ : Cond) ∈ zALL := List.mem_filter.mpr ⟨List.mem_append_right _ (List.mem_append_right _ (List.mem_append_left _ (List.mem_of_getElem? (l := tables_1_2) (i := 116) (by decide +kernel)))), by decide +kernel⟩
theorem t_22 : (Cond.fieldLink "ShopLedger$Books" 41 "ShopLedger$Books" "fixed" "[Z" : Cond) ∈ zALL := List.mem_filter.mpr ⟨List.mem_append_right _ (List.mem_append_left _ (List.mem_of_getElem? (l := tables_1_1) (i := 76) (by decide +kernel))), by decide +kernel⟩
theorem t_23 : (Cond.code ⟨"ShopLedger$Books", "enter", "(IIII)V"⟩ prog_2_method_2_code 5 none : Cond) ∈ zALL := List.mem_filter.mpr ⟨List.mem_append_right _ (List.mem_append_right _ (List.mem_append_left _ (List.mem_of_getElem? (l := tables_1_2) (i := 113) (by decide +kernel)))), by decide +kernel⟩
theorem t_24 : (Cond.methodLink "ShopLedger$Books" 48 ⟨"ShopLedger$Books", "enter", "(IIII)V"⟩ : Cond) ∈ zALL := List.mem_filter.mpr ⟨List.mem_append_right _ (List.mem_append_right _ (List.mem_append_left _ (List.mem_of_getElem? (l := tables_1_2) (i := 142) (by decide +kernel)))), by decide +kernel⟩
theorem t_25 : (Cond.instanceMethod ⟨"ShopLedger$Books", "enter", "(IIII)V"⟩ : Cond) ∈ zALL := List.mem_filter.mpr ⟨List.mem_append_right _ (List.mem_append_right _ (List.mem_append_left _ (List.mem_of_getElem? (l := tables_1_2) (i := 111) (by decide +kernel)))), by decide +kernel⟩
theorem t_26 : (Cond.selects "ShopLedger$Books" ⟨"ShopLedger$Books", "enter", "(IIII)V"⟩ ⟨"ShopLedger$Books", "enter", "(IIII)V"⟩ : Cond) ∈ zALL := List.mem_filter.mpr ⟨List.mem_append_right _ (List.mem_append_right _ (List.mem_append_left _ (List.mem_of_getElem? (l := tables_1_2) (i := 112) (by decide +kernel)))), by decide +kernel⟩
theorem t_27 : (Cond.fieldLink "ShopLedger$Stock" 9 "ShopLedger$Stock" "pieces" "[I" : Cond) ∈ zALL := List.mem_filter.mpr ⟨List.mem_append_right _ (List.mem_append_left _ (List.mem_of_getElem? (l := tables_1_1) (i := 112) (by decide +kernel))), by decide +kernel⟩
theorem t_28 : (Cond.fieldLink "ShopLedger$Stock" 18 "ShopLedger$Stock" "layers" "I" : Cond) ∈ zALL := List.mem_filter.mpr ⟨List.mem_append_right _ (List.mem_append_left _ (List.mem_of_getElem? (l := tables_1_1) (i := 114) (by decide +kernel))), by decide +kernel⟩
theorem t_29 : (Cond.fieldLink "ShopLedger$Stock" 15 "ShopLedger$Stock" "cents" "[I" : Cond) ∈ zALL := List.mem_filter.mpr ⟨List.mem_append_right _ (List.mem_append_left _ (List.mem_of_getElem? (l := tables_1_1) (i := 113) (by decide +kernel))), by decide +kernel⟩
theorem t_30 : (Cond.code ⟨"ShopLedger$Stock", "moveUp", "(I)V"⟩ prog_6_method_6_code 3 none : Cond) ∈ zALL := List.mem_filter.mpr ⟨List.mem_append_right _ (List.mem_append_right _ (List.mem_append_left _ (List.mem_of_getElem? (l := tables_1_2) (i := 225) (by decide +kernel)))), by decide +kernel⟩
theorem t_31 : (Cond.initialized "ShopLedger$Stock" : Cond) ∈ zALL := List.mem_filter.mpr ⟨List.mem_append_right _ (List.mem_append_left _ (List.mem_of_getElem? (l := tables_1_1) (i := 4) (by decide +kernel))), by decide +kernel⟩
theorem t_32 : (Cond.methodLink "ShopLedger$Stock" 28 ⟨"ShopLedger$Stock", "moveUp", "(I)V"⟩ : Cond) ∈ zALL := List.mem_filter.mpr ⟨List.mem_append_right _ (List.mem_append_right _ (List.mem_append_left _ (List.mem_of_getElem? (l := tables_1_2) (i := 222) (by decide +kernel)))), by decide +kernel⟩
theorem t_33 : (Cond.instanceMethod ⟨"ShopLedger$Stock", "moveUp", "(I)V"⟩ : Cond) ∈ zALL := List.mem_filter.mpr ⟨List.mem_append_right _ (List.mem_append_right _ (List.mem_append_left _ (List.mem_of_getElem? (l := tables_1_2) (i := 224) (by decide +kernel)))), by decide +kernel⟩
theorem t_34 : (Cond.selects "ShopLedger$Stock" ⟨"ShopLedger$Stock", "moveUp", "(I)V"⟩ ⟨"ShopLedger$Stock", "moveUp", "(I)V"⟩ : Cond) ∈ zALL := List.mem_filter.mpr ⟨List.mem_append_left _ (by decide +kernel), by decide +kernel⟩
theorem t_35 : (Cond.methodLink "ShopLedger$Stock" 22 ⟨"java/lang/Math", "min", "(II)I"⟩ : Cond) ∈ zALL := List.mem_filter.mpr ⟨List.mem_append_right _ (List.mem_append_right _ (List.mem_append_left _ (List.mem_of_getElem? (l := tables_1_2) (i := 219) (by decide +kernel)))), by decide +kernel⟩
theorem t_36 : (Cond.static ⟨"java/lang/Math", "min", "(II)I"⟩ : Cond) ∈ zALL := List.mem_filter.mpr ⟨List.mem_append_right _ (List.mem_append_right _ (List.mem_append_left _ (List.mem_of_getElem? (l := tables_1_2) (i := 220) (by decide +kernel)))), by decide +kernel⟩
theorem t_37 : (Cond.initialized "java/lang/Math" : Cond) ∈ zALL := List.mem_filter.mpr ⟨List.mem_append_right _ (List.mem_append_left _ (List.mem_of_getElem? (l := tables_1_1) (i := 15) (by decide +kernel))), by decide +kernel⟩
theorem t_38 : (Cond.fieldLink "ShopLedger$Money" 18 "ShopLedger$Money" "count" "I" : Cond) ∈ zALL := List.mem_filter.mpr ⟨List.mem_append_right _ (List.mem_append_left _ (List.mem_of_getElem? (l := tables_1_1) (i := 132) (by decide +kernel))), by decide +kernel⟩
theorem t_39 : (Cond.fieldLink "ShopLedger$Money" 9 "ShopLedger$Money" "day" "[I" : Cond) ∈ zALL := List.mem_filter.mpr ⟨List.mem_append_right _ (List.mem_append_left _ (List.mem_of_getElem? (l := tables_1_1) (i := 130) (by decide +kernel))), by decide +kernel⟩
theorem t_40 : (Cond.fieldLink "ShopLedger$Money" 15 "ShopLedger$Money" "cents" "[I" : Cond) ∈ zALL := List.mem_filter.mpr ⟨List.mem_append_right _ (List.mem_append_left _ (List.mem_of_getElem? (l := tables_1_1) (i := 131) (by decide +kernel))), by decide +kernel⟩
theorem t_41 : (Cond.fieldLink "ShopLedger$Pieces" 9 "ShopLedger$Pieces" "order" "[I" : Cond) ∈ zALL := List.mem_filter.mpr ⟨List.mem_append_right _ (List.mem_append_left _ (List.mem_of_getElem? (l := tables_1_1) (i := 147) (by decide +kernel))), by decide +kernel⟩
theorem t_42 : (Cond.fieldLink "ShopLedger$Pieces" 18 "ShopLedger$Pieces" "count" "I" : Cond) ∈ zALL := List.mem_filter.mpr ⟨List.mem_append_right _ (List.mem_append_left _ (List.mem_of_getElem? (l := tables_1_1) (i := 151) (by decide +kernel))), by decide +kernel⟩
theorem t_43 : (Cond.fieldLink "ShopLedger$Pieces" 15 "ShopLedger$Pieces" "weight" "[I" : Cond) ∈ zALL := List.mem_filter.mpr ⟨List.mem_append_right _ (List.mem_append_left _ (List.mem_of_getElem? (l := tables_1_1) (i := 149) (by decide +kernel))), by decide +kernel⟩
set_option maxHeartbeats 4000000 in
set_option maxRecDepth 100000 in
/-- Lines.add: one line more -/
theorem c_Lines_add {l : Launch} (D : zD) (h0 h1 h2 h3 h4 n : Nat) (fa fo fm fc : Nat → Int32) (p1 p2 p3 p4 : Int32) (sz : Nat) (hn : n < 16) : Met l yX1_add wsX1_add ({ frames := 0, cells := 0, slots := 0, locals := 0 }) (va_Pc [.ref h0, .int p1, .int p2, .int p3, .int p4] (zp D sz [(h0, .inr (1, [.ref h1, .ref h2, .ref h3, .ref h4, .int (nI n)])), (h1, .inl (D.2 0, 16, .inl fa)), (h2, .inl (D.2 0, 16, .inl fo)), (h3, .inl (D.2 0, 16, .inl fm)), (h4, .inl (D.2 0, 16, .inl fc))])) (va_Qi (fun r (_ : Unit) => r = nI (n + 1)) (zq D (va_A [(h0, .inr (1, [.ref h1, .ref h2, .ref h3, .ref h4, .int (nI n)])), (h1, .inl (D.2 0, 16, .inl fa)), (h2, .inl (D.2 0, 16, .inl fo)), (h3, .inl (D.2 0, 16, .inl fm)), (h4, .inl (D.2 0, 16, .inl fc))] sz) (fun (_ : Unit) => ([(h0, .inr (1, [.ref h1, .ref h2, .ref h3, .ref h4, .int (nI (n + 1))])), (h1, .inl (D.2 0, 16, .inl (upd fa n p1))), (h2, .inl (D.2 0, 16, .inl (upd fo n p2))), (h3, .inl (D.2 0, 16, .inl (upd fm n p3))), (h4, .inl (D.2 0, 16, .inl (upd fc n p4)))] : va_W))) (va_A [(h0, .inr (1, [.ref h1, .ref h2, .ref h3, .ref h4, .int (nI n)])), (h1, .inl (D.2 0, 16, .inl fa)), (h2, .inl (D.2 0, 16, .inl fo)), (h3, .inl (D.2 0, 16, .inl fm)), (h4, .inl (D.2 0, 16, .inl fc))] sz)) 0 0 (va_A [(h0, .inr (1, [.ref h1, .ref h2, .ref h3, .ref h4, .int (nI n)])), (h1, .inl (D.2 0, 16, .inl fa)), (h2, .inl (D.2 0, 16, .inl fo)), (h3, .inl (D.2 0, 16, .inl fm)), (h4, .inl (D.2 0, 16, .inl fc))] sz) := by
  refine Met.ofW (cc := cX1_add) (maxL := 5) (ret := (some .int)) (by decide) rfl ?_
  intro p e s m args below meth c s₁ B hml hv
  obtain ⟨rfl, hsz, hP, hK, hD0, hB⟩ := hv
  have hx := B.exec
  have hb := B.bytes
  have hr := B.returns
  have hts := atoms_spec (ws := wsX1_add) B.pre
  have hown : s.vm.findClass "ShopLedger$Lines" = some m.cls := findClass_of_methodNamed B.named
  have hlocks := B.notSynchronized
  subst hsz
  have hD := hD0.self (sz := s.heap.size)
  generalize hAe : va_A [(h0, .inr (1, [.ref h1, .ref h2, .ref h3, .ref h4, .int (nI n)])), (h1, .inl (D.2 0, 16, .inl fa)), (h2, .inl (D.2 0, 16, .inl fo)), (h3, .inl (D.2 0, 16, .inl fm)), (h4, .inl (D.2 0, 16, .inl fc))] s.heap.size = A at hD hB ⊢
  have hA : ∀ q : Nat, s.heap.size ≤ q → A q := fun q h => by rw [← hAe]; exact Or.inr h
  have hS : va_S A s.heap s.heap [] := va_S.rf
  have hZ : ∀ w ∈ zALL, w.before _ s = true := fun w h => hts w (List.mem_cons_of_mem _ h)
  have hF : CallFix p m c cX1_add 5 s _ zALL "ShopLedger$Lines" := ⟨hx, hb, hml, hown, hZ⟩
  have hl := lv_entry ([.ref h0, .int p1, .int p2, .int p3, .int p4]) (n := 5) (Nat.le_of_ble_eq_true rfl)
  rw [lg_entry_eq]
  generalize (lg_sl ([.ref h0, .int p1, .int p2, .int p3, .int p4]) ++ List.replicate (5 - (lg_sl ([.ref h0, .int p1, .int p2, .int p3, .int p4])).length) Slot.unset).toArray = ls at hl ⊢
  have hl : lv_has ls 5 [(0, .ref h0), (1, .int p1), (2, .int p2), (3, .int p3), (4, .int p4)] := hl
  refine lv_aload_n hx hb dX1_add_0 rfl (lv_at hl 0 rfl) ?_
  refine va_get (D := D.1) (ci := 1) (v := .ref h1) (C := "ShopLedger$Lines") (T := TX1) (N := 5) hx hb hZ inX1 hown hK hP 0 rfl rfl 0 (by decide) (hZ _ t_2) (fun _ h9 => h9) rfl dX1_add_1 ?_
  refine lv_aload_n hx hb dX1_add_4 rfl (lv_at hl 0 rfl) ?_
  refine va_get (D := D.1) (ci := 1) (v := .int (nI n)) (C := "ShopLedger$Lines") (T := TX1) (N := 5) hx hb hZ inX1 hown hK hP 0 rfl rfl 4 (by decide) (hZ _ t_3) (fun _ h9 => h9) rfl dX1_add_5 ?_
  refine lv_iload_n hx hb dX1_add_8 rfl (lv_at hl 1 rfl) ?_
  refine z_iast (k := n) hx hb hK hP hD hS 1 rfl (hn) (by decide) dX1_add_9 (fun H locs hP hD hS => ?_)
  have hP : va_P D.1 vwCl [(h0, .inr (1, [.ref h1, .ref h2, .ref h3, .ref h4, .int (nI n)])), (h1, .inl (D.2 0, 16, .inl (upd fa n p1))), (h2, .inl (D.2 0, 16, .inl fo)), (h3, .inl (D.2 0, 16, .inl fm)), (h4, .inl (D.2 0, 16, .inl fc))] H := hP
  have hD : va_D A [(h0, .inr (1, [.ref h1, .ref h2, .ref h3, .ref h4, .int (nI n)])), (h1, .inl (D.2 0, 16, .inl (upd fa n p1))), (h2, .inl (D.2 0, 16, .inl fo)), (h3, .inl (D.2 0, 16, .inl fm)), (h4, .inl (D.2 0, 16, .inl fc))] := hD
  refine lv_aload_n hx hb dX1_add_10 rfl (lv_at hl 0 rfl) ?_
  refine va_get (D := D.1) (ci := 1) (v := .ref h2) (C := "ShopLedger$Lines") (T := TX1) (N := 5) hx hb hZ inX1 hown hK hP 0 rfl rfl 1 (by decide) (hZ _ t_4) (fun _ h9 => h9) rfl dX1_add_11 ?_
  refine lv_aload_n hx hb dX1_add_14 rfl (lv_at hl 0 rfl) ?_
  refine va_get (D := D.1) (ci := 1) (v := .int (nI n)) (C := "ShopLedger$Lines") (T := TX1) (N := 5) hx hb hZ inX1 hown hK hP 0 rfl rfl 4 (by decide) (hZ _ t_3) (fun _ h9 => h9) rfl dX1_add_15 ?_
  refine lv_iload_n hx hb dX1_add_18 rfl (lv_at hl 2 rfl) ?_
  refine z_iast (k := n) hx hb hK hP hD hS 2 rfl (hn) (by decide) dX1_add_19 (fun H locs hP hD hS => ?_)
  have hP : va_P D.1 vwCl [(h0, .inr (1, [.ref h1, .ref h2, .ref h3, .ref h4, .int (nI n)])), (h1, .inl (D.2 0, 16, .inl (upd fa n p1))), (h2, .inl (D.2 0, 16, .inl (upd fo n p2))), (h3, .inl (D.2 0, 16, .inl fm)), (h4, .inl (D.2 0, 16, .inl fc))] H := hP
  have hD : va_D A [(h0, .inr (1, [.ref h1, .ref h2, .ref h3, .ref h4, .int (nI n)])), (h1, .inl (D.2 0, 16, .inl (upd fa n p1))), (h2, .inl (D.2 0, 16, .inl (upd fo n p2))), (h3, .inl (D.2 0, 16, .inl fm)), (h4, .inl (D.2 0, 16, .inl fc))] := hD
  refine lv_aload_n hx hb dX1_add_20 rfl (lv_at hl 0 rfl) ?_
  refine va_get (D := D.1) (ci := 1) (v := .ref h3) (C := "ShopLedger$Lines") (T := TX1) (N := 5) hx hb hZ inX1 hown hK hP 0 rfl rfl 2 (by decide) (hZ _ t_5) (fun _ h9 => h9) rfl dX1_add_21 ?_
  refine lv_aload_n hx hb dX1_add_24 rfl (lv_at hl 0 rfl) ?_
  refine va_get (D := D.1) (ci := 1) (v := .int (nI n)) (C := "ShopLedger$Lines") (T := TX1) (N := 5) hx hb hZ inX1 hown hK hP 0 rfl rfl 4 (by decide) (hZ _ t_3) (fun _ h9 => h9) rfl dX1_add_25 ?_
  refine lv_iload_n hx hb dX1_add_28 rfl (lv_at hl 3 rfl) ?_
  refine z_iast (k := n) hx hb hK hP hD hS 3 rfl (hn) (by decide) dX1_add_29 (fun H locs hP hD hS => ?_)
  have hP : va_P D.1 vwCl [(h0, .inr (1, [.ref h1, .ref h2, .ref h3, .ref h4, .int (nI n)])), (h1, .inl (D.2 0, 16, .inl (upd fa n p1))), (h2, .inl (D.2 0, 16, .inl (upd fo n p2))), (h3, .inl (D.2 0, 16, .inl (upd fm n p3))), (h4, .inl (D.2 0, 16, .inl fc))] H := hP
  have hD : va_D A [(h0, .inr (1, [.ref h1, .ref h2, .ref h3, .ref h4, .int (nI n)])), (h1, .inl (D.2 0, 16, .inl (upd fa n p1))), (h2, .inl (D.2 0, 16, .inl (upd fo n p2))), (h3, .inl (D.2 0, 16, .inl (upd fm n p3))), (h4, .inl (D.2 0, 16, .inl fc))] := hD
  refine lv_aload_n hx hb dX1_add_30 rfl (lv_at hl 0 rfl) ?_
  refine va_get (D := D.1) (ci := 1) (v := .ref h4) (C := "ShopLedger$Lines") (T := TX1) (N := 5) hx hb hZ inX1 hown hK hP 0 rfl rfl 3 (by decide) (hZ _ t_6) (fun _ h9 => h9) rfl dX1_add_31 ?_
  refine lv_aload_n hx hb dX1_add_34 rfl (lv_at hl 0 rfl) ?_
  refine va_get (D := D.1) (ci := 1) (v := .int (nI n)) (C := "ShopLedger$Lines") (T := TX1) (N := 5) hx hb hZ inX1 hown hK hP 0 rfl rfl 4 (by decide) (hZ _ t_3) (fun _ h9 => h9) rfl dX1_add_35 ?_
  refine lv_iload hx hb dX1_add_38 (lv_at hl 4 rfl) ?_
  refine z_iast (k := n) hx hb hK hP hD hS 4 rfl (hn) (by decide) dX1_add_40 (fun H locs hP hD hS => ?_)
  have hP : va_P D.1 vwCl [(h0, .inr (1, [.ref h1, .ref h2, .ref h3, .ref h4, .int (nI n)])), (h1, .inl (D.2 0, 16, .inl (upd fa n p1))), (h2, .inl (D.2 0, 16, .inl (upd fo n p2))), (h3, .inl (D.2 0, 16, .inl (upd fm n p3))), (h4, .inl (D.2 0, 16, .inl (upd fc n p4)))] H := hP
  have hD : va_D A [(h0, .inr (1, [.ref h1, .ref h2, .ref h3, .ref h4, .int (nI n)])), (h1, .inl (D.2 0, 16, .inl (upd fa n p1))), (h2, .inl (D.2 0, 16, .inl (upd fo n p2))), (h3, .inl (D.2 0, 16, .inl (upd fm n p3))), (h4, .inl (D.2 0, 16, .inl (upd fc n p4)))] := hD
  refine lv_aload_n hx hb dX1_add_41 rfl (lv_at hl 0 rfl) ?_
  refine lv_dup hx hb dX1_add_42 rfl ?_
  refine va_get (D := D.1) (ci := 1) (v := .int (nI n)) (C := "ShopLedger$Lines") (T := TX1) (N := 5) hx hb hZ inX1 hown hK hP 0 rfl rfl 4 (by decide) (hZ _ t_3) (fun _ h9 => h9) rfl dX1_add_43 ?_
  refine lv_iconst (v := 1) hx hb dX1_add_46 (by decide) ?_
  refine lv_iadd hx hb dX1_add_47 ?_
  rw [show ((nI n) + 1) = nI (n + 1) from nI_1 n]
  refine va_put (D := D.1) (ci := 1) (v := .int (nI (n + 1))) (ty := .int) (C := "ShopLedger$Lines") (T := TX1) (N := 5) hx hb hZ inX1 tyX1 tyX1_ok nmX1 hown hK hP hD hS 0 rfl rfl 4 (by decide) (hZ _ t_3) (fun _ h9 => h9) rfl (by decide +kernel) rfl rfl (Nat.le_of_ble_eq_true rfl) dX1_add_48 (fun H locs hP hD hS => ?_)
  have hP : va_P D.1 vwCl [(h0, .inr (1, [.ref h1, .ref h2, .ref h3, .ref h4, .int (nI (n + 1))])), (h1, .inl (D.2 0, 16, .inl (upd fa n p1))), (h2, .inl (D.2 0, 16, .inl (upd fo n p2))), (h3, .inl (D.2 0, 16, .inl (upd fm n p3))), (h4, .inl (D.2 0, 16, .inl (upd fc n p4)))] H := hP
  have hD : va_D A [(h0, .inr (1, [.ref h1, .ref h2, .ref h3, .ref h4, .int (nI (n + 1))])), (h1, .inl (D.2 0, 16, .inl (upd fa n p1))), (h2, .inl (D.2 0, 16, .inl (upd fo n p2))), (h3, .inl (D.2 0, 16, .inl (upd fm n p3))), (h4, .inl (D.2 0, 16, .inl (upd fc n p4)))] := hD
  refine lv_aload_n hx hb dX1_add_51 rfl (lv_at hl 0 rfl) ?_
  refine va_get (D := D.1) (ci := 1) (v := .int (nI (n + 1))) (C := "ShopLedger$Lines") (T := TX1) (N := 5) hx hb hZ inX1 hown hK hP 0 rfl rfl 4 (by decide) (hZ _ t_3) (fun _ h9 => h9) rfl dX1_add_52 ?_
  exact z_iret (v := nI (n + 1)) hx hb hr hlocks hP hD hS () (rfl) [0, 1, 2, 3, 4] rfl (by decide) (Nat.le_of_ble_eq_true rfl) (Nat.le_of_ble_eq_true rfl) dX1_add_55
set_option maxHeartbeats 4000000 in
set_option maxRecDepth 100000 in
/-- Lines.anyBefore: is a line of a month ahead of cl -/
theorem c_Lines_any {l : Launch} (D : zD) (h0 h1 h2 h3 h4 n : Nat) (fa fo fm fc : Nat → Int32) (cl : Int32) (t : Nat) (sz : Nat) (ht : t ≤ 16) : Met l yX1_anyBefore wsX1_anyBefore ({ frames := 0, cells := 0, slots := 0, locals := 0 }) (va_Pc [.ref h0, .int cl, .int (nI t)] (zp D sz [(h0, .inr (1, [.ref h1, .ref h2, .ref h3, .ref h4, .int (nI n)])), (h3, .inl (D.2 0, 16, .inl fm))])) (va_Qi (fun r (_ : Unit) => (r = 1 ∧ ∃ i, i < t ∧ fm i < cl) ∨ (r = 0 ∧ ∀ i, i < t → ¬ fm i < cl)) (zq D (va_A [(h0, .inr (1, [.ref h1, .ref h2, .ref h3, .ref h4, .int (nI n)])), (h3, .inl (D.2 0, 16, .inl fm))] sz) (fun (_ : Unit) => ([(h0, .inr (1, [.ref h1, .ref h2, .ref h3, .ref h4, .int (nI n)])), (h3, .inl (D.2 0, 16, .inl fm))] : va_W))) (va_A [(h0, .inr (1, [.ref h1, .ref h2, .ref h3, .ref h4, .int (nI n)])), (h3, .inl (D.2 0, 16, .inl fm))] sz)) 0 0 (va_A [(h0, .inr (1, [.ref h1, .ref h2, .ref h3, .ref h4, .int (nI n)])), (h3, .inl (D.2 0, 16, .inl fm))] sz) := by
  refine Met.ofW (cc := cX1_anyBefore) (maxL := 4) (ret := (some .boolean)) (by decide) rfl ?_
  intro p e s m args below meth c s₁ B hml hv
  obtain ⟨rfl, hsz, hP, hK, hD0, hB⟩ := hv
  have hx := B.exec
  have hb := B.bytes
  have hr := B.returns
  have hts := atoms_spec (ws := wsX1_anyBefore) B.pre
  have hown : s.vm.findClass "ShopLedger$Lines" = some m.cls := findClass_of_methodNamed B.named
  have hlocks := B.notSynchronized
  subst hsz
  have hD := hD0.self (sz := s.heap.size)
  generalize hAe : va_A [(h0, .inr (1, [.ref h1, .ref h2, .ref h3, .ref h4, .int (nI n)])), (h3, .inl (D.2 0, 16, .inl fm))] s.heap.size = A at hD hB ⊢
  have hA : ∀ q : Nat, s.heap.size ≤ q → A q := fun q h => by rw [← hAe]; exact Or.inr h
  have hS : va_S A s.heap s.heap [] := va_S.rf
  have hZ : ∀ w ∈ zALL, w.before _ s = true := fun w h => hts w (List.mem_cons_of_mem _ h)
  have hF : CallFix p m c cX1_anyBefore 4 s _ zALL "ShopLedger$Lines" := ⟨hx, hb, hml, hown, hZ⟩
  have hl := lv_entry ([.ref h0, .int cl, .int (nI t)]) (n := 4) (Nat.le_of_ble_eq_true rfl)
  rw [lg_entry_eq]
  generalize (lg_sl ([.ref h0, .int cl, .int (nI t)]) ++ List.replicate (4 - (lg_sl ([.ref h0, .int cl, .int (nI t)])).length) Slot.unset).toArray = ls at hl ⊢
  have hl : lv_has ls 4 [(0, .ref h0), (1, .int cl), (2, .int (nI t))] := hl
  refine lv_iconst (v := 0) hx hb dX1_anyBefore_0 (by decide) ?_
  refine lv_istore_n (lv' := [(3, .int 0), (0, .ref h0), (1, .int cl), (2, .int (nI t))]) hx hb dX1_anyBefore_1 rfl hl (by decide) rfl (fun ls hl => ?_)
  have lo1 : ∀ (nn : Nat) (k : Nat), k ≤ t → t + 1 ≤ k + nn → (∀ i, i < k → ¬ fm i < cl) → ∀ (H : Heap) (locs : List Loc), va_P D.1 vwCl [(h0, .inr (1, [.ref h1, .ref h2, .ref h3, .ref h4, .int (nI n)])), (h3, .inl (D.2 0, 16, .inl fm))] H → va_D A [(h0, .inr (1, [.ref h1, .ref h2, .ref h3, .ref h4, .int (nI n)])), (h3, .inl (D.2 0, 16, .inl fm))] → va_S A s.heap H locs → ∀ (ls : Array Slot), lv_has ls 4 [(0, .ref h0), (1, .int cl), (2, .int (nI t)), (3, .int (nI k))] → W p l e (headSpec wsX1_anyBefore ({ frames := 0, cells := 0, slots := 0, locals := 0 })).room s m [.ref h0, .int cl, .int (nI t)].toArray below meth c H locs 0 0 (MQ below (va_Qi (fun r (_ : Unit) => (r = 1 ∧ ∃ i, i < t ∧ fm i < cl) ∨ (r = 0 ∧ ∀ i, i < t → ¬ fm i < cl)) (zq D A (fun (_ : Unit) => ([(h0, .inr (1, [.ref h1, .ref h2, .ref h3, .ref h4, .int (nI n)])), (h3, .inl (D.2 0, 16, .inl fm))] : va_W))) A) [.ref h0, .int cl, .int (nI t)].toArray s 0 0 A) (F0 m 2 ls []) := by
    intro nn
    induction nn with
    | zero =>
      intro k q1 q2 q3
      exfalso
      omega
    | succ nn ih_lo1 =>
      intro k q1 q2 q3 H locs hP hD hS ls hl
      refine lv_iload_n hx hb dX1_anyBefore_2 rfl (lv_at hl 3 rfl) ?_
      refine lv_iload_n hx hb dX1_anyBefore_3 rfl (lv_at hl 2 rfl) ?_
      refine lv_icmp_ge (tgt := 25) hx hb dX1_anyBefore_4 (by decide) (fun c1 => ?_) (fun c1 => ?_)
      · skip
        have e9 : t = k := (z_ge q1 (by omega) c1).symm
        subst e9
        refine lv_iconst (v := 0) hx hb dX1_anyBefore_25 (by decide) ?_
        exact z_zret (v := 0) hx hb hr hlocks (by first | rfl | decide) hP hD hS () (Or.inr ⟨rfl, q3⟩) [0, 1] rfl (by decide) (Nat.le_of_ble_eq_true rfl) (Nat.le_of_ble_eq_true rfl) dX1_anyBefore_26
      have hk : k < t := z_lt q1 (by omega) c1
      refine lv_aload_n hx hb dX1_anyBefore_7 rfl (lv_at hl 0 rfl) ?_
      refine va_get (D := D.1) (ci := 1) (v := .ref h3) (C := "ShopLedger$Lines") (T := TX1) (N := 5) hx hb hZ inX1 hown hK hP 0 rfl rfl 2 (by decide) (hZ _ t_5) (fun _ h9 => h9) rfl dX1_anyBefore_8 ?_
      refine lv_iload_n hx hb dX1_anyBefore_11 rfl (lv_at hl 3 rfl) ?_
      refine z_iald (k := k) hx hb hK hP 1 rfl (Nat.lt_of_lt_of_le hk ht) (by decide) dX1_anyBefore_12 ?_
      refine lv_iload_n hx hb dX1_anyBefore_13 rfl (lv_at hl 1 rfl) ?_
      refine lv_icmp_ge (tgt := 19) hx hb dX1_anyBefore_14 (by decide) (fun c2 => ?_) (fun c2 => ?_)
      · skip
        refine lv_iinc (v := nI (k + 1)) (lv' := [(3, .int (nI (k + 1))), (0, .ref h0), (1, .int cl), (2, .int (nI t))]) hx hb dX1_anyBefore_19 hl (k := 3) rfl (nI_1 k) (by decide) rfl (fun ls hl => ?_)
        refine lv_goto (tgt := 2) hx hb dX1_anyBefore_22 (by decide) ?_
        exact ih_lo1 (k + 1) (Nat.succ_le_of_lt hk) (by omega) (lt_s q3 (Int32.not_lt.mpr c2)) _ _ (hP.sub [0, 1] rfl) (hD.sub [0, 1] (by decide) rfl) hS ls (lv_sub hl [1, 2, 3, 0] rfl)
      refine lv_iconst (v := 1) hx hb dX1_anyBefore_17 (by decide) ?_
      exact z_zret (v := 1) hx hb hr hlocks (by first | rfl | decide) hP hD hS () (Or.inl ⟨rfl, k, hk, Int32.not_le.mp c2⟩) [0, 1] rfl (by decide) (Nat.le_of_ble_eq_true rfl) (Nat.le_of_ble_eq_true rfl) dX1_anyBefore_18
  exact lo1 (t + 1) 0 (Nat.zero_le _) (by omega) (fun i h => absurd h (Nat.not_lt_zero i)) _ _ (hP.sub [0, 1] rfl) (hD.sub [0, 1] (by decide) rfl) hS ls (lv_sub hl [1, 2, 3, 0] rfl)
set_option maxHeartbeats 4000000 in
set_option maxRecDepth 100000 in
/-- Lines.sum: the first t lines together -/
theorem c_Lines_sum {l : Launch} (D : zD) (h0 h1 h2 h3 h4 n : Nat) (fa fo fm fc : Nat → Int32) (t : Nat) (sz : Nat) (ht : t ≤ 16) : Met l yX1_sum wsX1_sum ({ frames := 0, cells := 0, slots := 0, locals := 0 }) (va_Pc [.ref h0, .int (nI t)] (zp D sz [(h0, .inr (1, [.ref h1, .ref h2, .ref h3, .ref h4, .int (nI n)])), (h4, .inl (D.2 0, 16, .inl fc))])) (va_Ql (fun r (_ : Unit) => r = zs_lsum fc t) (zq D (va_A [(h0, .inr (1, [.ref h1, .ref h2, .ref h3, .ref h4, .int (nI n)])), (h4, .inl (D.2 0, 16, .inl fc))] sz) (fun (_ : Unit) => ([(h0, .inr (1, [.ref h1, .ref h2, .ref h3, .ref h4, .int (nI n)])), (h4, .inl (D.2 0, 16, .inl fc))] : va_W))) (va_A [(h0, .inr (1, [.ref h1, .ref h2, .ref h3, .ref h4, .int (nI n)])), (h4, .inl (D.2 0, 16, .inl fc))] sz)) 0 0 (va_A [(h0, .inr (1, [.ref h1, .ref h2, .ref h3, .ref h4, .int (nI n)])), (h4, .inl (D.2 0, 16, .inl fc))] sz) := by
  refine Met.ofW (cc := cX1_sum) (maxL := 5) (ret := (some .long)) (by decide) rfl ?_
  intro p e s m args below meth c s₁ B hml hv
  obtain ⟨rfl, hsz, hP, hK, hD0, hB⟩ := hv
  have hx := B.exec
  have hb := B.bytes
  have hr := B.returns
  have hts := atoms_spec (ws := wsX1_sum) B.pre
  have hown : s.vm.findClass "ShopLedger$Lines" = some m.cls := findClass_of_methodNamed B.named
  have hlocks := B.notSynchronized
  subst hsz
  have hD := hD0.self (sz := s.heap.size)
  generalize hAe : va_A [(h0, .inr (1, [.ref h1, .ref h2, .ref h3, .ref h4, .int (nI n)])), (h4, .inl (D.2 0, 16, .inl fc))] s.heap.size = A at hD hB ⊢
  have hA : ∀ q : Nat, s.heap.size ≤ q → A q := fun q h => by rw [← hAe]; exact Or.inr h
  have hS : va_S A s.heap s.heap [] := va_S.rf
  have hZ : ∀ w ∈ zALL, w.before _ s = true := fun w h => hts w (List.mem_cons_of_mem _ h)
  have hF : CallFix p m c cX1_sum 5 s _ zALL "ShopLedger$Lines" := ⟨hx, hb, hml, hown, hZ⟩
  have hl := lv_entry ([.ref h0, .int (nI t)]) (n := 5) (Nat.le_of_ble_eq_true rfl)
  rw [lg_entry_eq]
  generalize (lg_sl ([.ref h0, .int (nI t)]) ++ List.replicate (5 - (lg_sl ([.ref h0, .int (nI t)])).length) Slot.unset).toArray = ls at hl ⊢
  have hl : lv_has ls 5 [(0, .ref h0), (1, .int (nI t))] := hl
  refine lv_lconst (v := 0) hx hb dX1_sum_0 (by decide) ?_
  refine lv_lstore_n (lv' := [(2, .long 0), (0, .ref h0), (1, .int (nI t))]) hx hb dX1_sum_1 rfl hl (by decide) rfl (fun ls hl => ?_)
  refine lv_iconst (v := 0) hx hb dX1_sum_2 (by decide) ?_
  refine lv_istore (lv' := [(4, .int 0), (2, .long 0), (0, .ref h0), (1, .int (nI t))]) hx hb dX1_sum_3 hl (by decide) rfl (fun ls hl => ?_)
  have lo1 : ∀ (nn : Nat) (k : Nat), k ≤ t → t + 1 ≤ k + nn → ∀ (H : Heap) (locs : List Loc), va_P D.1 vwCl [(h0, .inr (1, [.ref h1, .ref h2, .ref h3, .ref h4, .int (nI n)])), (h4, .inl (D.2 0, 16, .inl fc))] H → va_D A [(h0, .inr (1, [.ref h1, .ref h2, .ref h3, .ref h4, .int (nI n)])), (h4, .inl (D.2 0, 16, .inl fc))] → va_S A s.heap H locs → ∀ (ls : Array Slot), lv_has ls 5 [(0, .ref h0), (1, .int (nI t)), (2, .long (zs_lsum fc k)), (4, .int (nI k))] → W p l e (headSpec wsX1_sum ({ frames := 0, cells := 0, slots := 0, locals := 0 })).room s m [.ref h0, .int (nI t)].toArray below meth c H locs 0 0 (MQ below (va_Ql (fun r (_ : Unit) => r = zs_lsum fc t) (zq D A (fun (_ : Unit) => ([(h0, .inr (1, [.ref h1, .ref h2, .ref h3, .ref h4, .int (nI n)])), (h4, .inl (D.2 0, 16, .inl fc))] : va_W))) A) [.ref h0, .int (nI t)].toArray s 0 0 A) (F0 m 5 ls []) := by
    intro nn
    induction nn with
    | zero =>
      intro k q1 q2
      exfalso
      omega
    | succ nn ih_lo1 =>
      intro k q1 q2 H locs hP hD hS ls hl
      refine lv_iload hx hb dX1_sum_5 (lv_at hl 3 rfl) ?_
      refine lv_iload_n hx hb dX1_sum_7 rfl (lv_at hl 1 rfl) ?_
      refine lv_icmp_ge (tgt := 28) hx hb dX1_sum_8 (by decide) (fun c1 => ?_) (fun c1 => ?_)
      · skip
        have e9 : t = k := (z_ge q1 (by omega) c1).symm
        subst e9
        refine lv_lload_n hx hb dX1_sum_28 rfl (lv_at hl 2 rfl) ?_
        exact z_lret (v := zs_lsum fc t) hx hb hr hlocks hP hD hS () (rfl) [0, 1] rfl (by decide) (Nat.le_of_ble_eq_true rfl) (Nat.le_of_ble_eq_true rfl) dX1_sum_29
      have hk : k < t := z_lt q1 (by omega) c1
      refine lv_lload_n hx hb dX1_sum_11 rfl (lv_at hl 2 rfl) ?_
      refine lv_aload_n hx hb dX1_sum_12 rfl (lv_at hl 0 rfl) ?_
      refine va_get (D := D.1) (ci := 1) (v := .ref h4) (C := "ShopLedger$Lines") (T := TX1) (N := 5) hx hb hZ inX1 hown hK hP 0 rfl rfl 3 (by decide) (hZ _ t_6) (fun _ h9 => h9) rfl dX1_sum_13 ?_
      refine lv_iload hx hb dX1_sum_16 (lv_at hl 3 rfl) ?_
      refine z_iald (k := k) hx hb hK hP 1 rfl (Nat.lt_of_lt_of_le hk ht) (by decide) dX1_sum_18 ?_
      refine lv_i2l (v := (fc k).toInt64) hx hb dX1_sum_19 rfl ?_
      refine lv_ladd hx hb dX1_sum_20 ?_
      rw [show ((zs_lsum fc k) + ((fc k).toInt64)) = zs_lsum fc (k + 1) from rfl]
      refine lv_lstore_n (lv' := [(2, .long (zs_lsum fc (k + 1))), (0, .ref h0), (1, .int (nI t)), (4, .int (nI k))]) hx hb dX1_sum_21 rfl hl (by decide) rfl (fun ls hl => ?_)
      refine lv_iinc (v := nI (k + 1)) (lv' := [(4, .int (nI (k + 1))), (2, .long (zs_lsum fc (k + 1))), (0, .ref h0), (1, .int (nI t))]) hx hb dX1_sum_22 hl (k := 3) rfl (nI_1 k) (by decide) rfl (fun ls hl => ?_)
      refine lv_goto (tgt := 5) hx hb dX1_sum_25 (by decide) ?_
      exact ih_lo1 (k + 1) (Nat.succ_le_of_lt hk) (by omega)  _ _ (hP.sub [0, 1] rfl) (hD.sub [0, 1] (by decide) rfl) hS ls (lv_sub hl [2, 3, 1, 0] rfl)
  exact lo1 (t + 1) 0 (Nat.zero_le _) (by omega)  _ _ (hP.sub [0, 1] rfl) (hD.sub [0, 1] (by decide) rfl) hS ls (lv_sub hl [2, 3, 1, 0] rfl)
set_option maxHeartbeats 4000000 in
set_option maxRecDepth 100000 in
/-- Books.enter: one entry more -/
theorem c_Books_enter {l : Launch} (D : zD) (b0 b1 b2 b3 b4 b5 b6 b7 b8 b9 : Nat) (E : zE) (bt : Nat) (oa oo om x : Int32) (sz : Nat) (hn : E.1 < 200) (h1 : vp_in oa 8) (h2 : vp_in oo 8) (h3 : vp_in om 12) : Met l yX0_enter wsX0_enter ({ frames := 0, cells := 0, slots := 0, locals := 0 }) (va_Pc [.ref b0, .int oa, .int oo, .int om, .int x] (zp D sz [(b0, .inr (0, [.ref b1, .ref b2, .ref b3, .ref b4, .ref b5, .int (nI E.1), .ref b6, .ref b7, .ref b8, .ref b9, .int (nI bt)])), (b1, .inl (D.2 0, 200, .inl E.2.1)), (b2, .inl (D.2 0, 200, .inl E.2.2.1)), (b3, .inl (D.2 0, 200, .inl E.2.2.2.1)), (b4, .inl (D.2 0, 200, .inl E.2.2.2.2.1)), (b5, .inl (D.2 0, 200, .inl E.2.2.2.2.2.1)), (b6, .inl (D.2 1, 8, .inr (.inl E.2.2.2.2.2.2.1))), (b7, .inl (D.2 1, 8, .inr (.inl E.2.2.2.2.2.2.2.1))), (b8, .inl (D.2 1, 12, .inr (.inl E.2.2.2.2.2.2.2.2)))])) (va_Qv (fun (_ : Unit) => True) (zq D (va_A [(b0, .inr (0, [.ref b1, .ref b2, .ref b3, .ref b4, .ref b5, .int (nI E.1), .ref b6, .ref b7, .ref b8, .ref b9, .int (nI bt)])), (b1, .inl (D.2 0, 200, .inl E.2.1)), (b2, .inl (D.2 0, 200, .inl E.2.2.1)), (b3, .inl (D.2 0, 200, .inl E.2.2.2.1)), (b4, .inl (D.2 0, 200, .inl E.2.2.2.2.1)), (b5, .inl (D.2 0, 200, .inl E.2.2.2.2.2.1)), (b6, .inl (D.2 1, 8, .inr (.inl E.2.2.2.2.2.2.1))), (b7, .inl (D.2 1, 8, .inr (.inl E.2.2.2.2.2.2.2.1))), (b8, .inl (D.2 1, 12, .inr (.inl E.2.2.2.2.2.2.2.2)))] sz) (fun (_ : Unit) => ([(b0, .inr (0, [.ref b1, .ref b2, .ref b3, .ref b4, .ref b5, .int (nI (zs_enter E (nI bt) oa oo om x).1), .ref b6, .ref b7, .ref b8, .ref b9, .int (nI bt)])), (b1, .inl (D.2 0, 200, .inl ((zs_enter E (nI bt) oa oo om x).2.1))), (b2, .inl (D.2 0, 200, .inl ((zs_enter E (nI bt) oa oo om x).2.2.1))), (b3, .inl (D.2 0, 200, .inl ((zs_enter E (nI bt) oa oo om x).2.2.2.1))), (b4, .inl (D.2 0, 200, .inl ((zs_enter E (nI bt) oa oo om x).2.2.2.2.1))), (b5, .inl (D.2 0, 200, .inl ((zs_enter E (nI bt) oa oo om x).2.2.2.2.2.1))), (b6, .inl (D.2 1, 8, .inr (.inl ((zs_enter E (nI bt) oa oo om x).2.2.2.2.2.2.1)))), (b7, .inl (D.2 1, 8, .inr (.inl ((zs_enter E (nI bt) oa oo om x).2.2.2.2.2.2.2.1)))), (b8, .inl (D.2 1, 12, .inr (.inl ((zs_enter E (nI bt) oa oo om x).2.2.2.2.2.2.2.2))))] : va_W))) (va_A [(b0, .inr (0, [.ref b1, .ref b2, .ref b3, .ref b4, .ref b5, .int (nI E.1), .ref b6, .ref b7, .ref b8, .ref b9, .int (nI bt)])), (b1, .inl (D.2 0, 200, .inl E.2.1)), (b2, .inl (D.2 0, 200, .inl E.2.2.1)), (b3, .inl (D.2 0, 200, .inl E.2.2.2.1)), (b4, .inl (D.2 0, 200, .inl E.2.2.2.2.1)), (b5, .inl (D.2 0, 200, .inl E.2.2.2.2.2.1)), (b6, .inl (D.2 1, 8, .inr (.inl E.2.2.2.2.2.2.1))), (b7, .inl (D.2 1, 8, .inr (.inl E.2.2.2.2.2.2.2.1))), (b8, .inl (D.2 1, 12, .inr (.inl E.2.2.2.2.2.2.2.2)))] sz)) 0 0 (va_A [(b0, .inr (0, [.ref b1, .ref b2, .ref b3, .ref b4, .ref b5, .int (nI E.1), .ref b6, .ref b7, .ref b8, .ref b9, .int (nI bt)])), (b1, .inl (D.2 0, 200, .inl E.2.1)), (b2, .inl (D.2 0, 200, .inl E.2.2.1)), (b3, .inl (D.2 0, 200, .inl E.2.2.2.1)), (b4, .inl (D.2 0, 200, .inl E.2.2.2.2.1)), (b5, .inl (D.2 0, 200, .inl E.2.2.2.2.2.1)), (b6, .inl (D.2 1, 8, .inr (.inl E.2.2.2.2.2.2.1))), (b7, .inl (D.2 1, 8, .inr (.inl E.2.2.2.2.2.2.2.1))), (b8, .inl (D.2 1, 12, .inr (.inl E.2.2.2.2.2.2.2.2)))] sz) := by
  refine Met.ofW (cc := cX0_enter) (maxL := 5) (ret := none) (by decide) rfl ?_
  intro p e s m args below meth c s₁ B hml hv
  obtain ⟨rfl, hsz, hP, hK, hD0, hB⟩ := hv
  have hx := B.exec
  have hb := B.bytes
  have hr := B.returns
  have hts := atoms_spec (ws := wsX0_enter) B.pre
  have hown : s.vm.findClass "ShopLedger$Books" = some m.cls := findClass_of_methodNamed B.named
  have hlocks := B.notSynchronized
  subst hsz
  have hD := hD0.self (sz := s.heap.size)
  generalize hAe : va_A [(b0, .inr (0, [.ref b1, .ref b2, .ref b3, .ref b4, .ref b5, .int (nI E.1), .ref b6, .ref b7, .ref b8, .ref b9, .int (nI bt)])), (b1, .inl (D.2 0, 200, .inl E.2.1)), (b2, .inl (D.2 0, 200, .inl E.2.2.1)), (b3, .inl (D.2 0, 200, .inl E.2.2.2.1)), (b4, .inl (D.2 0, 200, .inl E.2.2.2.2.1)), (b5, .inl (D.2 0, 200, .inl E.2.2.2.2.2.1)), (b6, .inl (D.2 1, 8, .inr (.inl E.2.2.2.2.2.2.1))), (b7, .inl (D.2 1, 8, .inr (.inl E.2.2.2.2.2.2.2.1))), (b8, .inl (D.2 1, 12, .inr (.inl E.2.2.2.2.2.2.2.2)))] s.heap.size = A at hD hB ⊢
  have hA : ∀ q : Nat, s.heap.size ≤ q → A q := fun q h => by rw [← hAe]; exact Or.inr h
  have hS : va_S A s.heap s.heap [] := va_S.rf
  have hZ : ∀ w ∈ zALL, w.before _ s = true := fun w h => hts w (List.mem_cons_of_mem _ h)
  have hF : CallFix p m c cX0_enter 5 s _ zALL "ShopLedger$Books" := ⟨hx, hb, hml, hown, hZ⟩
  have hl := lv_entry ([.ref b0, .int oa, .int oo, .int om, .int x]) (n := 5) (Nat.le_of_ble_eq_true rfl)
  rw [lg_entry_eq]
  generalize (lg_sl ([.ref b0, .int oa, .int oo, .int om, .int x]) ++ List.replicate (5 - (lg_sl ([.ref b0, .int oa, .int oo, .int om, .int x])).length) Slot.unset).toArray = ls at hl ⊢
  have hl : lv_has ls 5 [(0, .ref b0), (1, .int oa), (2, .int oo), (3, .int om), (4, .int x)] := hl
  refine lv_aload_n hx hb dX0_enter_0 rfl (lv_at hl 0 rfl) ?_
  refine va_get (D := D.1) (ci := 0) (v := .ref b1) (C := "ShopLedger$Books") (T := TX0) (N := 11) hx hb hZ inX0 hown hK hP 0 rfl rfl 0 (by decide) (hZ _ t_7) (fun _ h9 => h9) rfl dX0_enter_1 ?_
  refine lv_aload_n hx hb dX0_enter_4 rfl (lv_at hl 0 rfl) ?_
  refine va_get (D := D.1) (ci := 0) (v := .int (nI E.1)) (C := "ShopLedger$Books") (T := TX0) (N := 11) hx hb hZ inX0 hown hK hP 0 rfl rfl 5 (by decide) (hZ _ t_8) (fun _ h9 => h9) rfl dX0_enter_5 ?_
  refine lv_iload_n hx hb dX0_enter_8 rfl (lv_at hl 1 rfl) ?_
  refine z_iast (k := E.1) hx hb hK hP hD hS 1 rfl (hn) (by decide) dX0_enter_9 (fun H locs hP hD hS => ?_)
  have hP : va_P D.1 vwCl [(b0, .inr (0, [.ref b1, .ref b2, .ref b3, .ref b4, .ref b5, .int (nI E.1), .ref b6, .ref b7, .ref b8, .ref b9, .int (nI bt)])), (b1, .inl (D.2 0, 200, .inl (upd E.2.1 E.1 oa))), (b2, .inl (D.2 0, 200, .inl E.2.2.1)), (b3, .inl (D.2 0, 200, .inl E.2.2.2.1)), (b4, .inl (D.2 0, 200, .inl E.2.2.2.2.1)), (b5, .inl (D.2 0, 200, .inl E.2.2.2.2.2.1)), (b6, .inl (D.2 1, 8, .inr (.inl E.2.2.2.2.2.2.1))), (b7, .inl (D.2 1, 8, .inr (.inl E.2.2.2.2.2.2.2.1))), (b8, .inl (D.2 1, 12, .inr (.inl E.2.2.2.2.2.2.2.2)))] H := hP
  have hD : va_D A [(b0, .inr (0, [.ref b1, .ref b2, .ref b3, .ref b4, .ref b5, .int (nI E.1), .ref b6, .ref b7, .ref b8, .ref b9, .int (nI bt)])), (b1, .inl (D.2 0, 200, .inl (upd E.2.1 E.1 oa))), (b2, .inl (D.2 0, 200, .inl E.2.2.1)), (b3, .inl (D.2 0, 200, .inl E.2.2.2.1)), (b4, .inl (D.2 0, 200, .inl E.2.2.2.2.1)), (b5, .inl (D.2 0, 200, .inl E.2.2.2.2.2.1)), (b6, .inl (D.2 1, 8, .inr (.inl E.2.2.2.2.2.2.1))), (b7, .inl (D.2 1, 8, .inr (.inl E.2.2.2.2.2.2.2.1))), (b8, .inl (D.2 1, 12, .inr (.inl E.2.2.2.2.2.2.2.2)))] := hD
  refine lv_aload_n hx hb dX0_enter_10 rfl (lv_at hl 0 rfl) ?_
  refine va_get (D := D.1) (ci := 0) (v := .ref b2) (C := "ShopLedger$Books") (T := TX0) (N := 11) hx hb hZ inX0 hown hK hP 0 rfl rfl 1 (by decide) (hZ _ t_9) (fun _ h9 => h9) rfl dX0_enter_11 ?_
  refine lv_aload_n hx hb dX0_enter_14 rfl (lv_at hl 0 rfl) ?_
  refine va_get (D := D.1) (ci := 0) (v := .int (nI E.1)) (C := "ShopLedger$Books") (T := TX0) (N := 11) hx hb hZ inX0 hown hK hP 0 rfl rfl 5 (by decide) (hZ _ t_8) (fun _ h9 => h9) rfl dX0_enter_15 ?_
  refine lv_iload_n hx hb dX0_enter_18 rfl (lv_at hl 2 rfl) ?_
  refine z_iast (k := E.1) hx hb hK hP hD hS 2 rfl (hn) (by decide) dX0_enter_19 (fun H locs hP hD hS => ?_)
  have hP : va_P D.1 vwCl [(b0, .inr (0, [.ref b1, .ref b2, .ref b3, .ref b4, .ref b5, .int (nI E.1), .ref b6, .ref b7, .ref b8, .ref b9, .int (nI bt)])), (b1, .inl (D.2 0, 200, .inl (upd E.2.1 E.1 oa))), (b2, .inl (D.2 0, 200, .inl (upd E.2.2.1 E.1 oo))), (b3, .inl (D.2 0, 200, .inl E.2.2.2.1)), (b4, .inl (D.2 0, 200, .inl E.2.2.2.2.1)), (b5, .inl (D.2 0, 200, .inl E.2.2.2.2.2.1)), (b6, .inl (D.2 1, 8, .inr (.inl E.2.2.2.2.2.2.1))), (b7, .inl (D.2 1, 8, .inr (.inl E.2.2.2.2.2.2.2.1))), (b8, .inl (D.2 1, 12, .inr (.inl E.2.2.2.2.2.2.2.2)))] H := hP
  have hD : va_D A [(b0, .inr (0, [.ref b1, .ref b2, .ref b3, .ref b4, .ref b5, .int (nI E.1), .ref b6, .ref b7, .ref b8, .ref b9, .int (nI bt)])), (b1, .inl (D.2 0, 200, .inl (upd E.2.1 E.1 oa))), (b2, .inl (D.2 0, 200, .inl (upd E.2.2.1 E.1 oo))), (b3, .inl (D.2 0, 200, .inl E.2.2.2.1)), (b4, .inl (D.2 0, 200, .inl E.2.2.2.2.1)), (b5, .inl (D.2 0, 200, .inl E.2.2.2.2.2.1)), (b6, .inl (D.2 1, 8, .inr (.inl E.2.2.2.2.2.2.1))), (b7, .inl (D.2 1, 8, .inr (.inl E.2.2.2.2.2.2.2.1))), (b8, .inl (D.2 1, 12, .inr (.inl E.2.2.2.2.2.2.2.2)))] := hD
  refine lv_aload_n hx hb dX0_enter_20 rfl (lv_at hl 0 rfl) ?_
  refine va_get (D := D.1) (ci := 0) (v := .ref b3) (C := "ShopLedger$Books") (T := TX0) (N := 11) hx hb hZ inX0 hown hK hP 0 rfl rfl 2 (by decide) (hZ _ t_10) (fun _ h9 => h9) rfl dX0_enter_21 ?_
  refine lv_aload_n hx hb dX0_enter_24 rfl (lv_at hl 0 rfl) ?_
  refine va_get (D := D.1) (ci := 0) (v := .int (nI E.1)) (C := "ShopLedger$Books") (T := TX0) (N := 11) hx hb hZ inX0 hown hK hP 0 rfl rfl 5 (by decide) (hZ _ t_8) (fun _ h9 => h9) rfl dX0_enter_25 ?_
  refine lv_iload_n hx hb dX0_enter_28 rfl (lv_at hl 3 rfl) ?_
  refine z_iast (k := E.1) hx hb hK hP hD hS 3 rfl (hn) (by decide) dX0_enter_29 (fun H locs hP hD hS => ?_)
  have hP : va_P D.1 vwCl [(b0, .inr (0, [.ref b1, .ref b2, .ref b3, .ref b4, .ref b5, .int (nI E.1), .ref b6, .ref b7, .ref b8, .ref b9, .int (nI bt)])), (b1, .inl (D.2 0, 200, .inl (upd E.2.1 E.1 oa))), (b2, .inl (D.2 0, 200, .inl (upd E.2.2.1 E.1 oo))), (b3, .inl (D.2 0, 200, .inl (upd E.2.2.2.1 E.1 om))), (b4, .inl (D.2 0, 200, .inl E.2.2.2.2.1)), (b5, .inl (D.2 0, 200, .inl E.2.2.2.2.2.1)), (b6, .inl (D.2 1, 8, .inr (.inl E.2.2.2.2.2.2.1))), (b7, .inl (D.2 1, 8, .inr (.inl E.2.2.2.2.2.2.2.1))), (b8, .inl (D.2 1, 12, .inr (.inl E.2.2.2.2.2.2.2.2)))] H := hP
  have hD : va_D A [(b0, .inr (0, [.ref b1, .ref b2, .ref b3, .ref b4, .ref b5, .int (nI E.1), .ref b6, .ref b7, .ref b8, .ref b9, .int (nI bt)])), (b1, .inl (D.2 0, 200, .inl (upd E.2.1 E.1 oa))), (b2, .inl (D.2 0, 200, .inl (upd E.2.2.1 E.1 oo))), (b3, .inl (D.2 0, 200, .inl (upd E.2.2.2.1 E.1 om))), (b4, .inl (D.2 0, 200, .inl E.2.2.2.2.1)), (b5, .inl (D.2 0, 200, .inl E.2.2.2.2.2.1)), (b6, .inl (D.2 1, 8, .inr (.inl E.2.2.2.2.2.2.1))), (b7, .inl (D.2 1, 8, .inr (.inl E.2.2.2.2.2.2.2.1))), (b8, .inl (D.2 1, 12, .inr (.inl E.2.2.2.2.2.2.2.2)))] := hD
  refine lv_aload_n hx hb dX0_enter_30 rfl (lv_at hl 0 rfl) ?_
  refine va_get (D := D.1) (ci := 0) (v := .ref b4) (C := "ShopLedger$Books") (T := TX0) (N := 11) hx hb hZ inX0 hown hK hP 0 rfl rfl 3 (by decide) (hZ _ t_11) (fun _ h9 => h9) rfl dX0_enter_31 ?_
  refine lv_aload_n hx hb dX0_enter_34 rfl (lv_at hl 0 rfl) ?_
  refine va_get (D := D.1) (ci := 0) (v := .int (nI E.1)) (C := "ShopLedger$Books") (T := TX0) (N := 11) hx hb hZ inX0 hown hK hP 0 rfl rfl 5 (by decide) (hZ _ t_8) (fun _ h9 => h9) rfl dX0_enter_35 ?_
  refine lv_iload hx hb dX0_enter_38 (lv_at hl 4 rfl) ?_
  refine z_iast (k := E.1) hx hb hK hP hD hS 4 rfl (hn) (by decide) dX0_enter_40 (fun H locs hP hD hS => ?_)
  have hP : va_P D.1 vwCl [(b0, .inr (0, [.ref b1, .ref b2, .ref b3, .ref b4, .ref b5, .int (nI E.1), .ref b6, .ref b7, .ref b8, .ref b9, .int (nI bt)])), (b1, .inl (D.2 0, 200, .inl (upd E.2.1 E.1 oa))), (b2, .inl (D.2 0, 200, .inl (upd E.2.2.1 E.1 oo))), (b3, .inl (D.2 0, 200, .inl (upd E.2.2.2.1 E.1 om))), (b4, .inl (D.2 0, 200, .inl (upd E.2.2.2.2.1 E.1 x))), (b5, .inl (D.2 0, 200, .inl E.2.2.2.2.2.1)), (b6, .inl (D.2 1, 8, .inr (.inl E.2.2.2.2.2.2.1))), (b7, .inl (D.2 1, 8, .inr (.inl E.2.2.2.2.2.2.2.1))), (b8, .inl (D.2 1, 12, .inr (.inl E.2.2.2.2.2.2.2.2)))] H := hP
  have hD : va_D A [(b0, .inr (0, [.ref b1, .ref b2, .ref b3, .ref b4, .ref b5, .int (nI E.1), .ref b6, .ref b7, .ref b8, .ref b9, .int (nI bt)])), (b1, .inl (D.2 0, 200, .inl (upd E.2.1 E.1 oa))), (b2, .inl (D.2 0, 200, .inl (upd E.2.2.1 E.1 oo))), (b3, .inl (D.2 0, 200, .inl (upd E.2.2.2.1 E.1 om))), (b4, .inl (D.2 0, 200, .inl (upd E.2.2.2.2.1 E.1 x))), (b5, .inl (D.2 0, 200, .inl E.2.2.2.2.2.1)), (b6, .inl (D.2 1, 8, .inr (.inl E.2.2.2.2.2.2.1))), (b7, .inl (D.2 1, 8, .inr (.inl E.2.2.2.2.2.2.2.1))), (b8, .inl (D.2 1, 12, .inr (.inl E.2.2.2.2.2.2.2.2)))] := hD
  refine lv_aload_n hx hb dX0_enter_41 rfl (lv_at hl 0 rfl) ?_
  refine va_get (D := D.1) (ci := 0) (v := .ref b5) (C := "ShopLedger$Books") (T := TX0) (N := 11) hx hb hZ inX0 hown hK hP 0 rfl rfl 4 (by decide) (hZ _ t_12) (fun _ h9 => h9) rfl dX0_enter_42 ?_
  refine lv_aload_n hx hb dX0_enter_45 rfl (lv_at hl 0 rfl) ?_
  refine va_get (D := D.1) (ci := 0) (v := .int (nI E.1)) (C := "ShopLedger$Books") (T := TX0) (N := 11) hx hb hZ inX0 hown hK hP 0 rfl rfl 5 (by decide) (hZ _ t_8) (fun _ h9 => h9) rfl dX0_enter_46 ?_
  refine lv_aload_n hx hb dX0_enter_49 rfl (lv_at hl 0 rfl) ?_
  refine va_get (D := D.1) (ci := 0) (v := .int (nI bt)) (C := "ShopLedger$Books") (T := TX0) (N := 11) hx hb hZ inX0 hown hK hP 0 rfl rfl 10 (by decide) (hZ _ t_13) (fun _ h9 => h9) rfl dX0_enter_50 ?_
  refine z_iast (k := E.1) hx hb hK hP hD hS 5 rfl (hn) (by decide) dX0_enter_53 (fun H locs hP hD hS => ?_)
  have hP : va_P D.1 vwCl [(b0, .inr (0, [.ref b1, .ref b2, .ref b3, .ref b4, .ref b5, .int (nI E.1), .ref b6, .ref b7, .ref b8, .ref b9, .int (nI bt)])), (b1, .inl (D.2 0, 200, .inl (upd E.2.1 E.1 oa))), (b2, .inl (D.2 0, 200, .inl (upd E.2.2.1 E.1 oo))), (b3, .inl (D.2 0, 200, .inl (upd E.2.2.2.1 E.1 om))), (b4, .inl (D.2 0, 200, .inl (upd E.2.2.2.2.1 E.1 x))), (b5, .inl (D.2 0, 200, .inl (upd E.2.2.2.2.2.1 E.1 (nI bt)))), (b6, .inl (D.2 1, 8, .inr (.inl E.2.2.2.2.2.2.1))), (b7, .inl (D.2 1, 8, .inr (.inl E.2.2.2.2.2.2.2.1))), (b8, .inl (D.2 1, 12, .inr (.inl E.2.2.2.2.2.2.2.2)))] H := hP
  have hD : va_D A [(b0, .inr (0, [.ref b1, .ref b2, .ref b3, .ref b4, .ref b5, .int (nI E.1), .ref b6, .ref b7, .ref b8, .ref b9, .int (nI bt)])), (b1, .inl (D.2 0, 200, .inl (upd E.2.1 E.1 oa))), (b2, .inl (D.2 0, 200, .inl (upd E.2.2.1 E.1 oo))), (b3, .inl (D.2 0, 200, .inl (upd E.2.2.2.1 E.1 om))), (b4, .inl (D.2 0, 200, .inl (upd E.2.2.2.2.1 E.1 x))), (b5, .inl (D.2 0, 200, .inl (upd E.2.2.2.2.2.1 E.1 (nI bt)))), (b6, .inl (D.2 1, 8, .inr (.inl E.2.2.2.2.2.2.1))), (b7, .inl (D.2 1, 8, .inr (.inl E.2.2.2.2.2.2.2.1))), (b8, .inl (D.2 1, 12, .inr (.inl E.2.2.2.2.2.2.2.2)))] := hD
  refine lv_aload_n hx hb dX0_enter_54 rfl (lv_at hl 0 rfl) ?_
  refine lv_dup hx hb dX0_enter_55 rfl ?_
  refine va_get (D := D.1) (ci := 0) (v := .int (nI E.1)) (C := "ShopLedger$Books") (T := TX0) (N := 11) hx hb hZ inX0 hown hK hP 0 rfl rfl 5 (by decide) (hZ _ t_8) (fun _ h9 => h9) rfl dX0_enter_56 ?_
  refine lv_iconst (v := 1) hx hb dX0_enter_59 (by decide) ?_
  refine lv_iadd hx hb dX0_enter_60 ?_
  rw [show ((nI E.1) + 1) = nI (E.1 + 1) from nI_1 E.1]
  refine va_put (D := D.1) (ci := 0) (v := .int (nI (E.1 + 1))) (ty := .int) (C := "ShopLedger$Books") (T := TX0) (N := 11) hx hb hZ inX0 tyX0 tyX0_ok nmX0 hown hK hP hD hS 0 rfl rfl 5 (by decide) (hZ _ t_8) (fun _ h9 => h9) rfl (by decide +kernel) rfl rfl (Nat.le_of_ble_eq_true rfl) dX0_enter_61 (fun H locs hP hD hS => ?_)
  have hP : va_P D.1 vwCl [(b0, .inr (0, [.ref b1, .ref b2, .ref b3, .ref b4, .ref b5, .int (nI (E.1 + 1)), .ref b6, .ref b7, .ref b8, .ref b9, .int (nI bt)])), (b1, .inl (D.2 0, 200, .inl (upd E.2.1 E.1 oa))), (b2, .inl (D.2 0, 200, .inl (upd E.2.2.1 E.1 oo))), (b3, .inl (D.2 0, 200, .inl (upd E.2.2.2.1 E.1 om))), (b4, .inl (D.2 0, 200, .inl (upd E.2.2.2.2.1 E.1 x))), (b5, .inl (D.2 0, 200, .inl (upd E.2.2.2.2.2.1 E.1 (nI bt)))), (b6, .inl (D.2 1, 8, .inr (.inl E.2.2.2.2.2.2.1))), (b7, .inl (D.2 1, 8, .inr (.inl E.2.2.2.2.2.2.2.1))), (b8, .inl (D.2 1, 12, .inr (.inl E.2.2.2.2.2.2.2.2)))] H := hP
  have hD : va_D A [(b0, .inr (0, [.ref b1, .ref b2, .ref b3, .ref b4, .ref b5, .int (nI (E.1 + 1)), .ref b6, .ref b7, .ref b8, .ref b9, .int (nI bt)])), (b1, .inl (D.2 0, 200, .inl (upd E.2.1 E.1 oa))), (b2, .inl (D.2 0, 200, .inl (upd E.2.2.1 E.1 oo))), (b3, .inl (D.2 0, 200, .inl (upd E.2.2.2.1 E.1 om))), (b4, .inl (D.2 0, 200, .inl (upd E.2.2.2.2.1 E.1 x))), (b5, .inl (D.2 0, 200, .inl (upd E.2.2.2.2.2.1 E.1 (nI bt)))), (b6, .inl (D.2 1, 8, .inr (.inl E.2.2.2.2.2.2.1))), (b7, .inl (D.2 1, 8, .inr (.inl E.2.2.2.2.2.2.2.1))), (b8, .inl (D.2 1, 12, .inr (.inl E.2.2.2.2.2.2.2.2)))] := hD
  refine lv_aload_n hx hb dX0_enter_64 rfl (lv_at hl 0 rfl) ?_
  refine va_get (D := D.1) (ci := 0) (v := .ref b6) (C := "ShopLedger$Books") (T := TX0) (N := 11) hx hb hZ inX0 hown hK hP 0 rfl rfl 6 (by decide) (hZ _ t_14) (fun _ h9 => h9) rfl dX0_enter_65 ?_
  refine lv_iload_n hx hb dX0_enter_68 rfl (lv_at hl 1 rfl) ?_
  refine lv_dup2_11 hx hb dX0_enter_69 rfl rfl ?_
  refine va_lald hx hb hK hP 6 1 rfl rfl (h1) dX0_enter_70 ?_
  refine lv_iload hx hb dX0_enter_71 (lv_at hl 4 rfl) ?_
  refine lv_i2l (v := x.toInt64) hx hb dX0_enter_73 rfl ?_
  refine lv_ladd hx hb dX0_enter_74 ?_
  refine va_last hx hb hK hP hD hS 6 1 rfl rfl (h1) dX0_enter_75 (fun H locs hP hD hS => ?_)
  have hP : va_P D.1 vwCl [(b0, .inr (0, [.ref b1, .ref b2, .ref b3, .ref b4, .ref b5, .int (nI (E.1 + 1)), .ref b6, .ref b7, .ref b8, .ref b9, .int (nI bt)])), (b1, .inl (D.2 0, 200, .inl (upd E.2.1 E.1 oa))), (b2, .inl (D.2 0, 200, .inl (upd E.2.2.1 E.1 oo))), (b3, .inl (D.2 0, 200, .inl (upd E.2.2.2.1 E.1 om))), (b4, .inl (D.2 0, 200, .inl (upd E.2.2.2.2.1 E.1 x))), (b5, .inl (D.2 0, 200, .inl (upd E.2.2.2.2.2.1 E.1 (nI bt)))), (b6, .inl (D.2 1, 8, .inr (.inl (vp_updL E.2.2.2.2.2.2.1 oa.toNatClampNeg ((E.2.2.2.2.2.2.1 oa.toNatClampNeg) + x.toInt64))))), (b7, .inl (D.2 1, 8, .inr (.inl E.2.2.2.2.2.2.2.1))), (b8, .inl (D.2 1, 12, .inr (.inl E.2.2.2.2.2.2.2.2)))] H := hP
  have hD : va_D A [(b0, .inr (0, [.ref b1, .ref b2, .ref b3, .ref b4, .ref b5, .int (nI (E.1 + 1)), .ref b6, .ref b7, .ref b8, .ref b9, .int (nI bt)])), (b1, .inl (D.2 0, 200, .inl (upd E.2.1 E.1 oa))), (b2, .inl (D.2 0, 200, .inl (upd E.2.2.1 E.1 oo))), (b3, .inl (D.2 0, 200, .inl (upd E.2.2.2.1 E.1 om))), (b4, .inl (D.2 0, 200, .inl (upd E.2.2.2.2.1 E.1 x))), (b5, .inl (D.2 0, 200, .inl (upd E.2.2.2.2.2.1 E.1 (nI bt)))), (b6, .inl (D.2 1, 8, .inr (.inl (vp_updL E.2.2.2.2.2.2.1 oa.toNatClampNeg ((E.2.2.2.2.2.2.1 oa.toNatClampNeg) + x.toInt64))))), (b7, .inl (D.2 1, 8, .inr (.inl E.2.2.2.2.2.2.2.1))), (b8, .inl (D.2 1, 12, .inr (.inl E.2.2.2.2.2.2.2.2)))] := hD
  refine lv_aload_n hx hb dX0_enter_76 rfl (lv_at hl 0 rfl) ?_
  refine va_get (D := D.1) (ci := 0) (v := .ref b7) (C := "ShopLedger$Books") (T := TX0) (N := 11) hx hb hZ inX0 hown hK hP 0 rfl rfl 7 (by decide) (hZ _ t_15) (fun _ h9 => h9) rfl dX0_enter_77 ?_
  refine lv_iload_n hx hb dX0_enter_80 rfl (lv_at hl 2 rfl) ?_
  refine lv_dup2_11 hx hb dX0_enter_81 rfl rfl ?_
  refine va_lald hx hb hK hP 7 1 rfl rfl (h2) dX0_enter_82 ?_
  refine lv_iload hx hb dX0_enter_83 (lv_at hl 4 rfl) ?_
  refine lv_i2l (v := x.toInt64) hx hb dX0_enter_85 rfl ?_
  refine lv_ladd hx hb dX0_enter_86 ?_
  refine va_last hx hb hK hP hD hS 7 1 rfl rfl (h2) dX0_enter_87 (fun H locs hP hD hS => ?_)
  have hP : va_P D.1 vwCl [(b0, .inr (0, [.ref b1, .ref b2, .ref b3, .ref b4, .ref b5, .int (nI (E.1 + 1)), .ref b6, .ref b7, .ref b8, .ref b9, .int (nI bt)])), (b1, .inl (D.2 0, 200, .inl (upd E.2.1 E.1 oa))), (b2, .inl (D.2 0, 200, .inl (upd E.2.2.1 E.1 oo))), (b3, .inl (D.2 0, 200, .inl (upd E.2.2.2.1 E.1 om))), (b4, .inl (D.2 0, 200, .inl (upd E.2.2.2.2.1 E.1 x))), (b5, .inl (D.2 0, 200, .inl (upd E.2.2.2.2.2.1 E.1 (nI bt)))), (b6, .inl (D.2 1, 8, .inr (.inl (vp_updL E.2.2.2.2.2.2.1 oa.toNatClampNeg ((E.2.2.2.2.2.2.1 oa.toNatClampNeg) + x.toInt64))))), (b7, .inl (D.2 1, 8, .inr (.inl (vp_updL E.2.2.2.2.2.2.2.1 oo.toNatClampNeg ((E.2.2.2.2.2.2.2.1 oo.toNatClampNeg) + x.toInt64))))), (b8, .inl (D.2 1, 12, .inr (.inl E.2.2.2.2.2.2.2.2)))] H := hP
  have hD : va_D A [(b0, .inr (0, [.ref b1, .ref b2, .ref b3, .ref b4, .ref b5, .int (nI (E.1 + 1)), .ref b6, .ref b7, .ref b8, .ref b9, .int (nI bt)])), (b1, .inl (D.2 0, 200, .inl (upd E.2.1 E.1 oa))), (b2, .inl (D.2 0, 200, .inl (upd E.2.2.1 E.1 oo))), (b3, .inl (D.2 0, 200, .inl (upd E.2.2.2.1 E.1 om))), (b4, .inl (D.2 0, 200, .inl (upd E.2.2.2.2.1 E.1 x))), (b5, .inl (D.2 0, 200, .inl (upd E.2.2.2.2.2.1 E.1 (nI bt)))), (b6, .inl (D.2 1, 8, .inr (.inl (vp_updL E.2.2.2.2.2.2.1 oa.toNatClampNeg ((E.2.2.2.2.2.2.1 oa.toNatClampNeg) + x.toInt64))))), (b7, .inl (D.2 1, 8, .inr (.inl (vp_updL E.2.2.2.2.2.2.2.1 oo.toNatClampNeg ((E.2.2.2.2.2.2.2.1 oo.toNatClampNeg) + x.toInt64))))), (b8, .inl (D.2 1, 12, .inr (.inl E.2.2.2.2.2.2.2.2)))] := hD
  refine lv_aload_n hx hb dX0_enter_88 rfl (lv_at hl 0 rfl) ?_
  refine va_get (D := D.1) (ci := 0) (v := .ref b8) (C := "ShopLedger$Books") (T := TX0) (N := 11) hx hb hZ inX0 hown hK hP 0 rfl rfl 8 (by decide) (hZ _ t_16) (fun _ h9 => h9) rfl dX0_enter_89 ?_
  refine lv_iload_n hx hb dX0_enter_92 rfl (lv_at hl 3 rfl) ?_
  refine lv_dup2_11 hx hb dX0_enter_93 rfl rfl ?_
  refine va_lald hx hb hK hP 8 1 rfl rfl (h3) dX0_enter_94 ?_
  refine lv_iload hx hb dX0_enter_95 (lv_at hl 4 rfl) ?_
  refine lv_i2l (v := x.toInt64) hx hb dX0_enter_97 rfl ?_
  refine lv_ladd hx hb dX0_enter_98 ?_
  refine va_last hx hb hK hP hD hS 8 1 rfl rfl (h3) dX0_enter_99 (fun H locs hP hD hS => ?_)
  have hP : va_P D.1 vwCl [(b0, .inr (0, [.ref b1, .ref b2, .ref b3, .ref b4, .ref b5, .int (nI (E.1 + 1)), .ref b6, .ref b7, .ref b8, .ref b9, .int (nI bt)])), (b1, .inl (D.2 0, 200, .inl (upd E.2.1 E.1 oa))), (b2, .inl (D.2 0, 200, .inl (upd E.2.2.1 E.1 oo))), (b3, .inl (D.2 0, 200, .inl (upd E.2.2.2.1 E.1 om))), (b4, .inl (D.2 0, 200, .inl (upd E.2.2.2.2.1 E.1 x))), (b5, .inl (D.2 0, 200, .inl (upd E.2.2.2.2.2.1 E.1 (nI bt)))), (b6, .inl (D.2 1, 8, .inr (.inl (vp_updL E.2.2.2.2.2.2.1 oa.toNatClampNeg ((E.2.2.2.2.2.2.1 oa.toNatClampNeg) + x.toInt64))))), (b7, .inl (D.2 1, 8, .inr (.inl (vp_updL E.2.2.2.2.2.2.2.1 oo.toNatClampNeg ((E.2.2.2.2.2.2.2.1 oo.toNatClampNeg) + x.toInt64))))), (b8, .inl (D.2 1, 12, .inr (.inl (vp_updL E.2.2.2.2.2.2.2.2 om.toNatClampNeg ((E.2.2.2.2.2.2.2.2 om.toNatClampNeg) + x.toInt64)))))] H := hP
  have hD : va_D A [(b0, .inr (0, [.ref b1, .ref b2, .ref b3, .ref b4, .ref b5, .int (nI (E.1 + 1)), .ref b6, .ref b7, .ref b8, .ref b9, .int (nI bt)])), (b1, .inl (D.2 0, 200, .inl (upd E.2.1 E.1 oa))), (b2, .inl (D.2 0, 200, .inl (upd E.2.2.1 E.1 oo))), (b3, .inl (D.2 0, 200, .inl (upd E.2.2.2.1 E.1 om))), (b4, .inl (D.2 0, 200, .inl (upd E.2.2.2.2.1 E.1 x))), (b5, .inl (D.2 0, 200, .inl (upd E.2.2.2.2.2.1 E.1 (nI bt)))), (b6, .inl (D.2 1, 8, .inr (.inl (vp_updL E.2.2.2.2.2.2.1 oa.toNatClampNeg ((E.2.2.2.2.2.2.1 oa.toNatClampNeg) + x.toInt64))))), (b7, .inl (D.2 1, 8, .inr (.inl (vp_updL E.2.2.2.2.2.2.2.1 oo.toNatClampNeg ((E.2.2.2.2.2.2.2.1 oo.toNatClampNeg) + x.toInt64))))), (b8, .inl (D.2 1, 12, .inr (.inl (vp_updL E.2.2.2.2.2.2.2.2 om.toNatClampNeg ((E.2.2.2.2.2.2.2.2 om.toNatClampNeg) + x.toInt64)))))] := hD
  exact z_vret hx hb hr hlocks hP hD hS () (trivial) [0, 1, 2, 3, 4, 5, 6, 7, 8] rfl (by decide) (Nat.le_of_ble_eq_true rfl) (Nat.le_of_ble_eq_true rfl) dX0_enter_100
set_option maxHeartbeats 4000000 in
set_option maxRecDepth 100000 in
/-- Books.endBatch -/
theorem c_Books_end {l : Launch} (D : zD) (b0 b1 b2 b3 b4 b5 b6 b7 b8 b9 : Nat) (E : zE) (bt : Nat) (sz : Nat) : Met l yX0_endBatch wsX0_endBatch ({ frames := 0, cells := 0, slots := 0, locals := 0 }) (va_Pc [.ref b0] (zp D sz [(b0, .inr (0, [.ref b1, .ref b2, .ref b3, .ref b4, .ref b5, .int (nI E.1), .ref b6, .ref b7, .ref b8, .ref b9, .int (nI bt)]))])) (va_Qi (fun r (_ : Unit) => r = nI bt) (zq D (va_A [(b0, .inr (0, [.ref b1, .ref b2, .ref b3, .ref b4, .ref b5, .int (nI E.1), .ref b6, .ref b7, .ref b8, .ref b9, .int (nI bt)]))] sz) (fun (_ : Unit) => ([(b0, .inr (0, [.ref b1, .ref b2, .ref b3, .ref b4, .ref b5, .int (nI E.1), .ref b6, .ref b7, .ref b8, .ref b9, .int (nI (bt + 1))]))] : va_W))) (va_A [(b0, .inr (0, [.ref b1, .ref b2, .ref b3, .ref b4, .ref b5, .int (nI E.1), .ref b6, .ref b7, .ref b8, .ref b9, .int (nI bt)]))] sz)) 0 0 (va_A [(b0, .inr (0, [.ref b1, .ref b2, .ref b3, .ref b4, .ref b5, .int (nI E.1), .ref b6, .ref b7, .ref b8, .ref b9, .int (nI bt)]))] sz) := by
  refine Met.ofW (cc := cX0_endBatch) (maxL := 1) (ret := (some .int)) (by decide) rfl ?_
  intro p e s m args below meth c s₁ B hml hv
  obtain ⟨rfl, hsz, hP, hK, hD0, hB⟩ := hv
  have hx := B.exec
  have hb := B.bytes
  have hr := B.returns
  have hts := atoms_spec (ws := wsX0_endBatch) B.pre
  have hown : s.vm.findClass "ShopLedger$Books" = some m.cls := findClass_of_methodNamed B.named
  have hlocks := B.notSynchronized
  subst hsz
  have hD := hD0.self (sz := s.heap.size)
  generalize hAe : va_A [(b0, .inr (0, [.ref b1, .ref b2, .ref b3, .ref b4, .ref b5, .int (nI E.1), .ref b6, .ref b7, .ref b8, .ref b9, .int (nI bt)]))] s.heap.size = A at hD hB ⊢
  have hA : ∀ q : Nat, s.heap.size ≤ q → A q := fun q h => by rw [← hAe]; exact Or.inr h
  have hS : va_S A s.heap s.heap [] := va_S.rf
  have hZ : ∀ w ∈ zALL, w.before _ s = true := fun w h => hts w (List.mem_cons_of_mem _ h)
  have hF : CallFix p m c cX0_endBatch 1 s _ zALL "ShopLedger$Books" := ⟨hx, hb, hml, hown, hZ⟩
  have hl := lv_entry ([.ref b0]) (n := 1) (Nat.le_of_ble_eq_true rfl)
  rw [lg_entry_eq]
  generalize (lg_sl ([.ref b0]) ++ List.replicate (1 - (lg_sl ([.ref b0])).length) Slot.unset).toArray = ls at hl ⊢
  have hl : lv_has ls 1 [(0, .ref b0)] := hl
  refine lv_aload_n hx hb dX0_endBatch_0 rfl (lv_at hl 0 rfl) ?_
  refine lv_dup hx hb dX0_endBatch_1 rfl ?_
  refine va_get (D := D.1) (ci := 0) (v := .int (nI bt)) (C := "ShopLedger$Books") (T := TX0) (N := 11) hx hb hZ inX0 hown hK hP 0 rfl rfl 10 (by decide) (hZ _ t_13) (fun _ h9 => h9) rfl dX0_endBatch_2 ?_
  refine lv_iconst (v := 1) hx hb dX0_endBatch_5 (by decide) ?_
  refine lv_iadd hx hb dX0_endBatch_6 ?_
  rw [show ((nI bt) + 1) = nI (bt + 1) from nI_1 bt]
  refine va_put (D := D.1) (ci := 0) (v := .int (nI (bt + 1))) (ty := .int) (C := "ShopLedger$Books") (T := TX0) (N := 11) hx hb hZ inX0 tyX0 tyX0_ok nmX0 hown hK hP hD hS 0 rfl rfl 10 (by decide) (hZ _ t_13) (fun _ h9 => h9) rfl (by decide +kernel) rfl rfl (Nat.le_of_ble_eq_true rfl) dX0_endBatch_7 (fun H locs hP hD hS => ?_)
  have hP : va_P D.1 vwCl [(b0, .inr (0, [.ref b1, .ref b2, .ref b3, .ref b4, .ref b5, .int (nI E.1), .ref b6, .ref b7, .ref b8, .ref b9, .int (nI (bt + 1))]))] H := hP
  have hD : va_D A [(b0, .inr (0, [.ref b1, .ref b2, .ref b3, .ref b4, .ref b5, .int (nI E.1), .ref b6, .ref b7, .ref b8, .ref b9, .int (nI (bt + 1))]))] := hD
  refine lv_aload_n hx hb dX0_endBatch_10 rfl (lv_at hl 0 rfl) ?_
  refine va_get (D := D.1) (ci := 0) (v := .int (nI (bt + 1))) (C := "ShopLedger$Books") (T := TX0) (N := 11) hx hb hZ inX0 hown hK hP 0 rfl rfl 10 (by decide) (hZ _ t_13) (fun _ h9 => h9) rfl dX0_endBatch_11 ?_
  refine lv_iconst (v := 1) hx hb dX0_endBatch_14 (by decide) ?_
  refine lv_isub hx hb dX0_endBatch_15 ?_
  rw [show ((nI (bt + 1)) - 1) = nI bt from nI_pred bt]
  exact z_iret (v := nI bt) hx hb hr hlocks hP hD hS () (rfl) [0] rfl (by decide) (Nat.le_of_ble_eq_true rfl) (Nat.le_of_ble_eq_true rfl) dX0_endBatch_16
set_option maxHeartbeats 4000000 in
set_option maxRecDepth 100000 in
/-- Books.sizeOf -/
theorem c_Books_size {l : Launch} (D : zD) (b0 b1 b2 b3 b4 b5 b6 b7 b8 b9 : Nat) (E : zE) (bt : Nat) (p1 : Int32) (sz : Nat) (hn : E.1 ≤ 200) : Met l yX0_sizeOf wsX0_sizeOf ({ frames := 0, cells := 0, slots := 0, locals := 0 }) (va_Pc [.ref b0, .int p1] (zp D sz [(b0, .inr (0, [.ref b1, .ref b2, .ref b3, .ref b4, .ref b5, .int (nI E.1), .ref b6, .ref b7, .ref b8, .ref b9, .int (nI bt)])), (b5, .inl (D.2 0, 200, .inl E.2.2.2.2.2.1))])) (va_Qi (fun r (_ : Unit) => r = nI (zs_cnt E.2.2.2.2.2.1 p1 E.1)) (zq D (va_A [(b0, .inr (0, [.ref b1, .ref b2, .ref b3, .ref b4, .ref b5, .int (nI E.1), .ref b6, .ref b7, .ref b8, .ref b9, .int (nI bt)])), (b5, .inl (D.2 0, 200, .inl E.2.2.2.2.2.1))] sz) (fun (_ : Unit) => ([(b0, .inr (0, [.ref b1, .ref b2, .ref b3, .ref b4, .ref b5, .int (nI E.1), .ref b6, .ref b7, .ref b8, .ref b9, .int (nI bt)])), (b5, .inl (D.2 0, 200, .inl E.2.2.2.2.2.1))] : va_W))) (va_A [(b0, .inr (0, [.ref b1, .ref b2, .ref b3, .ref b4, .ref b5, .int (nI E.1), .ref b6, .ref b7, .ref b8, .ref b9, .int (nI bt)])), (b5, .inl (D.2 0, 200, .inl E.2.2.2.2.2.1))] sz)) 0 0 (va_A [(b0, .inr (0, [.ref b1, .ref b2, .ref b3, .ref b4, .ref b5, .int (nI E.1), .ref b6, .ref b7, .ref b8, .ref b9, .int (nI bt)])), (b5, .inl (D.2 0, 200, .inl E.2.2.2.2.2.1))] sz) := by
  refine Met.ofW (cc := cX0_sizeOf) (maxL := 4) (ret := (some .int)) (by decide) rfl ?_
  intro p e s m args below meth c s₁ B hml hv
  obtain ⟨rfl, hsz, hP, hK, hD0, hB⟩ := hv
  have hx := B.exec
  have hb := B.bytes
  have hr := B.returns
  have hts := atoms_spec (ws := wsX0_sizeOf) B.pre
  have hown : s.vm.findClass "ShopLedger$Books" = some m.cls := findClass_of_methodNamed B.named
  have hlocks := B.notSynchronized
  subst hsz
  have hD := hD0.self (sz := s.heap.size)
  generalize hAe : va_A [(b0, .inr (0, [.ref b1, .ref b2, .ref b3, .ref b4, .ref b5, .int (nI E.1), .ref b6, .ref b7, .ref b8, .ref b9, .int (nI bt)])), (b5, .inl (D.2 0, 200, .inl E.2.2.2.2.2.1))] s.heap.size = A at hD hB ⊢
  have hA : ∀ q : Nat, s.heap.size ≤ q → A q := fun q h => by rw [← hAe]; exact Or.inr h
  have hS : va_S A s.heap s.heap [] := va_S.rf
  have hZ : ∀ w ∈ zALL, w.before _ s = true := fun w h => hts w (List.mem_cons_of_mem _ h)
  have hF : CallFix p m c cX0_sizeOf 4 s _ zALL "ShopLedger$Books" := ⟨hx, hb, hml, hown, hZ⟩
  have hl := lv_entry ([.ref b0, .int p1]) (n := 4) (Nat.le_of_ble_eq_true rfl)
  rw [lg_entry_eq]
  generalize (lg_sl ([.ref b0, .int p1]) ++ List.replicate (4 - (lg_sl ([.ref b0, .int p1])).length) Slot.unset).toArray = ls at hl ⊢
  have hl : lv_has ls 4 [(0, .ref b0), (1, .int p1)] := hl
  refine lv_iconst (v := 0) hx hb dX0_sizeOf_0 (by decide) ?_
  refine lv_istore_n (lv' := [(2, .int 0), (0, .ref b0), (1, .int p1)]) hx hb dX0_sizeOf_1 rfl hl (by decide) rfl (fun ls hl => ?_)
  refine lv_iconst (v := 0) hx hb dX0_sizeOf_2 (by decide) ?_
  refine lv_istore_n (lv' := [(3, .int 0), (2, .int 0), (0, .ref b0), (1, .int p1)]) hx hb dX0_sizeOf_3 rfl hl (by decide) rfl (fun ls hl => ?_)
  have lo1 : ∀ (nn : Nat) (k : Nat), k ≤ E.1 → E.1 + 1 ≤ k + nn → ∀ (H : Heap) (locs : List Loc), va_P D.1 vwCl [(b0, .inr (0, [.ref b1, .ref b2, .ref b3, .ref b4, .ref b5, .int (nI E.1), .ref b6, .ref b7, .ref b8, .ref b9, .int (nI bt)])), (b5, .inl (D.2 0, 200, .inl E.2.2.2.2.2.1))] H → va_D A [(b0, .inr (0, [.ref b1, .ref b2, .ref b3, .ref b4, .ref b5, .int (nI E.1), .ref b6, .ref b7, .ref b8, .ref b9, .int (nI bt)])), (b5, .inl (D.2 0, 200, .inl E.2.2.2.2.2.1))] → va_S A s.heap H locs → ∀ (ls : Array Slot), lv_has ls 4 [(0, .ref b0), (1, .int p1), (2, .int (nI (zs_cnt E.2.2.2.2.2.1 p1 k))), (3, .int (nI k))] → W p l e (headSpec wsX0_sizeOf ({ frames := 0, cells := 0, slots := 0, locals := 0 })).room s m [.ref b0, .int p1].toArray below meth c H locs 0 0 (MQ below (va_Qi (fun r (_ : Unit) => r = nI (zs_cnt E.2.2.2.2.2.1 p1 E.1)) (zq D A (fun (_ : Unit) => ([(b0, .inr (0, [.ref b1, .ref b2, .ref b3, .ref b4, .ref b5, .int (nI E.1), .ref b6, .ref b7, .ref b8, .ref b9, .int (nI bt)])), (b5, .inl (D.2 0, 200, .inl E.2.2.2.2.2.1))] : va_W))) A) [.ref b0, .int p1].toArray s 0 0 A) (F0 m 4 ls []) := by
    intro nn
    induction nn with
    | zero =>
      intro k q1 q2
      exfalso
      omega
    | succ nn ih_lo1 =>
      intro k q1 q2 H locs hP hD hS ls hl
      refine lv_iload_n hx hb dX0_sizeOf_4 rfl (lv_at hl 3 rfl) ?_
      refine lv_aload_n hx hb dX0_sizeOf_5 rfl (lv_at hl 0 rfl) ?_
      refine va_get (D := D.1) (ci := 0) (v := .int (nI E.1)) (C := "ShopLedger$Books") (T := TX0) (N := 11) hx hb hZ inX0 hown hK hP 0 rfl rfl 5 (by decide) (hZ _ t_8) (fun _ h9 => h9) rfl dX0_sizeOf_6 ?_
      refine lv_icmp_ge (tgt := 31) hx hb dX0_sizeOf_9 (by decide) (fun c1 => ?_) (fun c1 => ?_)
      · skip
        have e9 : E.1 = k := (z_ge q1 (by omega) c1).symm
        subst e9
        refine lv_iload_n hx hb dX0_sizeOf_31 rfl (lv_at hl 2 rfl) ?_
        exact z_iret (v := nI (zs_cnt E.2.2.2.2.2.1 p1 E.1)) hx hb hr hlocks hP hD hS () (rfl) [0, 1] rfl (by decide) (Nat.le_of_ble_eq_true rfl) (Nat.le_of_ble_eq_true rfl) dX0_sizeOf_32
      have hk : k < E.1 := z_lt q1 (by omega) c1
      refine lv_aload_n hx hb dX0_sizeOf_12 rfl (lv_at hl 0 rfl) ?_
      refine va_get (D := D.1) (ci := 0) (v := .ref b5) (C := "ShopLedger$Books") (T := TX0) (N := 11) hx hb hZ inX0 hown hK hP 0 rfl rfl 4 (by decide) (hZ _ t_12) (fun _ h9 => h9) rfl dX0_sizeOf_13 ?_
      refine lv_iload_n hx hb dX0_sizeOf_16 rfl (lv_at hl 3 rfl) ?_
      refine z_iald (k := k) hx hb hK hP 1 rfl (Nat.lt_of_lt_of_le hk hn) (by decide) dX0_sizeOf_17 ?_
      refine lv_iload_n hx hb dX0_sizeOf_18 rfl (lv_at hl 1 rfl) ?_
      refine lv_icmp_ne (tgt := 25) hx hb dX0_sizeOf_19 (by decide) (fun c2 => ?_) (fun c2 => ?_)
      · skip
        have e8 : zs_cnt E.2.2.2.2.2.1 p1 (k + 1) = zs_cnt E.2.2.2.2.2.1 p1 k := by simp only [zs_cnt]; rw [if_neg c2]
        rw [← e8] at hl
        refine lv_iinc (v := nI (k + 1)) (lv' := [(3, .int (nI (k + 1))), (0, .ref b0), (1, .int p1), (2, .int (nI (zs_cnt E.2.2.2.2.2.1 p1 (k + 1))))]) hx hb dX0_sizeOf_25 hl (k := 3) rfl (nI_1 k) (by decide) rfl (fun ls hl => ?_)
        refine lv_goto (tgt := 4) hx hb dX0_sizeOf_28 (by decide) ?_
        exact ih_lo1 (k + 1) (Nat.succ_le_of_lt hk) (by omega)  _ _ (hP.sub [0, 1] rfl) (hD.sub [0, 1] (by decide) rfl) hS ls (lv_sub hl [1, 2, 3, 0] rfl)
      have e8 : zs_cnt E.2.2.2.2.2.1 p1 (k + 1) = zs_cnt E.2.2.2.2.2.1 p1 k + 1 := by simp only [zs_cnt]; rw [if_pos (c2)]
      refine lv_iinc (v := nI (zs_cnt E.2.2.2.2.2.1 p1 (k + 1))) (lv' := [(2, .int (nI (zs_cnt E.2.2.2.2.2.1 p1 (k + 1)))), (0, .ref b0), (1, .int p1), (3, .int (nI k))]) hx hb dX0_sizeOf_22 hl (k := 2) rfl (by rw [e8]; exact nI_1 _) (by decide) rfl (fun ls hl => ?_)
      refine lv_iinc (v := nI (k + 1)) (lv' := [(3, .int (nI (k + 1))), (2, .int (nI (zs_cnt E.2.2.2.2.2.1 p1 (k + 1)))), (0, .ref b0), (1, .int p1)]) hx hb dX0_sizeOf_25 hl (k := 3) rfl (nI_1 k) (by decide) rfl (fun ls hl => ?_)
      refine lv_goto (tgt := 4) hx hb dX0_sizeOf_28 (by decide) ?_
      exact ih_lo1 (k + 1) (Nat.succ_le_of_lt hk) (by omega)  _ _ (hP.sub [0, 1] rfl) (hD.sub [0, 1] (by decide) rfl) hS ls (lv_sub hl [2, 3, 1, 0] rfl)
  exact lo1 (E.1 + 1) 0 (Nat.zero_le _) (by omega)  _ _ (hP.sub [0, 1] rfl) (hD.sub [0, 1] (by decide) rfl) hS ls (lv_sub hl [2, 3, 1, 0] rfl)
set_option maxHeartbeats 4000000 in
set_option maxRecDepth 100000 in
/-- Books.turnRound -/
theorem c_Books_turn {l : Launch} (D : zD) (b0 b1 b2 b3 b4 b5 b6 b7 b8 b9 : Nat) (E : zE) (bt : Nat) (fx : Nat → Int32) (j : Nat) (p2 : Int32) (sz : Nat) (hj : j < 200) (hn : E.1 + zs_cnt E.2.2.2.2.2.1 (nI j) E.1 ≤ 200) (hbt : bt < 200) (h1 : ∀ i, i < E.1 → vp_in (E.2.1 i) 8) (h2 : ∀ i, i < E.1 → vp_in (E.2.2.1 i) 8) (h3 : vp_in p2 12) : Met l yX0_turnRound wsX0_turnRound ({ frames := 1, cells := 0, slots := 0, locals := 24 }) (va_Pc [.ref b0, .int (nI j), .int p2] (zp D sz [(b0, .inr (0, [.ref b1, .ref b2, .ref b3, .ref b4, .ref b5, .int (nI E.1), .ref b6, .ref b7, .ref b8, .ref b9, .int (nI bt)])), (b1, .inl (D.2 0, 200, .inl E.2.1)), (b2, .inl (D.2 0, 200, .inl E.2.2.1)), (b3, .inl (D.2 0, 200, .inl E.2.2.2.1)), (b4, .inl (D.2 0, 200, .inl E.2.2.2.2.1)), (b5, .inl (D.2 0, 200, .inl E.2.2.2.2.2.1)), (b6, .inl (D.2 1, 8, .inr (.inl E.2.2.2.2.2.2.1))), (b7, .inl (D.2 1, 8, .inr (.inl E.2.2.2.2.2.2.2.1))), (b8, .inl (D.2 1, 12, .inr (.inl E.2.2.2.2.2.2.2.2))), (b9, .inl (D.2 2, 200, .inl fx))])) (va_Qi (fun r (_ : Unit) => r = nI bt) (zq D (va_A [(b0, .inr (0, [.ref b1, .ref b2, .ref b3, .ref b4, .ref b5, .int (nI E.1), .ref b6, .ref b7, .ref b8, .ref b9, .int (nI bt)])), (b1, .inl (D.2 0, 200, .inl E.2.1)), (b2, .inl (D.2 0, 200, .inl E.2.2.1)), (b3, .inl (D.2 0, 200, .inl E.2.2.2.1)), (b4, .inl (D.2 0, 200, .inl E.2.2.2.2.1)), (b5, .inl (D.2 0, 200, .inl E.2.2.2.2.2.1)), (b6, .inl (D.2 1, 8, .inr (.inl E.2.2.2.2.2.2.1))), (b7, .inl (D.2 1, 8, .inr (.inl E.2.2.2.2.2.2.2.1))), (b8, .inl (D.2 1, 12, .inr (.inl E.2.2.2.2.2.2.2.2))), (b9, .inl (D.2 2, 200, .inl fx))] sz) (fun (_ : Unit) => ([(b0, .inr (0, [.ref b1, .ref b2, .ref b3, .ref b4, .ref b5, .int (nI (zs_turn E (nI bt) (nI j) p2 E.1).1), .ref b6, .ref b7, .ref b8, .ref b9, .int (nI (bt + 1))])), (b1, .inl (D.2 0, 200, .inl ((zs_turn E (nI bt) (nI j) p2 E.1).2.1))), (b2, .inl (D.2 0, 200, .inl ((zs_turn E (nI bt) (nI j) p2 E.1).2.2.1))), (b3, .inl (D.2 0, 200, .inl ((zs_turn E (nI bt) (nI j) p2 E.1).2.2.2.1))), (b4, .inl (D.2 0, 200, .inl ((zs_turn E (nI bt) (nI j) p2 E.1).2.2.2.2.1))), (b5, .inl (D.2 0, 200, .inl ((zs_turn E (nI bt) (nI j) p2 E.1).2.2.2.2.2.1))), (b6, .inl (D.2 1, 8, .inr (.inl ((zs_turn E (nI bt) (nI j) p2 E.1).2.2.2.2.2.2.1)))), (b7, .inl (D.2 1, 8, .inr (.inl ((zs_turn E (nI bt) (nI j) p2 E.1).2.2.2.2.2.2.2.1)))), (b8, .inl (D.2 1, 12, .inr (.inl ((zs_turn E (nI bt) (nI j) p2 E.1).2.2.2.2.2.2.2.2)))), (b9, .inl (D.2 2, 200, .inl (upd (upd fx j 1) bt 1)))] : va_W))) (va_A [(b0, .inr (0, [.ref b1, .ref b2, .ref b3, .ref b4, .ref b5, .int (nI E.1), .ref b6, .ref b7, .ref b8, .ref b9, .int (nI bt)])), (b1, .inl (D.2 0, 200, .inl E.2.1)), (b2, .inl (D.2 0, 200, .inl E.2.2.1)), (b3, .inl (D.2 0, 200, .inl E.2.2.2.1)), (b4, .inl (D.2 0, 200, .inl E.2.2.2.2.1)), (b5, .inl (D.2 0, 200, .inl E.2.2.2.2.2.1)), (b6, .inl (D.2 1, 8, .inr (.inl E.2.2.2.2.2.2.1))), (b7, .inl (D.2 1, 8, .inr (.inl E.2.2.2.2.2.2.2.1))), (b8, .inl (D.2 1, 12, .inr (.inl E.2.2.2.2.2.2.2.2))), (b9, .inl (D.2 2, 200, .inl fx))] sz)) 0 0 (va_A [(b0, .inr (0, [.ref b1, .ref b2, .ref b3, .ref b4, .ref b5, .int (nI E.1), .ref b6, .ref b7, .ref b8, .ref b9, .int (nI bt)])), (b1, .inl (D.2 0, 200, .inl E.2.1)), (b2, .inl (D.2 0, 200, .inl E.2.2.1)), (b3, .inl (D.2 0, 200, .inl E.2.2.2.1)), (b4, .inl (D.2 0, 200, .inl E.2.2.2.2.1)), (b5, .inl (D.2 0, 200, .inl E.2.2.2.2.2.1)), (b6, .inl (D.2 1, 8, .inr (.inl E.2.2.2.2.2.2.1))), (b7, .inl (D.2 1, 8, .inr (.inl E.2.2.2.2.2.2.2.1))), (b8, .inl (D.2 1, 12, .inr (.inl E.2.2.2.2.2.2.2.2))), (b9, .inl (D.2 2, 200, .inl fx))] sz) := by
  refine Met.ofW (cc := cX0_turnRound) (maxL := 5) (ret := (some .int)) (by decide) rfl ?_
  intro p e s m args below meth c s₁ B hml hv
  obtain ⟨rfl, hsz, hP, hK, hD0, hB⟩ := hv
  have hx := B.exec
  have hb := B.bytes
  have hr := B.returns
  have hts := atoms_spec (ws := wsX0_turnRound) B.pre
  have hown : s.vm.findClass "ShopLedger$Books" = some m.cls := findClass_of_methodNamed B.named
  have hlocks := B.notSynchronized
  subst hsz
  have hD := hD0.self (sz := s.heap.size)
  generalize hAe : va_A [(b0, .inr (0, [.ref b1, .ref b2, .ref b3, .ref b4, .ref b5, .int (nI E.1), .ref b6, .ref b7, .ref b8, .ref b9, .int (nI bt)])), (b1, .inl (D.2 0, 200, .inl E.2.1)), (b2, .inl (D.2 0, 200, .inl E.2.2.1)), (b3, .inl (D.2 0, 200, .inl E.2.2.2.1)), (b4, .inl (D.2 0, 200, .inl E.2.2.2.2.1)), (b5, .inl (D.2 0, 200, .inl E.2.2.2.2.2.1)), (b6, .inl (D.2 1, 8, .inr (.inl E.2.2.2.2.2.2.1))), (b7, .inl (D.2 1, 8, .inr (.inl E.2.2.2.2.2.2.2.1))), (b8, .inl (D.2 1, 12, .inr (.inl E.2.2.2.2.2.2.2.2))), (b9, .inl (D.2 2, 200, .inl fx))] s.heap.size = A at hD hB ⊢
  have hA : ∀ q : Nat, s.heap.size ≤ q → A q := fun q h => by rw [← hAe]; exact Or.inr h
  have hS : va_S A s.heap s.heap [] := va_S.rf
  have hZ : ∀ w ∈ zALL, w.before _ s = true := fun w h => hts w (List.mem_cons_of_mem _ h)
  have hF : CallFix p m c cX0_turnRound 5 s _ zALL "ShopLedger$Books" := ⟨hx, hb, hml, hown, hZ⟩
  have hl := lv_entry ([.ref b0, .int (nI j), .int p2]) (n := 5) (Nat.le_of_ble_eq_true rfl)
  rw [lg_entry_eq]
  generalize (lg_sl ([.ref b0, .int (nI j), .int p2]) ++ List.replicate (5 - (lg_sl ([.ref b0, .int (nI j), .int p2])).length) Slot.unset).toArray = ls at hl ⊢
  have hl : lv_has ls 5 [(0, .ref b0), (1, .int (nI j)), (2, .int p2)] := hl
  refine lv_aload_n hx hb dX0_turnRound_0 rfl (lv_at hl 0 rfl) ?_
  refine va_get (D := D.1) (ci := 0) (v := .int (nI E.1)) (C := "ShopLedger$Books") (T := TX0) (N := 11) hx hb hZ inX0 hown hK hP 0 rfl rfl 5 (by decide) (hZ _ t_8) (fun _ h9 => h9) rfl dX0_turnRound_1 ?_
  refine lv_istore_n (lv' := [(3, .int (nI E.1)), (0, .ref b0), (1, .int (nI j)), (2, .int p2)]) hx hb dX0_turnRound_4 rfl hl (by decide) rfl (fun ls hl => ?_)
  refine lv_iconst (v := 0) hx hb dX0_turnRound_5 (by decide) ?_
  refine lv_istore (lv' := [(4, .int 0), (3, .int (nI E.1)), (0, .ref b0), (1, .int (nI j)), (2, .int p2)]) hx hb dX0_turnRound_6 hl (by decide) rfl (fun ls hl => ?_)
  have lo1 : ∀ (nn : Nat) (k : Nat), k ≤ E.1 → E.1 + 1 ≤ k + nn → ∀ (H : Heap) (locs : List Loc), va_P D.1 vwCl [(b0, .inr (0, [.ref b1, .ref b2, .ref b3, .ref b4, .ref b5, .int (nI (zs_turn E (nI bt) (nI j) p2 k).1), .ref b6, .ref b7, .ref b8, .ref b9, .int (nI bt)])), (b1, .inl (D.2 0, 200, .inl ((zs_turn E (nI bt) (nI j) p2 k).2.1))), (b2, .inl (D.2 0, 200, .inl ((zs_turn E (nI bt) (nI j) p2 k).2.2.1))), (b3, .inl (D.2 0, 200, .inl ((zs_turn E (nI bt) (nI j) p2 k).2.2.2.1))), (b4, .inl (D.2 0, 200, .inl ((zs_turn E (nI bt) (nI j) p2 k).2.2.2.2.1))), (b5, .inl (D.2 0, 200, .inl ((zs_turn E (nI bt) (nI j) p2 k).2.2.2.2.2.1))), (b6, .inl (D.2 1, 8, .inr (.inl ((zs_turn E (nI bt) (nI j) p2 k).2.2.2.2.2.2.1)))), (b7, .inl (D.2 1, 8, .inr (.inl ((zs_turn E (nI bt) (nI j) p2 k).2.2.2.2.2.2.2.1)))), (b8, .inl (D.2 1, 12, .inr (.inl ((zs_turn E (nI bt) (nI j) p2 k).2.2.2.2.2.2.2.2)))), (b9, .inl (D.2 2, 200, .inl fx))] H → va_D A [(b0, .inr (0, [.ref b1, .ref b2, .ref b3, .ref b4, .ref b5, .int (nI (zs_turn E (nI bt) (nI j) p2 k).1), .ref b6, .ref b7, .ref b8, .ref b9, .int (nI bt)])), (b1, .inl (D.2 0, 200, .inl ((zs_turn E (nI bt) (nI j) p2 k).2.1))), (b2, .inl (D.2 0, 200, .inl ((zs_turn E (nI bt) (nI j) p2 k).2.2.1))), (b3, .inl (D.2 0, 200, .inl ((zs_turn E (nI bt) (nI j) p2 k).2.2.2.1))), (b4, .inl (D.2 0, 200, .inl ((zs_turn E (nI bt) (nI j) p2 k).2.2.2.2.1))), (b5, .inl (D.2 0, 200, .inl ((zs_turn E (nI bt) (nI j) p2 k).2.2.2.2.2.1))), (b6, .inl (D.2 1, 8, .inr (.inl ((zs_turn E (nI bt) (nI j) p2 k).2.2.2.2.2.2.1)))), (b7, .inl (D.2 1, 8, .inr (.inl ((zs_turn E (nI bt) (nI j) p2 k).2.2.2.2.2.2.2.1)))), (b8, .inl (D.2 1, 12, .inr (.inl ((zs_turn E (nI bt) (nI j) p2 k).2.2.2.2.2.2.2.2)))), (b9, .inl (D.2 2, 200, .inl fx))] → va_S A s.heap H locs → ∀ (ls : Array Slot), lv_has ls 5 [(0, .ref b0), (1, .int (nI j)), (2, .int p2), (3, .int (nI E.1)), (4, .int (nI k))] → W p l e (headSpec wsX0_turnRound ({ frames := 1, cells := 0, slots := 0, locals := 24 })).room s m [.ref b0, .int (nI j), .int p2].toArray below meth c H locs 0 0 (MQ below (va_Qi (fun r (_ : Unit) => r = nI bt) (zq D A (fun (_ : Unit) => ([(b0, .inr (0, [.ref b1, .ref b2, .ref b3, .ref b4, .ref b5, .int (nI (zs_turn E (nI bt) (nI j) p2 E.1).1), .ref b6, .ref b7, .ref b8, .ref b9, .int (nI (bt + 1))])), (b1, .inl (D.2 0, 200, .inl ((zs_turn E (nI bt) (nI j) p2 E.1).2.1))), (b2, .inl (D.2 0, 200, .inl ((zs_turn E (nI bt) (nI j) p2 E.1).2.2.1))), (b3, .inl (D.2 0, 200, .inl ((zs_turn E (nI bt) (nI j) p2 E.1).2.2.2.1))), (b4, .inl (D.2 0, 200, .inl ((zs_turn E (nI bt) (nI j) p2 E.1).2.2.2.2.1))), (b5, .inl (D.2 0, 200, .inl ((zs_turn E (nI bt) (nI j) p2 E.1).2.2.2.2.2.1))), (b6, .inl (D.2 1, 8, .inr (.inl ((zs_turn E (nI bt) (nI j) p2 E.1).2.2.2.2.2.2.1)))), (b7, .inl (D.2 1, 8, .inr (.inl ((zs_turn E (nI bt) (nI j) p2 E.1).2.2.2.2.2.2.2.1)))), (b8, .inl (D.2 1, 12, .inr (.inl ((zs_turn E (nI bt) (nI j) p2 E.1).2.2.2.2.2.2.2.2)))), (b9, .inl (D.2 2, 200, .inl (upd (upd fx j 1) bt 1)))] : va_W))) A) [.ref b0, .int (nI j), .int p2].toArray s 0 0 A) (F0 m 8 ls []) := by
    intro nn
    induction nn with
    | zero =>
      intro k q1 q2
      exfalso
      omega
    | succ nn ih_lo1 =>
      intro k q1 q2 H locs hP hD hS ls hl
      refine lv_iload hx hb dX0_turnRound_8 (lv_at hl 4 rfl) ?_
      refine lv_iload_n hx hb dX0_turnRound_10 rfl (lv_at hl 3 rfl) ?_
      refine lv_icmp_ge (tgt := 58) hx hb dX0_turnRound_11 (by decide) (fun c1 => ?_) (fun c1 => ?_)
      · skip
        have e9 : E.1 = k := (z_ge q1 (by omega) c1).symm
        subst e9
        refine lv_aload_n hx hb dX0_turnRound_58 rfl (lv_at hl 0 rfl) ?_
        have J := zJ.mk (wc := [(b0, .inr (0, [.ref b1, .ref b2, .ref b3, .ref b4, .ref b5, .int (nI (zs_turn E (nI bt) (nI j) p2 E.1).1), .ref b6, .ref b7, .ref b8, .ref b9, .int (nI bt)]))]) (wr := [(b1, .inl (D.2 0, 200, .inl ((zs_turn E (nI bt) (nI j) p2 E.1).2.1))), (b2, .inl (D.2 0, 200, .inl ((zs_turn E (nI bt) (nI j) p2 E.1).2.2.1))), (b3, .inl (D.2 0, 200, .inl ((zs_turn E (nI bt) (nI j) p2 E.1).2.2.2.1))), (b4, .inl (D.2 0, 200, .inl ((zs_turn E (nI bt) (nI j) p2 E.1).2.2.2.2.1))), (b5, .inl (D.2 0, 200, .inl ((zs_turn E (nI bt) (nI j) p2 E.1).2.2.2.2.2.1))), (b6, .inl (D.2 1, 8, .inr (.inl ((zs_turn E (nI bt) (nI j) p2 E.1).2.2.2.2.2.2.1)))), (b7, .inl (D.2 1, 8, .inr (.inl ((zs_turn E (nI bt) (nI j) p2 E.1).2.2.2.2.2.2.2.1)))), (b8, .inl (D.2 1, 12, .inr (.inl ((zs_turn E (nI bt) (nI j) p2 E.1).2.2.2.2.2.2.2.2)))), (b9, .inl (D.2 2, 200, .inl fx))]) hA hB hK hP hD hS [0] [1, 2, 3, 4, 5, 6, 7, 8, 9] rfl rfl (by decide)
        refine z_goi (z_runV (As := []) (rest := []) (b := b0) hF (c_Books_end D b0 b1 b2 b3 b4 b5 b6 b7 b8 b9 (zs_turn E (nI bt) (nI j) p2 E.1) bt H.size) (cwV 0 hZ (z_gV t_19 t_20 t_21 t_18 t_17) rfl rfl rfl (by decide +kernel) ⟨Nat.le_of_ble_eq_true rfl, Nat.le_of_ble_eq_true rfl⟩) J 0 0 rfl rfl rfl rfl hl.1 (Nat.le_of_ble_eq_true rfl) dX0_turnRound_59 ⟨Nat.le_of_ble_eq_true rfl, Nat.le_of_ble_eq_true rfl⟩) J (fun r2 _ H locs w2 hP hD hS => ?_)
        have hP : va_P D.1 vwCl [(b1, .inl (D.2 0, 200, .inl ((zs_turn E (nI bt) (nI j) p2 E.1).2.1))), (b2, .inl (D.2 0, 200, .inl ((zs_turn E (nI bt) (nI j) p2 E.1).2.2.1))), (b3, .inl (D.2 0, 200, .inl ((zs_turn E (nI bt) (nI j) p2 E.1).2.2.2.1))), (b4, .inl (D.2 0, 200, .inl ((zs_turn E (nI bt) (nI j) p2 E.1).2.2.2.2.1))), (b5, .inl (D.2 0, 200, .inl ((zs_turn E (nI bt) (nI j) p2 E.1).2.2.2.2.2.1))), (b6, .inl (D.2 1, 8, .inr (.inl ((zs_turn E (nI bt) (nI j) p2 E.1).2.2.2.2.2.2.1)))), (b7, .inl (D.2 1, 8, .inr (.inl ((zs_turn E (nI bt) (nI j) p2 E.1).2.2.2.2.2.2.2.1)))), (b8, .inl (D.2 1, 12, .inr (.inl ((zs_turn E (nI bt) (nI j) p2 E.1).2.2.2.2.2.2.2.2)))), (b9, .inl (D.2 2, 200, .inl fx)), (b0, .inr (0, [.ref b1, .ref b2, .ref b3, .ref b4, .ref b5, .int (nI (zs_turn E (nI bt) (nI j) p2 E.1).1), .ref b6, .ref b7, .ref b8, .ref b9, .int (nI (bt + 1))]))] H := hP
        have hD : va_D A [(b1, .inl (D.2 0, 200, .inl ((zs_turn E (nI bt) (nI j) p2 E.1).2.1))), (b2, .inl (D.2 0, 200, .inl ((zs_turn E (nI bt) (nI j) p2 E.1).2.2.1))), (b3, .inl (D.2 0, 200, .inl ((zs_turn E (nI bt) (nI j) p2 E.1).2.2.2.1))), (b4, .inl (D.2 0, 200, .inl ((zs_turn E (nI bt) (nI j) p2 E.1).2.2.2.2.1))), (b5, .inl (D.2 0, 200, .inl ((zs_turn E (nI bt) (nI j) p2 E.1).2.2.2.2.2.1))), (b6, .inl (D.2 1, 8, .inr (.inl ((zs_turn E (nI bt) (nI j) p2 E.1).2.2.2.2.2.2.1)))), (b7, .inl (D.2 1, 8, .inr (.inl ((zs_turn E (nI bt) (nI j) p2 E.1).2.2.2.2.2.2.2.1)))), (b8, .inl (D.2 1, 12, .inr (.inl ((zs_turn E (nI bt) (nI j) p2 E.1).2.2.2.2.2.2.2.2)))), (b9, .inl (D.2 2, 200, .inl fx)), (b0, .inr (0, [.ref b1, .ref b2, .ref b3, .ref b4, .ref b5, .int (nI (zs_turn E (nI bt) (nI j) p2 E.1).1), .ref b6, .ref b7, .ref b8, .ref b9, .int (nI (bt + 1))]))] := hD
        subst w2
        refine lv_istore (lv' := [(4, .int (nI bt)), (0, .ref b0), (1, .int (nI j)), (2, .int p2), (3, .int (nI E.1))]) hx hb dX0_turnRound_62 hl (by decide) rfl (fun ls hl => ?_)
        refine lv_aload_n hx hb dX0_turnRound_64 rfl (lv_at hl 1 rfl) ?_
        refine va_get (D := D.1) (ci := 0) (v := .ref b9) (C := "ShopLedger$Books") (T := TX0) (N := 11) hx hb hZ inX0 hown hK hP 9 rfl rfl 9 (by decide) (hZ _ t_22) (fun _ h9 => h9) rfl dX0_turnRound_65 ?_
        refine lv_iload_n hx hb dX0_turnRound_68 rfl (lv_at hl 2 rfl) ?_
        refine lv_iconst (v := 1) hx hb dX0_turnRound_69 (by decide) ?_
        refine z_zast (k := j) hx hb hK hP hD hS 8 rfl (hj) (by decide) dX0_turnRound_70 (fun H locs hP hD hS => ?_)
        have hP : va_P D.1 vwCl [(b1, .inl (D.2 0, 200, .inl ((zs_turn E (nI bt) (nI j) p2 E.1).2.1))), (b2, .inl (D.2 0, 200, .inl ((zs_turn E (nI bt) (nI j) p2 E.1).2.2.1))), (b3, .inl (D.2 0, 200, .inl ((zs_turn E (nI bt) (nI j) p2 E.1).2.2.2.1))), (b4, .inl (D.2 0, 200, .inl ((zs_turn E (nI bt) (nI j) p2 E.1).2.2.2.2.1))), (b5, .inl (D.2 0, 200, .inl ((zs_turn E (nI bt) (nI j) p2 E.1).2.2.2.2.2.1))), (b6, .inl (D.2 1, 8, .inr (.inl ((zs_turn E (nI bt) (nI j) p2 E.1).2.2.2.2.2.2.1)))), (b7, .inl (D.2 1, 8, .inr (.inl ((zs_turn E (nI bt) (nI j) p2 E.1).2.2.2.2.2.2.2.1)))), (b8, .inl (D.2 1, 12, .inr (.inl ((zs_turn E (nI bt) (nI j) p2 E.1).2.2.2.2.2.2.2.2)))), (b9, .inl (D.2 2, 200, .inl (upd fx j (vp_nar .boolean 1)))), (b0, .inr (0, [.ref b1, .ref b2, .ref b3, .ref b4, .ref b5, .int (nI (zs_turn E (nI bt) (nI j) p2 E.1).1), .ref b6, .ref b7, .ref b8, .ref b9, .int (nI (bt + 1))]))] H := hP
        have hD : va_D A [(b1, .inl (D.2 0, 200, .inl ((zs_turn E (nI bt) (nI j) p2 E.1).2.1))), (b2, .inl (D.2 0, 200, .inl ((zs_turn E (nI bt) (nI j) p2 E.1).2.2.1))), (b3, .inl (D.2 0, 200, .inl ((zs_turn E (nI bt) (nI j) p2 E.1).2.2.2.1))), (b4, .inl (D.2 0, 200, .inl ((zs_turn E (nI bt) (nI j) p2 E.1).2.2.2.2.1))), (b5, .inl (D.2 0, 200, .inl ((zs_turn E (nI bt) (nI j) p2 E.1).2.2.2.2.2.1))), (b6, .inl (D.2 1, 8, .inr (.inl ((zs_turn E (nI bt) (nI j) p2 E.1).2.2.2.2.2.2.1)))), (b7, .inl (D.2 1, 8, .inr (.inl ((zs_turn E (nI bt) (nI j) p2 E.1).2.2.2.2.2.2.2.1)))), (b8, .inl (D.2 1, 12, .inr (.inl ((zs_turn E (nI bt) (nI j) p2 E.1).2.2.2.2.2.2.2.2)))), (b9, .inl (D.2 2, 200, .inl (upd fx j (vp_nar .boolean 1)))), (b0, .inr (0, [.ref b1, .ref b2, .ref b3, .ref b4, .ref b5, .int (nI (zs_turn E (nI bt) (nI j) p2 E.1).1), .ref b6, .ref b7, .ref b8, .ref b9, .int (nI (bt + 1))]))] := hD
        rw [show vp_nar .boolean 1 = 1 from rfl] at hP hD
        have hP : va_P D.1 vwCl [(b1, .inl (D.2 0, 200, .inl ((zs_turn E (nI bt) (nI j) p2 E.1).2.1))), (b2, .inl (D.2 0, 200, .inl ((zs_turn E (nI bt) (nI j) p2 E.1).2.2.1))), (b3, .inl (D.2 0, 200, .inl ((zs_turn E (nI bt) (nI j) p2 E.1).2.2.2.1))), (b4, .inl (D.2 0, 200, .inl ((zs_turn E (nI bt) (nI j) p2 E.1).2.2.2.2.1))), (b5, .inl (D.2 0, 200, .inl ((zs_turn E (nI bt) (nI j) p2 E.1).2.2.2.2.2.1))), (b6, .inl (D.2 1, 8, .inr (.inl ((zs_turn E (nI bt) (nI j) p2 E.1).2.2.2.2.2.2.1)))), (b7, .inl (D.2 1, 8, .inr (.inl ((zs_turn E (nI bt) (nI j) p2 E.1).2.2.2.2.2.2.2.1)))), (b8, .inl (D.2 1, 12, .inr (.inl ((zs_turn E (nI bt) (nI j) p2 E.1).2.2.2.2.2.2.2.2)))), (b9, .inl (D.2 2, 200, .inl (upd fx j 1))), (b0, .inr (0, [.ref b1, .ref b2, .ref b3, .ref b4, .ref b5, .int (nI (zs_turn E (nI bt) (nI j) p2 E.1).1), .ref b6, .ref b7, .ref b8, .ref b9, .int (nI (bt + 1))]))] H := hP
        have hD : va_D A [(b1, .inl (D.2 0, 200, .inl ((zs_turn E (nI bt) (nI j) p2 E.1).2.1))), (b2, .inl (D.2 0, 200, .inl ((zs_turn E (nI bt) (nI j) p2 E.1).2.2.1))), (b3, .inl (D.2 0, 200, .inl ((zs_turn E (nI bt) (nI j) p2 E.1).2.2.2.1))), (b4, .inl (D.2 0, 200, .inl ((zs_turn E (nI bt) (nI j) p2 E.1).2.2.2.2.1))), (b5, .inl (D.2 0, 200, .inl ((zs_turn E (nI bt) (nI j) p2 E.1).2.2.2.2.2.1))), (b6, .inl (D.2 1, 8, .inr (.inl ((zs_turn E (nI bt) (nI j) p2 E.1).2.2.2.2.2.2.1)))), (b7, .inl (D.2 1, 8, .inr (.inl ((zs_turn E (nI bt) (nI j) p2 E.1).2.2.2.2.2.2.2.1)))), (b8, .inl (D.2 1, 12, .inr (.inl ((zs_turn E (nI bt) (nI j) p2 E.1).2.2.2.2.2.2.2.2)))), (b9, .inl (D.2 2, 200, .inl (upd fx j 1))), (b0, .inr (0, [.ref b1, .ref b2, .ref b3, .ref b4, .ref b5, .int (nI (zs_turn E (nI bt) (nI j) p2 E.1).1), .ref b6, .ref b7, .ref b8, .ref b9, .int (nI (bt + 1))]))] := hD
        refine lv_aload_n hx hb dX0_turnRound_71 rfl (lv_at hl 1 rfl) ?_
        refine va_get (D := D.1) (ci := 0) (v := .ref b9) (C := "ShopLedger$Books") (T := TX0) (N := 11) hx hb hZ inX0 hown hK hP 9 rfl rfl 9 (by decide) (hZ _ t_22) (fun _ h9 => h9) rfl dX0_turnRound_72 ?_
        refine lv_iload hx hb dX0_turnRound_75 (lv_at hl 0 rfl) ?_
        refine lv_iconst (v := 1) hx hb dX0_turnRound_77 (by decide) ?_
        refine z_zast (k := bt) hx hb hK hP hD hS 8 rfl (hbt) (by decide) dX0_turnRound_78 (fun H locs hP hD hS => ?_)
        have hP : va_P D.1 vwCl [(b1, .inl (D.2 0, 200, .inl ((zs_turn E (nI bt) (nI j) p2 E.1).2.1))), (b2, .inl (D.2 0, 200, .inl ((zs_turn E (nI bt) (nI j) p2 E.1).2.2.1))), (b3, .inl (D.2 0, 200, .inl ((zs_turn E (nI bt) (nI j) p2 E.1).2.2.2.1))), (b4, .inl (D.2 0, 200, .inl ((zs_turn E (nI bt) (nI j) p2 E.1).2.2.2.2.1))), (b5, .inl (D.2 0, 200, .inl ((zs_turn E (nI bt) (nI j) p2 E.1).2.2.2.2.2.1))), (b6, .inl (D.2 1, 8, .inr (.inl ((zs_turn E (nI bt) (nI j) p2 E.1).2.2.2.2.2.2.1)))), (b7, .inl (D.2 1, 8, .inr (.inl ((zs_turn E (nI bt) (nI j) p2 E.1).2.2.2.2.2.2.2.1)))), (b8, .inl (D.2 1, 12, .inr (.inl ((zs_turn E (nI bt) (nI j) p2 E.1).2.2.2.2.2.2.2.2)))), (b9, .inl (D.2 2, 200, .inl (upd (upd fx j 1) bt (vp_nar .boolean 1)))), (b0, .inr (0, [.ref b1, .ref b2, .ref b3, .ref b4, .ref b5, .int (nI (zs_turn E (nI bt) (nI j) p2 E.1).1), .ref b6, .ref b7, .ref b8, .ref b9, .int (nI (bt + 1))]))] H := hP
        have hD : va_D A [(b1, .inl (D.2 0, 200, .inl ((zs_turn E (nI bt) (nI j) p2 E.1).2.1))), (b2, .inl (D.2 0, 200, .inl ((zs_turn E (nI bt) (nI j) p2 E.1).2.2.1))), (b3, .inl (D.2 0, 200, .inl ((zs_turn E (nI bt) (nI j) p2 E.1).2.2.2.1))), (b4, .inl (D.2 0, 200, .inl ((zs_turn E (nI bt) (nI j) p2 E.1).2.2.2.2.1))), (b5, .inl (D.2 0, 200, .inl ((zs_turn E (nI bt) (nI j) p2 E.1).2.2.2.2.2.1))), (b6, .inl (D.2 1, 8, .inr (.inl ((zs_turn E (nI bt) (nI j) p2 E.1).2.2.2.2.2.2.1)))), (b7, .inl (D.2 1, 8, .inr (.inl ((zs_turn E (nI bt) (nI j) p2 E.1).2.2.2.2.2.2.2.1)))), (b8, .inl (D.2 1, 12, .inr (.inl ((zs_turn E (nI bt) (nI j) p2 E.1).2.2.2.2.2.2.2.2)))), (b9, .inl (D.2 2, 200, .inl (upd (upd fx j 1) bt (vp_nar .boolean 1)))), (b0, .inr (0, [.ref b1, .ref b2, .ref b3, .ref b4, .ref b5, .int (nI (zs_turn E (nI bt) (nI j) p2 E.1).1), .ref b6, .ref b7, .ref b8, .ref b9, .int (nI (bt + 1))]))] := hD
        rw [show vp_nar .boolean 1 = 1 from rfl] at hP hD
        have hP : va_P D.1 vwCl [(b1, .inl (D.2 0, 200, .inl ((zs_turn E (nI bt) (nI j) p2 E.1).2.1))), (b2, .inl (D.2 0, 200, .inl ((zs_turn E (nI bt) (nI j) p2 E.1).2.2.1))), (b3, .inl (D.2 0, 200, .inl ((zs_turn E (nI bt) (nI j) p2 E.1).2.2.2.1))), (b4, .inl (D.2 0, 200, .inl ((zs_turn E (nI bt) (nI j) p2 E.1).2.2.2.2.1))), (b5, .inl (D.2 0, 200, .inl ((zs_turn E (nI bt) (nI j) p2 E.1).2.2.2.2.2.1))), (b6, .inl (D.2 1, 8, .inr (.inl ((zs_turn E (nI bt) (nI j) p2 E.1).2.2.2.2.2.2.1)))), (b7, .inl (D.2 1, 8, .inr (.inl ((zs_turn E (nI bt) (nI j) p2 E.1).2.2.2.2.2.2.2.1)))), (b8, .inl (D.2 1, 12, .inr (.inl ((zs_turn E (nI bt) (nI j) p2 E.1).2.2.2.2.2.2.2.2)))), (b9, .inl (D.2 2, 200, .inl (upd (upd fx j 1) bt 1))), (b0, .inr (0, [.ref b1, .ref b2, .ref b3, .ref b4, .ref b5, .int (nI (zs_turn E (nI bt) (nI j) p2 E.1).1), .ref b6, .ref b7, .ref b8, .ref b9, .int (nI (bt + 1))]))] H := hP
        have hD : va_D A [(b1, .inl (D.2 0, 200, .inl ((zs_turn E (nI bt) (nI j) p2 E.1).2.1))), (b2, .inl (D.2 0, 200, .inl ((zs_turn E (nI bt) (nI j) p2 E.1).2.2.1))), (b3, .inl (D.2 0, 200, .inl ((zs_turn E (nI bt) (nI j) p2 E.1).2.2.2.1))), (b4, .inl (D.2 0, 200, .inl ((zs_turn E (nI bt) (nI j) p2 E.1).2.2.2.2.1))), (b5, .inl (D.2 0, 200, .inl ((zs_turn E (nI bt) (nI j) p2 E.1).2.2.2.2.2.1))), (b6, .inl (D.2 1, 8, .inr (.inl ((zs_turn E (nI bt) (nI j) p2 E.1).2.2.2.2.2.2.1)))), (b7, .inl (D.2 1, 8, .inr (.inl ((zs_turn E (nI bt) (nI j) p2 E.1).2.2.2.2.2.2.2.1)))), (b8, .inl (D.2 1, 12, .inr (.inl ((zs_turn E (nI bt) (nI j) p2 E.1).2.2.2.2.2.2.2.2)))), (b9, .inl (D.2 2, 200, .inl (upd (upd fx j 1) bt 1))), (b0, .inr (0, [.ref b1, .ref b2, .ref b3, .ref b4, .ref b5, .int (nI (zs_turn E (nI bt) (nI j) p2 E.1).1), .ref b6, .ref b7, .ref b8, .ref b9, .int (nI (bt + 1))]))] := hD
        refine lv_iload hx hb dX0_turnRound_79 (lv_at hl 0 rfl) ?_
        exact z_iret (v := nI bt) hx hb hr hlocks hP hD hS () (rfl) [9, 0, 1, 2, 3, 4, 5, 6, 7, 8] rfl (by decide) (Nat.le_of_ble_eq_true rfl) (Nat.le_of_ble_eq_true rfl) dX0_turnRound_81
      have hk : k < E.1 := z_lt q1 (by omega) c1
      refine lv_aload_n hx hb dX0_turnRound_14 rfl (lv_at hl 0 rfl) ?_
      refine va_get (D := D.1) (ci := 0) (v := .ref b5) (C := "ShopLedger$Books") (T := TX0) (N := 11) hx hb hZ inX0 hown hK hP 0 rfl rfl 4 (by decide) (hZ _ t_12) (fun _ h9 => h9) rfl dX0_turnRound_15 ?_
      refine lv_iload hx hb dX0_turnRound_18 (lv_at hl 4 rfl) ?_
      refine z_iald (k := k) hx hb hK hP 5 rfl (by omega) (by decide) dX0_turnRound_20 ?_
      refine lv_iload_n hx hb dX0_turnRound_21 rfl (lv_at hl 1 rfl) ?_
      refine lv_icmp_ne (tgt := 52) hx hb dX0_turnRound_22 (by decide) (fun c2 => ?_) (fun c2 => ?_)
      · skip
        have e8 : (zs_turn E (nI bt) (nI j) p2 (k + 1)) = (zs_turn E (nI bt) (nI j) p2 k) := by simp only [zs_turn]; rw [if_neg c2]
        rw [← e8] at hP hD
        refine lv_iinc (v := nI (k + 1)) (lv' := [(4, .int (nI (k + 1))), (0, .ref b0), (1, .int (nI j)), (2, .int p2), (3, .int (nI E.1))]) hx hb dX0_turnRound_52 hl (k := 4) rfl (nI_1 k) (by decide) rfl (fun ls hl => ?_)
        refine lv_goto (tgt := 8) hx hb dX0_turnRound_55 (by decide) ?_
        exact ih_lo1 (k + 1) (Nat.succ_le_of_lt hk) (by omega)  _ _ (hP.sub [0, 1, 2, 3, 4, 5, 6, 7, 8, 9] rfl) (hD.sub [0, 1, 2, 3, 4, 5, 6, 7, 8, 9] (by decide) rfl) hS ls (lv_sub hl [1, 2, 3, 4, 0] rfl)
      have c3 := c2
      have e8 : (zs_turn E (nI bt) (nI j) p2 (k + 1)) = zs_enter (zs_turn E (nI bt) (nI j) p2 k) (nI bt) ((zs_turn E (nI bt) (nI j) p2 k).2.1 k) ((zs_turn E (nI bt) (nI j) p2 k).2.2.1 k) p2 (-((zs_turn E (nI bt) (nI j) p2 k).2.2.2.2.1 k)) := by simp only [zs_turn]; rw [if_pos c3]
      obtain ⟨g0, g3⟩ := zs_turn_ok E (nI bt) (nI j) p2 k q1
      have g4 : zs_cnt E.2.2.2.2.2.1 (nI j) (k + 1) ≤ zs_cnt E.2.2.2.2.2.1 (nI j) E.1 := zs_cnt_mono _ _ hk
      have g5 : zs_cnt E.2.2.2.2.2.1 (nI j) (k + 1) = zs_cnt E.2.2.2.2.2.1 (nI j) k + 1 := by simp only [zs_cnt]; rw [if_pos (by rw [← (g3 k hk).2.2.2.2]; exact c3)]
      refine lv_aload_n hx hb dX0_turnRound_25 rfl (lv_at hl 0 rfl) ?_
      refine lv_aload_n hx hb dX0_turnRound_26 rfl (lv_at hl 0 rfl) ?_
      refine va_get (D := D.1) (ci := 0) (v := .ref b1) (C := "ShopLedger$Books") (T := TX0) (N := 11) hx hb hZ inX0 hown hK hP 0 rfl rfl 0 (by decide) (hZ _ t_7) (fun _ h9 => h9) rfl dX0_turnRound_27 ?_
      refine lv_iload hx hb dX0_turnRound_30 (lv_at hl 4 rfl) ?_
      refine z_iald (k := k) hx hb hK hP 1 rfl (by omega) (by decide) dX0_turnRound_32 ?_
      refine lv_aload_n hx hb dX0_turnRound_33 rfl (lv_at hl 0 rfl) ?_
      refine va_get (D := D.1) (ci := 0) (v := .ref b2) (C := "ShopLedger$Books") (T := TX0) (N := 11) hx hb hZ inX0 hown hK hP 0 rfl rfl 1 (by decide) (hZ _ t_9) (fun _ h9 => h9) rfl dX0_turnRound_34 ?_
      refine lv_iload hx hb dX0_turnRound_37 (lv_at hl 4 rfl) ?_
      refine z_iald (k := k) hx hb hK hP 2 rfl (by omega) (by decide) dX0_turnRound_39 ?_
      refine lv_iload_n hx hb dX0_turnRound_40 rfl (lv_at hl 2 rfl) ?_
      refine lv_aload_n hx hb dX0_turnRound_41 rfl (lv_at hl 0 rfl) ?_
      refine va_get (D := D.1) (ci := 0) (v := .ref b4) (C := "ShopLedger$Books") (T := TX0) (N := 11) hx hb hZ inX0 hown hK hP 0 rfl rfl 3 (by decide) (hZ _ t_11) (fun _ h9 => h9) rfl dX0_turnRound_42 ?_
      refine lv_iload hx hb dX0_turnRound_45 (lv_at hl 4 rfl) ?_
      refine z_iald (k := k) hx hb hK hP 4 rfl (by omega) (by decide) dX0_turnRound_47 ?_
      refine lv_ineg hx hb dX0_turnRound_48 ?_
      have J := zJ.mk (wc := [(b0, .inr (0, [.ref b1, .ref b2, .ref b3, .ref b4, .ref b5, .int (nI (zs_turn E (nI bt) (nI j) p2 k).1), .ref b6, .ref b7, .ref b8, .ref b9, .int (nI bt)])), (b1, .inl (D.2 0, 200, .inl ((zs_turn E (nI bt) (nI j) p2 k).2.1))), (b2, .inl (D.2 0, 200, .inl ((zs_turn E (nI bt) (nI j) p2 k).2.2.1))), (b3, .inl (D.2 0, 200, .inl ((zs_turn E (nI bt) (nI j) p2 k).2.2.2.1))), (b4, .inl (D.2 0, 200, .inl ((zs_turn E (nI bt) (nI j) p2 k).2.2.2.2.1))), (b5, .inl (D.2 0, 200, .inl ((zs_turn E (nI bt) (nI j) p2 k).2.2.2.2.2.1))), (b6, .inl (D.2 1, 8, .inr (.inl ((zs_turn E (nI bt) (nI j) p2 k).2.2.2.2.2.2.1)))), (b7, .inl (D.2 1, 8, .inr (.inl ((zs_turn E (nI bt) (nI j) p2 k).2.2.2.2.2.2.2.1)))), (b8, .inl (D.2 1, 12, .inr (.inl ((zs_turn E (nI bt) (nI j) p2 k).2.2.2.2.2.2.2.2))))]) (wr := [(b9, .inl (D.2 2, 200, .inl fx))]) hA hB hK hP hD hS [0, 1, 2, 3, 4, 5, 6, 7, 8] [9] rfl rfl (by decide)
      refine z_gov (z_runV (As := [.int (((zs_turn E (nI bt) (nI j) p2 k).2.1) k), .int (((zs_turn E (nI bt) (nI j) p2 k).2.2.1) k), .int p2, .int (-(((zs_turn E (nI bt) (nI j) p2 k).2.2.2.2.1) k))]) (rest := []) (b := b0) hF (c_Books_enter D b0 b1 b2 b3 b4 b5 b6 b7 b8 b9 (zs_turn E (nI bt) (nI j) p2 k) bt ((zs_turn E (nI bt) (nI j) p2 k).2.1 k) ((zs_turn E (nI bt) (nI j) p2 k).2.2.1 k) p2 (-((zs_turn E (nI bt) (nI j) p2 k).2.2.2.2.1 k)) H.size (by rw [g0]; omega) (by rw [(g3 k hk).1]; exact h1 k hk) (by rw [(g3 k hk).2.1]; exact h2 k hk) h3) (cwV 4 hZ (z_gV t_24 t_25 t_26 t_18 t_23) rfl rfl rfl (by decide +kernel) ⟨Nat.le_of_ble_eq_true rfl, Nat.le_of_ble_eq_true rfl⟩) J 0 0 rfl rfl rfl rfl hl.1 (Nat.le_of_ble_eq_true rfl) dX0_turnRound_49 ⟨Nat.le_of_ble_eq_true rfl, Nat.le_of_ble_eq_true rfl⟩) J (fun _ H locs w1 hP hD hS => ?_)
      have hP : va_P D.1 vwCl [(b9, .inl (D.2 2, 200, .inl fx)), (b0, .inr (0, [.ref b1, .ref b2, .ref b3, .ref b4, .ref b5, .int (nI (zs_enter (zs_turn E (nI bt) (nI j) p2 k) (nI bt) ((zs_turn E (nI bt) (nI j) p2 k).2.1 k) ((zs_turn E (nI bt) (nI j) p2 k).2.2.1 k) p2 (-((zs_turn E (nI bt) (nI j) p2 k).2.2.2.2.1 k))).1), .ref b6, .ref b7, .ref b8, .ref b9, .int (nI bt)])), (b1, .inl (D.2 0, 200, .inl ((zs_enter (zs_turn E (nI bt) (nI j) p2 k) (nI bt) ((zs_turn E (nI bt) (nI j) p2 k).2.1 k) ((zs_turn E (nI bt) (nI j) p2 k).2.2.1 k) p2 (-((zs_turn E (nI bt) (nI j) p2 k).2.2.2.2.1 k))).2.1))), (b2, .inl (D.2 0, 200, .inl ((zs_enter (zs_turn E (nI bt) (nI j) p2 k) (nI bt) ((zs_turn E (nI bt) (nI j) p2 k).2.1 k) ((zs_turn E (nI bt) (nI j) p2 k).2.2.1 k) p2 (-((zs_turn E (nI bt) (nI j) p2 k).2.2.2.2.1 k))).2.2.1))), (b3, .inl (D.2 0, 200, .inl ((zs_enter (zs_turn E (nI bt) (nI j) p2 k) (nI bt) ((zs_turn E (nI bt) (nI j) p2 k).2.1 k) ((zs_turn E (nI bt) (nI j) p2 k).2.2.1 k) p2 (-((zs_turn E (nI bt) (nI j) p2 k).2.2.2.2.1 k))).2.2.2.1))), (b4, .inl (D.2 0, 200, .inl ((zs_enter (zs_turn E (nI bt) (nI j) p2 k) (nI bt) ((zs_turn E (nI bt) (nI j) p2 k).2.1 k) ((zs_turn E (nI bt) (nI j) p2 k).2.2.1 k) p2 (-((zs_turn E (nI bt) (nI j) p2 k).2.2.2.2.1 k))).2.2.2.2.1))), (b5, .inl (D.2 0, 200, .inl ((zs_enter (zs_turn E (nI bt) (nI j) p2 k) (nI bt) ((zs_turn E (nI bt) (nI j) p2 k).2.1 k) ((zs_turn E (nI bt) (nI j) p2 k).2.2.1 k) p2 (-((zs_turn E (nI bt) (nI j) p2 k).2.2.2.2.1 k))).2.2.2.2.2.1))), (b6, .inl (D.2 1, 8, .inr (.inl ((zs_enter (zs_turn E (nI bt) (nI j) p2 k) (nI bt) ((zs_turn E (nI bt) (nI j) p2 k).2.1 k) ((zs_turn E (nI bt) (nI j) p2 k).2.2.1 k) p2 (-((zs_turn E (nI bt) (nI j) p2 k).2.2.2.2.1 k))).2.2.2.2.2.2.1)))), (b7, .inl (D.2 1, 8, .inr (.inl ((zs_enter (zs_turn E (nI bt) (nI j) p2 k) (nI bt) ((zs_turn E (nI bt) (nI j) p2 k).2.1 k) ((zs_turn E (nI bt) (nI j) p2 k).2.2.1 k) p2 (-((zs_turn E (nI bt) (nI j) p2 k).2.2.2.2.1 k))).2.2.2.2.2.2.2.1)))), (b8, .inl (D.2 1, 12, .inr (.inl ((zs_enter (zs_turn E (nI bt) (nI j) p2 k) (nI bt) ((zs_turn E (nI bt) (nI j) p2 k).2.1 k) ((zs_turn E (nI bt) (nI j) p2 k).2.2.1 k) p2 (-((zs_turn E (nI bt) (nI j) p2 k).2.2.2.2.1 k))).2.2.2.2.2.2.2.2))))] H := hP
      have hD : va_D A [(b9, .inl (D.2 2, 200, .inl fx)), (b0, .inr (0, [.ref b1, .ref b2, .ref b3, .ref b4, .ref b5, .int (nI (zs_enter (zs_turn E (nI bt) (nI j) p2 k) (nI bt) ((zs_turn E (nI bt) (nI j) p2 k).2.1 k) ((zs_turn E (nI bt) (nI j) p2 k).2.2.1 k) p2 (-((zs_turn E (nI bt) (nI j) p2 k).2.2.2.2.1 k))).1), .ref b6, .ref b7, .ref b8, .ref b9, .int (nI bt)])), (b1, .inl (D.2 0, 200, .inl ((zs_enter (zs_turn E (nI bt) (nI j) p2 k) (nI bt) ((zs_turn E (nI bt) (nI j) p2 k).2.1 k) ((zs_turn E (nI bt) (nI j) p2 k).2.2.1 k) p2 (-((zs_turn E (nI bt) (nI j) p2 k).2.2.2.2.1 k))).2.1))), (b2, .inl (D.2 0, 200, .inl ((zs_enter (zs_turn E (nI bt) (nI j) p2 k) (nI bt) ((zs_turn E (nI bt) (nI j) p2 k).2.1 k) ((zs_turn E (nI bt) (nI j) p2 k).2.2.1 k) p2 (-((zs_turn E (nI bt) (nI j) p2 k).2.2.2.2.1 k))).2.2.1))), (b3, .inl (D.2 0, 200, .inl ((zs_enter (zs_turn E (nI bt) (nI j) p2 k) (nI bt) ((zs_turn E (nI bt) (nI j) p2 k).2.1 k) ((zs_turn E (nI bt) (nI j) p2 k).2.2.1 k) p2 (-((zs_turn E (nI bt) (nI j) p2 k).2.2.2.2.1 k))).2.2.2.1))), (b4, .inl (D.2 0, 200, .inl ((zs_enter (zs_turn E (nI bt) (nI j) p2 k) (nI bt) ((zs_turn E (nI bt) (nI j) p2 k).2.1 k) ((zs_turn E (nI bt) (nI j) p2 k).2.2.1 k) p2 (-((zs_turn E (nI bt) (nI j) p2 k).2.2.2.2.1 k))).2.2.2.2.1))), (b5, .inl (D.2 0, 200, .inl ((zs_enter (zs_turn E (nI bt) (nI j) p2 k) (nI bt) ((zs_turn E (nI bt) (nI j) p2 k).2.1 k) ((zs_turn E (nI bt) (nI j) p2 k).2.2.1 k) p2 (-((zs_turn E (nI bt) (nI j) p2 k).2.2.2.2.1 k))).2.2.2.2.2.1))), (b6, .inl (D.2 1, 8, .inr (.inl ((zs_enter (zs_turn E (nI bt) (nI j) p2 k) (nI bt) ((zs_turn E (nI bt) (nI j) p2 k).2.1 k) ((zs_turn E (nI bt) (nI j) p2 k).2.2.1 k) p2 (-((zs_turn E (nI bt) (nI j) p2 k).2.2.2.2.1 k))).2.2.2.2.2.2.1)))), (b7, .inl (D.2 1, 8, .inr (.inl ((zs_enter (zs_turn E (nI bt) (nI j) p2 k) (nI bt) ((zs_turn E (nI bt) (nI j) p2 k).2.1 k) ((zs_turn E (nI bt) (nI j) p2 k).2.2.1 k) p2 (-((zs_turn E (nI bt) (nI j) p2 k).2.2.2.2.1 k))).2.2.2.2.2.2.2.1)))), (b8, .inl (D.2 1, 12, .inr (.inl ((zs_enter (zs_turn E (nI bt) (nI j) p2 k) (nI bt) ((zs_turn E (nI bt) (nI j) p2 k).2.1 k) ((zs_turn E (nI bt) (nI j) p2 k).2.2.1 k) p2 (-((zs_turn E (nI bt) (nI j) p2 k).2.2.2.2.1 k))).2.2.2.2.2.2.2.2))))] := hD
      rw [← e8] at hP hD
      have hP : va_P D.1 vwCl [(b9, .inl (D.2 2, 200, .inl fx)), (b0, .inr (0, [.ref b1, .ref b2, .ref b3, .ref b4, .ref b5, .int (nI (zs_turn E (nI bt) (nI j) p2 (k + 1)).1), .ref b6, .ref b7, .ref b8, .ref b9, .int (nI bt)])), (b1, .inl (D.2 0, 200, .inl ((zs_turn E (nI bt) (nI j) p2 (k + 1)).2.1))), (b2, .inl (D.2 0, 200, .inl ((zs_turn E (nI bt) (nI j) p2 (k + 1)).2.2.1))), (b3, .inl (D.2 0, 200, .inl ((zs_turn E (nI bt) (nI j) p2 (k + 1)).2.2.2.1))), (b4, .inl (D.2 0, 200, .inl ((zs_turn E (nI bt) (nI j) p2 (k + 1)).2.2.2.2.1))), (b5, .inl (D.2 0, 200, .inl ((zs_turn E (nI bt) (nI j) p2 (k + 1)).2.2.2.2.2.1))), (b6, .inl (D.2 1, 8, .inr (.inl ((zs_turn E (nI bt) (nI j) p2 (k + 1)).2.2.2.2.2.2.1)))), (b7, .inl (D.2 1, 8, .inr (.inl ((zs_turn E (nI bt) (nI j) p2 (k + 1)).2.2.2.2.2.2.2.1)))), (b8, .inl (D.2 1, 12, .inr (.inl ((zs_turn E (nI bt) (nI j) p2 (k + 1)).2.2.2.2.2.2.2.2))))] H := hP
      have hD : va_D A [(b9, .inl (D.2 2, 200, .inl fx)), (b0, .inr (0, [.ref b1, .ref b2, .ref b3, .ref b4, .ref b5, .int (nI (zs_turn E (nI bt) (nI j) p2 (k + 1)).1), .ref b6, .ref b7, .ref b8, .ref b9, .int (nI bt)])), (b1, .inl (D.2 0, 200, .inl ((zs_turn E (nI bt) (nI j) p2 (k + 1)).2.1))), (b2, .inl (D.2 0, 200, .inl ((zs_turn E (nI bt) (nI j) p2 (k + 1)).2.2.1))), (b3, .inl (D.2 0, 200, .inl ((zs_turn E (nI bt) (nI j) p2 (k + 1)).2.2.2.1))), (b4, .inl (D.2 0, 200, .inl ((zs_turn E (nI bt) (nI j) p2 (k + 1)).2.2.2.2.1))), (b5, .inl (D.2 0, 200, .inl ((zs_turn E (nI bt) (nI j) p2 (k + 1)).2.2.2.2.2.1))), (b6, .inl (D.2 1, 8, .inr (.inl ((zs_turn E (nI bt) (nI j) p2 (k + 1)).2.2.2.2.2.2.1)))), (b7, .inl (D.2 1, 8, .inr (.inl ((zs_turn E (nI bt) (nI j) p2 (k + 1)).2.2.2.2.2.2.2.1)))), (b8, .inl (D.2 1, 12, .inr (.inl ((zs_turn E (nI bt) (nI j) p2 (k + 1)).2.2.2.2.2.2.2.2))))] := hD
      refine lv_iinc (v := nI (k + 1)) (lv' := [(4, .int (nI (k + 1))), (0, .ref b0), (1, .int (nI j)), (2, .int p2), (3, .int (nI E.1))]) hx hb dX0_turnRound_52 hl (k := 4) rfl (nI_1 k) (by decide) rfl (fun ls hl => ?_)
      refine lv_goto (tgt := 8) hx hb dX0_turnRound_55 (by decide) ?_
      exact ih_lo1 (k + 1) (Nat.succ_le_of_lt hk) (by omega)  _ _ (hP.sub [1, 2, 3, 4, 5, 6, 7, 8, 9, 0] rfl) (hD.sub [1, 2, 3, 4, 5, 6, 7, 8, 9, 0] (by decide) rfl) hS ls (lv_sub hl [1, 2, 3, 4, 0] rfl)
  exact lo1 (E.1 + 1) 0 (Nat.zero_le _) (by omega)  _ _ (hP.sub [0, 1, 2, 3, 4, 5, 6, 7, 8, 9] rfl) (hD.sub [0, 1, 2, 3, 4, 5, 6, 7, 8, 9] (by decide) rfl) hS ls (lv_sub hl [2, 3, 4, 1, 0] rfl)
set_option maxHeartbeats 4000000 in
set_option maxRecDepth 100000 in
/-- Stock.addLayer -/
theorem c_Stock_add {l : Launch} (D : zD) (h0 h1 h2 n : Nat) (fp fc : Nat → Int32) (p1 p2 : Int32) (sz : Nat) (hn : n < 12) : Met l yX4_addLayer wsX4_addLayer ({ frames := 0, cells := 0, slots := 0, locals := 0 }) (va_Pc [.ref h0, .int p1, .int p2] (zp D sz [(h0, .inr (4, [.ref h1, .ref h2, .int (nI n)])), (h1, .inl (D.2 0, 12, .inl fp)), (h2, .inl (D.2 0, 12, .inl fc))])) (va_Qi (fun r (_ : Unit) => r = nI (n + 1)) (zq D (va_A [(h0, .inr (4, [.ref h1, .ref h2, .int (nI n)])), (h1, .inl (D.2 0, 12, .inl fp)), (h2, .inl (D.2 0, 12, .inl fc))] sz) (fun (_ : Unit) => ([(h0, .inr (4, [.ref h1, .ref h2, .int (nI (n + 1))])), (h1, .inl (D.2 0, 12, .inl (upd fp n p1))), (h2, .inl (D.2 0, 12, .inl (upd fc n p2)))] : va_W))) (va_A [(h0, .inr (4, [.ref h1, .ref h2, .int (nI n)])), (h1, .inl (D.2 0, 12, .inl fp)), (h2, .inl (D.2 0, 12, .inl fc))] sz)) 0 0 (va_A [(h0, .inr (4, [.ref h1, .ref h2, .int (nI n)])), (h1, .inl (D.2 0, 12, .inl fp)), (h2, .inl (D.2 0, 12, .inl fc))] sz) := by
  refine Met.ofW (cc := cX4_addLayer) (maxL := 3) (ret := (some .int)) (by decide) rfl ?_
  intro p e s m args below meth c s₁ B hml hv
  obtain ⟨rfl, hsz, hP, hK, hD0, hB⟩ := hv
  have hx := B.exec
  have hb := B.bytes
  have hr := B.returns
  have hts := atoms_spec (ws := wsX4_addLayer) B.pre
  have hown : s.vm.findClass "ShopLedger$Stock" = some m.cls := findClass_of_methodNamed B.named
  have hlocks := B.notSynchronized
  subst hsz
  have hD := hD0.self (sz := s.heap.size)
  generalize hAe : va_A [(h0, .inr (4, [.ref h1, .ref h2, .int (nI n)])), (h1, .inl (D.2 0, 12, .inl fp)), (h2, .inl (D.2 0, 12, .inl fc))] s.heap.size = A at hD hB ⊢
  have hA : ∀ q : Nat, s.heap.size ≤ q → A q := fun q h => by rw [← hAe]; exact Or.inr h
  have hS : va_S A s.heap s.heap [] := va_S.rf
  have hZ : ∀ w ∈ zALL, w.before _ s = true := fun w h => hts w (List.mem_cons_of_mem _ h)
  have hF : CallFix p m c cX4_addLayer 3 s _ zALL "ShopLedger$Stock" := ⟨hx, hb, hml, hown, hZ⟩
  have hl := lv_entry ([.ref h0, .int p1, .int p2]) (n := 3) (Nat.le_of_ble_eq_true rfl)
  rw [lg_entry_eq]
  generalize (lg_sl ([.ref h0, .int p1, .int p2]) ++ List.replicate (3 - (lg_sl ([.ref h0, .int p1, .int p2])).length) Slot.unset).toArray = ls at hl ⊢
  have hl : lv_has ls 3 [(0, .ref h0), (1, .int p1), (2, .int p2)] := hl
  refine lv_aload_n hx hb dX4_addLayer_0 rfl (lv_at hl 0 rfl) ?_
  refine va_get (D := D.1) (ci := 4) (v := .ref h1) (C := "ShopLedger$Stock") (T := TX4) (N := 3) hx hb hZ inX4 hown hK hP 0 rfl rfl 0 (by decide) (hZ _ t_27) (fun _ h9 => h9) rfl dX4_addLayer_1 ?_
  refine lv_aload_n hx hb dX4_addLayer_4 rfl (lv_at hl 0 rfl) ?_
  refine va_get (D := D.1) (ci := 4) (v := .int (nI n)) (C := "ShopLedger$Stock") (T := TX4) (N := 3) hx hb hZ inX4 hown hK hP 0 rfl rfl 2 (by decide) (hZ _ t_28) (fun _ h9 => h9) rfl dX4_addLayer_5 ?_
  refine lv_iload_n hx hb dX4_addLayer_8 rfl (lv_at hl 1 rfl) ?_
  refine z_iast (k := n) hx hb hK hP hD hS 1 rfl (hn) (by decide) dX4_addLayer_9 (fun H locs hP hD hS => ?_)
  have hP : va_P D.1 vwCl [(h0, .inr (4, [.ref h1, .ref h2, .int (nI n)])), (h1, .inl (D.2 0, 12, .inl (upd fp n p1))), (h2, .inl (D.2 0, 12, .inl fc))] H := hP
  have hD : va_D A [(h0, .inr (4, [.ref h1, .ref h2, .int (nI n)])), (h1, .inl (D.2 0, 12, .inl (upd fp n p1))), (h2, .inl (D.2 0, 12, .inl fc))] := hD
  refine lv_aload_n hx hb dX4_addLayer_10 rfl (lv_at hl 0 rfl) ?_
  refine va_get (D := D.1) (ci := 4) (v := .ref h2) (C := "ShopLedger$Stock") (T := TX4) (N := 3) hx hb hZ inX4 hown hK hP 0 rfl rfl 1 (by decide) (hZ _ t_29) (fun _ h9 => h9) rfl dX4_addLayer_11 ?_
  refine lv_aload_n hx hb dX4_addLayer_14 rfl (lv_at hl 0 rfl) ?_
  refine va_get (D := D.1) (ci := 4) (v := .int (nI n)) (C := "ShopLedger$Stock") (T := TX4) (N := 3) hx hb hZ inX4 hown hK hP 0 rfl rfl 2 (by decide) (hZ _ t_28) (fun _ h9 => h9) rfl dX4_addLayer_15 ?_
  refine lv_iload_n hx hb dX4_addLayer_18 rfl (lv_at hl 2 rfl) ?_
  refine z_iast (k := n) hx hb hK hP hD hS 2 rfl (hn) (by decide) dX4_addLayer_19 (fun H locs hP hD hS => ?_)
  have hP : va_P D.1 vwCl [(h0, .inr (4, [.ref h1, .ref h2, .int (nI n)])), (h1, .inl (D.2 0, 12, .inl (upd fp n p1))), (h2, .inl (D.2 0, 12, .inl (upd fc n p2)))] H := hP
  have hD : va_D A [(h0, .inr (4, [.ref h1, .ref h2, .int (nI n)])), (h1, .inl (D.2 0, 12, .inl (upd fp n p1))), (h2, .inl (D.2 0, 12, .inl (upd fc n p2)))] := hD
  refine lv_aload_n hx hb dX4_addLayer_20 rfl (lv_at hl 0 rfl) ?_
  refine lv_dup hx hb dX4_addLayer_21 rfl ?_
  refine va_get (D := D.1) (ci := 4) (v := .int (nI n)) (C := "ShopLedger$Stock") (T := TX4) (N := 3) hx hb hZ inX4 hown hK hP 0 rfl rfl 2 (by decide) (hZ _ t_28) (fun _ h9 => h9) rfl dX4_addLayer_22 ?_
  refine lv_iconst (v := 1) hx hb dX4_addLayer_25 (by decide) ?_
  refine lv_iadd hx hb dX4_addLayer_26 ?_
  rw [show ((nI n) + 1) = nI (n + 1) from nI_1 n]
  refine va_put (D := D.1) (ci := 4) (v := .int (nI (n + 1))) (ty := .int) (C := "ShopLedger$Stock") (T := TX4) (N := 3) hx hb hZ inX4 tyX4 tyX4_ok nmX4 hown hK hP hD hS 0 rfl rfl 2 (by decide) (hZ _ t_28) (fun _ h9 => h9) rfl (by decide +kernel) rfl rfl (Nat.le_of_ble_eq_true rfl) dX4_addLayer_27 (fun H locs hP hD hS => ?_)
  have hP : va_P D.1 vwCl [(h0, .inr (4, [.ref h1, .ref h2, .int (nI (n + 1))])), (h1, .inl (D.2 0, 12, .inl (upd fp n p1))), (h2, .inl (D.2 0, 12, .inl (upd fc n p2)))] H := hP
  have hD : va_D A [(h0, .inr (4, [.ref h1, .ref h2, .int (nI (n + 1))])), (h1, .inl (D.2 0, 12, .inl (upd fp n p1))), (h2, .inl (D.2 0, 12, .inl (upd fc n p2)))] := hD
  refine lv_aload_n hx hb dX4_addLayer_30 rfl (lv_at hl 0 rfl) ?_
  refine va_get (D := D.1) (ci := 4) (v := .int (nI (n + 1))) (C := "ShopLedger$Stock") (T := TX4) (N := 3) hx hb hZ inX4 hown hK hP 0 rfl rfl 2 (by decide) (hZ _ t_28) (fun _ h9 => h9) rfl dX4_addLayer_31 ?_
  exact z_iret (v := nI (n + 1)) hx hb hr hlocks hP hD hS () (rfl) [0, 1, 2] rfl (by decide) (Nat.le_of_ble_eq_true rfl) (Nat.le_of_ble_eq_true rfl) dX4_addLayer_34
set_option maxHeartbeats 4000000 in
set_option maxRecDepth 100000 in
/-- Stock.allPieces -/
theorem c_Stock_all {l : Launch} (D : zD) (h0 h1 h2 n : Nat) (fp fc : Nat → Int32) (sz : Nat) (hn : n ≤ 12) : Met l yX4_allPieces wsX4_allPieces ({ frames := 0, cells := 0, slots := 0, locals := 0 }) (va_Pc [.ref h0] (zp D sz [(h0, .inr (4, [.ref h1, .ref h2, .int (nI n)])), (h1, .inl (D.2 0, 12, .inl fp))])) (va_Qi (fun r (_ : Unit) => r = zs_isum fp n) (zq D (va_A [(h0, .inr (4, [.ref h1, .ref h2, .int (nI n)])), (h1, .inl (D.2 0, 12, .inl fp))] sz) (fun (_ : Unit) => ([(h0, .inr (4, [.ref h1, .ref h2, .int (nI n)])), (h1, .inl (D.2 0, 12, .inl fp))] : va_W))) (va_A [(h0, .inr (4, [.ref h1, .ref h2, .int (nI n)])), (h1, .inl (D.2 0, 12, .inl fp))] sz)) 0 0 (va_A [(h0, .inr (4, [.ref h1, .ref h2, .int (nI n)])), (h1, .inl (D.2 0, 12, .inl fp))] sz) := by
  refine Met.ofW (cc := cX4_allPieces) (maxL := 3) (ret := (some .int)) (by decide) rfl ?_
  intro p e s m args below meth c s₁ B hml hv
  obtain ⟨rfl, hsz, hP, hK, hD0, hB⟩ := hv
  have hx := B.exec
  have hb := B.bytes
  have hr := B.returns
  have hts := atoms_spec (ws := wsX4_allPieces) B.pre
  have hown : s.vm.findClass "ShopLedger$Stock" = some m.cls := findClass_of_methodNamed B.named
  have hlocks := B.notSynchronized
  subst hsz
  have hD := hD0.self (sz := s.heap.size)
  generalize hAe : va_A [(h0, .inr (4, [.ref h1, .ref h2, .int (nI n)])), (h1, .inl (D.2 0, 12, .inl fp))] s.heap.size = A at hD hB ⊢
  have hA : ∀ q : Nat, s.heap.size ≤ q → A q := fun q h => by rw [← hAe]; exact Or.inr h
  have hS : va_S A s.heap s.heap [] := va_S.rf
  have hZ : ∀ w ∈ zALL, w.before _ s = true := fun w h => hts w (List.mem_cons_of_mem _ h)
  have hF : CallFix p m c cX4_allPieces 3 s _ zALL "ShopLedger$Stock" := ⟨hx, hb, hml, hown, hZ⟩
  have hl := lv_entry ([.ref h0]) (n := 3) (Nat.le_of_ble_eq_true rfl)
  rw [lg_entry_eq]
  generalize (lg_sl ([.ref h0]) ++ List.replicate (3 - (lg_sl ([.ref h0])).length) Slot.unset).toArray = ls at hl ⊢
  have hl : lv_has ls 3 [(0, .ref h0)] := hl
  refine lv_iconst (v := 0) hx hb dX4_allPieces_0 (by decide) ?_
  refine lv_istore_n (lv' := [(1, .int 0), (0, .ref h0)]) hx hb dX4_allPieces_1 rfl hl (by decide) rfl (fun ls hl => ?_)
  refine lv_iconst (v := 0) hx hb dX4_allPieces_2 (by decide) ?_
  refine lv_istore_n (lv' := [(2, .int 0), (1, .int 0), (0, .ref h0)]) hx hb dX4_allPieces_3 rfl hl (by decide) rfl (fun ls hl => ?_)
  have lo1 : ∀ (nn : Nat) (k : Nat), k ≤ n → n + 1 ≤ k + nn → ∀ (H : Heap) (locs : List Loc), va_P D.1 vwCl [(h0, .inr (4, [.ref h1, .ref h2, .int (nI n)])), (h1, .inl (D.2 0, 12, .inl fp))] H → va_D A [(h0, .inr (4, [.ref h1, .ref h2, .int (nI n)])), (h1, .inl (D.2 0, 12, .inl fp))] → va_S A s.heap H locs → ∀ (ls : Array Slot), lv_has ls 3 [(0, .ref h0), (1, .int (zs_isum fp k)), (2, .int (nI k))] → W p l e (headSpec wsX4_allPieces ({ frames := 0, cells := 0, slots := 0, locals := 0 })).room s m [.ref h0].toArray below meth c H locs 0 0 (MQ below (va_Qi (fun r (_ : Unit) => r = zs_isum fp n) (zq D A (fun (_ : Unit) => ([(h0, .inr (4, [.ref h1, .ref h2, .int (nI n)])), (h1, .inl (D.2 0, 12, .inl fp))] : va_W))) A) [.ref h0].toArray s 0 0 A) (F0 m 4 ls []) := by
    intro nn
    induction nn with
    | zero =>
      intro k q1 q2
      exfalso
      omega
    | succ nn ih_lo1 =>
      intro k q1 q2 H locs hP hD hS ls hl
      refine lv_iload_n hx hb dX4_allPieces_4 rfl (lv_at hl 2 rfl) ?_
      refine lv_aload_n hx hb dX4_allPieces_5 rfl (lv_at hl 0 rfl) ?_
      refine va_get (D := D.1) (ci := 4) (v := .int (nI n)) (C := "ShopLedger$Stock") (T := TX4) (N := 3) hx hb hZ inX4 hown hK hP 0 rfl rfl 2 (by decide) (hZ _ t_28) (fun _ h9 => h9) rfl dX4_allPieces_6 ?_
      refine lv_icmp_ge (tgt := 27) hx hb dX4_allPieces_9 (by decide) (fun c1 => ?_) (fun c1 => ?_)
      · skip
        have e9 : n = k := (z_ge q1 (by omega) c1).symm
        subst e9
        refine lv_iload_n hx hb dX4_allPieces_27 rfl (lv_at hl 1 rfl) ?_
        exact z_iret (v := zs_isum fp n) hx hb hr hlocks hP hD hS () (rfl) [0, 1] rfl (by decide) (Nat.le_of_ble_eq_true rfl) (Nat.le_of_ble_eq_true rfl) dX4_allPieces_28
      have hk : k < n := z_lt q1 (by omega) c1
      refine lv_iload_n hx hb dX4_allPieces_12 rfl (lv_at hl 1 rfl) ?_
      refine lv_aload_n hx hb dX4_allPieces_13 rfl (lv_at hl 0 rfl) ?_
      refine va_get (D := D.1) (ci := 4) (v := .ref h1) (C := "ShopLedger$Stock") (T := TX4) (N := 3) hx hb hZ inX4 hown hK hP 0 rfl rfl 0 (by decide) (hZ _ t_27) (fun _ h9 => h9) rfl dX4_allPieces_14 ?_
      refine lv_iload_n hx hb dX4_allPieces_17 rfl (lv_at hl 2 rfl) ?_
      refine z_iald (k := k) hx hb hK hP 1 rfl (Nat.lt_of_lt_of_le hk hn) (by decide) dX4_allPieces_18 ?_
      refine lv_iadd hx hb dX4_allPieces_19 ?_
      rw [show ((zs_isum fp k) + (fp k)) = zs_isum fp (k + 1) from rfl]
      refine lv_istore_n (lv' := [(1, .int (zs_isum fp (k + 1))), (0, .ref h0), (2, .int (nI k))]) hx hb dX4_allPieces_20 rfl hl (by decide) rfl (fun ls hl => ?_)
      refine lv_iinc (v := nI (k + 1)) (lv' := [(2, .int (nI (k + 1))), (1, .int (zs_isum fp (k + 1))), (0, .ref h0)]) hx hb dX4_allPieces_21 hl (k := 2) rfl (nI_1 k) (by decide) rfl (fun ls hl => ?_)
      refine lv_goto (tgt := 4) hx hb dX4_allPieces_24 (by decide) ?_
      exact ih_lo1 (k + 1) (Nat.succ_le_of_lt hk) (by omega)  _ _ (hP.sub [0, 1] rfl) (hD.sub [0, 1] (by decide) rfl) hS ls (lv_sub hl [2, 1, 0] rfl)
  exact lo1 (n + 1) 0 (Nat.zero_le _) (by omega)  _ _ (hP.sub [0, 1] rfl) (hD.sub [0, 1] (by decide) rfl) hS ls (lv_sub hl [2, 1, 0] rfl)
set_option maxHeartbeats 4000000 in
set_option maxRecDepth 100000 in
/-- Stock.worth -/
theorem c_Stock_worth {l : Launch} (D : zD) (h0 h1 h2 n : Nat) (fp fc : Nat → Int32) (sz : Nat) (hn : n ≤ 12) : Met l yX4_worth wsX4_worth ({ frames := 0, cells := 0, slots := 0, locals := 0 }) (va_Pc [.ref h0] (zp D sz [(h0, .inr (4, [.ref h1, .ref h2, .int (nI n)])), (h1, .inl (D.2 0, 12, .inl fp)), (h2, .inl (D.2 0, 12, .inl fc))])) (va_Ql (fun r (_ : Unit) => r = zs_worth fp fc n) (zq D (va_A [(h0, .inr (4, [.ref h1, .ref h2, .int (nI n)])), (h1, .inl (D.2 0, 12, .inl fp)), (h2, .inl (D.2 0, 12, .inl fc))] sz) (fun (_ : Unit) => ([(h0, .inr (4, [.ref h1, .ref h2, .int (nI n)])), (h1, .inl (D.2 0, 12, .inl fp)), (h2, .inl (D.2 0, 12, .inl fc))] : va_W))) (va_A [(h0, .inr (4, [.ref h1, .ref h2, .int (nI n)])), (h1, .inl (D.2 0, 12, .inl fp)), (h2, .inl (D.2 0, 12, .inl fc))] sz)) 0 0 (va_A [(h0, .inr (4, [.ref h1, .ref h2, .int (nI n)])), (h1, .inl (D.2 0, 12, .inl fp)), (h2, .inl (D.2 0, 12, .inl fc))] sz) := by
  refine Met.ofW (cc := cX4_worth) (maxL := 4) (ret := (some .long)) (by decide) rfl ?_
  intro p e s m args below meth c s₁ B hml hv
  obtain ⟨rfl, hsz, hP, hK, hD0, hB⟩ := hv
  have hx := B.exec
  have hb := B.bytes
  have hr := B.returns
  have hts := atoms_spec (ws := wsX4_worth) B.pre
  have hown : s.vm.findClass "ShopLedger$Stock" = some m.cls := findClass_of_methodNamed B.named
  have hlocks := B.notSynchronized
  subst hsz
  have hD := hD0.self (sz := s.heap.size)
  generalize hAe : va_A [(h0, .inr (4, [.ref h1, .ref h2, .int (nI n)])), (h1, .inl (D.2 0, 12, .inl fp)), (h2, .inl (D.2 0, 12, .inl fc))] s.heap.size = A at hD hB ⊢
  have hA : ∀ q : Nat, s.heap.size ≤ q → A q := fun q h => by rw [← hAe]; exact Or.inr h
  have hS : va_S A s.heap s.heap [] := va_S.rf
  have hZ : ∀ w ∈ zALL, w.before _ s = true := fun w h => hts w (List.mem_cons_of_mem _ h)
  have hF : CallFix p m c cX4_worth 4 s _ zALL "ShopLedger$Stock" := ⟨hx, hb, hml, hown, hZ⟩
  have hl := lv_entry ([.ref h0]) (n := 4) (Nat.le_of_ble_eq_true rfl)
  rw [lg_entry_eq]
  generalize (lg_sl ([.ref h0]) ++ List.replicate (4 - (lg_sl ([.ref h0])).length) Slot.unset).toArray = ls at hl ⊢
  have hl : lv_has ls 4 [(0, .ref h0)] := hl
  refine lv_lconst (v := 0) hx hb dX4_worth_0 (by decide) ?_
  refine lv_lstore_n (lv' := [(1, .long 0), (0, .ref h0)]) hx hb dX4_worth_1 rfl hl (by decide) rfl (fun ls hl => ?_)
  refine lv_iconst (v := 0) hx hb dX4_worth_2 (by decide) ?_
  refine lv_istore_n (lv' := [(3, .int 0), (1, .long 0), (0, .ref h0)]) hx hb dX4_worth_3 rfl hl (by decide) rfl (fun ls hl => ?_)
  have lo1 : ∀ (nn : Nat) (k : Nat), k ≤ n → n + 1 ≤ k + nn → ∀ (H : Heap) (locs : List Loc), va_P D.1 vwCl [(h0, .inr (4, [.ref h1, .ref h2, .int (nI n)])), (h1, .inl (D.2 0, 12, .inl fp)), (h2, .inl (D.2 0, 12, .inl fc))] H → va_D A [(h0, .inr (4, [.ref h1, .ref h2, .int (nI n)])), (h1, .inl (D.2 0, 12, .inl fp)), (h2, .inl (D.2 0, 12, .inl fc))] → va_S A s.heap H locs → ∀ (ls : Array Slot), lv_has ls 4 [(0, .ref h0), (1, .long (zs_worth fp fc k)), (3, .int (nI k))] → W p l e (headSpec wsX4_worth ({ frames := 0, cells := 0, slots := 0, locals := 0 })).room s m [.ref h0].toArray below meth c H locs 0 0 (MQ below (va_Ql (fun r (_ : Unit) => r = zs_worth fp fc n) (zq D A (fun (_ : Unit) => ([(h0, .inr (4, [.ref h1, .ref h2, .int (nI n)])), (h1, .inl (D.2 0, 12, .inl fp)), (h2, .inl (D.2 0, 12, .inl fc))] : va_W))) A) [.ref h0].toArray s 0 0 A) (F0 m 4 ls []) := by
    intro nn
    induction nn with
    | zero =>
      intro k q1 q2
      exfalso
      omega
    | succ nn ih_lo1 =>
      intro k q1 q2 H locs hP hD hS ls hl
      refine lv_iload_n hx hb dX4_worth_4 rfl (lv_at hl 2 rfl) ?_
      refine lv_aload_n hx hb dX4_worth_5 rfl (lv_at hl 0 rfl) ?_
      refine va_get (D := D.1) (ci := 4) (v := .int (nI n)) (C := "ShopLedger$Stock") (T := TX4) (N := 3) hx hb hZ inX4 hown hK hP 0 rfl rfl 2 (by decide) (hZ _ t_28) (fun _ h9 => h9) rfl dX4_worth_6 ?_
      refine lv_icmp_ge (tgt := 36) hx hb dX4_worth_9 (by decide) (fun c1 => ?_) (fun c1 => ?_)
      · skip
        have e9 : n = k := (z_ge q1 (by omega) c1).symm
        subst e9
        refine lv_lload_n hx hb dX4_worth_36 rfl (lv_at hl 1 rfl) ?_
        exact z_lret (v := zs_worth fp fc n) hx hb hr hlocks hP hD hS () (rfl) [0, 1, 2] rfl (by decide) (Nat.le_of_ble_eq_true rfl) (Nat.le_of_ble_eq_true rfl) dX4_worth_37
      have hk : k < n := z_lt q1 (by omega) c1
      refine lv_lload_n hx hb dX4_worth_12 rfl (lv_at hl 1 rfl) ?_
      refine lv_aload_n hx hb dX4_worth_13 rfl (lv_at hl 0 rfl) ?_
      refine va_get (D := D.1) (ci := 4) (v := .ref h1) (C := "ShopLedger$Stock") (T := TX4) (N := 3) hx hb hZ inX4 hown hK hP 0 rfl rfl 0 (by decide) (hZ _ t_27) (fun _ h9 => h9) rfl dX4_worth_14 ?_
      refine lv_iload_n hx hb dX4_worth_17 rfl (lv_at hl 2 rfl) ?_
      refine z_iald (k := k) hx hb hK hP 1 rfl (Nat.lt_of_lt_of_le hk hn) (by decide) dX4_worth_18 ?_
      refine lv_i2l (v := (fp k).toInt64) hx hb dX4_worth_19 rfl ?_
      refine lv_aload_n hx hb dX4_worth_20 rfl (lv_at hl 0 rfl) ?_
      refine va_get (D := D.1) (ci := 4) (v := .ref h2) (C := "ShopLedger$Stock") (T := TX4) (N := 3) hx hb hZ inX4 hown hK hP 0 rfl rfl 1 (by decide) (hZ _ t_29) (fun _ h9 => h9) rfl dX4_worth_21 ?_
      refine lv_iload_n hx hb dX4_worth_24 rfl (lv_at hl 2 rfl) ?_
      refine z_iald (k := k) hx hb hK hP 2 rfl (Nat.lt_of_lt_of_le hk hn) (by decide) dX4_worth_25 ?_
      refine lv_i2l (v := (fc k).toInt64) hx hb dX4_worth_26 rfl ?_
      refine lv_lmul hx hb dX4_worth_27 ?_
      refine lv_ladd hx hb dX4_worth_28 ?_
      rw [show ((zs_worth fp fc k) + (((fp k).toInt64) * ((fc k).toInt64))) = zs_worth fp fc (k + 1) from rfl]
      refine lv_lstore_n (lv' := [(1, .long (zs_worth fp fc (k + 1))), (0, .ref h0), (3, .int (nI k))]) hx hb dX4_worth_29 rfl hl (by decide) rfl (fun ls hl => ?_)
      refine lv_iinc (v := nI (k + 1)) (lv' := [(3, .int (nI (k + 1))), (1, .long (zs_worth fp fc (k + 1))), (0, .ref h0)]) hx hb dX4_worth_30 hl (k := 2) rfl (nI_1 k) (by decide) rfl (fun ls hl => ?_)
      refine lv_goto (tgt := 4) hx hb dX4_worth_33 (by decide) ?_
      exact ih_lo1 (k + 1) (Nat.succ_le_of_lt hk) (by omega)  _ _ (hP.sub [0, 1, 2] rfl) (hD.sub [0, 1, 2] (by decide) rfl) hS ls (lv_sub hl [2, 1, 0] rfl)
  exact lo1 (n + 1) 0 (Nat.zero_le _) (by omega)  _ _ (hP.sub [0, 1, 2] rfl) (hD.sub [0, 1, 2] (by decide) rfl) hS ls (lv_sub hl [2, 1, 0] rfl)
set_option maxHeartbeats 4000000 in
set_option maxRecDepth 100000 in
/-- Stock.moveUp -/
theorem c_Stock_move {l : Launch} (D : zD) (h0 h1 h2 n : Nat) (fp fc : Nat → Int32) (q : Nat) (sz : Nat) (hq : q ≤ n) (hn : n ≤ 12) : Met l yX4_moveUp wsX4_moveUp ({ frames := 0, cells := 0, slots := 0, locals := 0 }) (va_Pc [.ref h0, .int (nI q)] (zp D sz [(h0, .inr (4, [.ref h1, .ref h2, .int (nI n)])), (h1, .inl (D.2 0, 12, .inl fp)), (h2, .inl (D.2 0, 12, .inl fc))])) (va_Qv (fun (_ : Unit) => True) (zq D (va_A [(h0, .inr (4, [.ref h1, .ref h2, .int (nI n)])), (h1, .inl (D.2 0, 12, .inl fp)), (h2, .inl (D.2 0, 12, .inl fc))] sz) (fun (_ : Unit) => ([(h0, .inr (4, [.ref h1, .ref h2, .int (nI (n - q))])), (h1, .inl (D.2 0, 12, .inl (zs_mv fp q (n - q)))), (h2, .inl (D.2 0, 12, .inl (zs_mv fc q (n - q))))] : va_W))) (va_A [(h0, .inr (4, [.ref h1, .ref h2, .int (nI n)])), (h1, .inl (D.2 0, 12, .inl fp)), (h2, .inl (D.2 0, 12, .inl fc))] sz)) 0 0 (va_A [(h0, .inr (4, [.ref h1, .ref h2, .int (nI n)])), (h1, .inl (D.2 0, 12, .inl fp)), (h2, .inl (D.2 0, 12, .inl fc))] sz) := by
  refine Met.ofW (cc := cX4_moveUp) (maxL := 3) (ret := none) (by decide) rfl ?_
  intro p e s m args below meth c s₁ B hml hv
  obtain ⟨rfl, hsz, hP, hK, hD0, hB⟩ := hv
  have hx := B.exec
  have hb := B.bytes
  have hr := B.returns
  have hts := atoms_spec (ws := wsX4_moveUp) B.pre
  have hown : s.vm.findClass "ShopLedger$Stock" = some m.cls := findClass_of_methodNamed B.named
  have hlocks := B.notSynchronized
  subst hsz
  have hD := hD0.self (sz := s.heap.size)
  generalize hAe : va_A [(h0, .inr (4, [.ref h1, .ref h2, .int (nI n)])), (h1, .inl (D.2 0, 12, .inl fp)), (h2, .inl (D.2 0, 12, .inl fc))] s.heap.size = A at hD hB ⊢
  have hA : ∀ q : Nat, s.heap.size ≤ q → A q := fun q h => by rw [← hAe]; exact Or.inr h
  have hS : va_S A s.heap s.heap [] := va_S.rf
  have hZ : ∀ w ∈ zALL, w.before _ s = true := fun w h => hts w (List.mem_cons_of_mem _ h)
  have hF : CallFix p m c cX4_moveUp 3 s _ zALL "ShopLedger$Stock" := ⟨hx, hb, hml, hown, hZ⟩
  have hl := lv_entry ([.ref h0, .int (nI q)]) (n := 3) (Nat.le_of_ble_eq_true rfl)
  rw [lg_entry_eq]
  generalize (lg_sl ([.ref h0, .int (nI q)]) ++ List.replicate (3 - (lg_sl ([.ref h0, .int (nI q)])).length) Slot.unset).toArray = ls at hl ⊢
  have hl : lv_has ls 3 [(0, .ref h0), (1, .int (nI q))] := hl
  refine lv_iload_n hx hb dX4_moveUp_0 rfl (lv_at hl 1 rfl) ?_
  refine lv_istore_n (lv' := [(2, .int (nI q)), (0, .ref h0), (1, .int (nI q))]) hx hb dX4_moveUp_1 rfl hl (by decide) rfl (fun ls hl => ?_)
  have lo1 : ∀ (nn : Nat) (k : Nat), q + k ≤ n → n + 1 ≤ q + k + nn → ∀ (H : Heap) (locs : List Loc), va_P D.1 vwCl [(h0, .inr (4, [.ref h1, .ref h2, .int (nI n)])), (h1, .inl (D.2 0, 12, .inl (zs_mv fp q k))), (h2, .inl (D.2 0, 12, .inl (zs_mv fc q k)))] H → va_D A [(h0, .inr (4, [.ref h1, .ref h2, .int (nI n)])), (h1, .inl (D.2 0, 12, .inl (zs_mv fp q k))), (h2, .inl (D.2 0, 12, .inl (zs_mv fc q k)))] → va_S A s.heap H locs → ∀ (ls : Array Slot), lv_has ls 3 [(0, .ref h0), (1, .int (nI q)), (2, .int (nI (q + k)))] → W p l e (headSpec wsX4_moveUp ({ frames := 0, cells := 0, slots := 0, locals := 0 })).room s m [.ref h0, .int (nI q)].toArray below meth c H locs 0 0 (MQ below (va_Qv (fun (_ : Unit) => True) (zq D A (fun (_ : Unit) => ([(h0, .inr (4, [.ref h1, .ref h2, .int (nI (n - q))])), (h1, .inl (D.2 0, 12, .inl (zs_mv fp q (n - q)))), (h2, .inl (D.2 0, 12, .inl (zs_mv fc q (n - q))))] : va_W))) A) [.ref h0, .int (nI q)].toArray s 0 0 A) (F0 m 2 ls []) := by
    intro nn
    induction nn with
    | zero =>
      intro k q1 q2
      exfalso
      omega
    | succ nn ih_lo1 =>
      intro k q1 q2 H locs hP hD hS ls hl
      refine lv_iload_n hx hb dX4_moveUp_2 rfl (lv_at hl 2 rfl) ?_
      refine lv_aload_n hx hb dX4_moveUp_3 rfl (lv_at hl 0 rfl) ?_
      refine va_get (D := D.1) (ci := 4) (v := .int (nI n)) (C := "ShopLedger$Stock") (T := TX4) (N := 3) hx hb hZ inX4 hown hK hP 0 rfl rfl 2 (by decide) (hZ _ t_28) (fun _ h9 => h9) rfl dX4_moveUp_4 ?_
      refine lv_icmp_ge (tgt := 44) hx hb dX4_moveUp_7 (by decide) (fun c1 => ?_) (fun c1 => ?_)
      · skip
        have e9 : n - q = k := by have := z_ge q1 (by omega) c1; omega
        subst e9
        refine lv_aload_n hx hb dX4_moveUp_44 rfl (lv_at hl 0 rfl) ?_
        refine lv_dup hx hb dX4_moveUp_45 rfl ?_
        refine va_get (D := D.1) (ci := 4) (v := .int (nI n)) (C := "ShopLedger$Stock") (T := TX4) (N := 3) hx hb hZ inX4 hown hK hP 0 rfl rfl 2 (by decide) (hZ _ t_28) (fun _ h9 => h9) rfl dX4_moveUp_46 ?_
        refine lv_iload_n hx hb dX4_moveUp_49 rfl (lv_at hl 1 rfl) ?_
        refine lv_isub hx hb dX4_moveUp_50 ?_
        rw [show ((nI n) - (nI q)) = nI (n - q) from pk_sub hq]
        refine va_put (D := D.1) (ci := 4) (v := .int (nI (n - q))) (ty := .int) (C := "ShopLedger$Stock") (T := TX4) (N := 3) hx hb hZ inX4 tyX4 tyX4_ok nmX4 hown hK hP hD hS 0 rfl rfl 2 (by decide) (hZ _ t_28) (fun _ h9 => h9) rfl (by decide +kernel) rfl rfl (Nat.le_of_ble_eq_true rfl) dX4_moveUp_51 (fun H locs hP hD hS => ?_)
        have hP : va_P D.1 vwCl [(h0, .inr (4, [.ref h1, .ref h2, .int (nI (n - q))])), (h1, .inl (D.2 0, 12, .inl (zs_mv fp q (n - q)))), (h2, .inl (D.2 0, 12, .inl (zs_mv fc q (n - q))))] H := hP
        have hD : va_D A [(h0, .inr (4, [.ref h1, .ref h2, .int (nI (n - q))])), (h1, .inl (D.2 0, 12, .inl (zs_mv fp q (n - q)))), (h2, .inl (D.2 0, 12, .inl (zs_mv fc q (n - q))))] := hD
        exact z_vret hx hb hr hlocks hP hD hS () (trivial) [0, 1, 2] rfl (by decide) (Nat.le_of_ble_eq_true rfl) (Nat.le_of_ble_eq_true rfl) dX4_moveUp_54
      have hk : q + k < n := z_lt q1 (by omega) c1
      have hs : nI (q + k) - nI q = nI k := by rw [pk_sub (Nat.le_add_right q k), Nat.add_sub_cancel_left]
      refine lv_aload_n hx hb dX4_moveUp_10 rfl (lv_at hl 0 rfl) ?_
      refine va_get (D := D.1) (ci := 4) (v := .ref h1) (C := "ShopLedger$Stock") (T := TX4) (N := 3) hx hb hZ inX4 hown hK hP 0 rfl rfl 0 (by decide) (hZ _ t_27) (fun _ h9 => h9) rfl dX4_moveUp_11 ?_
      refine lv_iload_n hx hb dX4_moveUp_14 rfl (lv_at hl 2 rfl) ?_
      refine lv_iload_n hx hb dX4_moveUp_15 rfl (lv_at hl 1 rfl) ?_
      refine lv_isub hx hb dX4_moveUp_16 ?_
      rw [show ((nI (q + k)) - (nI q)) = nI k from hs]
      refine lv_aload_n hx hb dX4_moveUp_17 rfl (lv_at hl 0 rfl) ?_
      refine va_get (D := D.1) (ci := 4) (v := .ref h1) (C := "ShopLedger$Stock") (T := TX4) (N := 3) hx hb hZ inX4 hown hK hP 0 rfl rfl 0 (by decide) (hZ _ t_27) (fun _ h9 => h9) rfl dX4_moveUp_18 ?_
      refine lv_iload_n hx hb dX4_moveUp_21 rfl (lv_at hl 2 rfl) ?_
      refine z_iald (k := q + k) hx hb hK hP 1 rfl (by omega) (by decide) dX4_moveUp_22 ?_
      refine z_iast (k := k) hx hb hK hP hD hS 1 rfl (by omega) (by decide) dX4_moveUp_23 (fun H locs hP hD hS => ?_)
      have hP : va_P D.1 vwCl [(h0, .inr (4, [.ref h1, .ref h2, .int (nI n)])), (h1, .inl (D.2 0, 12, .inl (upd (zs_mv fp q k) k ((zs_mv fp q k) (q + k))))), (h2, .inl (D.2 0, 12, .inl (zs_mv fc q k)))] H := hP
      have hD : va_D A [(h0, .inr (4, [.ref h1, .ref h2, .int (nI n)])), (h1, .inl (D.2 0, 12, .inl (upd (zs_mv fp q k) k ((zs_mv fp q k) (q + k))))), (h2, .inl (D.2 0, 12, .inl (zs_mv fc q k)))] := hD
      refine lv_aload_n hx hb dX4_moveUp_24 rfl (lv_at hl 0 rfl) ?_
      refine va_get (D := D.1) (ci := 4) (v := .ref h2) (C := "ShopLedger$Stock") (T := TX4) (N := 3) hx hb hZ inX4 hown hK hP 0 rfl rfl 1 (by decide) (hZ _ t_29) (fun _ h9 => h9) rfl dX4_moveUp_25 ?_
      refine lv_iload_n hx hb dX4_moveUp_28 rfl (lv_at hl 2 rfl) ?_
      refine lv_iload_n hx hb dX4_moveUp_29 rfl (lv_at hl 1 rfl) ?_
      refine lv_isub hx hb dX4_moveUp_30 ?_
      rw [show ((nI (q + k)) - (nI q)) = nI k from hs]
      refine lv_aload_n hx hb dX4_moveUp_31 rfl (lv_at hl 0 rfl) ?_
      refine va_get (D := D.1) (ci := 4) (v := .ref h2) (C := "ShopLedger$Stock") (T := TX4) (N := 3) hx hb hZ inX4 hown hK hP 0 rfl rfl 1 (by decide) (hZ _ t_29) (fun _ h9 => h9) rfl dX4_moveUp_32 ?_
      refine lv_iload_n hx hb dX4_moveUp_35 rfl (lv_at hl 2 rfl) ?_
      refine z_iald (k := q + k) hx hb hK hP 2 rfl (by omega) (by decide) dX4_moveUp_36 ?_
      refine z_iast (k := k) hx hb hK hP hD hS 2 rfl (by omega) (by decide) dX4_moveUp_37 (fun H locs hP hD hS => ?_)
      have hP : va_P D.1 vwCl [(h0, .inr (4, [.ref h1, .ref h2, .int (nI n)])), (h1, .inl (D.2 0, 12, .inl (upd (zs_mv fp q k) k ((zs_mv fp q k) (q + k))))), (h2, .inl (D.2 0, 12, .inl (upd (zs_mv fc q k) k ((zs_mv fc q k) (q + k)))))] H := hP
      have hD : va_D A [(h0, .inr (4, [.ref h1, .ref h2, .int (nI n)])), (h1, .inl (D.2 0, 12, .inl (upd (zs_mv fp q k) k ((zs_mv fp q k) (q + k))))), (h2, .inl (D.2 0, 12, .inl (upd (zs_mv fc q k) k ((zs_mv fc q k) (q + k)))))] := hD
      refine lv_iinc (v := nI (q + (k + 1))) (lv' := [(2, .int (nI (q + (k + 1)))), (0, .ref h0), (1, .int (nI q))]) hx hb dX4_moveUp_38 hl (k := 2) rfl (nI_1 (q + k)) (by decide) rfl (fun ls hl => ?_)
      refine lv_goto (tgt := 2) hx hb dX4_moveUp_41 (by decide) ?_
      exact ih_lo1 (k + 1) (by omega) (by omega) _ _ (hP.sub [0, 1, 2] rfl) (hD.sub [0, 1, 2] (by decide) rfl) hS ls (lv_sub hl [1, 2, 0] rfl)
  exact lo1 (n + 1) 0 hq (by omega) _ _ (hP.sub [0, 1, 2] rfl) (hD.sub [0, 1, 2] (by decide) rfl) hS ls (lv_sub hl [1, 2, 0] rfl)
set_option maxHeartbeats 4000000 in
set_option maxRecDepth 100000 in
/-- Stock.takeOut -/
theorem c_Stock_take {l : Launch} (D : zD) (h0 h1 h2 n : Nat) (fp fc : Nat → Int32) (p1 : Int32) (sz : Nat) (hn : n ≤ 12) (he : (zs_take fp fc p1 n).2.2.1 ≤ n) : Met l yX4_takeOut wsX4_takeOut ({ frames := 1, cells := 0, slots := 0, locals := 22 }) (va_Pc [.ref h0, .int p1] (zp D sz [(h0, .inr (4, [.ref h1, .ref h2, .int (nI n)])), (h1, .inl (D.2 0, 12, .inl fp)), (h2, .inl (D.2 0, 12, .inl fc))])) (va_Ql (fun r (_ : Unit) => r = (zs_take fp fc p1 n).2.1) (zq D (va_A [(h0, .inr (4, [.ref h1, .ref h2, .int (nI n)])), (h1, .inl (D.2 0, 12, .inl fp)), (h2, .inl (D.2 0, 12, .inl fc))] sz) (fun (_ : Unit) => ([(h0, .inr (4, [.ref h1, .ref h2, .int (nI (n - (zs_take fp fc p1 n).2.2.1))])), (h1, .inl (D.2 0, 12, .inl (zs_mv (zs_take fp fc p1 n).2.2.2 (zs_take fp fc p1 n).2.2.1 (n - (zs_take fp fc p1 n).2.2.1)))), (h2, .inl (D.2 0, 12, .inl (zs_mv fc (zs_take fp fc p1 n).2.2.1 (n - (zs_take fp fc p1 n).2.2.1))))] : va_W))) (va_A [(h0, .inr (4, [.ref h1, .ref h2, .int (nI n)])), (h1, .inl (D.2 0, 12, .inl fp)), (h2, .inl (D.2 0, 12, .inl fc))] sz)) 0 0 (va_A [(h0, .inr (4, [.ref h1, .ref h2, .int (nI n)])), (h1, .inl (D.2 0, 12, .inl fp)), (h2, .inl (D.2 0, 12, .inl fc))] sz) := by
  refine Met.ofW (cc := cX4_takeOut) (maxL := 8) (ret := (some .long)) (by decide) rfl ?_
  intro p e s m args below meth c s₁ B hml hv
  obtain ⟨rfl, hsz, hP, hK, hD0, hB⟩ := hv
  have hx := B.exec
  have hb := B.bytes
  have hr := B.returns
  have hts := atoms_spec (ws := wsX4_takeOut) B.pre
  have hown : s.vm.findClass "ShopLedger$Stock" = some m.cls := findClass_of_methodNamed B.named
  have hlocks := B.notSynchronized
  subst hsz
  have hD := hD0.self (sz := s.heap.size)
  generalize hAe : va_A [(h0, .inr (4, [.ref h1, .ref h2, .int (nI n)])), (h1, .inl (D.2 0, 12, .inl fp)), (h2, .inl (D.2 0, 12, .inl fc))] s.heap.size = A at hD hB ⊢
  have hA : ∀ q : Nat, s.heap.size ≤ q → A q := fun q h => by rw [← hAe]; exact Or.inr h
  have hS : va_S A s.heap s.heap [] := va_S.rf
  have hZ : ∀ w ∈ zALL, w.before _ s = true := fun w h => hts w (List.mem_cons_of_mem _ h)
  have hF : CallFix p m c cX4_takeOut 8 s _ zALL "ShopLedger$Stock" := ⟨hx, hb, hml, hown, hZ⟩
  have hl := lv_entry ([.ref h0, .int p1]) (n := 8) (Nat.le_of_ble_eq_true rfl)
  rw [lg_entry_eq]
  generalize (lg_sl ([.ref h0, .int p1]) ++ List.replicate (8 - (lg_sl ([.ref h0, .int p1])).length) Slot.unset).toArray = ls at hl ⊢
  have hl : lv_has ls 8 [(0, .ref h0), (1, .int p1)] := hl
  refine lv_iload_n hx hb dX4_takeOut_0 rfl (lv_at hl 1 rfl) ?_
  refine lv_istore_n (lv' := [(2, .int p1), (0, .ref h0), (1, .int p1)]) hx hb dX4_takeOut_1 rfl hl (by decide) rfl (fun ls hl => ?_)
  refine lv_lconst (v := 0) hx hb dX4_takeOut_2 (by decide) ?_
  refine lv_lstore_n (lv' := [(3, .long 0), (2, .int p1), (0, .ref h0), (1, .int p1)]) hx hb dX4_takeOut_3 rfl hl (by decide) rfl (fun ls hl => ?_)
  refine lv_iconst (v := 0) hx hb dX4_takeOut_4 (by decide) ?_
  refine lv_istore (lv' := [(5, .int 0), (3, .long 0), (2, .int p1), (0, .ref h0), (1, .int p1)]) hx hb dX4_takeOut_5 hl (by decide) rfl (fun ls hl => ?_)
  refine lv_iconst (v := 0) hx hb dX4_takeOut_7 (by decide) ?_
  refine lv_istore (lv' := [(6, .int 0), (5, .int 0), (3, .long 0), (2, .int p1), (0, .ref h0), (1, .int p1)]) hx hb dX4_takeOut_8 hl (by decide) rfl (fun ls hl => ?_)
  have lo1 : ∀ (nn : Nat) (k : Nat), k ≤ n → n + 1 ≤ k + nn → ∀ (H : Heap) (locs : List Loc), va_P D.1 vwCl [(h0, .inr (4, [.ref h1, .ref h2, .int (nI n)])), (h1, .inl (D.2 0, 12, .inl ((zs_take fp fc p1 k).2.2.2))), (h2, .inl (D.2 0, 12, .inl fc))] H → va_D A [(h0, .inr (4, [.ref h1, .ref h2, .int (nI n)])), (h1, .inl (D.2 0, 12, .inl ((zs_take fp fc p1 k).2.2.2))), (h2, .inl (D.2 0, 12, .inl fc))] → va_S A s.heap H locs → ∀ (ls : Array Slot), lv_has ls 8 [(0, .ref h0), (1, .int p1), (2, .int ((zs_take fp fc p1 k).1)), (3, .long ((zs_take fp fc p1 k).2.1)), (5, .int (nI (zs_take fp fc p1 k).2.2.1)), (6, .int (nI k))] → W p l e (headSpec wsX4_takeOut ({ frames := 1, cells := 0, slots := 0, locals := 22 })).room s m [.ref h0, .int p1].toArray below meth c H locs 0 0 (MQ below (va_Ql (fun r (_ : Unit) => r = (zs_take fp fc p1 n).2.1) (zq D A (fun (_ : Unit) => ([(h0, .inr (4, [.ref h1, .ref h2, .int (nI (n - (zs_take fp fc p1 n).2.2.1))])), (h1, .inl (D.2 0, 12, .inl (zs_mv (zs_take fp fc p1 n).2.2.2 (zs_take fp fc p1 n).2.2.1 (n - (zs_take fp fc p1 n).2.2.1)))), (h2, .inl (D.2 0, 12, .inl (zs_mv fc (zs_take fp fc p1 n).2.2.1 (n - (zs_take fp fc p1 n).2.2.1))))] : va_W))) A) [.ref h0, .int p1].toArray s 0 0 A) (F0 m 10 ls []) := by
    intro nn
    induction nn with
    | zero =>
      intro k q1 q2
      exfalso
      omega
    | succ nn ih_lo1 =>
      intro k q1 q2 H locs hP hD hS ls hl
      refine lv_iload hx hb dX4_takeOut_10 (lv_at hl 5 rfl) ?_
      refine lv_aload_n hx hb dX4_takeOut_12 rfl (lv_at hl 0 rfl) ?_
      refine va_get (D := D.1) (ci := 4) (v := .int (nI n)) (C := "ShopLedger$Stock") (T := TX4) (N := 3) hx hb hZ inX4 hown hK hP 0 rfl rfl 2 (by decide) (hZ _ t_28) (fun _ h9 => h9) rfl dX4_takeOut_13 ?_
      refine lv_icmp_ge (tgt := 83) hx hb dX4_takeOut_16 (by decide) (fun c1 => ?_) (fun c1 => ?_)
      · skip
        have e9 : n = k := (z_ge q1 (by omega) c1).symm
        subst e9
        refine lv_aload_n hx hb dX4_takeOut_83 rfl (lv_at hl 0 rfl) ?_
        refine lv_iload hx hb dX4_takeOut_84 (lv_at hl 4 rfl) ?_
        have J := zJ.mk (wc := [(h0, .inr (4, [.ref h1, .ref h2, .int (nI n)])), (h1, .inl (D.2 0, 12, .inl ((zs_take fp fc p1 n).2.2.2))), (h2, .inl (D.2 0, 12, .inl fc))]) (wr := []) hA hB hK hP hD hS [0, 1, 2] [] rfl rfl (by decide)
        refine z_gov (z_runV (As := [.int (nI (zs_take fp fc p1 n).2.2.1)]) (rest := []) (b := h0) hF (c_Stock_move D h0 h1 h2 n (zs_take fp fc p1 n).2.2.2 fc (zs_take fp fc p1 n).2.2.1 H.size he hn) (cwV 1 hZ (z_gV t_32 t_33 t_34 t_31 t_30) rfl rfl rfl (by decide +kernel) ⟨Nat.le_of_ble_eq_true rfl, Nat.le_of_ble_eq_true rfl⟩) J 0 4 rfl rfl rfl rfl hl.1 (Nat.le_of_ble_eq_true rfl) dX4_takeOut_86 ⟨Nat.le_of_ble_eq_true rfl, Nat.le_of_ble_eq_true rfl⟩) J (fun _ H locs w1 hP hD hS => ?_)
        have hP : va_P D.1 vwCl [(h0, .inr (4, [.ref h1, .ref h2, .int (nI (n - (zs_take fp fc p1 n).2.2.1))])), (h1, .inl (D.2 0, 12, .inl (zs_mv (zs_take fp fc p1 n).2.2.2 (zs_take fp fc p1 n).2.2.1 (n - (zs_take fp fc p1 n).2.2.1)))), (h2, .inl (D.2 0, 12, .inl (zs_mv fc (zs_take fp fc p1 n).2.2.1 (n - (zs_take fp fc p1 n).2.2.1))))] H := hP
        have hD : va_D A [(h0, .inr (4, [.ref h1, .ref h2, .int (nI (n - (zs_take fp fc p1 n).2.2.1))])), (h1, .inl (D.2 0, 12, .inl (zs_mv (zs_take fp fc p1 n).2.2.2 (zs_take fp fc p1 n).2.2.1 (n - (zs_take fp fc p1 n).2.2.1)))), (h2, .inl (D.2 0, 12, .inl (zs_mv fc (zs_take fp fc p1 n).2.2.1 (n - (zs_take fp fc p1 n).2.2.1))))] := hD
        refine lv_lload_n hx hb dX4_takeOut_89 rfl (lv_at hl 3 rfl) ?_
        exact z_lret (v := (zs_take fp fc p1 n).2.1) hx hb hr hlocks hP hD hS () (rfl) [0, 1, 2] rfl (by decide) (Nat.le_of_ble_eq_true rfl) (Nat.le_of_ble_eq_true rfl) dX4_takeOut_90
      have hk : k < n := z_lt q1 (by omega) c1
      refine lv_iload_n hx hb dX4_takeOut_19 rfl (lv_at hl 2 rfl) ?_
      refine lv_aload_n hx hb dX4_takeOut_20 rfl (lv_at hl 0 rfl) ?_
      refine va_get (D := D.1) (ci := 4) (v := .ref h1) (C := "ShopLedger$Stock") (T := TX4) (N := 3) hx hb hZ inX4 hown hK hP 0 rfl rfl 0 (by decide) (hZ _ t_27) (fun _ h9 => h9) rfl dX4_takeOut_21 ?_
      refine lv_iload hx hb dX4_takeOut_24 (lv_at hl 5 rfl) ?_
      refine z_iald (k := k) hx hb hK hP 1 rfl (Nat.lt_of_lt_of_le hk hn) (by decide) dX4_takeOut_26 ?_
      refine va_mmin hx hb (hml.trans hl.1.symm) hown (hZ _ t_35) (hZ _ t_36) (hZ _ t_37) (hZ _ t_min) (Nat.le_of_ble_eq_true rfl) (Nat.le_of_ble_eq_true rfl) (Nat.le_of_ble_eq_true rfl) (Nat.le_of_ble_eq_true rfl) dX4_takeOut_27 ?_
      rw [show (if ((zs_take fp fc p1 k).2.2.2) k < (zs_take fp fc p1 k).1 then ((zs_take fp fc p1 k).2.2.2) k else (zs_take fp fc p1 k).1) = zs_some (zs_take fp fc p1 k) k from rfl]
      refine lv_istore (lv' := [(7, .int (zs_some (zs_take fp fc p1 k) k)), (0, .ref h0), (1, .int p1), (2, .int ((zs_take fp fc p1 k).1)), (3, .long ((zs_take fp fc p1 k).2.1)), (5, .int (nI (zs_take fp fc p1 k).2.2.1)), (6, .int (nI k))]) hx hb dX4_takeOut_30 hl (by decide) rfl (fun ls hl => ?_)
      refine lv_aload_n hx hb dX4_takeOut_32 rfl (lv_at hl 1 rfl) ?_
      refine va_get (D := D.1) (ci := 4) (v := .ref h1) (C := "ShopLedger$Stock") (T := TX4) (N := 3) hx hb hZ inX4 hown hK hP 0 rfl rfl 0 (by decide) (hZ _ t_27) (fun _ h9 => h9) rfl dX4_takeOut_33 ?_
      refine lv_iload hx hb dX4_takeOut_36 (lv_at hl 6 rfl) ?_
      refine lv_dup2_11 hx hb dX4_takeOut_38 rfl rfl ?_
      refine z_iald (k := k) hx hb hK hP 1 rfl (Nat.lt_of_lt_of_le hk hn) (by decide) dX4_takeOut_39 ?_
      refine lv_iload hx hb dX4_takeOut_40 (lv_at hl 0 rfl) ?_
      refine lv_isub hx hb dX4_takeOut_42 ?_
      refine z_iast (k := k) hx hb hK hP hD hS 1 rfl (Nat.lt_of_lt_of_le hk hn) (by decide) dX4_takeOut_43 (fun H locs hP hD hS => ?_)
      have hP : va_P D.1 vwCl [(h0, .inr (4, [.ref h1, .ref h2, .int (nI n)])), (h1, .inl (D.2 0, 12, .inl (upd ((zs_take fp fc p1 k).2.2.2) k ((((zs_take fp fc p1 k).2.2.2) k) - (zs_some (zs_take fp fc p1 k) k))))), (h2, .inl (D.2 0, 12, .inl fc))] H := hP
      have hD : va_D A [(h0, .inr (4, [.ref h1, .ref h2, .int (nI n)])), (h1, .inl (D.2 0, 12, .inl (upd ((zs_take fp fc p1 k).2.2.2) k ((((zs_take fp fc p1 k).2.2.2) k) - (zs_some (zs_take fp fc p1 k) k))))), (h2, .inl (D.2 0, 12, .inl fc))] := hD
      refine lv_iload_n hx hb dX4_takeOut_44 rfl (lv_at hl 3 rfl) ?_
      refine lv_iload hx hb dX4_takeOut_45 (lv_at hl 0 rfl) ?_
      refine lv_isub hx hb dX4_takeOut_47 ?_
      rw [show (((zs_take fp fc p1 k).1) - (zs_some (zs_take fp fc p1 k) k)) = (zs_take fp fc p1 (k + 1)).1 from rfl]
      refine lv_istore_n (lv' := [(2, .int ((zs_take fp fc p1 (k + 1)).1)), (7, .int (zs_some (zs_take fp fc p1 k) k)), (0, .ref h0), (1, .int p1), (3, .long ((zs_take fp fc p1 k).2.1)), (5, .int (nI (zs_take fp fc p1 k).2.2.1)), (6, .int (nI k))]) hx hb dX4_takeOut_48 rfl hl (by decide) rfl (fun ls hl => ?_)
      refine lv_lload_n hx hb dX4_takeOut_49 rfl (lv_at hl 4 rfl) ?_
      refine lv_iload hx hb dX4_takeOut_50 (lv_at hl 1 rfl) ?_
      refine lv_i2l (v := (zs_some (zs_take fp fc p1 k) k).toInt64) hx hb dX4_takeOut_52 rfl ?_
      refine lv_aload_n hx hb dX4_takeOut_53 rfl (lv_at hl 2 rfl) ?_
      refine va_get (D := D.1) (ci := 4) (v := .ref h2) (C := "ShopLedger$Stock") (T := TX4) (N := 3) hx hb hZ inX4 hown hK hP 0 rfl rfl 1 (by decide) (hZ _ t_29) (fun _ h9 => h9) rfl dX4_takeOut_54 ?_
      refine lv_iload hx hb dX4_takeOut_57 (lv_at hl 6 rfl) ?_
      refine z_iald (k := k) hx hb hK hP 2 rfl (Nat.lt_of_lt_of_le hk hn) (by decide) dX4_takeOut_59 ?_
      refine lv_i2l (v := (fc k).toInt64) hx hb dX4_takeOut_60 rfl ?_
      refine lv_lmul hx hb dX4_takeOut_61 ?_
      refine lv_ladd hx hb dX4_takeOut_62 ?_
      rw [show (((zs_take fp fc p1 k).2.1) + (((zs_some (zs_take fp fc p1 k) k).toInt64) * ((fc k).toInt64))) = (zs_take fp fc p1 (k + 1)).2.1 from rfl]
      refine lv_lstore_n (lv' := [(3, .long ((zs_take fp fc p1 (k + 1)).2.1)), (2, .int ((zs_take fp fc p1 (k + 1)).1)), (7, .int (zs_some (zs_take fp fc p1 k) k)), (0, .ref h0), (1, .int p1), (5, .int (nI (zs_take fp fc p1 k).2.2.1)), (6, .int (nI k))]) hx hb dX4_takeOut_63 rfl hl (by decide) rfl (fun ls hl => ?_)
      refine lv_aload_n hx hb dX4_takeOut_64 rfl (lv_at hl 3 rfl) ?_
      refine va_get (D := D.1) (ci := 4) (v := .ref h1) (C := "ShopLedger$Stock") (T := TX4) (N := 3) hx hb hZ inX4 hown hK hP 0 rfl rfl 0 (by decide) (hZ _ t_27) (fun _ h9 => h9) rfl dX4_takeOut_65 ?_
      refine lv_iload hx hb dX4_takeOut_68 (lv_at hl 6 rfl) ?_
      refine z_iald (k := k) hx hb hK hP 1 rfl (Nat.lt_of_lt_of_le hk hn) (by decide) dX4_takeOut_70 ?_
      rw [show ((upd ((zs_take fp fc p1 k).2.2.2) k ((((zs_take fp fc p1 k).2.2.2) k) - (zs_some (zs_take fp fc p1 k) k))) k) = (zs_take fp fc p1 k).2.2.2 k - zs_some (zs_take fp fc p1 k) k from pk_us]
      refine lv_if_ne (tgt := 77) hx hb dX4_takeOut_71 (by decide) (fun c2 => ?_) (fun c2 => ?_)
      · skip
        have e8 : (zs_take fp fc p1 (k + 1)).2.2.1 = (zs_take fp fc p1 k).2.2.1 := if_neg c2
        rw [← e8] at hl
        refine lv_iinc (v := nI (k + 1)) (lv' := [(6, .int (nI (k + 1))), (3, .long ((zs_take fp fc p1 (k + 1)).2.1)), (2, .int ((zs_take fp fc p1 (k + 1)).1)), (7, .int (zs_some (zs_take fp fc p1 k) k)), (0, .ref h0), (1, .int p1), (5, .int (nI (zs_take fp fc p1 (k + 1)).2.2.1))]) hx hb dX4_takeOut_77 hl (k := 6) rfl (nI_1 k) (by decide) rfl (fun ls hl => ?_)
        refine lv_goto (tgt := 10) hx hb dX4_takeOut_80 (by decide) ?_
        exact ih_lo1 (k + 1) (Nat.succ_le_of_lt hk) (by omega)  _ _ (hP.sub [0, 1, 2] rfl) (hD.sub [0, 1, 2] (by decide) rfl) hS ls (lv_sub hl [4, 5, 2, 1, 6, 0] rfl)
      have e8 : (zs_take fp fc p1 (k + 1)).2.2.1 = (zs_take fp fc p1 k).2.2.1 + 1 := if_pos c2
      refine lv_iinc (v := nI (zs_take fp fc p1 (k + 1)).2.2.1) (lv' := [(5, .int (nI (zs_take fp fc p1 (k + 1)).2.2.1)), (3, .long ((zs_take fp fc p1 (k + 1)).2.1)), (2, .int ((zs_take fp fc p1 (k + 1)).1)), (7, .int (zs_some (zs_take fp fc p1 k) k)), (0, .ref h0), (1, .int p1), (6, .int (nI k))]) hx hb dX4_takeOut_74 hl (k := 5) rfl (by rw [e8]; exact nI_1 _) (by decide) rfl (fun ls hl => ?_)
      refine lv_iinc (v := nI (k + 1)) (lv' := [(6, .int (nI (k + 1))), (5, .int (nI (zs_take fp fc p1 (k + 1)).2.2.1)), (3, .long ((zs_take fp fc p1 (k + 1)).2.1)), (2, .int ((zs_take fp fc p1 (k + 1)).1)), (7, .int (zs_some (zs_take fp fc p1 k) k)), (0, .ref h0), (1, .int p1)]) hx hb dX4_takeOut_77 hl (k := 6) rfl (nI_1 k) (by decide) rfl (fun ls hl => ?_)
      refine lv_goto (tgt := 10) hx hb dX4_takeOut_80 (by decide) ?_
      exact ih_lo1 (k + 1) (Nat.succ_le_of_lt hk) (by omega)  _ _ (hP.sub [0, 1, 2] rfl) (hD.sub [0, 1, 2] (by decide) rfl) hS ls (lv_sub hl [5, 6, 3, 2, 1, 0] rfl)
  exact lo1 (n + 1) 0 (Nat.zero_le _) (by omega)  _ _ (hP.sub [0, 1, 2] rfl) (hD.sub [0, 1, 2] (by decide) rfl) hS ls (lv_sub hl [4, 5, 3, 2, 1, 0] rfl)
set_option maxHeartbeats 4000000 in
set_option maxRecDepth 100000 in
/-- Money.latestDay -/
theorem c_Money_last {l : Launch} (D : zD) (h0 h1 h2 n : Nat) (fd fc : Nat → Int32) (sz : Nat) (hn : n ≤ 10) : Met l yX2_latestDay wsX2_latestDay ({ frames := 0, cells := 0, slots := 0, locals := 0 }) (va_Pc [.ref h0] (zp D sz [(h0, .inr (2, [.ref h1, .ref h2, .int (nI n)])), (h1, .inl (D.2 0, 10, .inl fd))])) (va_Qi (fun r (_ : Unit) => r = if n = 0 then -1 else fd (n - 1)) (zq D (va_A [(h0, .inr (2, [.ref h1, .ref h2, .int (nI n)])), (h1, .inl (D.2 0, 10, .inl fd))] sz) (fun (_ : Unit) => ([(h0, .inr (2, [.ref h1, .ref h2, .int (nI n)])), (h1, .inl (D.2 0, 10, .inl fd))] : va_W))) (va_A [(h0, .inr (2, [.ref h1, .ref h2, .int (nI n)])), (h1, .inl (D.2 0, 10, .inl fd))] sz)) 0 0 (va_A [(h0, .inr (2, [.ref h1, .ref h2, .int (nI n)])), (h1, .inl (D.2 0, 10, .inl fd))] sz) := by
  refine Met.ofW (cc := cX2_latestDay) (maxL := 1) (ret := (some .int)) (by decide) rfl ?_
  intro p e s m args below meth c s₁ B hml hv
  obtain ⟨rfl, hsz, hP, hK, hD0, hB⟩ := hv
  have hx := B.exec
  have hb := B.bytes
  have hr := B.returns
  have hts := atoms_spec (ws := wsX2_latestDay) B.pre
  have hown : s.vm.findClass "ShopLedger$Money" = some m.cls := findClass_of_methodNamed B.named
  have hlocks := B.notSynchronized
  subst hsz
  have hD := hD0.self (sz := s.heap.size)
  generalize hAe : va_A [(h0, .inr (2, [.ref h1, .ref h2, .int (nI n)])), (h1, .inl (D.2 0, 10, .inl fd))] s.heap.size = A at hD hB ⊢
  have hA : ∀ q : Nat, s.heap.size ≤ q → A q := fun q h => by rw [← hAe]; exact Or.inr h
  have hS : va_S A s.heap s.heap [] := va_S.rf
  have hZ : ∀ w ∈ zALL, w.before _ s = true := fun w h => hts w (List.mem_cons_of_mem _ h)
  have hF : CallFix p m c cX2_latestDay 1 s _ zALL "ShopLedger$Money" := ⟨hx, hb, hml, hown, hZ⟩
  have hl := lv_entry ([.ref h0]) (n := 1) (Nat.le_of_ble_eq_true rfl)
  rw [lg_entry_eq]
  generalize (lg_sl ([.ref h0]) ++ List.replicate (1 - (lg_sl ([.ref h0])).length) Slot.unset).toArray = ls at hl ⊢
  have hl : lv_has ls 1 [(0, .ref h0)] := hl
  refine lv_aload_n hx hb dX2_latestDay_0 rfl (lv_at hl 0 rfl) ?_
  refine va_get (D := D.1) (ci := 2) (v := .int (nI n)) (C := "ShopLedger$Money") (T := TX2) (N := 3) hx hb hZ inX2 hown hK hP 0 rfl rfl 2 (by decide) (hZ _ t_38) (fun _ h9 => h9) rfl dX2_latestDay_1 ?_
  refine lv_if_ne (tgt := 11) hx hb dX2_latestDay_4 (by decide) (fun c1 => ?_) (fun c1 => ?_)
  · skip
    have hk : 0 < n := Nat.pos_of_ne_zero (fun h => c1 (by rw [h]; rfl))
    have e8 : nI n - 1 = nI (n - 1) := by obtain ⟨j, rfl⟩ : ∃ j, n = j + 1 := ⟨n - 1, by omega⟩; exact nI_pred j
    refine lv_aload_n hx hb dX2_latestDay_11 rfl (lv_at hl 0 rfl) ?_
    refine va_get (D := D.1) (ci := 2) (v := .ref h1) (C := "ShopLedger$Money") (T := TX2) (N := 3) hx hb hZ inX2 hown hK hP 0 rfl rfl 0 (by decide) (hZ _ t_39) (fun _ h9 => h9) rfl dX2_latestDay_12 ?_
    refine lv_aload_n hx hb dX2_latestDay_15 rfl (lv_at hl 0 rfl) ?_
    refine va_get (D := D.1) (ci := 2) (v := .int (nI n)) (C := "ShopLedger$Money") (T := TX2) (N := 3) hx hb hZ inX2 hown hK hP 0 rfl rfl 2 (by decide) (hZ _ t_38) (fun _ h9 => h9) rfl dX2_latestDay_16 ?_
    refine lv_iconst (v := 1) hx hb dX2_latestDay_19 (by decide) ?_
    refine lv_isub hx hb dX2_latestDay_20 ?_
    rw [show ((nI n) - 1) = nI (n - 1) from e8]
    refine z_iald (k := n - 1) hx hb hK hP 1 rfl (by omega) (by decide) dX2_latestDay_21 ?_
    exact z_iret (v := fd (n - 1)) hx hb hr hlocks hP hD hS () (by first | (rw [if_neg (by omega)]; done) | (rw [if_pos e8])) [0, 1] rfl (by decide) (Nat.le_of_ble_eq_true rfl) (Nat.le_of_ble_eq_true rfl) dX2_latestDay_22
  have e8 : n = 0 := (nI_eq (by omega) (by decide)).mp (c1.trans nI_0.symm)
  refine lv_iconst (v := (-1)) hx hb dX2_latestDay_7 (by decide) ?_
  refine lv_goto (tgt := 22) hx hb dX2_latestDay_8 (by decide) ?_
  exact z_iret (v := (-1)) hx hb hr hlocks hP hD hS () (by first | (rw [if_neg (by omega)]; done) | (rw [if_pos e8])) [0, 1] rfl (by decide) (Nat.le_of_ble_eq_true rfl) (Nat.le_of_ble_eq_true rfl) dX2_latestDay_22
set_option maxHeartbeats 4000000 in
set_option maxRecDepth 100000 in
/-- Money.add -/
theorem c_Money_add {l : Launch} (D : zD) (h0 h1 h2 n : Nat) (fd fc : Nat → Int32) (p1 p2 : Int32) (sz : Nat) (hn : n < 10) : Met l yX2_add wsX2_add ({ frames := 0, cells := 0, slots := 0, locals := 0 }) (va_Pc [.ref h0, .int p1, .int p2] (zp D sz [(h0, .inr (2, [.ref h1, .ref h2, .int (nI n)])), (h1, .inl (D.2 0, 10, .inl fd)), (h2, .inl (D.2 0, 10, .inl fc))])) (va_Qi (fun r (_ : Unit) => r = nI (n + 1)) (zq D (va_A [(h0, .inr (2, [.ref h1, .ref h2, .int (nI n)])), (h1, .inl (D.2 0, 10, .inl fd)), (h2, .inl (D.2 0, 10, .inl fc))] sz) (fun (_ : Unit) => ([(h0, .inr (2, [.ref h1, .ref h2, .int (nI (n + 1))])), (h1, .inl (D.2 0, 10, .inl (upd fd n p1))), (h2, .inl (D.2 0, 10, .inl (upd fc n p2)))] : va_W))) (va_A [(h0, .inr (2, [.ref h1, .ref h2, .int (nI n)])), (h1, .inl (D.2 0, 10, .inl fd)), (h2, .inl (D.2 0, 10, .inl fc))] sz)) 0 0 (va_A [(h0, .inr (2, [.ref h1, .ref h2, .int (nI n)])), (h1, .inl (D.2 0, 10, .inl fd)), (h2, .inl (D.2 0, 10, .inl fc))] sz) := by
  refine Met.ofW (cc := cX2_add) (maxL := 3) (ret := (some .int)) (by decide) rfl ?_
  intro p e s m args below meth c s₁ B hml hv
  obtain ⟨rfl, hsz, hP, hK, hD0, hB⟩ := hv
  have hx := B.exec
  have hb := B.bytes
  have hr := B.returns
  have hts := atoms_spec (ws := wsX2_add) B.pre
  have hown : s.vm.findClass "ShopLedger$Money" = some m.cls := findClass_of_methodNamed B.named
  have hlocks := B.notSynchronized
  subst hsz
  have hD := hD0.self (sz := s.heap.size)
  generalize hAe : va_A [(h0, .inr (2, [.ref h1, .ref h2, .int (nI n)])), (h1, .inl (D.2 0, 10, .inl fd)), (h2, .inl (D.2 0, 10, .inl fc))] s.heap.size = A at hD hB ⊢
  have hA : ∀ q : Nat, s.heap.size ≤ q → A q := fun q h => by rw [← hAe]; exact Or.inr h
  have hS : va_S A s.heap s.heap [] := va_S.rf
  have hZ : ∀ w ∈ zALL, w.before _ s = true := fun w h => hts w (List.mem_cons_of_mem _ h)
  have hF : CallFix p m c cX2_add 3 s _ zALL "ShopLedger$Money" := ⟨hx, hb, hml, hown, hZ⟩
  have hl := lv_entry ([.ref h0, .int p1, .int p2]) (n := 3) (Nat.le_of_ble_eq_true rfl)
  rw [lg_entry_eq]
  generalize (lg_sl ([.ref h0, .int p1, .int p2]) ++ List.replicate (3 - (lg_sl ([.ref h0, .int p1, .int p2])).length) Slot.unset).toArray = ls at hl ⊢
  have hl : lv_has ls 3 [(0, .ref h0), (1, .int p1), (2, .int p2)] := hl
  refine lv_aload_n hx hb dX2_add_0 rfl (lv_at hl 0 rfl) ?_
  refine va_get (D := D.1) (ci := 2) (v := .ref h1) (C := "ShopLedger$Money") (T := TX2) (N := 3) hx hb hZ inX2 hown hK hP 0 rfl rfl 0 (by decide) (hZ _ t_39) (fun _ h9 => h9) rfl dX2_add_1 ?_
  refine lv_aload_n hx hb dX2_add_4 rfl (lv_at hl 0 rfl) ?_
  refine va_get (D := D.1) (ci := 2) (v := .int (nI n)) (C := "ShopLedger$Money") (T := TX2) (N := 3) hx hb hZ inX2 hown hK hP 0 rfl rfl 2 (by decide) (hZ _ t_38) (fun _ h9 => h9) rfl dX2_add_5 ?_
  refine lv_iload_n hx hb dX2_add_8 rfl (lv_at hl 1 rfl) ?_
  refine z_iast (k := n) hx hb hK hP hD hS 1 rfl (hn) (by decide) dX2_add_9 (fun H locs hP hD hS => ?_)
  have hP : va_P D.1 vwCl [(h0, .inr (2, [.ref h1, .ref h2, .int (nI n)])), (h1, .inl (D.2 0, 10, .inl (upd fd n p1))), (h2, .inl (D.2 0, 10, .inl fc))] H := hP
  have hD : va_D A [(h0, .inr (2, [.ref h1, .ref h2, .int (nI n)])), (h1, .inl (D.2 0, 10, .inl (upd fd n p1))), (h2, .inl (D.2 0, 10, .inl fc))] := hD
  refine lv_aload_n hx hb dX2_add_10 rfl (lv_at hl 0 rfl) ?_
  refine va_get (D := D.1) (ci := 2) (v := .ref h2) (C := "ShopLedger$Money") (T := TX2) (N := 3) hx hb hZ inX2 hown hK hP 0 rfl rfl 1 (by decide) (hZ _ t_40) (fun _ h9 => h9) rfl dX2_add_11 ?_
  refine lv_aload_n hx hb dX2_add_14 rfl (lv_at hl 0 rfl) ?_
  refine va_get (D := D.1) (ci := 2) (v := .int (nI n)) (C := "ShopLedger$Money") (T := TX2) (N := 3) hx hb hZ inX2 hown hK hP 0 rfl rfl 2 (by decide) (hZ _ t_38) (fun _ h9 => h9) rfl dX2_add_15 ?_
  refine lv_iload_n hx hb dX2_add_18 rfl (lv_at hl 2 rfl) ?_
  refine z_iast (k := n) hx hb hK hP hD hS 2 rfl (hn) (by decide) dX2_add_19 (fun H locs hP hD hS => ?_)
  have hP : va_P D.1 vwCl [(h0, .inr (2, [.ref h1, .ref h2, .int (nI n)])), (h1, .inl (D.2 0, 10, .inl (upd fd n p1))), (h2, .inl (D.2 0, 10, .inl (upd fc n p2)))] H := hP
  have hD : va_D A [(h0, .inr (2, [.ref h1, .ref h2, .int (nI n)])), (h1, .inl (D.2 0, 10, .inl (upd fd n p1))), (h2, .inl (D.2 0, 10, .inl (upd fc n p2)))] := hD
  refine lv_aload_n hx hb dX2_add_20 rfl (lv_at hl 0 rfl) ?_
  refine lv_dup hx hb dX2_add_21 rfl ?_
  refine va_get (D := D.1) (ci := 2) (v := .int (nI n)) (C := "ShopLedger$Money") (T := TX2) (N := 3) hx hb hZ inX2 hown hK hP 0 rfl rfl 2 (by decide) (hZ _ t_38) (fun _ h9 => h9) rfl dX2_add_22 ?_
  refine lv_iconst (v := 1) hx hb dX2_add_25 (by decide) ?_
  refine lv_iadd hx hb dX2_add_26 ?_
  rw [show ((nI n) + 1) = nI (n + 1) from nI_1 n]
  refine va_put (D := D.1) (ci := 2) (v := .int (nI (n + 1))) (ty := .int) (C := "ShopLedger$Money") (T := TX2) (N := 3) hx hb hZ inX2 tyX2 tyX2_ok nmX2 hown hK hP hD hS 0 rfl rfl 2 (by decide) (hZ _ t_38) (fun _ h9 => h9) rfl (by decide +kernel) rfl rfl (Nat.le_of_ble_eq_true rfl) dX2_add_27 (fun H locs hP hD hS => ?_)
  have hP : va_P D.1 vwCl [(h0, .inr (2, [.ref h1, .ref h2, .int (nI (n + 1))])), (h1, .inl (D.2 0, 10, .inl (upd fd n p1))), (h2, .inl (D.2 0, 10, .inl (upd fc n p2)))] H := hP
  have hD : va_D A [(h0, .inr (2, [.ref h1, .ref h2, .int (nI (n + 1))])), (h1, .inl (D.2 0, 10, .inl (upd fd n p1))), (h2, .inl (D.2 0, 10, .inl (upd fc n p2)))] := hD
  refine lv_aload_n hx hb dX2_add_30 rfl (lv_at hl 0 rfl) ?_
  refine va_get (D := D.1) (ci := 2) (v := .int (nI (n + 1))) (C := "ShopLedger$Money") (T := TX2) (N := 3) hx hb hZ inX2 hown hK hP 0 rfl rfl 2 (by decide) (hZ _ t_38) (fun _ h9 => h9) rfl dX2_add_31 ?_
  exact z_iret (v := nI (n + 1)) hx hb hr hlocks hP hD hS () (rfl) [0, 1, 2] rfl (by decide) (Nat.le_of_ble_eq_true rfl) (Nat.le_of_ble_eq_true rfl) dX2_add_34
set_option maxHeartbeats 4000000 in
set_option maxRecDepth 100000 in
/-- Money.rateOn -/
theorem c_Money_rate {l : Launch} (D : zD) (h0 h1 h2 n : Nat) (fd fc : Nat → Int32) (p1 : Int32) (sz : Nat) (hn : n ≤ 10) : Met l yX2_rateOn wsX2_rateOn ({ frames := 0, cells := 0, slots := 0, locals := 0 }) (va_Pc [.ref h0, .int p1] (zp D sz [(h0, .inr (2, [.ref h1, .ref h2, .int (nI n)])), (h1, .inl (D.2 0, 10, .inl fd)), (h2, .inl (D.2 0, 10, .inl fc))])) (va_Qi (fun r (_ : Unit) => r = zs_rate fd fc p1 n) (zq D (va_A [(h0, .inr (2, [.ref h1, .ref h2, .int (nI n)])), (h1, .inl (D.2 0, 10, .inl fd)), (h2, .inl (D.2 0, 10, .inl fc))] sz) (fun (_ : Unit) => ([(h0, .inr (2, [.ref h1, .ref h2, .int (nI n)])), (h1, .inl (D.2 0, 10, .inl fd)), (h2, .inl (D.2 0, 10, .inl fc))] : va_W))) (va_A [(h0, .inr (2, [.ref h1, .ref h2, .int (nI n)])), (h1, .inl (D.2 0, 10, .inl fd)), (h2, .inl (D.2 0, 10, .inl fc))] sz)) 0 0 (va_A [(h0, .inr (2, [.ref h1, .ref h2, .int (nI n)])), (h1, .inl (D.2 0, 10, .inl fd)), (h2, .inl (D.2 0, 10, .inl fc))] sz) := by
  refine Met.ofW (cc := cX2_rateOn) (maxL := 4) (ret := (some .int)) (by decide) rfl ?_
  intro p e s m args below meth c s₁ B hml hv
  obtain ⟨rfl, hsz, hP, hK, hD0, hB⟩ := hv
  have hx := B.exec
  have hb := B.bytes
  have hr := B.returns
  have hts := atoms_spec (ws := wsX2_rateOn) B.pre
  have hown : s.vm.findClass "ShopLedger$Money" = some m.cls := findClass_of_methodNamed B.named
  have hlocks := B.notSynchronized
  subst hsz
  have hD := hD0.self (sz := s.heap.size)
  generalize hAe : va_A [(h0, .inr (2, [.ref h1, .ref h2, .int (nI n)])), (h1, .inl (D.2 0, 10, .inl fd)), (h2, .inl (D.2 0, 10, .inl fc))] s.heap.size = A at hD hB ⊢
  have hA : ∀ q : Nat, s.heap.size ≤ q → A q := fun q h => by rw [← hAe]; exact Or.inr h
  have hS : va_S A s.heap s.heap [] := va_S.rf
  have hZ : ∀ w ∈ zALL, w.before _ s = true := fun w h => hts w (List.mem_cons_of_mem _ h)
  have hF : CallFix p m c cX2_rateOn 4 s _ zALL "ShopLedger$Money" := ⟨hx, hb, hml, hown, hZ⟩
  have hl := lv_entry ([.ref h0, .int p1]) (n := 4) (Nat.le_of_ble_eq_true rfl)
  rw [lg_entry_eq]
  generalize (lg_sl ([.ref h0, .int p1]) ++ List.replicate (4 - (lg_sl ([.ref h0, .int p1])).length) Slot.unset).toArray = ls at hl ⊢
  have hl : lv_has ls 4 [(0, .ref h0), (1, .int p1)] := hl
  refine lv_iconst (v := 0) hx hb dX2_rateOn_0 (by decide) ?_
  refine lv_istore_n (lv' := [(2, .int 0), (0, .ref h0), (1, .int p1)]) hx hb dX2_rateOn_1 rfl hl (by decide) rfl (fun ls hl => ?_)
  refine lv_iconst (v := 0) hx hb dX2_rateOn_2 (by decide) ?_
  refine lv_istore_n (lv' := [(3, .int 0), (2, .int 0), (0, .ref h0), (1, .int p1)]) hx hb dX2_rateOn_3 rfl hl (by decide) rfl (fun ls hl => ?_)
  have lo1 : ∀ (nn : Nat) (k : Nat), k ≤ n → n + 1 ≤ k + nn → ∀ (H : Heap) (locs : List Loc), va_P D.1 vwCl [(h0, .inr (2, [.ref h1, .ref h2, .int (nI n)])), (h1, .inl (D.2 0, 10, .inl fd)), (h2, .inl (D.2 0, 10, .inl fc))] H → va_D A [(h0, .inr (2, [.ref h1, .ref h2, .int (nI n)])), (h1, .inl (D.2 0, 10, .inl fd)), (h2, .inl (D.2 0, 10, .inl fc))] → va_S A s.heap H locs → ∀ (ls : Array Slot), lv_has ls 4 [(0, .ref h0), (1, .int p1), (2, .int (zs_rate fd fc p1 k)), (3, .int (nI k))] → W p l e (headSpec wsX2_rateOn ({ frames := 0, cells := 0, slots := 0, locals := 0 })).room s m [.ref h0, .int p1].toArray below meth c H locs 0 0 (MQ below (va_Qi (fun r (_ : Unit) => r = zs_rate fd fc p1 n) (zq D A (fun (_ : Unit) => ([(h0, .inr (2, [.ref h1, .ref h2, .int (nI n)])), (h1, .inl (D.2 0, 10, .inl fd)), (h2, .inl (D.2 0, 10, .inl fc))] : va_W))) A) [.ref h0, .int p1].toArray s 0 0 A) (F0 m 4 ls []) := by
    intro nn
    induction nn with
    | zero =>
      intro k q1 q2
      exfalso
      omega
    | succ nn ih_lo1 =>
      intro k q1 q2 H locs hP hD hS ls hl
      refine lv_iload_n hx hb dX2_rateOn_4 rfl (lv_at hl 3 rfl) ?_
      refine lv_aload_n hx hb dX2_rateOn_5 rfl (lv_at hl 0 rfl) ?_
      refine va_get (D := D.1) (ci := 2) (v := .int (nI n)) (C := "ShopLedger$Money") (T := TX2) (N := 3) hx hb hZ inX2 hown hK hP 0 rfl rfl 2 (by decide) (hZ _ t_38) (fun _ h9 => h9) rfl dX2_rateOn_6 ?_
      refine lv_icmp_ge (tgt := 35) hx hb dX2_rateOn_9 (by decide) (fun c1 => ?_) (fun c1 => ?_)
      · skip
        have e9 : n = k := (z_ge q1 (by omega) c1).symm
        subst e9
        refine lv_iload_n hx hb dX2_rateOn_35 rfl (lv_at hl 2 rfl) ?_
        exact z_iret (v := zs_rate fd fc p1 n) hx hb hr hlocks hP hD hS () (rfl) [0, 1, 2] rfl (by decide) (Nat.le_of_ble_eq_true rfl) (Nat.le_of_ble_eq_true rfl) dX2_rateOn_36
      have hk : k < n := z_lt q1 (by omega) c1
      refine lv_aload_n hx hb dX2_rateOn_12 rfl (lv_at hl 0 rfl) ?_
      refine va_get (D := D.1) (ci := 2) (v := .ref h1) (C := "ShopLedger$Money") (T := TX2) (N := 3) hx hb hZ inX2 hown hK hP 0 rfl rfl 0 (by decide) (hZ _ t_39) (fun _ h9 => h9) rfl dX2_rateOn_13 ?_
      refine lv_iload_n hx hb dX2_rateOn_16 rfl (lv_at hl 3 rfl) ?_
      refine z_iald (k := k) hx hb hK hP 1 rfl (Nat.lt_of_lt_of_le hk hn) (by decide) dX2_rateOn_17 ?_
      refine lv_iload_n hx hb dX2_rateOn_18 rfl (lv_at hl 1 rfl) ?_
      refine lv_icmp_gt (tgt := 29) hx hb dX2_rateOn_19 (by decide) (fun c2 => ?_) (fun c2 => ?_)
      · skip
        have e8 : zs_rate fd fc p1 (k + 1) = zs_rate fd fc p1 k := by simp only [zs_rate]; rw [if_neg (Int32.not_le.mpr c2)]
        rw [← e8] at hl
        refine lv_iinc (v := nI (k + 1)) (lv' := [(3, .int (nI (k + 1))), (0, .ref h0), (1, .int p1), (2, .int (zs_rate fd fc p1 (k + 1)))]) hx hb dX2_rateOn_29 hl (k := 3) rfl (nI_1 k) (by decide) rfl (fun ls hl => ?_)
        refine lv_goto (tgt := 4) hx hb dX2_rateOn_32 (by decide) ?_
        exact ih_lo1 (k + 1) (Nat.succ_le_of_lt hk) (by omega)  _ _ (hP.sub [0, 1, 2] rfl) (hD.sub [0, 1, 2] (by decide) rfl) hS ls (lv_sub hl [1, 2, 3, 0] rfl)
      have e8 : zs_rate fd fc p1 (k + 1) = fc k := by simp only [zs_rate]; rw [if_pos (Int32.not_lt.mp c2)]
      refine lv_aload_n hx hb dX2_rateOn_22 rfl (lv_at hl 0 rfl) ?_
      refine va_get (D := D.1) (ci := 2) (v := .ref h2) (C := "ShopLedger$Money") (T := TX2) (N := 3) hx hb hZ inX2 hown hK hP 0 rfl rfl 1 (by decide) (hZ _ t_40) (fun _ h9 => h9) rfl dX2_rateOn_23 ?_
      refine lv_iload_n hx hb dX2_rateOn_26 rfl (lv_at hl 3 rfl) ?_
      refine z_iald (k := k) hx hb hK hP 2 rfl (Nat.lt_of_lt_of_le hk hn) (by decide) dX2_rateOn_27 ?_
      rw [show (fc k) = zs_rate fd fc p1 (k + 1) from e8.symm]
      refine lv_istore_n (lv' := [(2, .int (zs_rate fd fc p1 (k + 1))), (0, .ref h0), (1, .int p1), (3, .int (nI k))]) hx hb dX2_rateOn_28 rfl hl (by decide) rfl (fun ls hl => ?_)
      refine lv_iinc (v := nI (k + 1)) (lv' := [(3, .int (nI (k + 1))), (2, .int (zs_rate fd fc p1 (k + 1))), (0, .ref h0), (1, .int p1)]) hx hb dX2_rateOn_29 hl (k := 3) rfl (nI_1 k) (by decide) rfl (fun ls hl => ?_)
      refine lv_goto (tgt := 4) hx hb dX2_rateOn_32 (by decide) ?_
      exact ih_lo1 (k + 1) (Nat.succ_le_of_lt hk) (by omega)  _ _ (hP.sub [0, 1, 2] rfl) (hD.sub [0, 1, 2] (by decide) rfl) hS ls (lv_sub hl [2, 3, 1, 0] rfl)
  exact lo1 (n + 1) 0 (Nat.zero_le _) (by omega)  _ _ (hP.sub [0, 1, 2] rfl) (hD.sub [0, 1, 2] (by decide) rfl) hS ls (lv_sub hl [2, 3, 1, 0] rfl)
set_option maxHeartbeats 4000000 in
set_option maxRecDepth 100000 in
/-- Pieces.add -/
theorem c_Pieces_add {l : Launch} (D : zD) (h0 h1 h2 n : Nat) (fo fw : Nat → Int32) (p1 p2 : Int32) (sz : Nat) (hn : n < 10) : Met l yX3_add wsX3_add ({ frames := 0, cells := 0, slots := 0, locals := 0 }) (va_Pc [.ref h0, .int p1, .int p2] (zp D sz [(h0, .inr (3, [.ref h1, .ref h2, .int (nI n)])), (h1, .inl (D.2 0, 10, .inl fo)), (h2, .inl (D.2 0, 10, .inl fw))])) (va_Qi (fun r (_ : Unit) => r = nI n) (zq D (va_A [(h0, .inr (3, [.ref h1, .ref h2, .int (nI n)])), (h1, .inl (D.2 0, 10, .inl fo)), (h2, .inl (D.2 0, 10, .inl fw))] sz) (fun (_ : Unit) => ([(h0, .inr (3, [.ref h1, .ref h2, .int (nI (n + 1))])), (h1, .inl (D.2 0, 10, .inl (upd fo n p1))), (h2, .inl (D.2 0, 10, .inl (upd fw n p2)))] : va_W))) (va_A [(h0, .inr (3, [.ref h1, .ref h2, .int (nI n)])), (h1, .inl (D.2 0, 10, .inl fo)), (h2, .inl (D.2 0, 10, .inl fw))] sz)) 0 0 (va_A [(h0, .inr (3, [.ref h1, .ref h2, .int (nI n)])), (h1, .inl (D.2 0, 10, .inl fo)), (h2, .inl (D.2 0, 10, .inl fw))] sz) := by
  refine Met.ofW (cc := cX3_add) (maxL := 3) (ret := (some .int)) (by decide) rfl ?_
  intro p e s m args below meth c s₁ B hml hv
  obtain ⟨rfl, hsz, hP, hK, hD0, hB⟩ := hv
  have hx := B.exec
  have hb := B.bytes
  have hr := B.returns
  have hts := atoms_spec (ws := wsX3_add) B.pre
  have hown : s.vm.findClass "ShopLedger$Pieces" = some m.cls := findClass_of_methodNamed B.named
  have hlocks := B.notSynchronized
  subst hsz
  have hD := hD0.self (sz := s.heap.size)
  generalize hAe : va_A [(h0, .inr (3, [.ref h1, .ref h2, .int (nI n)])), (h1, .inl (D.2 0, 10, .inl fo)), (h2, .inl (D.2 0, 10, .inl fw))] s.heap.size = A at hD hB ⊢
  have hA : ∀ q : Nat, s.heap.size ≤ q → A q := fun q h => by rw [← hAe]; exact Or.inr h
  have hS : va_S A s.heap s.heap [] := va_S.rf
  have hZ : ∀ w ∈ zALL, w.before _ s = true := fun w h => hts w (List.mem_cons_of_mem _ h)
  have hF : CallFix p m c cX3_add 3 s _ zALL "ShopLedger$Pieces" := ⟨hx, hb, hml, hown, hZ⟩
  have hl := lv_entry ([.ref h0, .int p1, .int p2]) (n := 3) (Nat.le_of_ble_eq_true rfl)
  rw [lg_entry_eq]
  generalize (lg_sl ([.ref h0, .int p1, .int p2]) ++ List.replicate (3 - (lg_sl ([.ref h0, .int p1, .int p2])).length) Slot.unset).toArray = ls at hl ⊢
  have hl : lv_has ls 3 [(0, .ref h0), (1, .int p1), (2, .int p2)] := hl
  refine lv_aload_n hx hb dX3_add_0 rfl (lv_at hl 0 rfl) ?_
  refine va_get (D := D.1) (ci := 3) (v := .ref h1) (C := "ShopLedger$Pieces") (T := TX3) (N := 3) hx hb hZ inX3 hown hK hP 0 rfl rfl 0 (by decide) (hZ _ t_41) (fun _ h9 => h9) rfl dX3_add_1 ?_
  refine lv_aload_n hx hb dX3_add_4 rfl (lv_at hl 0 rfl) ?_
  refine va_get (D := D.1) (ci := 3) (v := .int (nI n)) (C := "ShopLedger$Pieces") (T := TX3) (N := 3) hx hb hZ inX3 hown hK hP 0 rfl rfl 2 (by decide) (hZ _ t_42) (fun _ h9 => h9) rfl dX3_add_5 ?_
  refine lv_iload_n hx hb dX3_add_8 rfl (lv_at hl 1 rfl) ?_
  refine z_iast (k := n) hx hb hK hP hD hS 1 rfl (hn) (by decide) dX3_add_9 (fun H locs hP hD hS => ?_)
  have hP : va_P D.1 vwCl [(h0, .inr (3, [.ref h1, .ref h2, .int (nI n)])), (h1, .inl (D.2 0, 10, .inl (upd fo n p1))), (h2, .inl (D.2 0, 10, .inl fw))] H := hP
  have hD : va_D A [(h0, .inr (3, [.ref h1, .ref h2, .int (nI n)])), (h1, .inl (D.2 0, 10, .inl (upd fo n p1))), (h2, .inl (D.2 0, 10, .inl fw))] := hD
  refine lv_aload_n hx hb dX3_add_10 rfl (lv_at hl 0 rfl) ?_
  refine va_get (D := D.1) (ci := 3) (v := .ref h2) (C := "ShopLedger$Pieces") (T := TX3) (N := 3) hx hb hZ inX3 hown hK hP 0 rfl rfl 1 (by decide) (hZ _ t_43) (fun _ h9 => h9) rfl dX3_add_11 ?_
  refine lv_aload_n hx hb dX3_add_14 rfl (lv_at hl 0 rfl) ?_
  refine va_get (D := D.1) (ci := 3) (v := .int (nI n)) (C := "ShopLedger$Pieces") (T := TX3) (N := 3) hx hb hZ inX3 hown hK hP 0 rfl rfl 2 (by decide) (hZ _ t_42) (fun _ h9 => h9) rfl dX3_add_15 ?_
  refine lv_iload_n hx hb dX3_add_18 rfl (lv_at hl 2 rfl) ?_
  refine z_iast (k := n) hx hb hK hP hD hS 2 rfl (hn) (by decide) dX3_add_19 (fun H locs hP hD hS => ?_)
  have hP : va_P D.1 vwCl [(h0, .inr (3, [.ref h1, .ref h2, .int (nI n)])), (h1, .inl (D.2 0, 10, .inl (upd fo n p1))), (h2, .inl (D.2 0, 10, .inl (upd fw n p2)))] H := hP
  have hD : va_D A [(h0, .inr (3, [.ref h1, .ref h2, .int (nI n)])), (h1, .inl (D.2 0, 10, .inl (upd fo n p1))), (h2, .inl (D.2 0, 10, .inl (upd fw n p2)))] := hD
  refine lv_aload_n hx hb dX3_add_20 rfl (lv_at hl 0 rfl) ?_
  refine lv_dup hx hb dX3_add_21 rfl ?_
  refine va_get (D := D.1) (ci := 3) (v := .int (nI n)) (C := "ShopLedger$Pieces") (T := TX3) (N := 3) hx hb hZ inX3 hown hK hP 0 rfl rfl 2 (by decide) (hZ _ t_42) (fun _ h9 => h9) rfl dX3_add_22 ?_
  refine lv_iconst (v := 1) hx hb dX3_add_25 (by decide) ?_
  refine lv_iadd hx hb dX3_add_26 ?_
  rw [show ((nI n) + 1) = nI (n + 1) from nI_1 n]
  refine va_put (D := D.1) (ci := 3) (v := .int (nI (n + 1))) (ty := .int) (C := "ShopLedger$Pieces") (T := TX3) (N := 3) hx hb hZ inX3 tyX3 tyX3_ok nmX3 hown hK hP hD hS 0 rfl rfl 2 (by decide) (hZ _ t_42) (fun _ h9 => h9) rfl (by decide +kernel) rfl rfl (Nat.le_of_ble_eq_true rfl) dX3_add_27 (fun H locs hP hD hS => ?_)
  have hP : va_P D.1 vwCl [(h0, .inr (3, [.ref h1, .ref h2, .int (nI (n + 1))])), (h1, .inl (D.2 0, 10, .inl (upd fo n p1))), (h2, .inl (D.2 0, 10, .inl (upd fw n p2)))] H := hP
  have hD : va_D A [(h0, .inr (3, [.ref h1, .ref h2, .int (nI (n + 1))])), (h1, .inl (D.2 0, 10, .inl (upd fo n p1))), (h2, .inl (D.2 0, 10, .inl (upd fw n p2)))] := hD
  refine lv_aload_n hx hb dX3_add_30 rfl (lv_at hl 0 rfl) ?_
  refine va_get (D := D.1) (ci := 3) (v := .int (nI (n + 1))) (C := "ShopLedger$Pieces") (T := TX3) (N := 3) hx hb hZ inX3 hown hK hP 0 rfl rfl 2 (by decide) (hZ _ t_42) (fun _ h9 => h9) rfl dX3_add_31 ?_
  refine lv_iconst (v := 1) hx hb dX3_add_34 (by decide) ?_
  refine lv_isub hx hb dX3_add_35 ?_
  rw [show ((nI (n + 1)) - 1) = nI n from nI_pred n]
  exact z_iret (v := nI n) hx hb hr hlocks hP hD hS () (rfl) [0, 1, 2] rfl (by decide) (Nat.le_of_ble_eq_true rfl) (Nat.le_of_ble_eq_true rfl) dX3_add_36
set_option maxHeartbeats 4000000 in
set_option maxRecDepth 100000 in
/-- Pieces.weightOfOrder -/
theorem c_Pieces_wof {l : Launch} (D : zD) (h0 h1 h2 n : Nat) (fo fw : Nat → Int32) (j t : Nat) (sz : Nat) (hj : j < 10) (ht : t ≤ 10) : Met l yX3_weightOfOrder wsX3_weightOfOrder ({ frames := 0, cells := 0, slots := 0, locals := 0 }) (va_Pc [.ref h0, .int (nI j), .int (nI t)] (zp D sz [(h0, .inr (3, [.ref h1, .ref h2, .int (nI n)])), (h1, .inl (D.2 0, 10, .inl fo)), (h2, .inl (D.2 0, 10, .inl fw))])) (va_Ql (fun r (_ : Unit) => r = zs_wof fo fw (fo j) t) (zq D (va_A [(h0, .inr (3, [.ref h1, .ref h2, .int (nI n)])), (h1, .inl (D.2 0, 10, .inl fo)), (h2, .inl (D.2 0, 10, .inl fw))] sz) (fun (_ : Unit) => ([(h0, .inr (3, [.ref h1, .ref h2, .int (nI n)])), (h1, .inl (D.2 0, 10, .inl fo)), (h2, .inl (D.2 0, 10, .inl fw))] : va_W))) (va_A [(h0, .inr (3, [.ref h1, .ref h2, .int (nI n)])), (h1, .inl (D.2 0, 10, .inl fo)), (h2, .inl (D.2 0, 10, .inl fw))] sz)) 0 0 (va_A [(h0, .inr (3, [.ref h1, .ref h2, .int (nI n)])), (h1, .inl (D.2 0, 10, .inl fo)), (h2, .inl (D.2 0, 10, .inl fw))] sz) := by
  refine Met.ofW (cc := cX3_weightOfOrder) (maxL := 6) (ret := (some .long)) (by decide) rfl ?_
  intro p e s m args below meth c s₁ B hml hv
  obtain ⟨rfl, hsz, hP, hK, hD0, hB⟩ := hv
  have hx := B.exec
  have hb := B.bytes
  have hr := B.returns
  have hts := atoms_spec (ws := wsX3_weightOfOrder) B.pre
  have hown : s.vm.findClass "ShopLedger$Pieces" = some m.cls := findClass_of_methodNamed B.named
  have hlocks := B.notSynchronized
  subst hsz
  have hD := hD0.self (sz := s.heap.size)
  generalize hAe : va_A [(h0, .inr (3, [.ref h1, .ref h2, .int (nI n)])), (h1, .inl (D.2 0, 10, .inl fo)), (h2, .inl (D.2 0, 10, .inl fw))] s.heap.size = A at hD hB ⊢
  have hA : ∀ q : Nat, s.heap.size ≤ q → A q := fun q h => by rw [← hAe]; exact Or.inr h
  have hS : va_S A s.heap s.heap [] := va_S.rf
  have hZ : ∀ w ∈ zALL, w.before _ s = true := fun w h => hts w (List.mem_cons_of_mem _ h)
  have hF : CallFix p m c cX3_weightOfOrder 6 s _ zALL "ShopLedger$Pieces" := ⟨hx, hb, hml, hown, hZ⟩
  have hl := lv_entry ([.ref h0, .int (nI j), .int (nI t)]) (n := 6) (Nat.le_of_ble_eq_true rfl)
  rw [lg_entry_eq]
  generalize (lg_sl ([.ref h0, .int (nI j), .int (nI t)]) ++ List.replicate (6 - (lg_sl ([.ref h0, .int (nI j), .int (nI t)])).length) Slot.unset).toArray = ls at hl ⊢
  have hl : lv_has ls 6 [(0, .ref h0), (1, .int (nI j)), (2, .int (nI t))] := hl
  refine lv_lconst (v := 0) hx hb dX3_weightOfOrder_0 (by decide) ?_
  refine lv_lstore_n (lv' := [(3, .long 0), (0, .ref h0), (1, .int (nI j)), (2, .int (nI t))]) hx hb dX3_weightOfOrder_1 rfl hl (by decide) rfl (fun ls hl => ?_)
  refine lv_iconst (v := 0) hx hb dX3_weightOfOrder_2 (by decide) ?_
  refine lv_istore (lv' := [(5, .int 0), (3, .long 0), (0, .ref h0), (1, .int (nI j)), (2, .int (nI t))]) hx hb dX3_weightOfOrder_3 hl (by decide) rfl (fun ls hl => ?_)
  have lo1 : ∀ (nn : Nat) (k : Nat), k ≤ t → t + 1 ≤ k + nn → ∀ (H : Heap) (locs : List Loc), va_P D.1 vwCl [(h0, .inr (3, [.ref h1, .ref h2, .int (nI n)])), (h1, .inl (D.2 0, 10, .inl fo)), (h2, .inl (D.2 0, 10, .inl fw))] H → va_D A [(h0, .inr (3, [.ref h1, .ref h2, .int (nI n)])), (h1, .inl (D.2 0, 10, .inl fo)), (h2, .inl (D.2 0, 10, .inl fw))] → va_S A s.heap H locs → ∀ (ls : Array Slot), lv_has ls 6 [(0, .ref h0), (1, .int (nI j)), (2, .int (nI t)), (3, .long (zs_wof fo fw (fo j) k)), (5, .int (nI k))] → W p l e (headSpec wsX3_weightOfOrder ({ frames := 0, cells := 0, slots := 0, locals := 0 })).room s m [.ref h0, .int (nI j), .int (nI t)].toArray below meth c H locs 0 0 (MQ below (va_Ql (fun r (_ : Unit) => r = zs_wof fo fw (fo j) t) (zq D A (fun (_ : Unit) => ([(h0, .inr (3, [.ref h1, .ref h2, .int (nI n)])), (h1, .inl (D.2 0, 10, .inl fo)), (h2, .inl (D.2 0, 10, .inl fw))] : va_W))) A) [.ref h0, .int (nI j), .int (nI t)].toArray s 0 0 A) (F0 m 5 ls []) := by
    intro nn
    induction nn with
    | zero =>
      intro k q1 q2
      exfalso
      omega
    | succ nn ih_lo1 =>
      intro k q1 q2 H locs hP hD hS ls hl
      refine lv_iload hx hb dX3_weightOfOrder_5 (lv_at hl 4 rfl) ?_
      refine lv_iload_n hx hb dX3_weightOfOrder_7 rfl (lv_at hl 2 rfl) ?_
      refine lv_icmp_ge (tgt := 44) hx hb dX3_weightOfOrder_8 (by decide) (fun c1 => ?_) (fun c1 => ?_)
      · skip
        have e9 : t = k := (z_ge q1 (by omega) c1).symm
        subst e9
        refine lv_lload_n hx hb dX3_weightOfOrder_44 rfl (lv_at hl 3 rfl) ?_
        exact z_lret (v := zs_wof fo fw (fo j) t) hx hb hr hlocks hP hD hS () (rfl) [0, 1, 2] rfl (by decide) (Nat.le_of_ble_eq_true rfl) (Nat.le_of_ble_eq_true rfl) dX3_weightOfOrder_45
      have hk : k < t := z_lt q1 (by omega) c1
      refine lv_aload_n hx hb dX3_weightOfOrder_11 rfl (lv_at hl 0 rfl) ?_
      refine va_get (D := D.1) (ci := 3) (v := .ref h1) (C := "ShopLedger$Pieces") (T := TX3) (N := 3) hx hb hZ inX3 hown hK hP 0 rfl rfl 0 (by decide) (hZ _ t_41) (fun _ h9 => h9) rfl dX3_weightOfOrder_12 ?_
      refine lv_iload hx hb dX3_weightOfOrder_15 (lv_at hl 4 rfl) ?_
      refine z_iald (k := k) hx hb hK hP 1 rfl (Nat.lt_of_lt_of_le hk ht) (by decide) dX3_weightOfOrder_17 ?_
      refine lv_aload_n hx hb dX3_weightOfOrder_18 rfl (lv_at hl 0 rfl) ?_
      refine va_get (D := D.1) (ci := 3) (v := .ref h1) (C := "ShopLedger$Pieces") (T := TX3) (N := 3) hx hb hZ inX3 hown hK hP 0 rfl rfl 0 (by decide) (hZ _ t_41) (fun _ h9 => h9) rfl dX3_weightOfOrder_19 ?_
      refine lv_iload_n hx hb dX3_weightOfOrder_22 rfl (lv_at hl 1 rfl) ?_
      refine z_iald (k := j) hx hb hK hP 1 rfl (hj) (by decide) dX3_weightOfOrder_23 ?_
      refine lv_icmp_ne (tgt := 38) hx hb dX3_weightOfOrder_24 (by decide) (fun c2 => ?_) (fun c2 => ?_)
      · skip
        have e8 : zs_wof fo fw (fo j) (k + 1) = zs_wof fo fw (fo j) k := by simp only [zs_wof]; rw [if_neg c2]
        rw [← e8] at hl
        refine lv_iinc (v := nI (k + 1)) (lv' := [(5, .int (nI (k + 1))), (0, .ref h0), (1, .int (nI j)), (2, .int (nI t)), (3, .long (zs_wof fo fw (fo j) (k + 1)))]) hx hb dX3_weightOfOrder_38 hl (k := 4) rfl (nI_1 k) (by decide) rfl (fun ls hl => ?_)
        refine lv_goto (tgt := 5) hx hb dX3_weightOfOrder_41 (by decide) ?_
        exact ih_lo1 (k + 1) (Nat.succ_le_of_lt hk) (by omega)  _ _ (hP.sub [0, 1, 2] rfl) (hD.sub [0, 1, 2] (by decide) rfl) hS ls (lv_sub hl [1, 2, 3, 4, 0] rfl)
      have e8 : zs_wof fo fw (fo j) (k + 1) = zs_wof fo fw (fo j) k + (fw k).toInt64 := by simp only [zs_wof]; rw [if_pos (c2)]
      refine lv_lload_n hx hb dX3_weightOfOrder_27 rfl (lv_at hl 3 rfl) ?_
      refine lv_aload_n hx hb dX3_weightOfOrder_28 rfl (lv_at hl 0 rfl) ?_
      refine va_get (D := D.1) (ci := 3) (v := .ref h2) (C := "ShopLedger$Pieces") (T := TX3) (N := 3) hx hb hZ inX3 hown hK hP 0 rfl rfl 1 (by decide) (hZ _ t_43) (fun _ h9 => h9) rfl dX3_weightOfOrder_29 ?_
      refine lv_iload hx hb dX3_weightOfOrder_32 (lv_at hl 4 rfl) ?_
      refine z_iald (k := k) hx hb hK hP 2 rfl (Nat.lt_of_lt_of_le hk ht) (by decide) dX3_weightOfOrder_34 ?_
      refine lv_i2l (v := (fw k).toInt64) hx hb dX3_weightOfOrder_35 rfl ?_
      refine lv_ladd hx hb dX3_weightOfOrder_36 ?_
      rw [show ((zs_wof fo fw (fo j) k) + ((fw k).toInt64)) = zs_wof fo fw (fo j) (k + 1) from e8.symm]
      refine lv_lstore_n (lv' := [(3, .long (zs_wof fo fw (fo j) (k + 1))), (0, .ref h0), (1, .int (nI j)), (2, .int (nI t)), (5, .int (nI k))]) hx hb dX3_weightOfOrder_37 rfl hl (by decide) rfl (fun ls hl => ?_)
      refine lv_iinc (v := nI (k + 1)) (lv' := [(5, .int (nI (k + 1))), (3, .long (zs_wof fo fw (fo j) (k + 1))), (0, .ref h0), (1, .int (nI j)), (2, .int (nI t))]) hx hb dX3_weightOfOrder_38 hl (k := 4) rfl (nI_1 k) (by decide) rfl (fun ls hl => ?_)
      refine lv_goto (tgt := 5) hx hb dX3_weightOfOrder_41 (by decide) ?_
      exact ih_lo1 (k + 1) (Nat.succ_le_of_lt hk) (by omega)  _ _ (hP.sub [0, 1, 2] rfl) (hD.sub [0, 1, 2] (by decide) rfl) hS ls (lv_sub hl [2, 3, 4, 1, 0] rfl)
  exact lo1 (t + 1) 0 (Nat.zero_le _) (by omega)  _ _ (hP.sub [0, 1, 2] rfl) (hD.sub [0, 1, 2] (by decide) rfl) hS ls (lv_sub hl [2, 3, 4, 1, 0] rfl)
