theorem t_44 : (Cond.classLink "ShopLedger" 117 "java/lang/IndexOutOfBoundsException" : Cond) ∈ zALL := List.mem_filter.mpr ⟨List.mem_append_right _ (List.mem_append_left _ (List.mem_of_getElem? (l := tables_1_1) (i := 199) (by decide +kernel))), by decide +kernel⟩
theorem t_45 : (Cond.initialized "java/lang/IndexOutOfBoundsException" : Cond) ∈ zALL := List.mem_filter.mpr ⟨List.mem_append_right _ (List.mem_append_left _ (List.mem_of_getElem? (l := tables_1_1) (i := 11) (by decide +kernel))), by decide +kernel⟩
theorem t_46 : (Cond.classLink "ShopLedger" 223 "java/lang/IllegalStateException" : Cond) ∈ zALL := List.mem_filter.mpr ⟨List.mem_append_right _ (List.mem_append_right _ (List.mem_append_left _ (List.mem_of_getElem? (l := tables_1_2) (i := 31) (by decide +kernel)))), by decide +kernel⟩
theorem t_47 : (Cond.initialized "java/lang/IllegalStateException" : Cond) ∈ zALL := List.mem_filter.mpr ⟨List.mem_append_right _ (List.mem_append_left _ (List.mem_of_getElem? (l := tables_1_1) (i := 12) (by decide +kernel))), by decide +kernel⟩
theorem t_48 : (Cond.classLink "ShopLedger" 69 "java/lang/IllegalArgumentException" : Cond) ∈ zALL := List.mem_filter.mpr ⟨List.mem_append_right _ (List.mem_append_right _ (List.mem_append_left _ (List.mem_of_getElem? (l := tables_1_2) (i := 52) (by decide +kernel)))), by decide +kernel⟩
theorem t_49 : (Cond.initialized "java/lang/IllegalArgumentException" : Cond) ∈ zALL := List.mem_filter.mpr ⟨List.mem_append_right _ (List.mem_append_left _ (List.mem_of_getElem? (l := tables_1_1) (i := 13) (by decide +kernel))), by decide +kernel⟩
theorem t_50 : (Cond.fieldLink "ShopLedger" 19 "ShopLedger" "books" "LShopLedger$Books;" : Cond) ∈ zALL := List.mem_filter.mpr ⟨List.mem_append_right _ (List.mem_append_left _ (List.mem_of_getElem? (l := tables_1_1) (i := 161) (by decide +kernel))), by decide +kernel⟩
theorem t_51 : (Cond.fieldLink "ShopLedger" 157 "ShopLedger$Books" "count" "I" : Cond) ∈ zALL := List.mem_filter.mpr ⟨List.mem_append_right _ (List.mem_append_left _ (List.mem_of_getElem? (l := tables_1_1) (i := 69) (by decide +kernel))), by decide +kernel⟩
theorem t_52 : (Cond.classLink "ShopLedger" 88 "java/lang/UnsupportedOperationException" : Cond) ∈ zALL := List.mem_filter.mpr ⟨List.mem_append_right _ (List.mem_append_right _ (List.mem_append_left _ (List.mem_of_getElem? (l := tables_1_2) (i := 89) (by decide +kernel)))), by decide +kernel⟩
theorem t_53 : (Cond.initialized "java/lang/UnsupportedOperationException" : Cond) ∈ zALL := List.mem_filter.mpr ⟨List.mem_append_right _ (List.mem_append_left _ (List.mem_of_getElem? (l := tables_1_1) (i := 14) (by decide +kernel))), by decide +kernel⟩
theorem t_at0 : ∀ w ∈ (vx_atS "ShopLedger" 121 "java/lang/IndexOutOfBoundsException" ["java/lang/RuntimeException", "java/lang/Exception"]).filter goodWord, w ∈ zALL := by decide +kernel
theorem t_at1 : ∀ w ∈ (vx_atS "ShopLedger" 227 "java/lang/IllegalStateException" ["java/lang/RuntimeException", "java/lang/Exception"]).filter goodWord, w ∈ zALL := by decide +kernel
theorem t_at2 : ∀ w ∈ (vx_atS "ShopLedger" 73 "java/lang/IllegalArgumentException" ["java/lang/RuntimeException", "java/lang/Exception"]).filter goodWord, w ∈ zALL := by decide +kernel
theorem t_at3 : ∀ w ∈ (vx_atS "ShopLedger" 92 "java/lang/UnsupportedOperationException" ["java/lang/RuntimeException", "java/lang/Exception"]).filter goodWord, w ∈ zALL := by decide +kernel
set_option maxHeartbeats 4000000 in
set_option maxRecDepth 100000 in
/-- checkIndex -/
theorem c_cI {l : Launch} (hl9 : l.stackTraces = false) (D : zD) (k cnt : Int32) (sz : Nat) : vx_Met l yX5_checkIndex wsX5_checkIndex ({ frames := 6, cells := 1, slots := 6, locals := 90 }) (va_Pc [.int k, .int cnt] (zp D sz [])) (va_Qv (fun (_ : Unit) => zin k cnt) (zq D (va_A [] sz) (fun (_ : Unit) => ([] : va_W))) (va_A [] sz)) (vx_X (fun _ : Unit => True) (zx D (va_A [] sz) [] (fun E => E = "java/lang/IndexOutOfBoundsException" ∧ (k < 0 ∨ cnt ≤ k))) (va_A [] sz)) 1 6 (va_A [] sz) := by
  refine vx_ofW (cc := cX5_checkIndex) (maxL := 2) (ret := none) (by decide) rfl ?_
  intro p e s m args below meth c s₁ B hml hnx hv
  obtain ⟨rfl, hsz, hP, hK, hD0, hB⟩ := hv
  have hx := B.exec
  have hb := B.bytes
  have hr := B.returns
  have hts := atoms_spec (ws := wsX5_checkIndex) B.pre
  have hown : s.vm.findClass "ShopLedger" = some m.cls := findClass_of_methodNamed B.named
  have hlocks := B.notSynchronized
  subst hsz
  have hD := hD0.self (sz := s.heap.size)
  generalize hAe : va_A [] s.heap.size = A at hD hB ⊢
  have hA : ∀ q : Nat, s.heap.size ≤ q → A q := fun q h => by rw [← hAe]; exact Or.inr h
  have hS : va_S A s.heap s.heap [] := va_S.rf
  have hZ : ∀ w ∈ zALL, w.before _ s = true := fun w h => hts w (List.mem_cons_of_mem _ h)
  have hF : CallFix p m c cX5_checkIndex 2 s _ zALL "ShopLedger" := ⟨hx, hb, hml, hown, hZ⟩
  have hl := lv_entry ([.int k, .int cnt]) (n := 2) (Nat.le_of_ble_eq_true rfl)
  rw [lg_entry_eq]
  generalize (lg_sl ([.int k, .int cnt]) ++ List.replicate (2 - (lg_sl ([.int k, .int cnt])).length) Slot.unset).toArray = ls at hl ⊢
  have hl : lv_has ls 2 [(0, .int k), (1, .int cnt)] := hl
  refine lv_iload_n hx hb dX5_checkIndex_0 rfl (lv_at hl 0 rfl) ?_
  refine lv_if_lt (tgt := 9) hx hb dX5_checkIndex_1 (by decide) (fun c1 => ?_) (fun c1 => ?_)
  · skip
    exact z_throw (own := "ShopLedger") "java/lang/IndexOutOfBoundsException" "no such index" ["java/lang/RuntimeException", "java/lang/Exception"] hx hb hl9 hnx hlocks hown (by decide +kernel) (by decide +kernel) (hZ _ t_44) (hZ _ t_45) hB (by decide +kernel) (vx_hat (L := vx_atS "ShopLedger" 121 "java/lang/IndexOutOfBoundsException" ["java/lang/RuntimeException", "java/lang/Exception"]) (B := [.castable "java/lang/IndexOutOfBoundsException" "java/lang/IndexOutOfBoundsException", .declares ⟨"java/lang/RuntimeException", "<init>", "(Ljava/lang/String;)V"⟩, .declares ⟨"java/lang/Exception", "<init>", "(Ljava/lang/String;)V"⟩, .declares ⟨"java/lang/Throwable", "<init>", "(Ljava/lang/String;)V"⟩]) (fun w hw => hZ w (t_at0 w hw)) (by decide +kernel) (vx_c (va_Nw.use rfl (hB.2.2.2.1 ("java/lang/IndexOutOfBoundsException", "java/lang/IndexOutOfBoundsException") (by decide +kernel))) (vx_c (va_Nw.use rfl (hB.2.2.2.2.1 ⟨"java/lang/RuntimeException", "<init>", "(Ljava/lang/String;)V"⟩ (by decide +kernel))) (vx_c (va_Nw.use rfl (hB.2.2.2.2.1 ⟨"java/lang/Exception", "<init>", "(Ljava/lang/String;)V"⟩ (by decide +kernel))) (vx_c (va_Nw.use rfl (hB.2.2.2.2.1 ⟨"java/lang/Throwable", "<init>", "(Ljava/lang/String;)V"⟩ (by decide +kernel))) (vx_n)))))) (by decide +kernel) (hl.1.trans hml.symm) dX5_checkIndex_9 dX5_checkIndex_12 dX5_checkIndex_13 dX5_checkIndex_15 dX5_checkIndex_18 (Nat.le_of_ble_eq_true rfl) (Nat.le_of_ble_eq_true rfl) (Nat.le_of_ble_eq_true rfl) (Nat.le_of_ble_eq_true rfl) (by first | exact ⟨rfl, Or.inl c1⟩ | exact ⟨rfl, Or.inr (Int32.not_lt.mp c2)⟩) hP hD hS [] rfl (by decide) (Nat.le_of_ble_eq_true rfl) (Nat.le_of_ble_eq_true rfl)
  refine lv_iload_n hx hb dX5_checkIndex_4 rfl (lv_at hl 0 rfl) ?_
  refine lv_iload_n hx hb dX5_checkIndex_5 rfl (lv_at hl 1 rfl) ?_
  refine lv_icmp_lt (tgt := 19) hx hb dX5_checkIndex_6 (by decide) (fun c2 => ?_) (fun c2 => ?_)
  · skip
    refine vx_ret ?_
    exact z_vret hx hb hr hlocks hP hD hS () (⟨c1, Int32.not_le.mpr c2⟩) [] rfl (by decide) (Nat.le_of_ble_eq_true rfl) (Nat.le_of_ble_eq_true rfl) dX5_checkIndex_19
  exact z_throw (own := "ShopLedger") "java/lang/IndexOutOfBoundsException" "no such index" ["java/lang/RuntimeException", "java/lang/Exception"] hx hb hl9 hnx hlocks hown (by decide +kernel) (by decide +kernel) (hZ _ t_44) (hZ _ t_45) hB (by decide +kernel) (vx_hat (L := vx_atS "ShopLedger" 121 "java/lang/IndexOutOfBoundsException" ["java/lang/RuntimeException", "java/lang/Exception"]) (B := [.castable "java/lang/IndexOutOfBoundsException" "java/lang/IndexOutOfBoundsException", .declares ⟨"java/lang/RuntimeException", "<init>", "(Ljava/lang/String;)V"⟩, .declares ⟨"java/lang/Exception", "<init>", "(Ljava/lang/String;)V"⟩, .declares ⟨"java/lang/Throwable", "<init>", "(Ljava/lang/String;)V"⟩]) (fun w hw => hZ w (t_at0 w hw)) (by decide +kernel) (vx_c (va_Nw.use rfl (hB.2.2.2.1 ("java/lang/IndexOutOfBoundsException", "java/lang/IndexOutOfBoundsException") (by decide +kernel))) (vx_c (va_Nw.use rfl (hB.2.2.2.2.1 ⟨"java/lang/RuntimeException", "<init>", "(Ljava/lang/String;)V"⟩ (by decide +kernel))) (vx_c (va_Nw.use rfl (hB.2.2.2.2.1 ⟨"java/lang/Exception", "<init>", "(Ljava/lang/String;)V"⟩ (by decide +kernel))) (vx_c (va_Nw.use rfl (hB.2.2.2.2.1 ⟨"java/lang/Throwable", "<init>", "(Ljava/lang/String;)V"⟩ (by decide +kernel))) (vx_n)))))) (by decide +kernel) (hl.1.trans hml.symm) dX5_checkIndex_9 dX5_checkIndex_12 dX5_checkIndex_13 dX5_checkIndex_15 dX5_checkIndex_18 (Nat.le_of_ble_eq_true rfl) (Nat.le_of_ble_eq_true rfl) (Nat.le_of_ble_eq_true rfl) (Nat.le_of_ble_eq_true rfl) (by first | exact ⟨rfl, Or.inl c1⟩ | exact ⟨rfl, Or.inr (Int32.not_lt.mp c2)⟩) hP hD hS [] rfl (by decide) (Nat.le_of_ble_eq_true rfl) (Nat.le_of_ble_eq_true rfl)
set_option maxHeartbeats 4000000 in
set_option maxRecDepth 100000 in
/-- checkTurn -/
theorem c_cT {l : Launch} (hl9 : l.stackTraces = false) (D : zD) (k : Int32) (sz : Nat) : vx_Met l yX5_checkTurn wsX5_checkTurn ({ frames := 6, cells := 1, slots := 6, locals := 90 }) (va_Pc [.int k] (zp D sz [])) (va_Qv (fun (_ : Unit) => ¬ k = 0) (zq D (va_A [] sz) (fun (_ : Unit) => ([] : va_W))) (va_A [] sz)) (vx_X (fun _ : Unit => True) (zx D (va_A [] sz) [] (fun E => E = "java/lang/IllegalStateException" ∧ k = 0)) (va_A [] sz)) 1 6 (va_A [] sz) := by
  refine vx_ofW (cc := cX5_checkTurn) (maxL := 1) (ret := none) (by decide) rfl ?_
  intro p e s m args below meth c s₁ B hml hnx hv
  obtain ⟨rfl, hsz, hP, hK, hD0, hB⟩ := hv
  have hx := B.exec
  have hb := B.bytes
  have hr := B.returns
  have hts := atoms_spec (ws := wsX5_checkTurn) B.pre
  have hown : s.vm.findClass "ShopLedger" = some m.cls := findClass_of_methodNamed B.named
  have hlocks := B.notSynchronized
  subst hsz
  have hD := hD0.self (sz := s.heap.size)
  generalize hAe : va_A [] s.heap.size = A at hD hB ⊢
  have hA : ∀ q : Nat, s.heap.size ≤ q → A q := fun q h => by rw [← hAe]; exact Or.inr h
  have hS : va_S A s.heap s.heap [] := va_S.rf
  have hZ : ∀ w ∈ zALL, w.before _ s = true := fun w h => hts w (List.mem_cons_of_mem _ h)
  have hF : CallFix p m c cX5_checkTurn 1 s _ zALL "ShopLedger" := ⟨hx, hb, hml, hown, hZ⟩
  have hl := lv_entry ([.int k]) (n := 1) (Nat.le_of_ble_eq_true rfl)
  rw [lg_entry_eq]
  generalize (lg_sl ([.int k]) ++ List.replicate (1 - (lg_sl ([.int k])).length) Slot.unset).toArray = ls at hl ⊢
  have hl : lv_has ls 1 [(0, .int k)] := hl
  refine lv_iload_n hx hb dX5_checkTurn_0 rfl (lv_at hl 0 rfl) ?_
  refine lv_if_ne (tgt := 14) hx hb dX5_checkTurn_1 (by decide) (fun c1 => ?_) (fun c1 => ?_)
  · skip
    refine vx_ret ?_
    exact z_vret hx hb hr hlocks hP hD hS () (c1) [] rfl (by decide) (Nat.le_of_ble_eq_true rfl) (Nat.le_of_ble_eq_true rfl) dX5_checkTurn_14
  exact z_throw (own := "ShopLedger") "java/lang/IllegalStateException" "the call is out of turn" ["java/lang/RuntimeException", "java/lang/Exception"] hx hb hl9 hnx hlocks hown (by decide +kernel) (by decide +kernel) (hZ _ t_46) (hZ _ t_47) hB (by decide +kernel) (vx_hat (L := vx_atS "ShopLedger" 227 "java/lang/IllegalStateException" ["java/lang/RuntimeException", "java/lang/Exception"]) (B := [.castable "java/lang/IllegalStateException" "java/lang/IllegalStateException", .declares ⟨"java/lang/RuntimeException", "<init>", "(Ljava/lang/String;)V"⟩, .declares ⟨"java/lang/Exception", "<init>", "(Ljava/lang/String;)V"⟩, .declares ⟨"java/lang/Throwable", "<init>", "(Ljava/lang/String;)V"⟩]) (fun w hw => hZ w (t_at1 w hw)) (by decide +kernel) (vx_c (va_Nw.use rfl (hB.2.2.2.1 ("java/lang/IllegalStateException", "java/lang/IllegalStateException") (by decide +kernel))) (vx_c (va_Nw.use rfl (hB.2.2.2.2.1 ⟨"java/lang/RuntimeException", "<init>", "(Ljava/lang/String;)V"⟩ (by decide +kernel))) (vx_c (va_Nw.use rfl (hB.2.2.2.2.1 ⟨"java/lang/Exception", "<init>", "(Ljava/lang/String;)V"⟩ (by decide +kernel))) (vx_c (va_Nw.use rfl (hB.2.2.2.2.1 ⟨"java/lang/Throwable", "<init>", "(Ljava/lang/String;)V"⟩ (by decide +kernel))) (vx_n)))))) (by decide +kernel) (hl.1.trans hml.symm) dX5_checkTurn_4 dX5_checkTurn_7 dX5_checkTurn_8 dX5_checkTurn_10 dX5_checkTurn_13 (Nat.le_of_ble_eq_true rfl) (Nat.le_of_ble_eq_true rfl) (Nat.le_of_ble_eq_true rfl) (Nat.le_of_ble_eq_true rfl) (⟨rfl, c1⟩) hP hD hS [] rfl (by decide) (Nat.le_of_ble_eq_true rfl) (Nat.le_of_ble_eq_true rfl)
set_option maxHeartbeats 4000000 in
set_option maxRecDepth 100000 in
/-- checkRange -/
theorem c_cR {l : Launch} (hl9 : l.stackTraces = false) (D : zD) (k a b : Int32) (sz : Nat) : vx_Met l yX5_checkRange wsX5_checkRange ({ frames := 6, cells := 1, slots := 6, locals := 90 }) (va_Pc [.int k, .int a, .int b] (zp D sz [])) (va_Qv (fun (_ : Unit) => ¬ k < a ∧ k ≤ b) (zq D (va_A [] sz) (fun (_ : Unit) => ([] : va_W))) (va_A [] sz)) (vx_X (fun _ : Unit => True) (zx D (va_A [] sz) [] (fun E => E = "java/lang/IllegalArgumentException" ∧ (k < a ∨ ¬ k ≤ b))) (va_A [] sz)) 1 6 (va_A [] sz) := by
  refine vx_ofW (cc := cX5_checkRange) (maxL := 3) (ret := none) (by decide) rfl ?_
  intro p e s m args below meth c s₁ B hml hnx hv
  obtain ⟨rfl, hsz, hP, hK, hD0, hB⟩ := hv
  have hx := B.exec
  have hb := B.bytes
  have hr := B.returns
  have hts := atoms_spec (ws := wsX5_checkRange) B.pre
  have hown : s.vm.findClass "ShopLedger" = some m.cls := findClass_of_methodNamed B.named
  have hlocks := B.notSynchronized
  subst hsz
  have hD := hD0.self (sz := s.heap.size)
  generalize hAe : va_A [] s.heap.size = A at hD hB ⊢
  have hA : ∀ q : Nat, s.heap.size ≤ q → A q := fun q h => by rw [← hAe]; exact Or.inr h
  have hS : va_S A s.heap s.heap [] := va_S.rf
  have hZ : ∀ w ∈ zALL, w.before _ s = true := fun w h => hts w (List.mem_cons_of_mem _ h)
  have hF : CallFix p m c cX5_checkRange 3 s _ zALL "ShopLedger" := ⟨hx, hb, hml, hown, hZ⟩
  have hl := lv_entry ([.int k, .int a, .int b]) (n := 3) (Nat.le_of_ble_eq_true rfl)
  rw [lg_entry_eq]
  generalize (lg_sl ([.int k, .int a, .int b]) ++ List.replicate (3 - (lg_sl ([.int k, .int a, .int b])).length) Slot.unset).toArray = ls at hl ⊢
  have hl : lv_has ls 3 [(0, .int k), (1, .int a), (2, .int b)] := hl
  refine lv_iload_n hx hb dX5_checkRange_0 rfl (lv_at hl 0 rfl) ?_
  refine lv_iload_n hx hb dX5_checkRange_1 rfl (lv_at hl 1 rfl) ?_
  refine lv_icmp_lt (tgt := 10) hx hb dX5_checkRange_2 (by decide) (fun c1 => ?_) (fun c1 => ?_)
  · skip
    exact z_throw (own := "ShopLedger") "java/lang/IllegalArgumentException" "out of range" ["java/lang/RuntimeException", "java/lang/Exception"] hx hb hl9 hnx hlocks hown (by decide +kernel) (by decide +kernel) (hZ _ t_48) (hZ _ t_49) hB (by decide +kernel) (vx_hat (L := vx_atS "ShopLedger" 73 "java/lang/IllegalArgumentException" ["java/lang/RuntimeException", "java/lang/Exception"]) (B := [.castable "java/lang/IllegalArgumentException" "java/lang/IllegalArgumentException", .declares ⟨"java/lang/RuntimeException", "<init>", "(Ljava/lang/String;)V"⟩, .declares ⟨"java/lang/Exception", "<init>", "(Ljava/lang/String;)V"⟩, .declares ⟨"java/lang/Throwable", "<init>", "(Ljava/lang/String;)V"⟩]) (fun w hw => hZ w (t_at2 w hw)) (by decide +kernel) (vx_c (va_Nw.use rfl (hB.2.2.2.1 ("java/lang/IllegalArgumentException", "java/lang/IllegalArgumentException") (by decide +kernel))) (vx_c (va_Nw.use rfl (hB.2.2.2.2.1 ⟨"java/lang/RuntimeException", "<init>", "(Ljava/lang/String;)V"⟩ (by decide +kernel))) (vx_c (va_Nw.use rfl (hB.2.2.2.2.1 ⟨"java/lang/Exception", "<init>", "(Ljava/lang/String;)V"⟩ (by decide +kernel))) (vx_c (va_Nw.use rfl (hB.2.2.2.2.1 ⟨"java/lang/Throwable", "<init>", "(Ljava/lang/String;)V"⟩ (by decide +kernel))) (vx_n)))))) (by decide +kernel) (hl.1.trans hml.symm) dX5_checkRange_10 dX5_checkRange_13 dX5_checkRange_14 dX5_checkRange_16 dX5_checkRange_19 (Nat.le_of_ble_eq_true rfl) (Nat.le_of_ble_eq_true rfl) (Nat.le_of_ble_eq_true rfl) (Nat.le_of_ble_eq_true rfl) (by first | exact ⟨rfl, Or.inl c1⟩ | exact ⟨rfl, Or.inr c2⟩) hP hD hS [] rfl (by decide) (Nat.le_of_ble_eq_true rfl) (Nat.le_of_ble_eq_true rfl)
  refine lv_iload_n hx hb dX5_checkRange_5 rfl (lv_at hl 0 rfl) ?_
  refine lv_iload_n hx hb dX5_checkRange_6 rfl (lv_at hl 2 rfl) ?_
  refine lv_icmp_le (tgt := 20) hx hb dX5_checkRange_7 (by decide) (fun c2 => ?_) (fun c2 => ?_)
  · skip
    refine vx_ret ?_
    exact z_vret hx hb hr hlocks hP hD hS () (⟨c1, c2⟩) [] rfl (by decide) (Nat.le_of_ble_eq_true rfl) (Nat.le_of_ble_eq_true rfl) dX5_checkRange_20
  exact z_throw (own := "ShopLedger") "java/lang/IllegalArgumentException" "out of range" ["java/lang/RuntimeException", "java/lang/Exception"] hx hb hl9 hnx hlocks hown (by decide +kernel) (by decide +kernel) (hZ _ t_48) (hZ _ t_49) hB (by decide +kernel) (vx_hat (L := vx_atS "ShopLedger" 73 "java/lang/IllegalArgumentException" ["java/lang/RuntimeException", "java/lang/Exception"]) (B := [.castable "java/lang/IllegalArgumentException" "java/lang/IllegalArgumentException", .declares ⟨"java/lang/RuntimeException", "<init>", "(Ljava/lang/String;)V"⟩, .declares ⟨"java/lang/Exception", "<init>", "(Ljava/lang/String;)V"⟩, .declares ⟨"java/lang/Throwable", "<init>", "(Ljava/lang/String;)V"⟩]) (fun w hw => hZ w (t_at2 w hw)) (by decide +kernel) (vx_c (va_Nw.use rfl (hB.2.2.2.1 ("java/lang/IllegalArgumentException", "java/lang/IllegalArgumentException") (by decide +kernel))) (vx_c (va_Nw.use rfl (hB.2.2.2.2.1 ⟨"java/lang/RuntimeException", "<init>", "(Ljava/lang/String;)V"⟩ (by decide +kernel))) (vx_c (va_Nw.use rfl (hB.2.2.2.2.1 ⟨"java/lang/Exception", "<init>", "(Ljava/lang/String;)V"⟩ (by decide +kernel))) (vx_c (va_Nw.use rfl (hB.2.2.2.2.1 ⟨"java/lang/Throwable", "<init>", "(Ljava/lang/String;)V"⟩ (by decide +kernel))) (vx_n)))))) (by decide +kernel) (hl.1.trans hml.symm) dX5_checkRange_10 dX5_checkRange_13 dX5_checkRange_14 dX5_checkRange_16 dX5_checkRange_19 (Nat.le_of_ble_eq_true rfl) (Nat.le_of_ble_eq_true rfl) (Nat.le_of_ble_eq_true rfl) (Nat.le_of_ble_eq_true rfl) (by first | exact ⟨rfl, Or.inl c1⟩ | exact ⟨rfl, Or.inr c2⟩) hP hD hS [] rfl (by decide) (Nat.le_of_ble_eq_true rfl) (Nat.le_of_ble_eq_true rfl)
set_option maxHeartbeats 4000000 in
set_option maxRecDepth 100000 in
/-- checkRoom -/
theorem c_room {l : Launch} (hl9 : l.stackTraces = false) (D : zD) (x0 h0 w0 s0 m0 g0 cl : Nat) (b0 b1 b2 b3 b4 b5 b6 b7 b8 b9 : Nat) (E : zE) (bt : Nat) (k : Int32) (sz : Nat) : vx_Met l yX5_checkRoom wsX5_checkRoom ({ frames := 6, cells := 1, slots := 6, locals := 90 }) (va_Pc [.ref x0, .int k] (zp D sz [(x0, .inr (5, [.ref h0, .ref b0, .ref w0, .ref s0, .ref m0, .ref g0, .int (nI cl)])), (b0, .inr (0, [.ref b1, .ref b2, .ref b3, .ref b4, .ref b5, .int (nI E.1), .ref b6, .ref b7, .ref b8, .ref b9, .int (nI bt)]))])) (va_Qv (fun (_ : Unit) => k ≤ 200 - nI E.1) (zq D (va_A [(x0, .inr (5, [.ref h0, .ref b0, .ref w0, .ref s0, .ref m0, .ref g0, .int (nI cl)])), (b0, .inr (0, [.ref b1, .ref b2, .ref b3, .ref b4, .ref b5, .int (nI E.1), .ref b6, .ref b7, .ref b8, .ref b9, .int (nI bt)]))] sz) (fun (_ : Unit) => ([(x0, .inr (5, [.ref h0, .ref b0, .ref w0, .ref s0, .ref m0, .ref g0, .int (nI cl)])), (b0, .inr (0, [.ref b1, .ref b2, .ref b3, .ref b4, .ref b5, .int (nI E.1), .ref b6, .ref b7, .ref b8, .ref b9, .int (nI bt)]))] : va_W))) (va_A [(x0, .inr (5, [.ref h0, .ref b0, .ref w0, .ref s0, .ref m0, .ref g0, .int (nI cl)])), (b0, .inr (0, [.ref b1, .ref b2, .ref b3, .ref b4, .ref b5, .int (nI E.1), .ref b6, .ref b7, .ref b8, .ref b9, .int (nI bt)]))] sz)) (vx_X (fun _ : Unit => True) (zx D (va_A [(x0, .inr (5, [.ref h0, .ref b0, .ref w0, .ref s0, .ref m0, .ref g0, .int (nI cl)])), (b0, .inr (0, [.ref b1, .ref b2, .ref b3, .ref b4, .ref b5, .int (nI E.1), .ref b6, .ref b7, .ref b8, .ref b9, .int (nI bt)]))] sz) [(x0, .inr (5, [.ref h0, .ref b0, .ref w0, .ref s0, .ref m0, .ref g0, .int (nI cl)])), (b0, .inr (0, [.ref b1, .ref b2, .ref b3, .ref b4, .ref b5, .int (nI E.1), .ref b6, .ref b7, .ref b8, .ref b9, .int (nI bt)]))] (fun E9 => E9 = "java/lang/UnsupportedOperationException" ∧ ¬ k ≤ 200 - nI E.1)) (va_A [(x0, .inr (5, [.ref h0, .ref b0, .ref w0, .ref s0, .ref m0, .ref g0, .int (nI cl)])), (b0, .inr (0, [.ref b1, .ref b2, .ref b3, .ref b4, .ref b5, .int (nI E.1), .ref b6, .ref b7, .ref b8, .ref b9, .int (nI bt)]))] sz)) 1 6 (va_A [(x0, .inr (5, [.ref h0, .ref b0, .ref w0, .ref s0, .ref m0, .ref g0, .int (nI cl)])), (b0, .inr (0, [.ref b1, .ref b2, .ref b3, .ref b4, .ref b5, .int (nI E.1), .ref b6, .ref b7, .ref b8, .ref b9, .int (nI bt)]))] sz) := by
  refine vx_ofW (cc := cX5_checkRoom) (maxL := 2) (ret := none) (by decide) rfl ?_
  intro p e s m args below meth c s₁ B hml hnx hv
  obtain ⟨rfl, hsz, hP, hK, hD0, hB⟩ := hv
  have hx := B.exec
  have hb := B.bytes
  have hr := B.returns
  have hts := atoms_spec (ws := wsX5_checkRoom) B.pre
  have hown : s.vm.findClass "ShopLedger" = some m.cls := findClass_of_methodNamed B.named
  have hlocks := B.notSynchronized
  subst hsz
  have hD := hD0.self (sz := s.heap.size)
  generalize hAe : va_A [(x0, .inr (5, [.ref h0, .ref b0, .ref w0, .ref s0, .ref m0, .ref g0, .int (nI cl)])), (b0, .inr (0, [.ref b1, .ref b2, .ref b3, .ref b4, .ref b5, .int (nI E.1), .ref b6, .ref b7, .ref b8, .ref b9, .int (nI bt)]))] s.heap.size = A at hD hB ⊢
  have hA : ∀ q : Nat, s.heap.size ≤ q → A q := fun q h => by rw [← hAe]; exact Or.inr h
  have hS : va_S A s.heap s.heap [] := va_S.rf
  have hZ : ∀ w ∈ zALL, w.before _ s = true := fun w h => hts w (List.mem_cons_of_mem _ h)
  have hF : CallFix p m c cX5_checkRoom 2 s _ zALL "ShopLedger" := ⟨hx, hb, hml, hown, hZ⟩
  have hl := lv_entry ([.ref x0, .int k]) (n := 2) (Nat.le_of_ble_eq_true rfl)
  rw [lg_entry_eq]
  generalize (lg_sl ([.ref x0, .int k]) ++ List.replicate (2 - (lg_sl ([.ref x0, .int k])).length) Slot.unset).toArray = ls at hl ⊢
  have hl : lv_has ls 2 [(0, .ref x0), (1, .int k)] := hl
  refine lv_iload_n hx hb dX5_checkRoom_0 rfl (lv_at hl 1 rfl) ?_
  refine lv_sipush (v := 200) hx hb dX5_checkRoom_1 (by decide) ?_
  refine lv_aload_n hx hb dX5_checkRoom_4 rfl (lv_at hl 0 rfl) ?_
  refine va_get (D := D.1) (ci := 5) (v := .ref b0) (C := "ShopLedger") (T := TX5) (N := 7) hx hb hZ inX5 hown hK hP 0 rfl rfl 1 (by decide) (hZ _ t_50) (fun _ h9 => h9) rfl dX5_checkRoom_5 ?_
  refine va_get (D := D.1) (ci := 0) (v := .int (nI E.1)) (C := "ShopLedger$Books") (T := TX0) (N := 11) hx hb hZ inX0 hown hK hP 1 rfl rfl 5 (by decide) (hZ _ t_51) (fun _ h9 => h9) rfl dX5_checkRoom_8 ?_
  refine lv_isub hx hb dX5_checkRoom_11 ?_
  refine lv_icmp_le (tgt := 25) hx hb dX5_checkRoom_12 (by decide) (fun c1 => ?_) (fun c1 => ?_)
  · skip
    refine vx_ret ?_
    exact z_vret hx hb hr hlocks hP hD hS () (c1) [0, 1] rfl (by decide) (Nat.le_of_ble_eq_true rfl) (Nat.le_of_ble_eq_true rfl) dX5_checkRoom_25
  exact z_throw (own := "ShopLedger") "java/lang/UnsupportedOperationException" "no room for the entries" ["java/lang/RuntimeException", "java/lang/Exception"] hx hb hl9 hnx hlocks hown (by decide +kernel) (by decide +kernel) (hZ _ t_52) (hZ _ t_53) hB (by decide +kernel) (vx_hat (L := vx_atS "ShopLedger" 92 "java/lang/UnsupportedOperationException" ["java/lang/RuntimeException", "java/lang/Exception"]) (B := [.castable "java/lang/UnsupportedOperationException" "java/lang/UnsupportedOperationException", .declares ⟨"java/lang/RuntimeException", "<init>", "(Ljava/lang/String;)V"⟩, .declares ⟨"java/lang/Exception", "<init>", "(Ljava/lang/String;)V"⟩, .declares ⟨"java/lang/Throwable", "<init>", "(Ljava/lang/String;)V"⟩]) (fun w hw => hZ w (t_at3 w hw)) (by decide +kernel) (vx_c (va_Nw.use rfl (hB.2.2.2.1 ("java/lang/UnsupportedOperationException", "java/lang/UnsupportedOperationException") (by decide +kernel))) (vx_c (va_Nw.use rfl (hB.2.2.2.2.1 ⟨"java/lang/RuntimeException", "<init>", "(Ljava/lang/String;)V"⟩ (by decide +kernel))) (vx_c (va_Nw.use rfl (hB.2.2.2.2.1 ⟨"java/lang/Exception", "<init>", "(Ljava/lang/String;)V"⟩ (by decide +kernel))) (vx_c (va_Nw.use rfl (hB.2.2.2.2.1 ⟨"java/lang/Throwable", "<init>", "(Ljava/lang/String;)V"⟩ (by decide +kernel))) (vx_n)))))) (by decide +kernel) (hl.1.trans hml.symm) dX5_checkRoom_15 dX5_checkRoom_18 dX5_checkRoom_19 dX5_checkRoom_21 dX5_checkRoom_24 (Nat.le_of_ble_eq_true rfl) (Nat.le_of_ble_eq_true rfl) (Nat.le_of_ble_eq_true rfl) (Nat.le_of_ble_eq_true rfl) (⟨rfl, c1⟩) hP hD hS [0, 1] rfl (by decide) (Nat.le_of_ble_eq_true rfl) (Nat.le_of_ble_eq_true rfl)
