theorem t_300 : (Cond.code ⟨"ShopLedgerModel", "endBatch", "(I)I"⟩ prog_8_method_7_code 2 (some .int) : Cond) ∈ zALL := List.mem_filter.mpr ⟨List.mem_append_right _ (List.mem_append_right _ (List.mem_append_right _ (List.mem_of_getElem? (l := tables_1_3) (i := 150) (by decide +kernel)))), by decide +kernel⟩
theorem t_301 : (Cond.methodLink "ShopLedgerModel" 92 ⟨"ShopLedgerModel", "endBatch", "(I)I"⟩ : Cond) ∈ zALL := List.mem_filter.mpr ⟨List.mem_append_right _ (List.mem_append_right _ (List.mem_append_right _ (List.mem_of_getElem? (l := tables_1_3) (i := 147) (by decide +kernel)))), by decide +kernel⟩
theorem t_302 : (Cond.instanceMethod ⟨"ShopLedgerModel", "endBatch", "(I)I"⟩ : Cond) ∈ zALL := List.mem_filter.mpr ⟨List.mem_append_right _ (List.mem_append_right _ (List.mem_append_right _ (List.mem_of_getElem? (l := tables_1_3) (i := 149) (by decide +kernel)))), by decide +kernel⟩
theorem t_303 : (Cond.selects "ShopLedgerModel" ⟨"ShopLedgerModel", "endBatch", "(I)I"⟩ ⟨"ShopLedgerModel", "endBatch", "(I)I"⟩ : Cond) ∈ zALL := List.mem_filter.mpr ⟨List.mem_append_left _ (by decide +kernel), by decide +kernel⟩
theorem t_304 : (Cond.code ⟨"ShopLedgerModel", "enter", "(IIII)V"⟩ prog_8_method_6_code 5 none : Cond) ∈ zALL := List.mem_filter.mpr ⟨List.mem_append_right _ (List.mem_append_right _ (List.mem_append_right _ (List.mem_of_getElem? (l := tables_1_3) (i := 146) (by decide +kernel)))), by decide +kernel⟩
theorem t_305 : (Cond.methodLink "ShopLedgerModel" 88 ⟨"ShopLedgerModel", "enter", "(IIII)V"⟩ : Cond) ∈ zALL := List.mem_filter.mpr ⟨List.mem_append_right _ (List.mem_append_right _ (List.mem_append_right _ (List.mem_of_getElem? (l := tables_1_3) (i := 143) (by decide +kernel)))), by decide +kernel⟩
theorem t_306 : (Cond.instanceMethod ⟨"ShopLedgerModel", "enter", "(IIII)V"⟩ : Cond) ∈ zALL := List.mem_filter.mpr ⟨List.mem_append_right _ (List.mem_append_right _ (List.mem_append_right _ (List.mem_of_getElem? (l := tables_1_3) (i := 145) (by decide +kernel)))), by decide +kernel⟩
theorem t_307 : (Cond.selects "ShopLedgerModel" ⟨"ShopLedgerModel", "enter", "(IIII)V"⟩ ⟨"ShopLedgerModel", "enter", "(IIII)V"⟩ : Cond) ∈ zALL := List.mem_filter.mpr ⟨List.mem_append_left _ (by decide +kernel), by decide +kernel⟩
set_option maxHeartbeats 4000000 in
set_option maxRecDepth 100000 in
/-- the reference: put -/
theorem d_put {l : Launch} (D : zD) (m0 m1 m2 m3 m4 m5 m6 m7 m8 m9 m10 m11 m12 m13 m14 : Nat) (M : zM) (bt ln cl pn : Nat) (th : Int32) (qm lo lc : Nat → Int32) (sz : Nat) (hn : ln ≤ 16) (hM : M.1 ≤ 200) (hb9 : bt ≤ M.1) : Met l yX6_put wsX6_put ({ frames := 1, cells := 0, slots := 0, locals := 24 }) (va_Pc [.ref m0] (zp D sz [(m0, .inr (6, [.int th, .int (nI M.1), .ref m1, .ref m2, .int (nI bt), .ref m3, .int (nI ln), .ref m4, .ref m5, .int (nI cl), .ref m6, .ref m7, .ref m8, .ref m9, .ref m10, .ref m11, .ref m12, .int (nI pn), .ref m13, .ref m14])), (m1, .inl (D.2 0, 800, .inl M.2.1)), (m2, .inl (D.2 0, 200, .inl M.2.2)), (m3, .inl (D.2 0, 200, .inl qm)), (m4, .inl (D.2 0, 48, .inl lo)), (m5, .inl (D.2 0, 16, .inl lc))])) (va_Qi (fun r (u : Option Int32) => (u = none ∧ (zm_shut lo (nI cl) ln = 0) ∧ (¬ nI ln = 0 ∧ zs_lsum lc ln = 0 ∧ nI (M.1 + ln) ≤ 200) ∧ r = nI bt) ∨ (u = some 1 ∧ ¬ (zm_shut lo (nI cl) ln = 0)) ∨ (u = some 2 ∧ (zm_shut lo (nI cl) ln = 0) ∧ ¬ (¬ nI ln = 0 ∧ zs_lsum lc ln = 0 ∧ nI (M.1 + ln) ≤ 200))) (zq D (va_A [(m0, .inr (6, [.int th, .int (nI M.1), .ref m1, .ref m2, .int (nI bt), .ref m3, .int (nI ln), .ref m4, .ref m5, .int (nI cl), .ref m6, .ref m7, .ref m8, .ref m9, .ref m10, .ref m11, .ref m12, .int (nI pn), .ref m13, .ref m14])), (m1, .inl (D.2 0, 800, .inl M.2.1)), (m2, .inl (D.2 0, 200, .inl M.2.2)), (m3, .inl (D.2 0, 200, .inl qm)), (m4, .inl (D.2 0, 48, .inl lo)), (m5, .inl (D.2 0, 16, .inl lc))] sz) (fun (u : Option Int32) => (u.elim [(m0, .inr (6, [.int 0, .int (nI (zm_put M (nI bt) lo lc ln).1), .ref m1, .ref m2, .int (nI (bt + 1)), .ref m3, .int 0, .ref m4, .ref m5, .int (nI cl), .ref m6, .ref m7, .ref m8, .ref m9, .ref m10, .ref m11, .ref m12, .int (nI pn), .ref m13, .ref m14])), (m1, .inl (D.2 0, 800, .inl ((zm_put M (nI bt) lo lc ln).2.1))), (m2, .inl (D.2 0, 200, .inl ((zm_put M (nI bt) lo lc ln).2.2))), (m3, .inl (D.2 0, 200, .inl (upd qm bt 0))), (m4, .inl (D.2 0, 48, .inl lo)), (m5, .inl (D.2 0, 16, .inl lc))] (fun t => [(m0, .inr (6, [.int t, .int (nI M.1), .ref m1, .ref m2, .int (nI bt), .ref m3, .int 0, .ref m4, .ref m5, .int (nI cl), .ref m6, .ref m7, .ref m8, .ref m9, .ref m10, .ref m11, .ref m12, .int (nI pn), .ref m13, .ref m14])), (m1, .inl (D.2 0, 800, .inl M.2.1)), (m2, .inl (D.2 0, 200, .inl M.2.2)), (m3, .inl (D.2 0, 200, .inl qm)), (m4, .inl (D.2 0, 48, .inl lo)), (m5, .inl (D.2 0, 16, .inl lc))]) : va_W))) (va_A [(m0, .inr (6, [.int th, .int (nI M.1), .ref m1, .ref m2, .int (nI bt), .ref m3, .int (nI ln), .ref m4, .ref m5, .int (nI cl), .ref m6, .ref m7, .ref m8, .ref m9, .ref m10, .ref m11, .ref m12, .int (nI pn), .ref m13, .ref m14])), (m1, .inl (D.2 0, 800, .inl M.2.1)), (m2, .inl (D.2 0, 200, .inl M.2.2)), (m3, .inl (D.2 0, 200, .inl qm)), (m4, .inl (D.2 0, 48, .inl lo)), (m5, .inl (D.2 0, 16, .inl lc))] sz)) 0 0 (va_A [(m0, .inr (6, [.int th, .int (nI M.1), .ref m1, .ref m2, .int (nI bt), .ref m3, .int (nI ln), .ref m4, .ref m5, .int (nI cl), .ref m6, .ref m7, .ref m8, .ref m9, .ref m10, .ref m11, .ref m12, .int (nI pn), .ref m13, .ref m14])), (m1, .inl (D.2 0, 800, .inl M.2.1)), (m2, .inl (D.2 0, 200, .inl M.2.2)), (m3, .inl (D.2 0, 200, .inl qm)), (m4, .inl (D.2 0, 48, .inl lo)), (m5, .inl (D.2 0, 16, .inl lc))] sz) := by
  refine Met.ofW (cc := cX6_put) (maxL := 6) (ret := (some .int)) (by decide) rfl ?_
  intro p e s m args below meth c s₁ B hml hv
  obtain ⟨rfl, hsz, hP, hK, hD0, hB⟩ := hv
  have hx := B.exec
  have hb := B.bytes
  have hr := B.returns
  have hts := atoms_spec (ws := wsX6_put) B.pre
  have hown : s.vm.findClass "ShopLedgerModel" = some m.cls := findClass_of_methodNamed B.named
  have hlocks := B.notSynchronized
  subst hsz
  have hD := hD0.self (sz := s.heap.size)
  generalize hAe : va_A [(m0, .inr (6, [.int th, .int (nI M.1), .ref m1, .ref m2, .int (nI bt), .ref m3, .int (nI ln), .ref m4, .ref m5, .int (nI cl), .ref m6, .ref m7, .ref m8, .ref m9, .ref m10, .ref m11, .ref m12, .int (nI pn), .ref m13, .ref m14])), (m1, .inl (D.2 0, 800, .inl M.2.1)), (m2, .inl (D.2 0, 200, .inl M.2.2)), (m3, .inl (D.2 0, 200, .inl qm)), (m4, .inl (D.2 0, 48, .inl lo)), (m5, .inl (D.2 0, 16, .inl lc))] s.heap.size = A at hD hB ⊢
  have hA : ∀ q : Nat, s.heap.size ≤ q → A q := fun q h => by rw [← hAe]; exact Or.inr h
  have hS : va_S A s.heap s.heap [] := va_S.rf
  have hZ : ∀ w ∈ zALL, w.before _ s = true := fun w h => hts w (List.mem_cons_of_mem _ h)
  have hF : CallFix p m c cX6_put 6 s _ zALL "ShopLedgerModel" := ⟨hx, hb, hml, hown, hZ⟩
  have hl := lv_entry ([.ref m0]) (n := 6) (Nat.le_of_ble_eq_true rfl)
  rw [lg_entry_eq]
  generalize (lg_sl ([.ref m0]) ++ List.replicate (6 - (lg_sl ([.ref m0])).length) Slot.unset).toArray = ls at hl ⊢
  have hl : lv_has ls 6 [(0, .ref m0)] := hl
  refine lv_aload_n hx hb dX6_put_0 rfl (lv_at hl 0 rfl) ?_
  refine va_get (D := D.1) (ci := 6) (v := .int (nI ln)) (C := "ShopLedgerModel") (T := TX6) (N := 20) hx hb hZ inX6 hown hK hP 0 rfl rfl 6 (by decide) (hZ _ t_284) (fun _ h9 => h9) rfl dX6_put_1 ?_
  refine lv_istore_n (lv' := [(1, .int (nI ln)), (0, .ref m0)]) hx hb dX6_put_4 rfl hl (by decide) rfl (fun ls hl => ?_)
  refine lv_aload_n hx hb dX6_put_5 rfl (lv_at hl 1 rfl) ?_
  refine lv_iconst (v := 0) hx hb dX6_put_6 (by decide) ?_
  refine va_put (D := D.1) (ci := 6) (v := .int 0) (ty := .int) (C := "ShopLedgerModel") (T := TX6) (N := 20) hx hb hZ inX6 tyX6 tyX6_ok nmX6 hown hK hP hD hS 0 rfl rfl 6 (by decide) (hZ _ t_284) (fun _ h9 => h9) rfl (by decide +kernel) rfl rfl (Nat.le_of_ble_eq_true rfl) dX6_put_7 (fun H locs hP hD hS => ?_)
  have hP : va_P D.1 vwCl [(m0, .inr (6, [.int th, .int (nI M.1), .ref m1, .ref m2, .int (nI bt), .ref m3, .int 0, .ref m4, .ref m5, .int (nI cl), .ref m6, .ref m7, .ref m8, .ref m9, .ref m10, .ref m11, .ref m12, .int (nI pn), .ref m13, .ref m14])), (m1, .inl (D.2 0, 800, .inl M.2.1)), (m2, .inl (D.2 0, 200, .inl M.2.2)), (m3, .inl (D.2 0, 200, .inl qm)), (m4, .inl (D.2 0, 48, .inl lo)), (m5, .inl (D.2 0, 16, .inl lc))] H := hP
  have hD : va_D A [(m0, .inr (6, [.int th, .int (nI M.1), .ref m1, .ref m2, .int (nI bt), .ref m3, .int 0, .ref m4, .ref m5, .int (nI cl), .ref m6, .ref m7, .ref m8, .ref m9, .ref m10, .ref m11, .ref m12, .int (nI pn), .ref m13, .ref m14])), (m1, .inl (D.2 0, 800, .inl M.2.1)), (m2, .inl (D.2 0, 200, .inl M.2.2)), (m3, .inl (D.2 0, 200, .inl qm)), (m4, .inl (D.2 0, 48, .inl lo)), (m5, .inl (D.2 0, 16, .inl lc))] := hD
  refine lv_lconst (v := 0) hx hb dX6_put_10 (by decide) ?_
  refine lv_lstore_n (lv' := [(2, .long 0), (1, .int (nI ln)), (0, .ref m0)]) hx hb dX6_put_11 rfl hl (by decide) rfl (fun ls hl => ?_)
  refine lv_iconst (v := 0) hx hb dX6_put_12 (by decide) ?_
  refine lv_istore (lv' := [(4, .int 0), (2, .long 0), (1, .int (nI ln)), (0, .ref m0)]) hx hb dX6_put_13 hl (by decide) rfl (fun ls hl => ?_)
  refine lv_iconst (v := 0) hx hb dX6_put_15 (by decide) ?_
  refine lv_istore (lv' := [(5, .int 0), (4, .int 0), (2, .long 0), (1, .int (nI ln)), (0, .ref m0)]) hx hb dX6_put_16 hl (by decide) rfl (fun ls hl => ?_)
  have lo1 : ∀ (nn : Nat) (k : Nat), k ≤ ln → ln + 1 ≤ k + nn → ∀ (H : Heap) (locs : List Loc), va_P D.1 vwCl [(m0, .inr (6, [.int th, .int (nI M.1), .ref m1, .ref m2, .int (nI bt), .ref m3, .int 0, .ref m4, .ref m5, .int (nI cl), .ref m6, .ref m7, .ref m8, .ref m9, .ref m10, .ref m11, .ref m12, .int (nI pn), .ref m13, .ref m14])), (m1, .inl (D.2 0, 800, .inl M.2.1)), (m2, .inl (D.2 0, 200, .inl M.2.2)), (m3, .inl (D.2 0, 200, .inl qm)), (m4, .inl (D.2 0, 48, .inl lo)), (m5, .inl (D.2 0, 16, .inl lc))] H → va_D A [(m0, .inr (6, [.int th, .int (nI M.1), .ref m1, .ref m2, .int (nI bt), .ref m3, .int 0, .ref m4, .ref m5, .int (nI cl), .ref m6, .ref m7, .ref m8, .ref m9, .ref m10, .ref m11, .ref m12, .int (nI pn), .ref m13, .ref m14])), (m1, .inl (D.2 0, 800, .inl M.2.1)), (m2, .inl (D.2 0, 200, .inl M.2.2)), (m3, .inl (D.2 0, 200, .inl qm)), (m4, .inl (D.2 0, 48, .inl lo)), (m5, .inl (D.2 0, 16, .inl lc))] → va_S A s.heap H locs → ∀ (ls : Array Slot), lv_has ls 6 [(0, .ref m0), (1, .int (nI ln)), (2, .long (zs_lsum lc k)), (4, .int (zm_shut lo (nI cl) k)), (5, .int (nI k))] → W p l e (headSpec wsX6_put ({ frames := 1, cells := 0, slots := 0, locals := 24 })).room s m [.ref m0].toArray below meth c H locs 0 0 (MQ below (va_Qi (fun r (u : Option Int32) => (u = none ∧ (zm_shut lo (nI cl) ln = 0) ∧ (¬ nI ln = 0 ∧ zs_lsum lc ln = 0 ∧ nI (M.1 + ln) ≤ 200) ∧ r = nI bt) ∨ (u = some 1 ∧ ¬ (zm_shut lo (nI cl) ln = 0)) ∨ (u = some 2 ∧ (zm_shut lo (nI cl) ln = 0) ∧ ¬ (¬ nI ln = 0 ∧ zs_lsum lc ln = 0 ∧ nI (M.1 + ln) ≤ 200))) (zq D A (fun (u : Option Int32) => (u.elim [(m0, .inr (6, [.int 0, .int (nI (zm_put M (nI bt) lo lc ln).1), .ref m1, .ref m2, .int (nI (bt + 1)), .ref m3, .int 0, .ref m4, .ref m5, .int (nI cl), .ref m6, .ref m7, .ref m8, .ref m9, .ref m10, .ref m11, .ref m12, .int (nI pn), .ref m13, .ref m14])), (m1, .inl (D.2 0, 800, .inl ((zm_put M (nI bt) lo lc ln).2.1))), (m2, .inl (D.2 0, 200, .inl ((zm_put M (nI bt) lo lc ln).2.2))), (m3, .inl (D.2 0, 200, .inl (upd qm bt 0))), (m4, .inl (D.2 0, 48, .inl lo)), (m5, .inl (D.2 0, 16, .inl lc))] (fun t => [(m0, .inr (6, [.int t, .int (nI M.1), .ref m1, .ref m2, .int (nI bt), .ref m3, .int 0, .ref m4, .ref m5, .int (nI cl), .ref m6, .ref m7, .ref m8, .ref m9, .ref m10, .ref m11, .ref m12, .int (nI pn), .ref m13, .ref m14])), (m1, .inl (D.2 0, 800, .inl M.2.1)), (m2, .inl (D.2 0, 200, .inl M.2.2)), (m3, .inl (D.2 0, 200, .inl qm)), (m4, .inl (D.2 0, 48, .inl lo)), (m5, .inl (D.2 0, 16, .inl lc))]) : va_W))) A) [.ref m0].toArray s 0 0 A) (F0 m 18 ls []) := by
    intro nn
    induction nn with
    | zero =>
      intro k q1 q2
      exfalso
      omega
    | succ nn ih_lo1 =>
      intro k q1 q2 H locs hP hD hS ls hl
      refine lv_iload hx hb dX6_put_18 (lv_at hl 4 rfl) ?_
      refine lv_iload_n hx hb dX6_put_20 rfl (lv_at hl 1 rfl) ?_
      refine lv_icmp_ge (tgt := 71) hx hb dX6_put_21 (by decide) (fun c1 => ?_) (fun c1 => ?_)
      · skip
        have e9 : ln = k := (z_ge q1 (by omega) c1).symm
        subst e9
        rcases zm_shut01 lo (nI cl) ln with sh | sh
        · skip
          rw [sh] at hl
          refine lv_aload_n hx hb dX6_put_71 rfl (lv_at hl 0 rfl) ?_
          refine lv_iload hx hb dX6_put_72 (lv_at hl 3 rfl) ?_
          refine lv_iload_n hx hb dX6_put_74 rfl (lv_at hl 1 rfl) ?_
          refine lv_if_eq (tgt := 96) hx hb dX6_put_75 (by decide) (fun c4 => ?_) (fun c4 => ?_)
          · skip
            have me : ¬ (¬ nI ln = 0 ∧ zs_lsum lc ln = 0 ∧ nI (M.1 + ln) ≤ 200) := fun h => h.1 c4
            refine lv_iconst (v := 1) hx hb dX6_put_96 (by decide) ?_
            refine lv_goto (tgt := 101) hx hb dX6_put_97 (by decide) ?_
            refine lv_iconst (v := 0) hx hb dX6_put_101 (by decide) ?_
            refine lv_iconst (v := 0) hx hb dX6_put_102 (by decide) ?_
            have J := zJ.mk (wc := [(m0, .inr (6, [.int th, .int (nI M.1), .ref m1, .ref m2, .int (nI bt), .ref m3, .int 0, .ref m4, .ref m5, .int (nI cl), .ref m6, .ref m7, .ref m8, .ref m9, .ref m10, .ref m11, .ref m12, .int (nI pn), .ref m13, .ref m14]))]) (wr := [(m1, .inl (D.2 0, 800, .inl M.2.1)), (m2, .inl (D.2 0, 200, .inl M.2.2)), (m3, .inl (D.2 0, 200, .inl qm)), (m4, .inl (D.2 0, 48, .inl lo)), (m5, .inl (D.2 0, 16, .inl lc))]) hA hB hK hP hD hS [0] [1, 2, 3, 4, 5] rfl rfl (by decide)
            refine z_goi (z_runV (As := [.int 0, .int 1, .int 0, .int 0]) (rest := []) (b := m0) hF (d_throwing D m0 m1 m2 m3 m4 m5 m6 m7 m8 m9 m10 m11 m12 m13 m14 (M.1, fun _ => 0, fun _ => 0) bt 0 cl pn th 0 1 0 0 H.size) (cwV 4 hZ (z_gV t_286 t_287 t_288 t_272 t_285) rfl rfl rfl (by decide +kernel) ⟨Nat.le_of_ble_eq_true rfl, Nat.le_of_ble_eq_true rfl⟩) J 0 6 rfl rfl rfl rfl hl.1 (Nat.le_of_ble_eq_true rfl) dX6_put_103 ⟨Nat.le_of_ble_eq_true rfl, Nat.le_of_ble_eq_true rfl⟩) J (fun r1 _ H locs w1 hP hD hS => ?_)
            have hP : va_P D.1 vwCl [(m1, .inl (D.2 0, 800, .inl M.2.1)), (m2, .inl (D.2 0, 200, .inl M.2.2)), (m3, .inl (D.2 0, 200, .inl qm)), (m4, .inl (D.2 0, 48, .inl lo)), (m5, .inl (D.2 0, 16, .inl lc)), (m0, .inr (6, [.int 2, .int (nI M.1), .ref m1, .ref m2, .int (nI bt), .ref m3, .int 0, .ref m4, .ref m5, .int (nI cl), .ref m6, .ref m7, .ref m8, .ref m9, .ref m10, .ref m11, .ref m12, .int (nI pn), .ref m13, .ref m14]))] H := hP
            have hD : va_D A [(m1, .inl (D.2 0, 800, .inl M.2.1)), (m2, .inl (D.2 0, 200, .inl M.2.2)), (m3, .inl (D.2 0, 200, .inl qm)), (m4, .inl (D.2 0, 48, .inl lo)), (m5, .inl (D.2 0, 16, .inl lc)), (m0, .inr (6, [.int 2, .int (nI M.1), .ref m1, .ref m2, .int (nI bt), .ref m3, .int 0, .ref m4, .ref m5, .int (nI cl), .ref m6, .ref m7, .ref m8, .ref m9, .ref m10, .ref m11, .ref m12, .int (nI pn), .ref m13, .ref m14]))] := hD
            have w1 : r1 = 1 := w1
            subst w1
            refine lv_if_eq (tgt := 111) hx hb dX6_put_106 (by decide) (fun c7 => ?_) (fun c7 => ?_)
            · skip
              exfalso; exact absurd c7 (by decide)
            refine lv_iconst (v := 0) hx hb dX6_put_109 (by decide) ?_
            exact z_iret (v := 0) hx hb hr hlocks hP hD hS (some 2) (Or.inr (Or.inr (⟨rfl, sh, me⟩))) [5, 0, 1, 2, 3, 4] rfl (by decide) (Nat.le_of_ble_eq_true rfl) (Nat.le_of_ble_eq_true rfl) dX6_put_110
          refine lv_lload_n hx hb dX6_put_78 rfl (lv_at hl 2 rfl) ?_
          refine lv_lconst (v := 0) hx hb dX6_put_79 (by decide) ?_
          refine W.lcmp hx hb dX6_put_80 ?_
          refine lv_if_ne (tgt := 96) hx hb dX6_put_81 (by decide) (fun c5 => ?_) (fun c5 => ?_)
          · skip
            have e5 : ¬ zs_lsum lc ln = 0 := fun h => c5 (z_cmp0.mpr h)
            have me : ¬ (¬ nI ln = 0 ∧ zs_lsum lc ln = 0 ∧ nI (M.1 + ln) ≤ 200) := fun h => e5 h.2.1
            refine lv_iconst (v := 1) hx hb dX6_put_96 (by decide) ?_
            refine lv_goto (tgt := 101) hx hb dX6_put_97 (by decide) ?_
            refine lv_iconst (v := 0) hx hb dX6_put_101 (by decide) ?_
            refine lv_iconst (v := 0) hx hb dX6_put_102 (by decide) ?_
            have J := zJ.mk (wc := [(m0, .inr (6, [.int th, .int (nI M.1), .ref m1, .ref m2, .int (nI bt), .ref m3, .int 0, .ref m4, .ref m5, .int (nI cl), .ref m6, .ref m7, .ref m8, .ref m9, .ref m10, .ref m11, .ref m12, .int (nI pn), .ref m13, .ref m14]))]) (wr := [(m1, .inl (D.2 0, 800, .inl M.2.1)), (m2, .inl (D.2 0, 200, .inl M.2.2)), (m3, .inl (D.2 0, 200, .inl qm)), (m4, .inl (D.2 0, 48, .inl lo)), (m5, .inl (D.2 0, 16, .inl lc))]) hA hB hK hP hD hS [0] [1, 2, 3, 4, 5] rfl rfl (by decide)
            refine z_goi (z_runV (As := [.int 0, .int 1, .int 0, .int 0]) (rest := []) (b := m0) hF (d_throwing D m0 m1 m2 m3 m4 m5 m6 m7 m8 m9 m10 m11 m12 m13 m14 (M.1, fun _ => 0, fun _ => 0) bt 0 cl pn th 0 1 0 0 H.size) (cwV 4 hZ (z_gV t_286 t_287 t_288 t_272 t_285) rfl rfl rfl (by decide +kernel) ⟨Nat.le_of_ble_eq_true rfl, Nat.le_of_ble_eq_true rfl⟩) J 0 6 rfl rfl rfl rfl hl.1 (Nat.le_of_ble_eq_true rfl) dX6_put_103 ⟨Nat.le_of_ble_eq_true rfl, Nat.le_of_ble_eq_true rfl⟩) J (fun r1 _ H locs w1 hP hD hS => ?_)
            have hP : va_P D.1 vwCl [(m1, .inl (D.2 0, 800, .inl M.2.1)), (m2, .inl (D.2 0, 200, .inl M.2.2)), (m3, .inl (D.2 0, 200, .inl qm)), (m4, .inl (D.2 0, 48, .inl lo)), (m5, .inl (D.2 0, 16, .inl lc)), (m0, .inr (6, [.int 2, .int (nI M.1), .ref m1, .ref m2, .int (nI bt), .ref m3, .int 0, .ref m4, .ref m5, .int (nI cl), .ref m6, .ref m7, .ref m8, .ref m9, .ref m10, .ref m11, .ref m12, .int (nI pn), .ref m13, .ref m14]))] H := hP
            have hD : va_D A [(m1, .inl (D.2 0, 800, .inl M.2.1)), (m2, .inl (D.2 0, 200, .inl M.2.2)), (m3, .inl (D.2 0, 200, .inl qm)), (m4, .inl (D.2 0, 48, .inl lo)), (m5, .inl (D.2 0, 16, .inl lc)), (m0, .inr (6, [.int 2, .int (nI M.1), .ref m1, .ref m2, .int (nI bt), .ref m3, .int 0, .ref m4, .ref m5, .int (nI cl), .ref m6, .ref m7, .ref m8, .ref m9, .ref m10, .ref m11, .ref m12, .int (nI pn), .ref m13, .ref m14]))] := hD
            have w1 : r1 = 1 := w1
            subst w1
            refine lv_if_eq (tgt := 111) hx hb dX6_put_106 (by decide) (fun c7 => ?_) (fun c7 => ?_)
            · skip
              exfalso; exact absurd c7 (by decide)
            refine lv_iconst (v := 0) hx hb dX6_put_109 (by decide) ?_
            exact z_iret (v := 0) hx hb hr hlocks hP hD hS (some 2) (Or.inr (Or.inr (⟨rfl, sh, me⟩))) [5, 0, 1, 2, 3, 4] rfl (by decide) (Nat.le_of_ble_eq_true rfl) (Nat.le_of_ble_eq_true rfl) dX6_put_110
          have e5 : zs_lsum lc ln = 0 := z_cmp0.mp c5
          refine lv_aload_n hx hb dX6_put_84 rfl (lv_at hl 0 rfl) ?_
          refine va_get (D := D.1) (ci := 6) (v := .int (nI M.1)) (C := "ShopLedgerModel") (T := TX6) (N := 20) hx hb hZ inX6 hown hK hP 0 rfl rfl 1 (by decide) (hZ _ t_277) (fun _ h9 => h9) rfl dX6_put_85 ?_
          refine lv_iload_n hx hb dX6_put_88 rfl (lv_at hl 1 rfl) ?_
          refine lv_iadd hx hb dX6_put_89 ?_
          rw [show ((nI M.1) + (nI ln)) = nI (M.1 + ln) from nI_add M.1 ln]
          refine lv_sipush (v := 200) hx hb dX6_put_90 (by decide) ?_
          refine lv_icmp_le (tgt := 100) hx hb dX6_put_93 (by decide) (fun c6 => ?_) (fun c6 => ?_)
          · skip
            have me : ¬ nI ln = 0 ∧ zs_lsum lc ln = 0 ∧ nI (M.1 + ln) ≤ 200 := ⟨c4, e5, c6⟩
            refine lv_iconst (v := 0) hx hb dX6_put_100 (by decide) ?_
            refine lv_iconst (v := 0) hx hb dX6_put_101 (by decide) ?_
            refine lv_iconst (v := 0) hx hb dX6_put_102 (by decide) ?_
            have J := zJ.mk (wc := [(m0, .inr (6, [.int th, .int (nI M.1), .ref m1, .ref m2, .int (nI bt), .ref m3, .int 0, .ref m4, .ref m5, .int (nI cl), .ref m6, .ref m7, .ref m8, .ref m9, .ref m10, .ref m11, .ref m12, .int (nI pn), .ref m13, .ref m14]))]) (wr := [(m1, .inl (D.2 0, 800, .inl M.2.1)), (m2, .inl (D.2 0, 200, .inl M.2.2)), (m3, .inl (D.2 0, 200, .inl qm)), (m4, .inl (D.2 0, 48, .inl lo)), (m5, .inl (D.2 0, 16, .inl lc))]) hA hB hK hP hD hS [0] [1, 2, 3, 4, 5] rfl rfl (by decide)
            refine z_goi (z_runV (As := [.int 0, .int 0, .int 0, .int 0]) (rest := []) (b := m0) hF (d_throwing D m0 m1 m2 m3 m4 m5 m6 m7 m8 m9 m10 m11 m12 m13 m14 (M.1, fun _ => 0, fun _ => 0) bt 0 cl pn th 0 0 0 0 H.size) (cwV 4 hZ (z_gV t_286 t_287 t_288 t_272 t_285) rfl rfl rfl (by decide +kernel) ⟨Nat.le_of_ble_eq_true rfl, Nat.le_of_ble_eq_true rfl⟩) J 0 6 rfl rfl rfl rfl hl.1 (Nat.le_of_ble_eq_true rfl) dX6_put_103 ⟨Nat.le_of_ble_eq_true rfl, Nat.le_of_ble_eq_true rfl⟩) J (fun r1 _ H locs w1 hP hD hS => ?_)
            have hP : va_P D.1 vwCl [(m1, .inl (D.2 0, 800, .inl M.2.1)), (m2, .inl (D.2 0, 200, .inl M.2.2)), (m3, .inl (D.2 0, 200, .inl qm)), (m4, .inl (D.2 0, 48, .inl lo)), (m5, .inl (D.2 0, 16, .inl lc)), (m0, .inr (6, [.int 0, .int (nI M.1), .ref m1, .ref m2, .int (nI bt), .ref m3, .int 0, .ref m4, .ref m5, .int (nI cl), .ref m6, .ref m7, .ref m8, .ref m9, .ref m10, .ref m11, .ref m12, .int (nI pn), .ref m13, .ref m14]))] H := hP
            have hD : va_D A [(m1, .inl (D.2 0, 800, .inl M.2.1)), (m2, .inl (D.2 0, 200, .inl M.2.2)), (m3, .inl (D.2 0, 200, .inl qm)), (m4, .inl (D.2 0, 48, .inl lo)), (m5, .inl (D.2 0, 16, .inl lc)), (m0, .inr (6, [.int 0, .int (nI M.1), .ref m1, .ref m2, .int (nI bt), .ref m3, .int 0, .ref m4, .ref m5, .int (nI cl), .ref m6, .ref m7, .ref m8, .ref m9, .ref m10, .ref m11, .ref m12, .int (nI pn), .ref m13, .ref m14]))] := hD
            have w1 : r1 = 0 := w1
            subst w1
            refine lv_if_eq (tgt := 111) hx hb dX6_put_106 (by decide) (fun c7 => ?_) (fun c7 => ?_)
            · skip
              have hroom : M.1 + ln ≤ 200 := (nI_leI (b := 200) (by omega) (by decide)).mp me.2.2
              have hln : 0 < ln := Nat.pos_of_ne_zero (fun h => me.1 (by rw [h]; rfl))
              refine lv_iconst (v := 0) hx hb dX6_put_111 (by decide) ?_
              refine lv_istore (lv' := [(5, .int 0), (0, .ref m0), (1, .int (nI ln)), (2, .long (zs_lsum lc ln)), (4, .int 0)]) hx hb dX6_put_112 hl (by decide) rfl (fun ls hl => ?_)
              have lo2 : ∀ (nn : Nat) (k : Nat), k ≤ ln → ln + 1 ≤ k + nn → ∀ (H : Heap) (locs : List Loc), va_P D.1 vwCl [(m1, .inl (D.2 0, 800, .inl ((zm_put M (nI bt) lo lc k).2.1))), (m2, .inl (D.2 0, 200, .inl ((zm_put M (nI bt) lo lc k).2.2))), (m3, .inl (D.2 0, 200, .inl qm)), (m4, .inl (D.2 0, 48, .inl lo)), (m5, .inl (D.2 0, 16, .inl lc)), (m0, .inr (6, [.int 0, .int (nI (zm_put M (nI bt) lo lc k).1), .ref m1, .ref m2, .int (nI bt), .ref m3, .int 0, .ref m4, .ref m5, .int (nI cl), .ref m6, .ref m7, .ref m8, .ref m9, .ref m10, .ref m11, .ref m12, .int (nI pn), .ref m13, .ref m14]))] H → va_D A [(m1, .inl (D.2 0, 800, .inl ((zm_put M (nI bt) lo lc k).2.1))), (m2, .inl (D.2 0, 200, .inl ((zm_put M (nI bt) lo lc k).2.2))), (m3, .inl (D.2 0, 200, .inl qm)), (m4, .inl (D.2 0, 48, .inl lo)), (m5, .inl (D.2 0, 16, .inl lc)), (m0, .inr (6, [.int 0, .int (nI (zm_put M (nI bt) lo lc k).1), .ref m1, .ref m2, .int (nI bt), .ref m3, .int 0, .ref m4, .ref m5, .int (nI cl), .ref m6, .ref m7, .ref m8, .ref m9, .ref m10, .ref m11, .ref m12, .int (nI pn), .ref m13, .ref m14]))] → va_S A s.heap H locs → ∀ (ls : Array Slot), lv_has ls 6 [(0, .ref m0), (1, .int (nI ln)), (5, .int (nI k))] → W p l e (headSpec wsX6_put ({ frames := 1, cells := 0, slots := 0, locals := 24 })).room s m [.ref m0].toArray below meth c H locs 0 0 (MQ below (va_Qi (fun r (u : Option Int32) => (u = none ∧ (zm_shut lo (nI cl) ln = 0) ∧ (¬ nI ln = 0 ∧ zs_lsum lc ln = 0 ∧ nI (M.1 + ln) ≤ 200) ∧ r = nI bt) ∨ (u = some 1 ∧ ¬ (zm_shut lo (nI cl) ln = 0)) ∨ (u = some 2 ∧ (zm_shut lo (nI cl) ln = 0) ∧ ¬ (¬ nI ln = 0 ∧ zs_lsum lc ln = 0 ∧ nI (M.1 + ln) ≤ 200))) (zq D A (fun (u : Option Int32) => (u.elim [(m0, .inr (6, [.int 0, .int (nI (zm_put M (nI bt) lo lc ln).1), .ref m1, .ref m2, .int (nI (bt + 1)), .ref m3, .int 0, .ref m4, .ref m5, .int (nI cl), .ref m6, .ref m7, .ref m8, .ref m9, .ref m10, .ref m11, .ref m12, .int (nI pn), .ref m13, .ref m14])), (m1, .inl (D.2 0, 800, .inl ((zm_put M (nI bt) lo lc ln).2.1))), (m2, .inl (D.2 0, 200, .inl ((zm_put M (nI bt) lo lc ln).2.2))), (m3, .inl (D.2 0, 200, .inl (upd qm bt 0))), (m4, .inl (D.2 0, 48, .inl lo)), (m5, .inl (D.2 0, 16, .inl lc))] (fun t => [(m0, .inr (6, [.int t, .int (nI M.1), .ref m1, .ref m2, .int (nI bt), .ref m3, .int 0, .ref m4, .ref m5, .int (nI cl), .ref m6, .ref m7, .ref m8, .ref m9, .ref m10, .ref m11, .ref m12, .int (nI pn), .ref m13, .ref m14])), (m1, .inl (D.2 0, 800, .inl M.2.1)), (m2, .inl (D.2 0, 200, .inl M.2.2)), (m3, .inl (D.2 0, 200, .inl qm)), (m4, .inl (D.2 0, 48, .inl lo)), (m5, .inl (D.2 0, 16, .inl lc))]) : va_W))) A) [.ref m0].toArray s 0 0 A) (F0 m 114 ls []) := by
                intro nn
                induction nn with
                | zero =>
                  intro k q1 q2
                  exfalso
                  omega
                | succ nn ih_lo2 =>
                  intro k q1 q2 H locs hP hD hS ls hl
                  refine lv_iload hx hb dX6_put_114 (lv_at hl 2 rfl) ?_
                  refine lv_iload_n hx hb dX6_put_116 rfl (lv_at hl 1 rfl) ?_
                  refine lv_icmp_ge (tgt := 168) hx hb dX6_put_117 (by decide) (fun c8 => ?_) (fun c8 => ?_)
                  · skip
                    have e9 : ln = k := (z_ge q1 (by omega) c8).symm
                    subst e9
                    refine lv_aload_n hx hb dX6_put_168 rfl (lv_at hl 0 rfl) ?_
                    refine lv_iconst (v := 0) hx hb dX6_put_169 (by decide) ?_
                    have J := zJ.mk (wc := [(m0, .inr (6, [.int 0, .int (nI (zm_put M (nI bt) lo lc ln).1), .ref m1, .ref m2, .int (nI bt), .ref m3, .int 0, .ref m4, .ref m5, .int (nI cl), .ref m6, .ref m7, .ref m8, .ref m9, .ref m10, .ref m11, .ref m12, .int (nI pn), .ref m13, .ref m14])), (m3, .inl (D.2 0, 200, .inl qm))]) (wr := [(m1, .inl (D.2 0, 800, .inl ((zm_put M (nI bt) lo lc ln).2.1))), (m2, .inl (D.2 0, 200, .inl ((zm_put M (nI bt) lo lc ln).2.2))), (m4, .inl (D.2 0, 48, .inl lo)), (m5, .inl (D.2 0, 16, .inl lc))]) hA hB hK hP hD hS [5, 2] [0, 1, 3, 4] rfl rfl (by decide)
                    refine z_goi (z_runV (As := [.int 0]) (rest := []) (b := m0) hF (d_end D m0 m1 m2 m3 m4 m5 m6 m7 m8 m9 m10 m11 m12 m13 m14 (zm_put M (nI bt) lo lc ln) bt 0 cl pn 0 qm 0 H.size (by omega)) (cwV 1 hZ (z_gV t_301 t_302 t_303 t_272 t_300) rfl rfl rfl (by decide +kernel) ⟨Nat.le_of_ble_eq_true rfl, Nat.le_of_ble_eq_true rfl⟩) J 0 6 rfl rfl rfl rfl hl.1 (Nat.le_of_ble_eq_true rfl) dX6_put_170 ⟨Nat.le_of_ble_eq_true rfl, Nat.le_of_ble_eq_true rfl⟩) J (fun r3 _ H locs w3 hP hD hS => ?_)
                    have hP : va_P D.1 vwCl [(m1, .inl (D.2 0, 800, .inl ((zm_put M (nI bt) lo lc ln).2.1))), (m2, .inl (D.2 0, 200, .inl ((zm_put M (nI bt) lo lc ln).2.2))), (m4, .inl (D.2 0, 48, .inl lo)), (m5, .inl (D.2 0, 16, .inl lc)), (m0, .inr (6, [.int 0, .int (nI (zm_put M (nI bt) lo lc ln).1), .ref m1, .ref m2, .int (nI (bt + 1)), .ref m3, .int 0, .ref m4, .ref m5, .int (nI cl), .ref m6, .ref m7, .ref m8, .ref m9, .ref m10, .ref m11, .ref m12, .int (nI pn), .ref m13, .ref m14])), (m3, .inl (D.2 0, 200, .inl (upd qm bt 0)))] H := hP
                    have hD : va_D A [(m1, .inl (D.2 0, 800, .inl ((zm_put M (nI bt) lo lc ln).2.1))), (m2, .inl (D.2 0, 200, .inl ((zm_put M (nI bt) lo lc ln).2.2))), (m4, .inl (D.2 0, 48, .inl lo)), (m5, .inl (D.2 0, 16, .inl lc)), (m0, .inr (6, [.int 0, .int (nI (zm_put M (nI bt) lo lc ln).1), .ref m1, .ref m2, .int (nI (bt + 1)), .ref m3, .int 0, .ref m4, .ref m5, .int (nI cl), .ref m6, .ref m7, .ref m8, .ref m9, .ref m10, .ref m11, .ref m12, .int (nI pn), .ref m13, .ref m14])), (m3, .inl (D.2 0, 200, .inl (upd qm bt 0)))] := hD
                    subst w3
                    exact z_iret (v := nI bt) hx hb hr hlocks hP hD hS none (Or.inl ⟨rfl, sh, me, rfl⟩) [4, 0, 1, 5, 2, 3] rfl (by decide) (Nat.le_of_ble_eq_true rfl) (Nat.le_of_ble_eq_true rfl) dX6_put_173
                  have hk : k < ln := z_lt q1 (by omega) c8
                  refine lv_aload_n hx hb dX6_put_120 rfl (lv_at hl 0 rfl) ?_
                  refine lv_aload_n hx hb dX6_put_121 rfl (lv_at hl 0 rfl) ?_
                  refine va_get (D := D.1) (ci := 6) (v := .ref m4) (C := "ShopLedgerModel") (T := TX6) (N := 20) hx hb hZ inX6 hown hK hP 5 rfl rfl 7 (by decide) (hZ _ t_291) (fun _ h9 => h9) rfl dX6_put_122 ?_
                  refine lv_iconst (v := 3) hx hb dX6_put_125 (by decide) ?_
                  refine lv_iload hx hb dX6_put_126 (lv_at hl 2 rfl) ?_
                  refine lv_imul hx hb dX6_put_128 ?_
                  rw [show (3 * (nI k)) = nI (3 * k) from pk_mul 3 k]
                  refine z_iald (k := 3 * k) hx hb hK hP 3 rfl (by omega) (by decide) dX6_put_129 ?_
                  refine lv_aload_n hx hb dX6_put_130 rfl (lv_at hl 0 rfl) ?_
                  refine va_get (D := D.1) (ci := 6) (v := .ref m4) (C := "ShopLedgerModel") (T := TX6) (N := 20) hx hb hZ inX6 hown hK hP 5 rfl rfl 7 (by decide) (hZ _ t_291) (fun _ h9 => h9) rfl dX6_put_131 ?_
                  refine lv_iconst (v := 3) hx hb dX6_put_134 (by decide) ?_
                  refine lv_iload hx hb dX6_put_135 (lv_at hl 2 rfl) ?_
                  refine lv_imul hx hb dX6_put_137 ?_
                  rw [show (3 * (nI k)) = nI (3 * k) from pk_mul 3 k]
                  refine lv_iconst (v := 1) hx hb dX6_put_138 (by decide) ?_
                  refine lv_iadd hx hb dX6_put_139 ?_
                  rw [show ((nI (3 * k)) + 1) = nI (3 * k + 1) from nI_add _ 1]
                  refine z_iald (k := 3 * k + 1) hx hb hK hP 3 rfl (by omega) (by decide) dX6_put_140 ?_
                  refine lv_aload_n hx hb dX6_put_141 rfl (lv_at hl 0 rfl) ?_
                  refine va_get (D := D.1) (ci := 6) (v := .ref m4) (C := "ShopLedgerModel") (T := TX6) (N := 20) hx hb hZ inX6 hown hK hP 5 rfl rfl 7 (by decide) (hZ _ t_291) (fun _ h9 => h9) rfl dX6_put_142 ?_
                  refine lv_iconst (v := 3) hx hb dX6_put_145 (by decide) ?_
                  refine lv_iload hx hb dX6_put_146 (lv_at hl 2 rfl) ?_
                  refine lv_imul hx hb dX6_put_148 ?_
                  rw [show (3 * (nI k)) = nI (3 * k) from pk_mul 3 k]
                  refine lv_iconst (v := 2) hx hb dX6_put_149 (by decide) ?_
                  refine lv_iadd hx hb dX6_put_150 ?_
                  rw [show ((nI (3 * k)) + 2) = nI (3 * k + 2) from nI_add _ 2]
                  refine z_iald (k := 3 * k + 2) hx hb hK hP 3 rfl (by omega) (by decide) dX6_put_151 ?_
                  refine lv_aload_n hx hb dX6_put_152 rfl (lv_at hl 0 rfl) ?_
                  refine va_get (D := D.1) (ci := 6) (v := .ref m5) (C := "ShopLedgerModel") (T := TX6) (N := 20) hx hb hZ inX6 hown hK hP 5 rfl rfl 8 (by decide) (hZ _ t_292) (fun _ h9 => h9) rfl dX6_put_153 ?_
                  refine lv_iload hx hb dX6_put_156 (lv_at hl 2 rfl) ?_
                  refine z_iald (k := k) hx hb hK hP 4 rfl (Nat.lt_of_lt_of_le hk hn) (by decide) dX6_put_158 ?_
                  have J := zJ.mk (wc := [(m0, .inr (6, [.int 0, .int (nI (zm_put M (nI bt) lo lc k).1), .ref m1, .ref m2, .int (nI bt), .ref m3, .int 0, .ref m4, .ref m5, .int (nI cl), .ref m6, .ref m7, .ref m8, .ref m9, .ref m10, .ref m11, .ref m12, .int (nI pn), .ref m13, .ref m14])), (m1, .inl (D.2 0, 800, .inl ((zm_put M (nI bt) lo lc k).2.1))), (m2, .inl (D.2 0, 200, .inl ((zm_put M (nI bt) lo lc k).2.2)))]) (wr := [(m3, .inl (D.2 0, 200, .inl qm)), (m4, .inl (D.2 0, 48, .inl lo)), (m5, .inl (D.2 0, 16, .inl lc))]) hA hB hK hP hD hS [5, 0, 1] [2, 3, 4] rfl rfl (by decide)
                  refine z_gov (z_runV (As := [.int (lo (3 * k)), .int (lo (3 * k + 1)), .int (lo (3 * k + 2)), .int (lc k)]) (rest := []) (b := m0) hF (d_enter D m0 m1 m2 m3 m4 m5 m6 m7 m8 m9 m10 m11 m12 m13 m14 (zm_put M (nI bt) lo lc k) bt 0 cl pn 0 (lo (3 * k)) (lo (3 * k + 1)) (lo (3 * k + 2)) (lc k) H.size (by rw [zm_put_1]; omega)) (cwV 4 hZ (z_gV t_305 t_306 t_307 t_272 t_304) rfl rfl rfl (by decide +kernel) ⟨Nat.le_of_ble_eq_true rfl, Nat.le_of_ble_eq_true rfl⟩) J 0 6 rfl rfl rfl rfl hl.1 (Nat.le_of_ble_eq_true rfl) dX6_put_159 ⟨Nat.le_of_ble_eq_true rfl, Nat.le_of_ble_eq_true rfl⟩) J (fun _ H locs w2 hP hD hS => ?_)
                  have hP : va_P D.1 vwCl [(m3, .inl (D.2 0, 200, .inl qm)), (m4, .inl (D.2 0, 48, .inl lo)), (m5, .inl (D.2 0, 16, .inl lc)), (m0, .inr (6, [.int 0, .int (nI (zm_put M (nI bt) lo lc (k + 1)).1), .ref m1, .ref m2, .int (nI bt), .ref m3, .int 0, .ref m4, .ref m5, .int (nI cl), .ref m6, .ref m7, .ref m8, .ref m9, .ref m10, .ref m11, .ref m12, .int (nI pn), .ref m13, .ref m14])), (m1, .inl (D.2 0, 800, .inl ((zm_put M (nI bt) lo lc (k + 1)).2.1))), (m2, .inl (D.2 0, 200, .inl ((zm_put M (nI bt) lo lc (k + 1)).2.2)))] H := hP
                  have hD : va_D A [(m3, .inl (D.2 0, 200, .inl qm)), (m4, .inl (D.2 0, 48, .inl lo)), (m5, .inl (D.2 0, 16, .inl lc)), (m0, .inr (6, [.int 0, .int (nI (zm_put M (nI bt) lo lc (k + 1)).1), .ref m1, .ref m2, .int (nI bt), .ref m3, .int 0, .ref m4, .ref m5, .int (nI cl), .ref m6, .ref m7, .ref m8, .ref m9, .ref m10, .ref m11, .ref m12, .int (nI pn), .ref m13, .ref m14])), (m1, .inl (D.2 0, 800, .inl ((zm_put M (nI bt) lo lc (k + 1)).2.1))), (m2, .inl (D.2 0, 200, .inl ((zm_put M (nI bt) lo lc (k + 1)).2.2)))] := hD
                  refine lv_iinc (v := nI (k + 1)) (lv' := [(5, .int (nI (k + 1))), (0, .ref m0), (1, .int (nI ln))]) hx hb dX6_put_162 hl (k := 2) rfl (nI_1 k) (by decide) rfl (fun ls hl => ?_)
                  refine lv_goto (tgt := 114) hx hb dX6_put_165 (by decide) ?_
                  exact ih_lo2 (k + 1) (Nat.succ_le_of_lt hk) (by omega)  _ _ (hP.sub [4, 5, 0, 1, 2, 3] rfl) (hD.sub [4, 5, 0, 1, 2, 3] (by decide) rfl) hS ls (lv_sub hl [1, 2, 0] rfl)
              exact lo2 (ln + 1) 0 (Nat.zero_le _) (by omega)  _ _ (hP.sub [0, 1, 2, 3, 4, 5] rfl) (hD.sub [0, 1, 2, 3, 4, 5] (by decide) rfl) hS ls (lv_sub hl [1, 2, 0] rfl)
            exfalso; exact absurd c7 (by decide)
          have me : ¬ (¬ nI ln = 0 ∧ zs_lsum lc ln = 0 ∧ nI (M.1 + ln) ≤ 200) := fun h => c6 h.2.2
          refine lv_iconst (v := 1) hx hb dX6_put_96 (by decide) ?_
          refine lv_goto (tgt := 101) hx hb dX6_put_97 (by decide) ?_
          refine lv_iconst (v := 0) hx hb dX6_put_101 (by decide) ?_
          refine lv_iconst (v := 0) hx hb dX6_put_102 (by decide) ?_
          have J := zJ.mk (wc := [(m0, .inr (6, [.int th, .int (nI M.1), .ref m1, .ref m2, .int (nI bt), .ref m3, .int 0, .ref m4, .ref m5, .int (nI cl), .ref m6, .ref m7, .ref m8, .ref m9, .ref m10, .ref m11, .ref m12, .int (nI pn), .ref m13, .ref m14]))]) (wr := [(m1, .inl (D.2 0, 800, .inl M.2.1)), (m2, .inl (D.2 0, 200, .inl M.2.2)), (m3, .inl (D.2 0, 200, .inl qm)), (m4, .inl (D.2 0, 48, .inl lo)), (m5, .inl (D.2 0, 16, .inl lc))]) hA hB hK hP hD hS [0] [1, 2, 3, 4, 5] rfl rfl (by decide)
          refine z_goi (z_runV (As := [.int 0, .int 1, .int 0, .int 0]) (rest := []) (b := m0) hF (d_throwing D m0 m1 m2 m3 m4 m5 m6 m7 m8 m9 m10 m11 m12 m13 m14 (M.1, fun _ => 0, fun _ => 0) bt 0 cl pn th 0 1 0 0 H.size) (cwV 4 hZ (z_gV t_286 t_287 t_288 t_272 t_285) rfl rfl rfl (by decide +kernel) ⟨Nat.le_of_ble_eq_true rfl, Nat.le_of_ble_eq_true rfl⟩) J 0 6 rfl rfl rfl rfl hl.1 (Nat.le_of_ble_eq_true rfl) dX6_put_103 ⟨Nat.le_of_ble_eq_true rfl, Nat.le_of_ble_eq_true rfl⟩) J (fun r1 _ H locs w1 hP hD hS => ?_)
          have hP : va_P D.1 vwCl [(m1, .inl (D.2 0, 800, .inl M.2.1)), (m2, .inl (D.2 0, 200, .inl M.2.2)), (m3, .inl (D.2 0, 200, .inl qm)), (m4, .inl (D.2 0, 48, .inl lo)), (m5, .inl (D.2 0, 16, .inl lc)), (m0, .inr (6, [.int 2, .int (nI M.1), .ref m1, .ref m2, .int (nI bt), .ref m3, .int 0, .ref m4, .ref m5, .int (nI cl), .ref m6, .ref m7, .ref m8, .ref m9, .ref m10, .ref m11, .ref m12, .int (nI pn), .ref m13, .ref m14]))] H := hP
          have hD : va_D A [(m1, .inl (D.2 0, 800, .inl M.2.1)), (m2, .inl (D.2 0, 200, .inl M.2.2)), (m3, .inl (D.2 0, 200, .inl qm)), (m4, .inl (D.2 0, 48, .inl lo)), (m5, .inl (D.2 0, 16, .inl lc)), (m0, .inr (6, [.int 2, .int (nI M.1), .ref m1, .ref m2, .int (nI bt), .ref m3, .int 0, .ref m4, .ref m5, .int (nI cl), .ref m6, .ref m7, .ref m8, .ref m9, .ref m10, .ref m11, .ref m12, .int (nI pn), .ref m13, .ref m14]))] := hD
          have w1 : r1 = 1 := w1
          subst w1
          refine lv_if_eq (tgt := 111) hx hb dX6_put_106 (by decide) (fun c7 => ?_) (fun c7 => ?_)
          · skip
            exfalso; exact absurd c7 (by decide)
          refine lv_iconst (v := 0) hx hb dX6_put_109 (by decide) ?_
          exact z_iret (v := 0) hx hb hr hlocks hP hD hS (some 2) (Or.inr (Or.inr (⟨rfl, sh, me⟩))) [5, 0, 1, 2, 3, 4] rfl (by decide) (Nat.le_of_ble_eq_true rfl) (Nat.le_of_ble_eq_true rfl) dX6_put_110
        rw [sh] at hl
        have sh : ¬ (zm_shut lo (nI cl) ln = 0) := by rw [sh]; decide
        refine lv_aload_n hx hb dX6_put_71 rfl (lv_at hl 0 rfl) ?_
        refine lv_iload hx hb dX6_put_72 (lv_at hl 3 rfl) ?_
        refine lv_iload_n hx hb dX6_put_74 rfl (lv_at hl 1 rfl) ?_
        refine lv_if_eq (tgt := 96) hx hb dX6_put_75 (by decide) (fun c4 => ?_) (fun c4 => ?_)
        · skip
          have me : ¬ (¬ nI ln = 0 ∧ zs_lsum lc ln = 0 ∧ nI (M.1 + ln) ≤ 200) := fun h => h.1 c4
          refine lv_iconst (v := 1) hx hb dX6_put_96 (by decide) ?_
          refine lv_goto (tgt := 101) hx hb dX6_put_97 (by decide) ?_
          refine lv_iconst (v := 0) hx hb dX6_put_101 (by decide) ?_
          refine lv_iconst (v := 0) hx hb dX6_put_102 (by decide) ?_
          have J := zJ.mk (wc := [(m0, .inr (6, [.int th, .int (nI M.1), .ref m1, .ref m2, .int (nI bt), .ref m3, .int 0, .ref m4, .ref m5, .int (nI cl), .ref m6, .ref m7, .ref m8, .ref m9, .ref m10, .ref m11, .ref m12, .int (nI pn), .ref m13, .ref m14]))]) (wr := [(m1, .inl (D.2 0, 800, .inl M.2.1)), (m2, .inl (D.2 0, 200, .inl M.2.2)), (m3, .inl (D.2 0, 200, .inl qm)), (m4, .inl (D.2 0, 48, .inl lo)), (m5, .inl (D.2 0, 16, .inl lc))]) hA hB hK hP hD hS [0] [1, 2, 3, 4, 5] rfl rfl (by decide)
          refine z_goi (z_runV (As := [.int 1, .int 1, .int 0, .int 0]) (rest := []) (b := m0) hF (d_throwing D m0 m1 m2 m3 m4 m5 m6 m7 m8 m9 m10 m11 m12 m13 m14 (M.1, fun _ => 0, fun _ => 0) bt 0 cl pn th 1 1 0 0 H.size) (cwV 4 hZ (z_gV t_286 t_287 t_288 t_272 t_285) rfl rfl rfl (by decide +kernel) ⟨Nat.le_of_ble_eq_true rfl, Nat.le_of_ble_eq_true rfl⟩) J 0 6 rfl rfl rfl rfl hl.1 (Nat.le_of_ble_eq_true rfl) dX6_put_103 ⟨Nat.le_of_ble_eq_true rfl, Nat.le_of_ble_eq_true rfl⟩) J (fun r1 _ H locs w1 hP hD hS => ?_)
          have hP : va_P D.1 vwCl [(m1, .inl (D.2 0, 800, .inl M.2.1)), (m2, .inl (D.2 0, 200, .inl M.2.2)), (m3, .inl (D.2 0, 200, .inl qm)), (m4, .inl (D.2 0, 48, .inl lo)), (m5, .inl (D.2 0, 16, .inl lc)), (m0, .inr (6, [.int 1, .int (nI M.1), .ref m1, .ref m2, .int (nI bt), .ref m3, .int 0, .ref m4, .ref m5, .int (nI cl), .ref m6, .ref m7, .ref m8, .ref m9, .ref m10, .ref m11, .ref m12, .int (nI pn), .ref m13, .ref m14]))] H := hP
          have hD : va_D A [(m1, .inl (D.2 0, 800, .inl M.2.1)), (m2, .inl (D.2 0, 200, .inl M.2.2)), (m3, .inl (D.2 0, 200, .inl qm)), (m4, .inl (D.2 0, 48, .inl lo)), (m5, .inl (D.2 0, 16, .inl lc)), (m0, .inr (6, [.int 1, .int (nI M.1), .ref m1, .ref m2, .int (nI bt), .ref m3, .int 0, .ref m4, .ref m5, .int (nI cl), .ref m6, .ref m7, .ref m8, .ref m9, .ref m10, .ref m11, .ref m12, .int (nI pn), .ref m13, .ref m14]))] := hD
          have w1 : r1 = 1 := w1
          subst w1
          refine lv_if_eq (tgt := 111) hx hb dX6_put_106 (by decide) (fun c7 => ?_) (fun c7 => ?_)
          · skip
            exfalso; exact absurd c7 (by decide)
          refine lv_iconst (v := 0) hx hb dX6_put_109 (by decide) ?_
          exact z_iret (v := 0) hx hb hr hlocks hP hD hS (some 1) (Or.inr (Or.inl ⟨rfl, sh⟩)) [5, 0, 1, 2, 3, 4] rfl (by decide) (Nat.le_of_ble_eq_true rfl) (Nat.le_of_ble_eq_true rfl) dX6_put_110
        refine lv_lload_n hx hb dX6_put_78 rfl (lv_at hl 2 rfl) ?_
        refine lv_lconst (v := 0) hx hb dX6_put_79 (by decide) ?_
        refine W.lcmp hx hb dX6_put_80 ?_
        refine lv_if_ne (tgt := 96) hx hb dX6_put_81 (by decide) (fun c5 => ?_) (fun c5 => ?_)
        · skip
          have e5 : ¬ zs_lsum lc ln = 0 := fun h => c5 (z_cmp0.mpr h)
          have me : ¬ (¬ nI ln = 0 ∧ zs_lsum lc ln = 0 ∧ nI (M.1 + ln) ≤ 200) := fun h => e5 h.2.1
          refine lv_iconst (v := 1) hx hb dX6_put_96 (by decide) ?_
          refine lv_goto (tgt := 101) hx hb dX6_put_97 (by decide) ?_
          refine lv_iconst (v := 0) hx hb dX6_put_101 (by decide) ?_
          refine lv_iconst (v := 0) hx hb dX6_put_102 (by decide) ?_
          have J := zJ.mk (wc := [(m0, .inr (6, [.int th, .int (nI M.1), .ref m1, .ref m2, .int (nI bt), .ref m3, .int 0, .ref m4, .ref m5, .int (nI cl), .ref m6, .ref m7, .ref m8, .ref m9, .ref m10, .ref m11, .ref m12, .int (nI pn), .ref m13, .ref m14]))]) (wr := [(m1, .inl (D.2 0, 800, .inl M.2.1)), (m2, .inl (D.2 0, 200, .inl M.2.2)), (m3, .inl (D.2 0, 200, .inl qm)), (m4, .inl (D.2 0, 48, .inl lo)), (m5, .inl (D.2 0, 16, .inl lc))]) hA hB hK hP hD hS [0] [1, 2, 3, 4, 5] rfl rfl (by decide)
          refine z_goi (z_runV (As := [.int 1, .int 1, .int 0, .int 0]) (rest := []) (b := m0) hF (d_throwing D m0 m1 m2 m3 m4 m5 m6 m7 m8 m9 m10 m11 m12 m13 m14 (M.1, fun _ => 0, fun _ => 0) bt 0 cl pn th 1 1 0 0 H.size) (cwV 4 hZ (z_gV t_286 t_287 t_288 t_272 t_285) rfl rfl rfl (by decide +kernel) ⟨Nat.le_of_ble_eq_true rfl, Nat.le_of_ble_eq_true rfl⟩) J 0 6 rfl rfl rfl rfl hl.1 (Nat.le_of_ble_eq_true rfl) dX6_put_103 ⟨Nat.le_of_ble_eq_true rfl, Nat.le_of_ble_eq_true rfl⟩) J (fun r1 _ H locs w1 hP hD hS => ?_)
          have hP : va_P D.1 vwCl [(m1, .inl (D.2 0, 800, .inl M.2.1)), (m2, .inl (D.2 0, 200, .inl M.2.2)), (m3, .inl (D.2 0, 200, .inl qm)), (m4, .inl (D.2 0, 48, .inl lo)), (m5, .inl (D.2 0, 16, .inl lc)), (m0, .inr (6, [.int 1, .int (nI M.1), .ref m1, .ref m2, .int (nI bt), .ref m3, .int 0, .ref m4, .ref m5, .int (nI cl), .ref m6, .ref m7, .ref m8, .ref m9, .ref m10, .ref m11, .ref m12, .int (nI pn), .ref m13, .ref m14]))] H := hP
          have hD : va_D A [(m1, .inl (D.2 0, 800, .inl M.2.1)), (m2, .inl (D.2 0, 200, .inl M.2.2)), (m3, .inl (D.2 0, 200, .inl qm)), (m4, .inl (D.2 0, 48, .inl lo)), (m5, .inl (D.2 0, 16, .inl lc)), (m0, .inr (6, [.int 1, .int (nI M.1), .ref m1, .ref m2, .int (nI bt), .ref m3, .int 0, .ref m4, .ref m5, .int (nI cl), .ref m6, .ref m7, .ref m8, .ref m9, .ref m10, .ref m11, .ref m12, .int (nI pn), .ref m13, .ref m14]))] := hD
          have w1 : r1 = 1 := w1
          subst w1
          refine lv_if_eq (tgt := 111) hx hb dX6_put_106 (by decide) (fun c7 => ?_) (fun c7 => ?_)
          · skip
            exfalso; exact absurd c7 (by decide)
          refine lv_iconst (v := 0) hx hb dX6_put_109 (by decide) ?_
          exact z_iret (v := 0) hx hb hr hlocks hP hD hS (some 1) (Or.inr (Or.inl ⟨rfl, sh⟩)) [5, 0, 1, 2, 3, 4] rfl (by decide) (Nat.le_of_ble_eq_true rfl) (Nat.le_of_ble_eq_true rfl) dX6_put_110
        have e5 : zs_lsum lc ln = 0 := z_cmp0.mp c5
        refine lv_aload_n hx hb dX6_put_84 rfl (lv_at hl 0 rfl) ?_
        refine va_get (D := D.1) (ci := 6) (v := .int (nI M.1)) (C := "ShopLedgerModel") (T := TX6) (N := 20) hx hb hZ inX6 hown hK hP 0 rfl rfl 1 (by decide) (hZ _ t_277) (fun _ h9 => h9) rfl dX6_put_85 ?_
        refine lv_iload_n hx hb dX6_put_88 rfl (lv_at hl 1 rfl) ?_
        refine lv_iadd hx hb dX6_put_89 ?_
        rw [show ((nI M.1) + (nI ln)) = nI (M.1 + ln) from nI_add M.1 ln]
        refine lv_sipush (v := 200) hx hb dX6_put_90 (by decide) ?_
        refine lv_icmp_le (tgt := 100) hx hb dX6_put_93 (by decide) (fun c6 => ?_) (fun c6 => ?_)
        · skip
          have me : ¬ nI ln = 0 ∧ zs_lsum lc ln = 0 ∧ nI (M.1 + ln) ≤ 200 := ⟨c4, e5, c6⟩
          refine lv_iconst (v := 0) hx hb dX6_put_100 (by decide) ?_
          refine lv_iconst (v := 0) hx hb dX6_put_101 (by decide) ?_
          refine lv_iconst (v := 0) hx hb dX6_put_102 (by decide) ?_
          have J := zJ.mk (wc := [(m0, .inr (6, [.int th, .int (nI M.1), .ref m1, .ref m2, .int (nI bt), .ref m3, .int 0, .ref m4, .ref m5, .int (nI cl), .ref m6, .ref m7, .ref m8, .ref m9, .ref m10, .ref m11, .ref m12, .int (nI pn), .ref m13, .ref m14]))]) (wr := [(m1, .inl (D.2 0, 800, .inl M.2.1)), (m2, .inl (D.2 0, 200, .inl M.2.2)), (m3, .inl (D.2 0, 200, .inl qm)), (m4, .inl (D.2 0, 48, .inl lo)), (m5, .inl (D.2 0, 16, .inl lc))]) hA hB hK hP hD hS [0] [1, 2, 3, 4, 5] rfl rfl (by decide)
          refine z_goi (z_runV (As := [.int 1, .int 0, .int 0, .int 0]) (rest := []) (b := m0) hF (d_throwing D m0 m1 m2 m3 m4 m5 m6 m7 m8 m9 m10 m11 m12 m13 m14 (M.1, fun _ => 0, fun _ => 0) bt 0 cl pn th 1 0 0 0 H.size) (cwV 4 hZ (z_gV t_286 t_287 t_288 t_272 t_285) rfl rfl rfl (by decide +kernel) ⟨Nat.le_of_ble_eq_true rfl, Nat.le_of_ble_eq_true rfl⟩) J 0 6 rfl rfl rfl rfl hl.1 (Nat.le_of_ble_eq_true rfl) dX6_put_103 ⟨Nat.le_of_ble_eq_true rfl, Nat.le_of_ble_eq_true rfl⟩) J (fun r1 _ H locs w1 hP hD hS => ?_)
          have hP : va_P D.1 vwCl [(m1, .inl (D.2 0, 800, .inl M.2.1)), (m2, .inl (D.2 0, 200, .inl M.2.2)), (m3, .inl (D.2 0, 200, .inl qm)), (m4, .inl (D.2 0, 48, .inl lo)), (m5, .inl (D.2 0, 16, .inl lc)), (m0, .inr (6, [.int 1, .int (nI M.1), .ref m1, .ref m2, .int (nI bt), .ref m3, .int 0, .ref m4, .ref m5, .int (nI cl), .ref m6, .ref m7, .ref m8, .ref m9, .ref m10, .ref m11, .ref m12, .int (nI pn), .ref m13, .ref m14]))] H := hP
          have hD : va_D A [(m1, .inl (D.2 0, 800, .inl M.2.1)), (m2, .inl (D.2 0, 200, .inl M.2.2)), (m3, .inl (D.2 0, 200, .inl qm)), (m4, .inl (D.2 0, 48, .inl lo)), (m5, .inl (D.2 0, 16, .inl lc)), (m0, .inr (6, [.int 1, .int (nI M.1), .ref m1, .ref m2, .int (nI bt), .ref m3, .int 0, .ref m4, .ref m5, .int (nI cl), .ref m6, .ref m7, .ref m8, .ref m9, .ref m10, .ref m11, .ref m12, .int (nI pn), .ref m13, .ref m14]))] := hD
          have w1 : r1 = 1 := w1
          subst w1
          refine lv_if_eq (tgt := 111) hx hb dX6_put_106 (by decide) (fun c7 => ?_) (fun c7 => ?_)
          · skip
            exfalso; exact absurd c7 (by decide)
          refine lv_iconst (v := 0) hx hb dX6_put_109 (by decide) ?_
          exact z_iret (v := 0) hx hb hr hlocks hP hD hS (some 1) (Or.inr (Or.inl ⟨rfl, sh⟩)) [5, 0, 1, 2, 3, 4] rfl (by decide) (Nat.le_of_ble_eq_true rfl) (Nat.le_of_ble_eq_true rfl) dX6_put_110
        have me : ¬ (¬ nI ln = 0 ∧ zs_lsum lc ln = 0 ∧ nI (M.1 + ln) ≤ 200) := fun h => c6 h.2.2
        refine lv_iconst (v := 1) hx hb dX6_put_96 (by decide) ?_
        refine lv_goto (tgt := 101) hx hb dX6_put_97 (by decide) ?_
        refine lv_iconst (v := 0) hx hb dX6_put_101 (by decide) ?_
        refine lv_iconst (v := 0) hx hb dX6_put_102 (by decide) ?_
        have J := zJ.mk (wc := [(m0, .inr (6, [.int th, .int (nI M.1), .ref m1, .ref m2, .int (nI bt), .ref m3, .int 0, .ref m4, .ref m5, .int (nI cl), .ref m6, .ref m7, .ref m8, .ref m9, .ref m10, .ref m11, .ref m12, .int (nI pn), .ref m13, .ref m14]))]) (wr := [(m1, .inl (D.2 0, 800, .inl M.2.1)), (m2, .inl (D.2 0, 200, .inl M.2.2)), (m3, .inl (D.2 0, 200, .inl qm)), (m4, .inl (D.2 0, 48, .inl lo)), (m5, .inl (D.2 0, 16, .inl lc))]) hA hB hK hP hD hS [0] [1, 2, 3, 4, 5] rfl rfl (by decide)
        refine z_goi (z_runV (As := [.int 1, .int 1, .int 0, .int 0]) (rest := []) (b := m0) hF (d_throwing D m0 m1 m2 m3 m4 m5 m6 m7 m8 m9 m10 m11 m12 m13 m14 (M.1, fun _ => 0, fun _ => 0) bt 0 cl pn th 1 1 0 0 H.size) (cwV 4 hZ (z_gV t_286 t_287 t_288 t_272 t_285) rfl rfl rfl (by decide +kernel) ⟨Nat.le_of_ble_eq_true rfl, Nat.le_of_ble_eq_true rfl⟩) J 0 6 rfl rfl rfl rfl hl.1 (Nat.le_of_ble_eq_true rfl) dX6_put_103 ⟨Nat.le_of_ble_eq_true rfl, Nat.le_of_ble_eq_true rfl⟩) J (fun r1 _ H locs w1 hP hD hS => ?_)
        have hP : va_P D.1 vwCl [(m1, .inl (D.2 0, 800, .inl M.2.1)), (m2, .inl (D.2 0, 200, .inl M.2.2)), (m3, .inl (D.2 0, 200, .inl qm)), (m4, .inl (D.2 0, 48, .inl lo)), (m5, .inl (D.2 0, 16, .inl lc)), (m0, .inr (6, [.int 1, .int (nI M.1), .ref m1, .ref m2, .int (nI bt), .ref m3, .int 0, .ref m4, .ref m5, .int (nI cl), .ref m6, .ref m7, .ref m8, .ref m9, .ref m10, .ref m11, .ref m12, .int (nI pn), .ref m13, .ref m14]))] H := hP
        have hD : va_D A [(m1, .inl (D.2 0, 800, .inl M.2.1)), (m2, .inl (D.2 0, 200, .inl M.2.2)), (m3, .inl (D.2 0, 200, .inl qm)), (m4, .inl (D.2 0, 48, .inl lo)), (m5, .inl (D.2 0, 16, .inl lc)), (m0, .inr (6, [.int 1, .int (nI M.1), .ref m1, .ref m2, .int (nI bt), .ref m3, .int 0, .ref m4, .ref m5, .int (nI cl), .ref m6, .ref m7, .ref m8, .ref m9, .ref m10, .ref m11, .ref m12, .int (nI pn), .ref m13, .ref m14]))] := hD
        have w1 : r1 = 1 := w1
        subst w1
        refine lv_if_eq (tgt := 111) hx hb dX6_put_106 (by decide) (fun c7 => ?_) (fun c7 => ?_)
        · skip
          exfalso; exact absurd c7 (by decide)
        refine lv_iconst (v := 0) hx hb dX6_put_109 (by decide) ?_
        exact z_iret (v := 0) hx hb hr hlocks hP hD hS (some 1) (Or.inr (Or.inl ⟨rfl, sh⟩)) [5, 0, 1, 2, 3, 4] rfl (by decide) (Nat.le_of_ble_eq_true rfl) (Nat.le_of_ble_eq_true rfl) dX6_put_110
      have hk : k < ln := z_lt q1 (by omega) c1
      refine lv_lload_n hx hb dX6_put_24 rfl (lv_at hl 2 rfl) ?_
      refine lv_aload_n hx hb dX6_put_25 rfl (lv_at hl 0 rfl) ?_
      refine va_get (D := D.1) (ci := 6) (v := .ref m5) (C := "ShopLedgerModel") (T := TX6) (N := 20) hx hb hZ inX6 hown hK hP 0 rfl rfl 8 (by decide) (hZ _ t_292) (fun _ h9 => h9) rfl dX6_put_26 ?_
      refine lv_iload hx hb dX6_put_29 (lv_at hl 4 rfl) ?_
      refine z_iald (k := k) hx hb hK hP 5 rfl (Nat.lt_of_lt_of_le hk hn) (by decide) dX6_put_31 ?_
      refine lv_i2l (v := (lc k).toInt64) hx hb dX6_put_32 rfl ?_
      refine lv_ladd hx hb dX6_put_33 ?_
      rw [show ((zs_lsum lc k) + ((lc k).toInt64)) = zs_lsum lc (k + 1) from rfl]
      refine lv_lstore_n (lv' := [(2, .long (zs_lsum lc (k + 1))), (0, .ref m0), (1, .int (nI ln)), (4, .int (zm_shut lo (nI cl) k)), (5, .int (nI k))]) hx hb dX6_put_34 rfl hl (by decide) rfl (fun ls hl => ?_)
      refine lv_iload hx hb dX6_put_35 (lv_at hl 3 rfl) ?_
      refine lv_if_ne (tgt := 58) hx hb dX6_put_37 (by decide) (fun c2 => ?_) (fun c2 => ?_)
      · skip
        have e8 : zm_shut lo (nI cl) (k + 1) = 1 := if_neg c2
        refine lv_iconst (v := 1) hx hb dX6_put_58 (by decide) ?_
        refine lv_goto (tgt := 63) hx hb dX6_put_59 (by decide) ?_
        refine lv_istore (lv' := [(4, .int 1), (2, .long (zs_lsum lc (k + 1))), (0, .ref m0), (1, .int (nI ln)), (5, .int (nI k))]) hx hb dX6_put_63 hl (by decide) rfl (fun ls hl => ?_)
        rw [← e8] at hl
        refine lv_iinc (v := nI (k + 1)) (lv' := [(5, .int (nI (k + 1))), (4, .int (zm_shut lo (nI cl) (k + 1))), (2, .long (zs_lsum lc (k + 1))), (0, .ref m0), (1, .int (nI ln))]) hx hb dX6_put_65 hl (k := 4) rfl (nI_1 k) (by decide) rfl (fun ls hl => ?_)
        refine lv_goto (tgt := 18) hx hb dX6_put_68 (by decide) ?_
        exact ih_lo1 (k + 1) (Nat.succ_le_of_lt hk) (by omega)  _ _ (hP.sub [0, 1, 2, 3, 4, 5] rfl) (hD.sub [0, 1, 2, 3, 4, 5] (by decide) rfl) hS ls (lv_sub hl [3, 4, 2, 1, 0] rfl)
      refine lv_aload_n hx hb dX6_put_40 rfl (lv_at hl 1 rfl) ?_
      refine va_get (D := D.1) (ci := 6) (v := .ref m4) (C := "ShopLedgerModel") (T := TX6) (N := 20) hx hb hZ inX6 hown hK hP 0 rfl rfl 7 (by decide) (hZ _ t_291) (fun _ h9 => h9) rfl dX6_put_41 ?_
      refine lv_iconst (v := 3) hx hb dX6_put_44 (by decide) ?_
      refine lv_iload hx hb dX6_put_45 (lv_at hl 4 rfl) ?_
      refine lv_imul hx hb dX6_put_47 ?_
      rw [show (3 * (nI k)) = nI (3 * k) from pk_mul 3 k]
      refine lv_iconst (v := 2) hx hb dX6_put_48 (by decide) ?_
      refine lv_iadd hx hb dX6_put_49 ?_
      rw [show ((nI (3 * k)) + 2) = nI (3 * k + 2) from nI_add _ 2]
      refine z_iald (k := 3 * k + 2) hx hb hK hP 4 rfl (by omega) (by decide) dX6_put_50 ?_
      refine lv_aload_n hx hb dX6_put_51 rfl (lv_at hl 1 rfl) ?_
      refine va_get (D := D.1) (ci := 6) (v := .int (nI cl)) (C := "ShopLedgerModel") (T := TX6) (N := 20) hx hb hZ inX6 hown hK hP 0 rfl rfl 9 (by decide) (hZ _ t_293) (fun _ h9 => h9) rfl dX6_put_52 ?_
      refine lv_icmp_ge (tgt := 62) hx hb dX6_put_55 (by decide) (fun c3 => ?_) (fun c3 => ?_)
      · skip
        have e8 : zm_shut lo (nI cl) (k + 1) = 0 := (if_pos c2).trans (if_neg (Int32.not_lt.mpr c3))
        refine lv_iconst (v := 0) hx hb dX6_put_62 (by decide) ?_
        refine lv_istore (lv' := [(4, .int 0), (2, .long (zs_lsum lc (k + 1))), (0, .ref m0), (1, .int (nI ln)), (5, .int (nI k))]) hx hb dX6_put_63 hl (by decide) rfl (fun ls hl => ?_)
        rw [← e8] at hl
        refine lv_iinc (v := nI (k + 1)) (lv' := [(5, .int (nI (k + 1))), (4, .int (zm_shut lo (nI cl) (k + 1))), (2, .long (zs_lsum lc (k + 1))), (0, .ref m0), (1, .int (nI ln))]) hx hb dX6_put_65 hl (k := 4) rfl (nI_1 k) (by decide) rfl (fun ls hl => ?_)
        refine lv_goto (tgt := 18) hx hb dX6_put_68 (by decide) ?_
        exact ih_lo1 (k + 1) (Nat.succ_le_of_lt hk) (by omega)  _ _ (hP.sub [0, 1, 2, 3, 4, 5] rfl) (hD.sub [0, 1, 2, 3, 4, 5] (by decide) rfl) hS ls (lv_sub hl [3, 4, 2, 1, 0] rfl)
      have e8 : zm_shut lo (nI cl) (k + 1) = 1 := (if_pos c2).trans (if_pos (Int32.not_le.mp c3))
      refine lv_iconst (v := 1) hx hb dX6_put_58 (by decide) ?_
      refine lv_goto (tgt := 63) hx hb dX6_put_59 (by decide) ?_
      refine lv_istore (lv' := [(4, .int 1), (2, .long (zs_lsum lc (k + 1))), (0, .ref m0), (1, .int (nI ln)), (5, .int (nI k))]) hx hb dX6_put_63 hl (by decide) rfl (fun ls hl => ?_)
      rw [← e8] at hl
      refine lv_iinc (v := nI (k + 1)) (lv' := [(5, .int (nI (k + 1))), (4, .int (zm_shut lo (nI cl) (k + 1))), (2, .long (zs_lsum lc (k + 1))), (0, .ref m0), (1, .int (nI ln))]) hx hb dX6_put_65 hl (k := 4) rfl (nI_1 k) (by decide) rfl (fun ls hl => ?_)
      refine lv_goto (tgt := 18) hx hb dX6_put_68 (by decide) ?_
      exact ih_lo1 (k + 1) (Nat.succ_le_of_lt hk) (by omega)  _ _ (hP.sub [0, 1, 2, 3, 4, 5] rfl) (hD.sub [0, 1, 2, 3, 4, 5] (by decide) rfl) hS ls (lv_sub hl [3, 4, 2, 1, 0] rfl)
  exact lo1 (ln + 1) 0 (Nat.zero_le _) (by omega)  _ _ (hP.sub [0, 1, 2, 3, 4, 5] rfl) (hD.sub [0, 1, 2, 3, 4, 5] (by decide) rfl) hS ls (lv_sub hl [4, 3, 2, 1, 0] rfl)
